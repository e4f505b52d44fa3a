-- 22: fails, add, bring, isHeld, again, roundsOf, hold of the reference
theorem fails_ok {x : Int32} {w : mS} {post : mS → Prop} (hx : ¬ x = 0) (hp : ∀ v, FR [12] [] w v → ¬ v.1 12 = 0 → (w.1 12 = 0 → v.1 12 = x) → post v) : wp_X9_fails x w post := by
  intro y1 e1
  refine ⟨fun h => ?_, fun h => ?_⟩
  · rintro _ rfl _ rfl
    refine hp _ (FR_set FR.rf (by decide)) ?_ (fun q => ?_)
    · rw [mSet_same]; rw [e1] at h; exact h
    · rw [e1] at h; exact absurd q h
  · rintro _ rfl
    exact hp _ (FR_set FR.rf (by decide)) (by rw [mSet_same]; exact hx) (fun _ => mSet_same _ _ _)
/-- 1 for a token that begins a tree, 0 for ) and .. -/
def tr1 (x : Int32) : Nat := if kd x = 2 ∨ kd x = 6 then 0 else 1
theorem add_ok {x y : Int32} {k ty : Nat} {w : mS} {post : mS → Prop} (hk : w.1 6 = nI k) (hty : w.1 7 = nI ty) (hk2 : k < 310) (ht2 : ty ≤ 100) (h1 : ∀ v, FR [6, 7] [12, 13] w v → v.1 6 = nI (k + 1) → v.1 7 = nI (ty + tr1 x) → ty + tr1 x ≤ 100 → v.2 12 = upd (w.2 12) k x → v.2 13 = upd (w.2 13) k y → post v) (h0 : ∀ v, FR [7, 12] [] w v → ¬ v.1 12 = 0 → post v) : wp_X9_add x y w post := by
  have main : ∀ (z : mS) (tz : Nat), FR [7] [] w z → z.1 7 = nI tz → tz = ty + tr1 x → wj_X9_add_26 post x y z := by
    intro z tz hz ht etz
    have hz6 : z.1 6 = nI k := (hz.1 6 (by decide)).trans hk
    have tb : tr1 x ≤ 1 := by unfold tr1; split <;> omega
    intro y7 e7
    rw [ht] at e7; subst e7
    refine ⟨fun hle => ?_, fun hle => ?_⟩
    · have hle : nI tz ≤ nI 100 := hle
      rw [nI_leI (by omega) (by omega)] at hle
      intro y9 e9
      rw [hz6] at e9; subst e9
      refine ⟨vp_in_nI hk2 (by omega), ?_⟩
      rintro _ rfl y11 e11
      have e11 : y11 = nI k := e11.trans hz6
      subst e11
      refine ⟨vp_in_nI hk2 (by omega), ?_⟩
      rintro _ rfl y13 e13
      have e13 : y13 = nI k := e13.trans hz6
      subst e13
      rintro _ rfl _ rfl
      rw [nI_clamp (by omega), nI_1]
      refine h1 _ ?_ (mSet_same _ _ _) ?_ (by omega) ?_ ?_
      · exact FR_set (FR_put (FR_put (hz.wk (by decide) (by decide)) (by decide)) (by decide)) (by decide)
      · rw [mSet_other (by decide : (7 : Nat) ≠ 6), ← etz]; exact ht
      · rw [mSet_arr, mPut_other (by decide : (12 : Nat) ≠ 13), mPut_same, hz.2 12 (by decide)]
      · rw [mSet_arr, mPut_same, mPut_other (by decide : (13 : Nat) ≠ 12), hz.2 13 (by decide)]
    · refine fails_ok (by decide) (fun v hv he _ => h0 v ?_ he)
      exact (hz.wk (by decide) (by decide)).tr (hv.wk (by decide) (by decide))
  intro y1 e1
  have e1 : y1 = kd x := e1
  subst e1
  refine ⟨fun h2 => main w ty FR.rf hty (by unfold tr1; rw [if_pos (Or.inl h2)]; rfl), fun h2 => ⟨fun h6 => main w ty FR.rf hty (by unfold tr1; rw [if_pos (Or.inr h6)]; rfl), fun h6 => ?_⟩⟩
  intro y4 e4
  rw [hty] at e4; subst e4
  rintro _ rfl _ rfl
  rw [nI_1]
  refine main _ (ty + 1) (FR_set FR.rf (by decide)) (mSet_same _ _ _) ?_
  unfold tr1
  rw [if_neg]
  rintro (q | q)
  · exact h2 q
  · exact h6 q
/-- how many of n tokens from a on begin trees -/
def trS (r : Nat → Int32) (a : Nat) : Nat → Nat
  | 0 => 0
  | n + 1 => trS r a n + tr1 (r (a + n))
theorem bring_ok {U z k ty : Nat} {w : mS} {post : mS → Prop} (hT : TL (w.2 1) U z) (hl : U + z ≤ 2600) (hk : w.1 6 = nI k) (hty : w.1 7 = nI ty) (ht2 : ty ≤ 100) (he : w.1 12 = 0) (hroom : ∀ j, j < z → ty + trS (w.2 1) U j ≤ 100 → k + j < 310) (h1 : ∀ v, FR [6, 7] [12, 13] w v → v.1 6 = nI (k + z) → v.1 7 = nI (ty + trS (w.2 1) U z) → ty + trS (w.2 1) U z ≤ 100 → (∀ j, j < k → v.2 12 j = w.2 12 j) → (∀ j, j < z → v.2 12 (k + j) = w.2 1 (U + j)) → post v) (h0 : ∀ v, FR [6, 7, 12] [12, 13] w v → ¬ v.1 12 = 0 → post v) : wp_X9_bring (nI U) w post := by
  refine end_2 hT hl ?_
  have key : ∀ (d j : Nat) (v : mS), j + d = z → FR [6, 7, 12] [12, 13] w v → (v.1 12 = 0 → FR [6, 7] [12, 13] w v ∧ v.1 6 = nI (k + j) ∧ v.1 7 = nI (ty + trS (w.2 1) U j) ∧ ty + trS (w.2 1) U j ≤ 100 ∧ (∀ i, i < k → v.2 12 i = w.2 12 i) ∧ ∀ i, i < j → v.2 12 (k + i) = w.2 1 (U + i)) → mL3 (fun K => wj_X9_bring_11 K post) (d + 1) (nI (U + z)) (nI (U + j)) v := by
    intro d
    induction d with
    | zero =>
      intro j v hj hF hI
      have hj : j = z := by omega
      subst hj
      show wj_X9_bring_11 _ post _ _ v
      refine ⟨fun _ => ?_, fun h => absurd (Int32.le_refl _) h⟩
      by_cases e : v.1 12 = 0
      · obtain ⟨a1, a2, a3, a4, a5, a6⟩ := hI e
        exact h1 v a1 a2 a3 a4 a5 a6
      · exact h0 v hF e
    | succ d ih =>
      intro j v hj hF hI
      show wj_X9_bring_11 _ post _ _ v
      refine ⟨fun h => absurd h (by rw [nI_leI (by omega) (by omega)]; omega), fun _ => ?_⟩
      intro y4 e4
      refine ⟨fun h => h0 v hF (by rw [← e4]; exact h), fun h => ?_⟩
      have e : v.1 12 = 0 := e4.symm.trans h
      obtain ⟨a1, a2, a3, a4, a5, a6⟩ := hI e
      have r1 : v.2 1 = w.2 1 := hF.2 1 (by decide)
      refine ⟨vp_in_nI (by omega) (by omega), ?_⟩
      rintro _ rfl
      refine ⟨vp_in_nI (by omega) (by omega), ?_⟩
      rintro _ rfl
      rw [nI_clamp (by omega), r1]
      refine add_ok a2 a3 (hroom j (by omega) a4) a4 (fun v2 b1 b2 b3 b4 b5 b6 => ?_) (fun v2 b1 b2 => ?_)
      · rintro _ rfl
        rw [nI_1]
        refine ih (j + 1) v2 (by omega) (hF.tr (b1.wk (by decide) (by decide))) (fun _ => ⟨a1.tr b1, b2, ?_, ?_, fun i hi => ?_, fun i hi => ?_⟩)
        · have e : ty + trS (w.2 1) U (j + 1) = ty + trS (w.2 1) U j + tr1 (w.2 1 (U + j)) := by show ty + (trS (w.2 1) U j + tr1 (w.2 1 (U + j))) = _; omega
          rw [e]; exact b3
        · show ty + (trS (w.2 1) U j + tr1 (w.2 1 (U + j))) ≤ 100
          omega
        · rw [b5, pk_un (by omega)]; exact a5 i hi
        · rw [b5]
          by_cases ei : i = j
          · subst ei; rw [pk_us]
          · rw [pk_un (by omega)]; exact a6 i (by omega)
      · rintro _ rfl
        rw [nI_1]
        exact ih (j + 1) v2 (by omega) (hF.tr (b1.wk (by decide) (by decide))) (fun q => absurd q b2)
  exact ⟨z + 1, key z 0 w (by omega) FR.rf (fun _ => ⟨FR.rf, hk, hty, ht2, fun _ _ => rfl, fun i hi => by omega⟩)⟩
theorem isHeld_ok {i h : Nat} {w : mS} {post : Int32 → mS → Prop} (hh : w.1 8 = nI h) (h3 : h ≤ 3) (h1 : 0 < h → w.2 16 (h - 1) = nI i → post 1 w) (h0 : (h = 0 ∨ ¬ w.2 16 (h - 1) = nI i) → post 0 w) : wp_X9_isHeld (nI i) w post := by
  intro y1 e1
  rw [hh] at e1; subst e1
  refine ⟨fun h9 => ?_, fun h9 => ?_⟩
  · have h9 : nI h ≤ nI 0 := h9
    rw [nI_leI (by omega) (by omega)] at h9
    exact h0 (Or.inl (by omega))
  · have h9 : ¬ nI h ≤ nI 0 := h9
    rw [nI_leI (by omega) (by omega)] at h9
    intro y3 e3
    rw [hh] at e3; subst e3
    rintro _ rfl
    obtain ⟨g, rfl⟩ : ∃ g, h = g + 1 := ⟨h - 1, by omega⟩
    rw [nI_pred]
    refine ⟨vp_in_nI (by omega) (by omega), ?_⟩
    rintro _ rfl
    rw [nI_clamp (by omega)]
    exact ⟨fun q => h0 (Or.inr q), fun q => h1 (by omega) q⟩
theorem again_ok {i h : Nat} {rd ro be : Nat} {w : mS} {post : Int32 → mS → Prop} (hh : w.1 8 = nI (h + 1)) (h3 : h < 3) (hrd : w.2 18 h = nI rd) (hro : w.2 17 h = nI ro) (hbe : w.2 16 h = nI be) (hb1 : rd < 2 ^ 20) (hb2 : ro < 2 ^ 20) (h1 : ∀ v, FR [] [18] w v → v.2 18 = upd (w.2 18) h (nI (rd + 1)) → rd + 1 < ro → post (nI be) v) (h0 : ∀ v, FR [8] [18] w v → v.2 18 = upd (w.2 18) h (nI (rd + 1)) → v.1 8 = nI h → ro ≤ rd + 1 → post (nI (i + 1)) v) : wp_X9_again (nI i) w post := by
  intro y1 e1
  rw [hh] at e1; subst e1
  rintro _ rfl
  rw [nI_pred]
  refine ⟨vp_in_nI h3 (by omega), ?_⟩
  rintro _ rfl _ rfl
  refine ⟨vp_in_nI h3 (by omega), ?_⟩
  rintro _ rfl y6 e6
  have e6 : y6 = nI (h + 1) := e6.trans hh
  subst e6
  rintro _ rfl
  rw [nI_pred]
  refine ⟨vp_in_nI h3 (by omega), ?_⟩
  rintro _ rfl y9 e9
  have e9 : y9 = nI (h + 1) := e9.trans hh
  subst e9
  rintro _ rfl
  rw [nI_pred]
  refine ⟨vp_in_nI h3 (by omega), ?_⟩
  rintro _ rfl
  rw [nI_clamp (by omega), mPut_same, pk_us, mPut_other (by decide : (17 : Nat) ≠ 18), hro, hrd, nI_1]
  refine ⟨fun hle => ?_, fun hle => ?_⟩
  · rw [nI_leI (by omega) (by omega)] at hle
    intro y13 e13
    have e13 : y13 = nI (h + 1) := e13.trans hh
    subst e13
    rintro _ rfl _ rfl _ rfl
    rw [nI_pred, nI_1]
    exact h0 _ (FR_set (FR_put FR.rf (by decide)) (by decide)) (by rw [mSet_arr, mPut_same]) (mSet_same _ _ _) hle
  · rw [nI_leI (by omega) (by omega)] at hle
    intro y17 e17
    have e17 : y17 = nI (h + 1) := e17.trans hh
    subst e17
    rintro _ rfl
    rw [nI_pred]
    refine ⟨vp_in_nI h3 (by omega), ?_⟩
    rintro _ rfl
    rw [nI_clamp (by omega), mPut_other (by decide : (16 : Nat) ≠ 18), hbe]
    exact h1 _ (FR_put FR.rf (by decide)) (mPut_same _ _ _ _) (by omega)
/-- what a fill stands on: pattern and template of a rule in kept, and a list of row that the pattern matches -/
def FC (kp ks rw : Nat → Int32) (pat n T m0 lst m : Nat) (D : Nat → Nat → Prop) : Prop := (∃ N t, PC kp pat n N t) ∧ PAT kp ks pat ∧ pat + n ≤ T ∧ TL kp T m0 ∧ T + m0 < 3200 ∧ TEM kp ks pat T ∧ TL rw lst m ∧ lst + m ≤ 2600 ∧ m ≤ 310 ∧ MT kp rw D 1 pat lst ∧ ∀ p u, D p u → VP kp pat n p ∧ VU rw lst m u ∧ (kd (kp p) = 1 → MT kp rw D 0 p u)
/-- the variable that the name at i is a use of -/
def USE (kp ks : Nat → Int32) (pat i v : Nat) : Prop := kd (kp i) = 3 ∧ VR kp ks pat (kp i) (ks i) = nI v ∧ v < 3200
theorem FC_use {kp ks rw : Nat → Int32} {pat n T m0 lst m : Nat} {D : Nat → Nat → Prop} (h : FC kp ks rw pat n T m0 lst m D) {i v : Nat} (h1 : T ≤ i) (h2 : i < T + m0) (hu : USE kp ks pat i v) : VP kp pat n v ∧ lvF kp v (v - pat + 1) pat = HB kp T (T + m0) i ∧ lvF kp v (v - pat + 1) pat ≤ 2 := by
  obtain ⟨⟨N, t, hPC⟩, hPAT, hT1, hT, hT2, hTEM, -⟩ := h
  obtain ⟨hk, hv, hvb⟩ := hu
  have hL := hPC.1.1
  have htN : t ≤ N := by rcases hPC.1.2.2 with a | ⟨a, _⟩ <;> omega
  have hN : 0 < N := by have := hPC.2.1; omega
  have etp := tl_eq hL.2.1
  have ett := tl_eq hT
  have hn0 := hL.2.1.1
  rcases VR_cases (s := ks) hL hN (by omega) (kp i) (ks i) with g | ⟨j, g1, g2, g3, g4, g5⟩
  · rw [hv] at g
    have : ¬ nI v < 0 := nI_pos (by omega)
    rw [g] at this
    exact absurd (by decide) this
  · have ej : v = j := (nI_eq (by omega) (by omega)).mp (hv.symm.trans g3)
    subst ej
    have hkv : kd (kp v) = 3 := by rw [g4]; exact hk
    have k2 : ¬ kd (kp v) = 2 := by rw [hkv]; decide
    have k6 : ¬ kd (kp v) = 6 := by rw [hkv]; decide
    have p1 : 0 < tl kp (pat + 1) := (hL.2.2.1 0 hN).2.1
    have hlv := lvF_HB hL.2.1 hL.1 g2 k2 k6 (v - pat + 1) pat n hL.2.1 hL.1 (Nat.le_refl _) (Nat.le_refl _) (by omega) g2 (Nat.le_refl _)
    have eHB : HB kp (pat + 1) (pat + n - 1) v = hbS kp (pat + n - 1) v (pat + 1) (v - pat) := by
      unfold HB
      rw [show v + 1 - (pat + 1) = v - pat from by omega]
    have hle := (hPAT.2.2 v (by omega) (by rw [etp]; exact g2)).2.1 k2 k6
    rw [etp] at hle
    have hte := hTEM.1 i h1 (by rw [ett]; exact h2) hk (by rw [hv]; exact nI_pos (by omega))
    rw [hv, nI_clamp (by omega), ett, etp] at hte
    refine ⟨⟨by omega, g2, k2, k6⟩, ?_, ?_⟩
    · rw [hlv, ← eHB, hte]
    · rw [hlv, ← eHB]; exact hle
/-- how many rounds the variable at v has at that level, under the rounds of the outer ones -/
noncomputable def CNT (kp rw : Nat → Int32) (rd : Nat → Nat) (pat lst v l : Nat) : Nat := wkV kp rw rd v l (v - pat + 1) pat lst 0
theorem walkU_ok {pat n T m0 lst m v stop : Nat} {rd : Nat → Nat} {D : Nat → Nat → Prop} {w : mS} {post : Int32 → mS → Prop} (h : FC (w.2 3) (w.2 4) (w.2 1) pat n T m0 lst m D) {i : Nat} (h1 : T ≤ i) (h2 : i < T + m0) (hu : USE (w.2 3) (w.2 4) pat i v) (hrd : ∀ l, l < 3 → w.2 18 l = nI (rd l) ∧ rd l < 2 ^ 20) (hst : stop < 2 ^ 30) (hc : ∀ l, l < stop → l < HB (w.2 3) T (T + m0) i → rd l < CNT (w.2 3) (w.2 1) rd pat lst v l) (hp : post (nI (CNT (w.2 3) (w.2 1) rd pat lst v stop)) w) : wp_X9_walk (nI pat) (nI lst) (nI v) (nI stop) w post := by
  obtain ⟨f1, f2, f3⟩ := FC_use h h1 h2 hu
  obtain ⟨⟨N, t, hPC⟩, hPAT, hT1, hT, hT2, hTEM, hTl, hl2, hm, hTop, hD⟩ := h
  have hm0 := hT.1
  refine walk_ok hPC (by omega) hTl hl2 hTop hD f1 (fun l hl => ⟨(hrd l hl).1, by have := (hrd l hl).2; omega⟩) hst ?_ hp
  refine wkS_of _ _ _ 0 (by omega) (by omega) (fun l _ hl hlv => ?_)
  rw [Nat.zero_add, f2] at hlv
  exact hc l hl hlv
