-- 74: add, bring, roundsOf, hold of the reference, exactly
theorem trS_le (r : Nat → Int32) (a j : Nat) : ∀ d, trS r a j ≤ trS r a (j + d) := by
  intro d
  induction d with
  | zero => exact Nat.le_refl _
  | succ d ih =>
    show trS r a j ≤ trS r a (j + d) + tr1 (r (a + (j + d)))
    omega
theorem addX {x y : Int32} {k ty : Nat} {w : mS} {post : mS → Prop} (hk : w.1 6 = nI k) (hty : w.1 7 = nI ty) (hk2 : k < 310) (ht2 : ty ≤ 100) (h1 : ∀ v, FR [6, 7] [12, 13] w v → v.1 6 = nI (k + 1) → v.1 7 = nI (ty + tr1 x) → ty + tr1 x ≤ 100 → v.2 12 = upd (w.2 12) k x → v.2 13 = upd (w.2 13) k y → post v) (h0 : 100 < ty + tr1 x → ∀ v, FR [7, 12] [] w v → ¬ v.1 12 = 0 → post v) : wp_X9_add x y w post := by
  have main : ∀ (z : mS) (tz : Nat), FR [7] [] w z → z.1 7 = nI tz → tz = ty + tr1 x → wj_X9_add_26 post x y z := by
    intro z tz hz ht etz
    have hz6 : z.1 6 = nI k := (hz.1 6 (by decide)).trans hk
    have tb : tr1 x ≤ 1 := by unfold tr1; split <;> omega
    intro y7 e7
    rw [ht] at e7; subst e7
    refine ⟨fun hle => ?_, fun hle => ?_⟩
    · have hle : nI tz ≤ nI 100 := hle
      rw [nI_leI (by omega) (by omega)] at hle
      intro y9 e9
      rw [hz6] at e9; subst e9
      refine ⟨vp_in_nI hk2 (by omega), ?_⟩
      rintro _ rfl y11 e11
      have e11 : y11 = nI k := e11.trans hz6
      subst e11
      refine ⟨vp_in_nI hk2 (by omega), ?_⟩
      rintro _ rfl y13 e13
      have e13 : y13 = nI k := e13.trans hz6
      subst e13
      rintro _ rfl _ rfl
      rw [nI_clamp (by omega), nI_1]
      refine h1 _ ?_ (mSet_same _ _ _) ?_ (by omega) ?_ ?_
      · exact FR_set (FR_put (FR_put (hz.wk (by decide) (by decide)) (by decide)) (by decide)) (by decide)
      · rw [mSet_other (by decide : (7 : Nat) ≠ 6), ← etz]; exact ht
      · rw [mSet_arr, mPut_other (by decide : (12 : Nat) ≠ 13), mPut_same, hz.2 12 (by decide)]
      · rw [mSet_arr, mPut_same, mPut_other (by decide : (13 : Nat) ≠ 12), hz.2 13 (by decide)]
    · have hle : ¬ nI tz ≤ nI 100 := hle
      rw [nI_leI (by omega) (by omega)] at hle
      refine fails_ok (by decide) (fun v hv he _ => h0 (by omega) v ?_ he)
      exact (hz.wk (by decide) (by decide)).tr (hv.wk (by decide) (by decide))
  intro y1 e1
  have e1 : y1 = kd x := e1
  subst e1
  refine ⟨fun h2 => main w ty FR.rf hty (by unfold tr1; rw [if_pos (Or.inl h2)]; rfl), fun h2 => ⟨fun h6 => main w ty FR.rf hty (by unfold tr1; rw [if_pos (Or.inr h6)]; rfl), fun h6 => ?_⟩⟩
  intro y4 e4
  rw [hty] at e4; subst e4
  rintro _ rfl _ rfl
  rw [nI_1]
  refine main _ (ty + 1) (FR_set FR.rf (by decide)) (mSet_same _ _ _) ?_
  unfold tr1
  rw [if_neg]
  rintro (q | q)
  · exact h2 q
  · exact h6 q
theorem bringX {U z k ty : Nat} {w : mS} {post : mS → Prop} (hT : TL (w.2 1) U z) (hl : U + z ≤ 2600) (hk : w.1 6 = nI k) (hty : w.1 7 = nI ty) (ht2 : ty ≤ 100) (he : w.1 12 = 0) (hroom : ∀ j, j < z → ty + trS (w.2 1) U j ≤ 100 → k + j < 310) (h1 : ∀ v, FR [6, 7] [12, 13] w v → v.1 6 = nI (k + z) → v.1 7 = nI (ty + trS (w.2 1) U z) → ty + trS (w.2 1) U z ≤ 100 → (∀ j, j < k → v.2 12 j = w.2 12 j) → (∀ j, j < z → v.2 12 (k + j) = w.2 1 (U + j)) → (∀ j, j < k → v.2 13 j = w.2 13 j) → (∀ j, j < z → v.2 13 (k + j) = w.2 2 (U + j)) → post v) (h0 : 100 < ty + trS (w.2 1) U z → ∀ v, FR [6, 7, 12] [12, 13] w v → ¬ v.1 12 = 0 → post v) : wp_X9_bring (nI U) w post := by
  refine end_2 hT hl ?_
  have key : ∀ (d j : Nat) (v : mS), j + d = z → FR [6, 7, 12] [12, 13] w v → (v.1 12 = 0 → FR [6, 7] [12, 13] w v ∧ v.1 6 = nI (k + j) ∧ v.1 7 = nI (ty + trS (w.2 1) U j) ∧ ty + trS (w.2 1) U j ≤ 100 ∧ (∀ i, i < k → v.2 12 i = w.2 12 i) ∧ (∀ i, i < j → v.2 12 (k + i) = w.2 1 (U + i)) ∧ (∀ i, i < k → v.2 13 i = w.2 13 i) ∧ ∀ i, i < j → v.2 13 (k + i) = w.2 2 (U + i)) → (¬ v.1 12 = 0 → 100 < ty + trS (w.2 1) U z) → mL3 (fun K => wj_X9_bring_11 K post) (d + 1) (nI (U + z)) (nI (U + j)) v := by
    intro d
    induction d with
    | zero =>
      intro j v hj hF hI hE
      have hj : j = z := by omega
      subst hj
      show wj_X9_bring_11 _ post _ _ v
      refine ⟨fun _ => ?_, fun h => absurd (Int32.le_refl _) h⟩
      by_cases e : v.1 12 = 0
      · obtain ⟨a1, a2, a3, a4, a5, a6, a7, a8⟩ := hI e
        exact h1 v a1 a2 a3 a4 a5 a6 a7 a8
      · exact h0 (hE e) v hF e
    | succ d ih =>
      intro j v hj hF hI hE
      show wj_X9_bring_11 _ post _ _ v
      refine ⟨fun h => absurd h (by rw [nI_leI (by omega) (by omega)]; omega), fun _ => ?_⟩
      intro y4 e4
      refine ⟨fun h => h0 (hE (by rw [← e4]; exact h)) v hF (by rw [← e4]; exact h), fun h => ?_⟩
      have e : v.1 12 = 0 := e4.symm.trans h
      obtain ⟨a1, a2, a3, a4, a5, a6, a7, a8⟩ := hI e
      have r2 : v.2 2 = w.2 2 := hF.2 2 (by decide)
      have r1 : v.2 1 = w.2 1 := hF.2 1 (by decide)
      refine ⟨vp_in_nI (by omega) (by omega), ?_⟩
      rintro _ rfl
      refine ⟨vp_in_nI (by omega) (by omega), ?_⟩
      rintro _ rfl
      rw [nI_clamp (by omega), r1, r2]
      refine addX a2 a3 (hroom j (by omega) a4) a4 (fun v2 b1 b2 b3 b4 b5 b6 => ?_) (fun big v2 b1 b2 => ?_)
      · rintro _ rfl
        rw [nI_1]
        refine ih (j + 1) v2 (by omega) (hF.tr (b1.wk (by decide) (by decide))) (fun _ => ⟨a1.tr b1, b2, ?_, ?_, fun i hi => ?_, fun i hi => ?_, fun i hi => ?_, fun i hi => ?_⟩) (fun q => absurd ((b1.1 12 (by decide)).trans e) q)
        · have e : ty + trS (w.2 1) U (j + 1) = ty + trS (w.2 1) U j + tr1 (w.2 1 (U + j)) := by show ty + (trS (w.2 1) U j + tr1 (w.2 1 (U + j))) = _; omega
          rw [e]; exact b3
        · show ty + (trS (w.2 1) U j + tr1 (w.2 1 (U + j))) ≤ 100
          omega
        · rw [b5, pk_un (by omega)]; exact a5 i hi
        · rw [b5]
          by_cases ei : i = j
          · subst ei; rw [pk_us]
          · rw [pk_un (by omega)]; exact a6 i (by omega)
        · rw [b6, pk_un (by omega)]; exact a7 i hi
        · rw [b6]
          by_cases ei : i = j
          · subst ei; rw [pk_us]
          · rw [pk_un (by omega)]; exact a8 i (by omega)
      · rintro _ rfl
        rw [nI_1]
        exact ih (j + 1) v2 (by omega) (hF.tr (b1.wk (by decide) (by decide))) (fun q => absurd q b2) (fun _ => by
          have m := trS_le (w.2 1) U (j + 1) (z - (j + 1))
          rw [show j + 1 + (z - (j + 1)) = z from by omega] at m
          have e2 : trS (w.2 1) U (j + 1) = trS (w.2 1) U j + tr1 (w.2 1 (U + j)) := rfl
          omega)
  exact ⟨z + 1, key z 0 w (by omega) FR.rf (fun _ => ⟨FR.rf, hk, hty, ht2, fun _ _ => rfl, fun i hi => by omega, fun _ _ => rfl, fun i hi => by omega⟩) (fun q => absurd he q)⟩
theorem roundsX {pat n T m0 lst m a b h : Nat} {rd : Nat → Nat} {D : Nat → Nat → Prop} {w : mS} {post : Int32 → mS → Prop} (hF : FC (w.2 3) (w.2 4) (w.2 1) pat n T m0 lst m D) (ha : T ≤ a) (hab : a ≤ b) (hb : b ≤ T + m0) (hh : w.1 8 = nI h) (hh3 : h ≤ 3) (hrd : ∀ l, l < 3 → w.2 18 l = nI (rd l) ∧ rd l < 2 ^ 20) (hcond : ∀ j v, a ≤ j → j < b → USE (w.2 3) (w.2 4) pat j v → h < HB (w.2 3) T (T + m0) j ∧ ∀ l, l < h → rd l < CNT (w.2 3) (w.2 1) rd pat lst v l) (h1 : ∀ c, c ≤ 310 → (∀ j v, a ≤ j → j < b → USE (w.2 3) (w.2 4) pat j v → CNT (w.2 3) (w.2 1) rd pat lst v h = c) → (∃ j v, a ≤ j ∧ j < b ∧ USE (w.2 3) (w.2 4) pat j v) → post (nI c) w) (h0 : ∀ x : Int32, x < 0 → ((∀ j v, a ≤ j → j < b → ¬ USE (w.2 3) (w.2 4) pat j v) ∨ ∃ j v j2 v2, a ≤ j ∧ j < b ∧ a ≤ j2 ∧ j2 < b ∧ USE (w.2 3) (w.2 4) pat j v ∧ USE (w.2 3) (w.2 4) pat j2 v2 ∧ CNT (w.2 3) (w.2 1) rd pat lst v h ≠ CNT (w.2 3) (w.2 1) rd pat lst v2 h) → post x w) : wp_X9_roundsOf (nI pat) (nI lst) (nI a) (nI b) w post := by
  have hF' := hF
  obtain ⟨⟨N, t, hPC⟩, hPAT, hT1, hT, hT2, hTEM, hTl, hl2, hm, hTop, hD⟩ := hF
  have hL := hPC.1.1
  have htN : t ≤ N := by rcases hPC.1.2.2 with q | ⟨q, _⟩ <;> omega
  have hN : 0 < N := by have := hPC.2.1; omega
  have hiT : TL (w.2 3) (pat + 1) (tl (w.2 3) (pat + 1)) := (hL.2.2.1 0 hN).2
  have hb1 : pat + 1 + tl (w.2 3) (pat + 1) < pat + n := (LI_at hL (k := 1) (by omega)).2.1
  have key : ∀ (d i : Nat) (x : Int32), i + d = b → a ≤ i → ((x = -2 ∧ ∀ j v, a ≤ j → j < i → ¬ USE (w.2 3) (w.2 4) pat j v) ∨ (x = -1 ∧ (∃ j v j2 v2, a ≤ j ∧ j < i ∧ a ≤ j2 ∧ j2 < i ∧ USE (w.2 3) (w.2 4) pat j v ∧ USE (w.2 3) (w.2 4) pat j2 v2 ∧ CNT (w.2 3) (w.2 1) rd pat lst v h ≠ CNT (w.2 3) (w.2 1) rd pat lst v2 h)) ∨ ∃ c, x = nI c ∧ c ≤ 310 ∧ (∀ j v, a ≤ j → j < i → USE (w.2 3) (w.2 4) pat j v → CNT (w.2 3) (w.2 1) rd pat lst v h = c) ∧ ∃ j v, a ≤ j ∧ j < i ∧ USE (w.2 3) (w.2 4) pat j v) → mL6 (fun K => wj_X9_roundsOf_7 K post) (d + 1) (nI pat) (nI lst) (nI b) x (nI i) w := by
    intro d
    induction d with
    | zero =>
      intro i x hi hai hI
      have hi : i = b := by omega
      subst hi
      show wj_X9_roundsOf_7 _ post _ _ _ _ _ w
      refine ⟨fun _ => ?_, fun q => absurd (Int32.le_refl _) q⟩
      rcases hI with ⟨rfl, q⟩ | ⟨rfl, q⟩ | ⟨c, rfl, c1, c2, c3⟩
      · exact h0 _ (by decide) (Or.inl q)
      · exact h0 _ (by decide) (Or.inr q)
      · exact h1 c c1 c2 c3
    | succ d ih =>
      intro i x hi hai hI
      have skip : (∀ v, ¬ USE (w.2 3) (w.2 4) pat i v) → wj_X9_roundsOf_93 (mL6 (fun K => wj_X9_roundsOf_7 K post) (d + 1)) post (nI pat) (nI lst) (nI b) x (nI i) w := by
        intro hno
        rintro _ rfl
        rw [nI_1]
        refine ih (i + 1) x (by omega) (by omega) ?_
        have lt : ∀ j v, j < i + 1 → USE (w.2 3) (w.2 4) pat j v → j < i := fun j v hj hu => by
          rcases Nat.lt_or_ge j i with q | q
          · exact q
          · have : j = i := by omega
            subst this
            exact absurd hu (hno v)
        rcases hI with ⟨e, q⟩ | ⟨e, j, v, j2, v2, q1, q2, q3, q4, q5⟩ | ⟨c, e, c1, c2, j, v, c3, c4, c5⟩
        · exact Or.inl ⟨e, fun j v h1 h2 hu => q j v h1 (lt j v h2 hu) hu⟩
        · exact Or.inr (Or.inl ⟨e, j, v, j2, v2, q1, by omega, q3, by omega, q5⟩)
        · exact Or.inr (Or.inr ⟨c, e, c1, fun j v h1 h2 hu => c2 j v h1 (lt j v h2 hu) hu, j, v, c3, by omega, c5⟩)
      have g50 : ∀ z0 : Int32, (z0 < 0 → ∀ v, ¬ USE (w.2 3) (w.2 4) pat i v) → (¬ z0 < 0 → ∃ v, z0 = nI v ∧ USE (w.2 3) (w.2 4) pat i v) → wj_X9_roundsOf_50 (mL6 (fun K => wj_X9_roundsOf_7 K post) (d + 1)) post (nI pat) (nI lst) (nI b) x (nI i) z0 w := by
        intro z0 z1 z2
        refine ⟨fun q => skip (z1 q), fun q => ?_⟩
        obtain ⟨v, rfl, hu⟩ := z2 q
        intro y10 e10
        rw [hh] at e10; subst e10
        obtain ⟨k1, k2⟩ := hcond i v hai (by omega) hu
        have cle := CNT_le hF' (by omega) (by omega) hu k1 k2
        refine walkU_ok hF' (i := i) (by omega) (by omega) hu hrd (by omega) (fun l hl _ => k2 l hl) ?_
        have uniq : ∀ v', USE (w.2 3) (w.2 4) pat i v' → v' = v := fun v' hu' => (nI_eq (by have := hu'.2.2; omega) (by have := hu.2.2; omega)).mp (hu'.2.1.symm.trans hu.2.1)
        have put : ∀ y : Int32, ((y = -1 ∧ (∃ j v j2 v2, a ≤ j ∧ j < i + 1 ∧ a ≤ j2 ∧ j2 < i + 1 ∧ USE (w.2 3) (w.2 4) pat j v ∧ USE (w.2 3) (w.2 4) pat j2 v2 ∧ CNT (w.2 3) (w.2 1) rd pat lst v h ≠ CNT (w.2 3) (w.2 1) rd pat lst v2 h)) ∨ ∃ c, y = nI c ∧ c ≤ 310 ∧ (∀ j v, a ≤ j → j < i + 1 → USE (w.2 3) (w.2 4) pat j v → CNT (w.2 3) (w.2 1) rd pat lst v h = c) ∧ ∃ j v, a ≤ j ∧ j < i + 1 ∧ USE (w.2 3) (w.2 4) pat j v) → wj_X9_roundsOf_91 (mL6 (fun K => wj_X9_roundsOf_7 K post) (d + 1)) post (nI pat) (nI lst) (nI b) (nI i) y w := by
          intro y hy
          rintro _ rfl
          rw [nI_1]
          refine ih (i + 1) y (by omega) (by omega) ?_
          rcases hy with hy | hy
          · exact Or.inr (Or.inl hy)
          · exact Or.inr (Or.inr hy)
        refine ⟨fun e => put _ (Or.inr ⟨_, rfl, cle, fun j v' a1 a2 a3 => ?_, i, v, hai, by omega, hu⟩), fun e => ⟨fun e2 => put _ (Or.inl ⟨rfl, ?_⟩), fun e2 => put _ (Or.inr ⟨_, rfl, cle, fun j v' a1 a2 a3 => ?_, i, v, hai, by omega, hu⟩)⟩⟩
        · rcases Nat.lt_or_ge j i with q | q
          · rcases hI with ⟨_, q2⟩ | ⟨e3, -⟩ | ⟨c, e3, c1, _⟩
            · exact absurd a3 (q2 j v' a1 q)
            · rw [e] at e3; exact absurd e3 (by decide)
            · rw [e] at e3
              have : ¬ nI c < 0 := nI_pos (by omega)
              rw [← e3] at this
              exact absurd (by decide) this
          · have : j = i := by omega
            subst this
            rw [uniq v' a3]
        · rcases hI with ⟨e3, _⟩ | ⟨e3, j, v', j2, v2, q1, q2, q3, q4, q5⟩ | ⟨c, e3, c1, c2, j, v', q1, q2, q3⟩
          · exact absurd e3 e
          · exact ⟨j, v', j2, v2, q1, by omega, q3, by omega, q5⟩
          · refine ⟨j, v', i, v, q1, by omega, hai, by omega, q3, hu, fun q => e2 ?_⟩
            rw [e3, ← c2 j v' q1 q2 q3, q]
        · rcases Nat.lt_or_ge j i with q | q
          · rcases hI with ⟨e3, _⟩ | ⟨e3, -⟩ | ⟨c, e3, c1, c2, _⟩
            · exact absurd e3 e
            · rw [e2] at e3
              have : ¬ nI (CNT (w.2 3) (w.2 1) rd pat lst v h) < 0 := nI_pos (by omega)
              rw [e3] at this
              exact absurd (by decide) this
            · rw [c2 j v' a1 q a3]
              exact (nI_eq (by omega) (by omega)).mp (e3.symm.trans e2)
          · have : j = i := by omega
            subst this
            rw [uniq v' a3]
      show wj_X9_roundsOf_7 _ post _ _ _ _ _ w
      refine ⟨fun q => absurd q (by rw [nI_leI (by omega) (by omega)]; omega), fun _ => ?_⟩
      refine kind_4 (by omega) ⟨fun k3 => g50 (-1) (fun _ v hu => k3 hu.1) (fun q => absurd (by decide) q), fun k3 => ⟨vp_in_nI (by omega) (by omega), ?_⟩⟩
      rintro _ rfl
      refine ⟨vp_in_nI (by omega) (by omega), ?_⟩
      rintro _ rfl
      rw [nI_clamp (by omega)]
      refine variable_ok hL.2.1 hiT (by omega) (by omega) (g50 _ (fun q v hu => ?_) (fun q => ?_))
      · rw [hu.2.1] at q
        have := hu.2.2
        exact absurd q (nI_pos (by omega))
      · rcases VR_cases (s := w.2 4) hL hN (by omega) (w.2 3 i) (w.2 4 i) with g | ⟨j, g1, g2, g3, -⟩
        · rw [g] at q; exact absurd (by decide) q
        · exact ⟨j, g3, k3, g3, by omega⟩
  exact ⟨b - a + 1, key (b - a) a (-2) (by omega) (Nat.le_refl a) (Or.inl ⟨rfl, fun j v h1 h2 => by omega⟩)⟩
theorem holdX {pat n T m0 lst m i z h : Nat} {rd : Nat → Nat} {D : Nat → Nat → Prop} {w : mS} {post : Int32 → mS → Prop} (hF : FC (w.2 3) (w.2 4) (w.2 1) pat n T m0 lst m D) (hi : T ≤ i) (hT : TL (w.2 3) i z) (hz : i + z < T + m0) (hh : w.1 8 = nI h) (hh3 : h < 3) (hrd : ∀ l, l < 3 → w.2 18 l = nI (rd l) ∧ rd l < 2 ^ 20) (hcond : ∀ j v, i ≤ j → j < i + z → USE (w.2 3) (w.2 4) pat j v → h < HB (w.2 3) T (T + m0) j ∧ ∀ l, l < h → rd l < CNT (w.2 3) (w.2 1) rd pat lst v l) (h1 : ∀ c v, 0 < c → c ≤ 310 → (∀ j v, i ≤ j → j < i + z → USE (w.2 3) (w.2 4) pat j v → CNT (w.2 3) (w.2 1) rd pat lst v h = c) → FR [8] [16, 17, 18] w v → v.1 8 = nI (h + 1) → v.2 16 = upd (w.2 16) h (nI i) → v.2 17 = upd (w.2 17) h (nI c) → v.2 18 = upd (w.2 18) h 0 → post (nI i) v) (h0 : (∀ j v, i ≤ j → j < i + z → USE (w.2 3) (w.2 4) pat j v → CNT (w.2 3) (w.2 1) rd pat lst v h = 0) → (∃ j v, i ≤ j ∧ j < i + z ∧ USE (w.2 3) (w.2 4) pat j v) → post (nI (i + z + 1)) w) (he : ((∀ j v, i ≤ j → j < i + z → ¬ USE (w.2 3) (w.2 4) pat j v) ∨ ∃ j v j2 v2, i ≤ j ∧ j < i + z ∧ i ≤ j2 ∧ j2 < i + z ∧ USE (w.2 3) (w.2 4) pat j v ∧ USE (w.2 3) (w.2 4) pat j2 v2 ∧ CNT (w.2 3) (w.2 1) rd pat lst v h ≠ CNT (w.2 3) (w.2 1) rd pat lst v2 h) → ∀ v, FR [12] [] w v → ¬ v.1 12 = 0 → post (nI (i + z + 1)) v) : wp_X9_hold (nI pat) (nI lst) (nI i) w post := by
  have hT2 := hF.2.2.2.2.1
  refine end_4 hT (by omega) ?_
  refine roundsX hF hi (by omega) (by omega) hh (by omega) hrd hcond (fun c c1 c2 c3 => ?_) (fun x hx hnot => ?_)
  · refine ⟨fun _ => ?_, fun q => absurd (nI_pos' (by omega)) q⟩
    refine ⟨fun q => ?_, fun q => ?_⟩
    · have q : nI 0 < nI c := q
      rw [nI_ltI (by omega) (by omega)] at q
      intro y9 e9
      rw [hh] at e9; subst e9
      refine ⟨vp_in_nI hh3 (by omega), ?_⟩
      rintro _ rfl y11 e11
      have e11 : y11 = nI h := e11.trans hh
      subst e11
      refine ⟨vp_in_nI hh3 (by omega), ?_⟩
      rintro _ rfl y13 e13
      have e13 : y13 = nI h := e13.trans hh
      subst e13
      refine ⟨vp_in_nI hh3 (by omega), ?_⟩
      rintro _ rfl y15 e15
      have e15 : y15 = nI h := e15.trans hh
      subst e15
      rintro _ rfl _ rfl
      rw [nI_clamp (by omega), nI_1]
      refine h1 c _ q c1 c2 (FR_set (FR_put (FR_put (FR_put FR.rf (by decide)) (by decide)) (by decide)) (by decide)) (mSet_same _ _ _) ?_ ?_ ?_
      · rw [mSet_arr, mPut_other (by decide : (16 : Nat) ≠ 18), mPut_other (by decide : (16 : Nat) ≠ 17), mPut_same]
      · rw [mSet_arr, mPut_other (by decide : (17 : Nat) ≠ 18), mPut_same, mPut_other (by decide : (17 : Nat) ≠ 16)]
      · rw [mSet_arr, mPut_same, mPut_other (by decide : (18 : Nat) ≠ 17), mPut_other (by decide : (18 : Nat) ≠ 16)]
    · have q : ¬ nI 0 < nI c := q
      rw [nI_ltI (by omega) (by omega)] at q
      have c0 : c = 0 := by omega
      subst c0
      rintro _ rfl
      rw [nI_1]
      exact h0 c2 c3
  · have nx0 : ¬ 0 ≤ x := Int32.not_le.mpr hx
    refine ⟨fun q => absurd q nx0, fun _ => fails_ok (by decide) (fun v hv hne _ => ?_)⟩
    refine ⟨fun q => absurd (Int32.le_of_lt q) nx0, fun _ => ?_⟩
    rintro _ rfl
    rw [nI_1]
    exact he hnot v hv hne
