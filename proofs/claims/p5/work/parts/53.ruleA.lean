-- 53: RuleCheck of the class: isPattern, linkUses, isTemplate, isRule, isNameWithRules
/-- .. stands behind a tree, from a to b -/
def DR (r : Nat → Int32) (a b : Nat) : Prop := ∀ i, a ≤ i → i < b → kd (r i) = 6 → a < i ∧ ¬ kd (r (i - 1)) = 1 ∧ ¬ kd (r (i - 1)) = 6
theorem AR_b {u : mS} {a b : Nat} (hA : AR u a b) : b ≤ 3000 := by
  obtain ⟨⟨T, -, q1, q2⟩, -⟩ := hA
  omega
theorem AR_fr {u w : mS} {a b : Nat} (hA : AR u a b) (h1 : w.1 1 = u.1 1) (h2 : w.2 1 = u.2 1) (h3 : w.2 3 = u.2 3) : AR w a b := by
  unfold AR
  rw [ra_fr h2, h1, h2, h3]
  exact hA
theorem VR_first {r s : Nat → Int32} {p i : Nat} (h1 : p + 1 + tl r (p + 1) ≤ i) (h2 : i < p + tl r p - 1) (hb : p + tl r p < 2 ^ 31) : vrF r s (r i) (s i) (i - (p + 1 + tl r (p + 1))) (p + 1 + tl r (p + 1)) = -1 ↔ VR r s p (r i) (s i) = nI i := by
  have e : VR r s p (r i) (s i) = vrF r s (r i) (s i) (i - (p + 1 + tl r (p + 1)) + (p + tl r p - 1 - i)) (p + 1 + tl r (p + 1)) := by
    unfold VR
    rw [show p + tl r p - 1 - (p + 1 + tl r (p + 1)) = i - (p + 1 + tl r (p + 1)) + (p + tl r p - 1 - i) from by omega]
  have A := vrF_app r s (r i) (s i) (p + tl r p - 1 - i) (i - (p + 1 + tl r (p + 1))) (p + 1 + tl r (p + 1)) (by omega)
  rw [← e, show p + 1 + tl r (p + 1) + (i - (p + 1 + tl r (p + 1))) = i from by omega] at A
  obtain ⟨m, em⟩ : ∃ m, p + tl r p - 1 - i = m + 1 := ⟨p + tl r p - 1 - i - 1, by omega⟩
  have hi : vrF r s (r i) (s i) (p + tl r p - 1 - i) i = nI i := by
    rw [em]
    show (if r i = r i ∧ s i = s i then nI i else vrF r s (r i) (s i) m (i + 1)) = nI i
    rw [if_pos ⟨rfl, rfl⟩]
  rw [hi] at A
  constructor
  · intro q; exact A.1 q
  · intro q
    rcases vrF_cases r s (r i) (s i) (i - (p + 1 + tl r (p + 1))) (p + 1 + tl r (p + 1)) (by omega) with c | ⟨j, j1, j2, j3, -⟩
    · exact c
    · exfalso
      have e2 := A.2 (by rw [j3]; exact nI_ng (by omega) (by decide))
      rw [q, j3, nI_eq (by omega) (by omega)] at e2
      omega
theorem isPatternA {a b p : Nat} {u : mS} {post : Int32 → mS → Prop} (hA : AR u a b) (hD : DR (ra u) a b) (hap : a ≤ p) (hpb : p < b) (h1 : PAT (ra u) (u.2 2) p → post 1 u) (h0 : ¬ PAT (ra u) (u.2 2) p → post 0 u) : wp_X6_isPattern (nI p) u post := by
  have hb := AR_b hA
  obtain ⟨hw, ht, hle, -⟩ := hA.2 p hap hpb
  rintro _ rfl
  rw [nI_1]
  refine wordAR hA hpb ⟨fun c => h0 (fun q => ?_), fun c => ?_⟩
  · obtain ⟨⟨n, N, hL, -⟩, -⟩ := q
    exact c ((AW_1 hw).mpr hL.1)
  have k1 := (AW_1 hw).mp c
  obtain ⟨N, hL⟩ := LI_ex k1 ht
  obtain ⟨n2, -, kE⟩ := TL_open k1 ht
  obtain ⟨hw1, ht1, hle1, -⟩ := hA.2 (p + 1) (by omega) (by omega)
  refine wordAR hA (by omega) ⟨fun c2 => h0 (fun q => ?_), fun c2 => ?_⟩
  · obtain ⟨⟨n', N', hL', hc⟩, -⟩ := q
    have e2 := (AW_2 hw1).mp c2
    rcases Nat.eq_zero_or_pos N' with z | z
    · subst z; exact hc rfl
    · exact (hL'.2.2.1 0 z).1 e2
  have k2 : ¬ kd (ra u (p + 1)) = 2 := fun q => c2 ((AW_2 hw1).mpr q)
  have hN : 0 < N := by
    rcases Nat.eq_zero_or_pos N with z | z
    · subst z
      exact absurd (LI_end hL) k2
    · exact z
  have hin : ∀ j, p < j → j < p + tl (ra u) p → ¬ kd (ra u j) = 2 → j + tl (ra u) j < p + tl (ra u) p := fun j q1 q2 q3 => (inTree k1 ht q1 q2 q3).2
  have hs := hin (p + 1) (by omega) (by omega) k2
  have n6' : ¬ kd (ra u (p + 1)) = 6 := fun q => (hD (p + 1) (by omega) (by omega) q).2.1 (by rw [show p + 1 - 1 = p from by omega]; exact k1)
  refine heldA hA (by omega) (by omega) (fun _ k6 => ⟨fun h => absurd h (by decide), fun _ => h0 (fun q => q.2.1 k6)⟩) (fun hk => ⟨fun _ => ?_, fun h => absurd rfl h⟩)
  have n6 : ¬ kd (ra u (p + 1 + tl (ra u) (p + 1))) = 6 := by
    rcases hk with q | q
    · exact absurd q k2
    · exact q
  refine after_ok hA (by omega) (by omega) (after_ok hA hap hpb ?_)
  have key : ∀ (d i : Nat), i + d = p + tl (ra u) p → p + 1 + tl (ra u) (p + 1) ≤ i → (∀ j, p + 1 + tl (ra u) (p + 1) ≤ j → j < i → j < p + tl (ra u) p - 1 → (kd (ra u j) = 6 → kd (ra u (j + 1)) = 2) ∧ (¬ kd (ra u j) = 2 → ¬ kd (ra u j) = 6 → HB (ra u) (p + 1) (p + tl (ra u) p - 1) j ≤ 2) ∧ (kd (ra u j) = 3 → VR (ra u) (u.2 2) p (ra u j) (u.2 2 j) = nI j)) → mL5 (fun K => wj_X6_isPattern_64 K post) (d + 1) (nI p) (nI (p + 1 + tl (ra u) (p + 1))) (nI (p + tl (ra u) p)) (nI i) u := by
    intro d
    induction d with
    | zero =>
      intro i hi hSi hall
      show wj_X6_isPattern_64 _ post _ _ _ _ u
      refine ⟨fun _ => h1 ⟨⟨_, N, hL, cn_pos n6' hN⟩, n6, fun j q1 q2 => hall j q1 (by omega) q2⟩, fun h => absurd ?_ h⟩
      rw [nI_leI (by omega) (by omega)]; omega
    | succ d ih =>
      intro i hi hSi hall
      obtain ⟨hwi, hti, hlei, -⟩ := hA.2 i (by omega) (by omega)
      have lst : kd (ra u i) = 2 ∨ i < p + tl (ra u) p - 1 := by
        rcases Nat.lt_or_ge i (p + tl (ra u) p - 1) with c | c
        · exact Or.inr c
        · refine Or.inl ?_
          rw [show i = p + (tl (ra u) p - 1) from by omega]; exact kE
      have s131 : (kd (ra u i) = 6 → kd (ra u (i + 1)) = 2) → (¬ kd (ra u i) = 2 → ¬ kd (ra u i) = 6 → HB (ra u) (p + 1) (p + tl (ra u) p - 1) i ≤ 2) → wj_X6_isPattern_131 (mL5 (fun K => wj_X6_isPattern_64 K post) (d + 1)) post (nI p) (nI (p + 1 + tl (ra u) (p + 1))) (nI (p + tl (ra u) p)) (nI i) u := by
        intro g1 g2
        have go : (kd (ra u i) = 3 → i < p + tl (ra u) p - 1 → VR (ra u) (u.2 2) p (ra u i) (u.2 2 i) = nI i) → ∀ y32 : Int32, y32 = nI i + (1 : Int32) → mL5 (fun K => wj_X6_isPattern_64 K post) (d + 1) (nI p) (nI (p + 1 + tl (ra u) (p + 1))) (nI (p + tl (ra u) p)) y32 u := by
          intro g3
          rintro _ rfl
          rw [nI_1]
          refine ih (i + 1) (by omega) (by omega) (fun j j1 j2 j3 => ?_)
          rcases Nat.lt_or_ge j i with c | c
          · exact hall j j1 c j3
          · have ej : j = i := by omega
            subst ej
            exact ⟨g1, g2, fun q => g3 q j3⟩
        refine findName_ok hA (by omega) hSi (by omega) (by omega) (by omega) (fun k3 => ?_) (fun k3 => ⟨fun _ => go (fun q => absurd q k3), fun h => absurd (by decide) h⟩)
        have lt : i < p + tl (ra u) p - 1 := by
          rcases lst with q | q
          · rw [k3] at q; exact absurd q (by decide)
          · exact q
        have vf := VR_first (r := ra u) (s := u.2 2) (p := p) (i := i) hSi lt (by omega)
        rcases vrF_cases (ra u) (u.2 2) (ra u i) (u.2 2 i) (i - (p + 1 + tl (ra u) (p + 1))) (p + 1 + tl (ra u) (p + 1)) (by omega) with c | ⟨j, j1, j2, j3, -⟩
        · rw [c]
          exact ⟨fun _ => go (fun _ _ => vf.mp c), fun h => absurd (by decide) h⟩
        · rw [j3]
          refine ⟨fun h => absurd h (nI_pos (by omega)), fun _ => h0 (fun q => ?_)⟩
          have e1 := vf.mpr ((q.2.2 i hSi lt).2.2 k3)
          rw [j3] at e1
          exact nI_ng (by omega) (by decide) e1
      have s107 : (kd (ra u i) = 6 → kd (ra u (i + 1)) = 2) → wj_X6_isPattern_107 (mL5 (fun K => wj_X6_isPattern_64 K post) (d + 1)) post (nI p) (nI (p + 1 + tl (ra u) (p + 1))) (nI (p + tl (ra u) p)) (nI i) (u.2 1 i) u := by
        intro g1
        refine isTree_ok hwi (fun q2 q6 => ⟨fun h => absurd h (by decide), fun _ => ?_⟩) (fun q => ⟨fun _ => s131 g1 (fun a1 a2 => ?_), fun h => absurd rfl h⟩)
        · have lt : i < p + tl (ra u) p - 1 := by
            rcases lst with q | q
            · exact absurd q q2
            · exact q
          have nE : ¬ kd (ra u (p + tl (ra u) p - 1)) = 6 := by
            rw [show p + tl (ra u) p - 1 = p + (tl (ra u) p - 1) from by omega, kE]; decide
          refine holders_ok (e := p + tl (ra u) p - 1) hA hap (by omega) (by omega) (by omega) (fun j j1 j2 => ?_) nE q6 ?_
          · by_cases c2 : kd (ra u j) = 2
            · have e1 : tl (ra u) j = 1 := tl_eq (TL_atom (by rw [c2]; decide))
              omega
            · have := hin j j1 (by omega) c2
              omega
          · have hbS := hbS_le (ra u) (p + tl (ra u) p - 1) i (p + 1) (i + 1 - (p + 1))
            have hH : HB (ra u) (p + 1) (p + tl (ra u) p - 1) i ≤ i + 1 - (p + 1) := hbS
            refine ⟨fun h => ?_, fun h => h0 (fun q => ?_)⟩
            · have h : nI (HB (ra u) (p + 1) (p + tl (ra u) p - 1) i) ≤ nI 2 := h
              rw [nI_leI (by omega) (by omega)] at h
              exact s131 g1 (fun _ _ => h)
            · have h : ¬ nI (HB (ra u) (p + 1) (p + tl (ra u) p - 1) i) ≤ nI 2 := h
              rw [nI_leI (by omega) (by omega)] at h
              exact h ((q.2.2 i hSi lt).2.1 q2 q6)
        · rcases q with q | q
          · exact absurd q a1
          · exact absurd q a2
      show wj_X6_isPattern_64 _ post _ _ _ _ u
      refine ⟨fun h => absurd h (by rw [nI_leI (by omega) (by omega)]; omega), fun _ => ?_⟩
      refine wordAR hA (by omega) ⟨fun c6 => s107 (fun q => absurd ((AW_6 hwi).mpr q) c6), fun c6 => ?_⟩
      have k6 := (AW_6 hwi).mp c6
      have lt : i < p + tl (ra u) p - 1 := by
        rcases lst with q | q
        · rw [k6] at q; exact absurd q (by decide)
        · exact q
      rintro _ rfl
      rw [nI_1]
      obtain ⟨hwn, -⟩ := hA.2 (i + 1) (by omega) (by omega)
      refine wordAR hA (by omega) ⟨fun e2 => s107 (fun _ => (AW_2 hwn).mp e2), fun e2 => h0 (fun q => e2 ((AW_2 hwn).mpr ((q.2.2 i hSi lt).1 k6)))⟩
  exact ⟨_, key (p + tl (ra u) p - (p + 1 + tl (ra u) (p + 1))) _ (by omega) (Nat.le_refl _) (fun j j1 j2 => by omega)⟩
/-- place i of a template is linked to its variable in the pattern at p -/
def US (u : mS) (p i : Nat) : Prop := (kd (ra u i) = 3 ∧ ∃ j, p + 1 + tl (ra u) (p + 1) ≤ j ∧ j < i ∧ j < p + tl (ra u) p - 1 ∧ VR (ra u) (u.2 2) p (ra u i) (u.2 2 i) = nI j ∧ u.2 4 i = nI (i - j)) ∨ (¬ (kd (ra u i) = 3 ∧ ¬ VR (ra u) (u.2 2) p (ra u i) (u.2 2 i) < 0) ∧ u.2 4 i = 0)
theorem US_fr {u w : mS} {p i : Nat} (h : US u p i) (h1 : w.2 1 = u.2 1) (h2 : w.2 2 = u.2 2) (h4 : w.2 4 i = u.2 4 i) : US w p i := by
  unfold US
  rw [ra_fr h1, h2, h4]
  exact h
theorem VR_ext {r s : Nat → Int32} {p : Nat} {v w : Int32} (hv : kd v = 3) (hE : kd (r (p + tl r p - 1)) = 2) (hS : p + 1 + tl r (p + 1) ≤ p + tl r p - 1) (h0 : 0 < tl r p) (hb : p + tl r p < 2 ^ 31) : vrF r s v w (p + tl r p - (p + 1 + tl r (p + 1))) (p + 1 + tl r (p + 1)) = VR r s p v w := by
  have A := vrF_app r s v w 1 (p + tl r p - 1 - (p + 1 + tl r (p + 1))) (p + 1 + tl r (p + 1)) (by omega)
  rw [show p + tl r p - 1 - (p + 1 + tl r (p + 1)) + 1 = p + tl r p - (p + 1 + tl r (p + 1)) from by omega, show p + 1 + tl r (p + 1) + (p + tl r p - 1 - (p + 1 + tl r (p + 1))) = p + tl r p - 1 from by omega] at A
  unfold VR
  by_cases c : vrF r s v w (p + tl r p - 1 - (p + 1 + tl r (p + 1))) (p + 1 + tl r (p + 1)) = -1
  · rw [A.1 c, c]
    show (if r (p + tl r p - 1) = v ∧ s (p + tl r p - 1) = w then nI (p + tl r p - 1) else -1) = -1
    rw [if_neg]
    rintro ⟨q, -⟩
    rw [q, hv] at hE
    exact absurd hE (by decide)
  · exact A.2 c
theorem setVar_ok {i T : Nat} {v z : Int32} {u : mS} {post : mS → Prop} (hT : u.1 1 = nI T) (hT3 : T ≤ 3000) (hi : i < T) (h : (∃ j, v = nI j ∧ j < i ∧ z = nI (i - j)) ∨ (v = -1 ∧ z = 0)) (hp : post (mPut u 4 i z)) : wp_X5_setVariable (nI i) v u post := by
  refine ⟨fun h => absurd h (nI_pos (by omega)), fun _ => ?_⟩
  intro y2 e2
  rw [hT] at e2; subst e2
  refine ⟨fun h => absurd h (by rw [nI_leI (by omega) (by omega)]; omega), fun _ => ⟨fun h => absurd h (by rw [show (3000 : Int32) = nI 3000 from rfl, nI_leI (by omega) (by omega)]; omega), fun _ => ?_⟩⟩
  rcases h with ⟨j, rfl, hj, rfl⟩ | ⟨rfl, rfl⟩
  · refine ⟨fun _ => ?_, fun h => absurd (nI_pos' (by omega)) h⟩
    rintro _ rfl
    rw [pk_sub (by omega)]
    refine ⟨vp_in_nI (by omega) (by omega), ?_⟩
    rintro _ rfl
    rw [nI_clamp (by omega)]; exact hp
  · refine ⟨fun h => absurd h (by decide), fun _ => ⟨vp_in_nI (by omega) (by omega), ?_⟩⟩
    rintro _ rfl
    rw [nI_clamp (by omega)]; exact hp
theorem linkUses_ok {a b p t : Nat} {u : mS} {post : mS → Prop} (hA : AR u a b) (hap : a ≤ p) (k1 : kd (ra u p) = 1) (k2 : ¬ kd (ra u (p + 1)) = 2) (et : t = p + tl (ra u) p) (htb : t < b) (hp : ∀ w, FR [] [4] u w → (∀ i, t ≤ i → i < t + tl (ra u) t → US w p i) → (∀ i, (i < t ∨ t + tl (ra u) t ≤ i) → w.2 4 i = u.2 4 i) → post w) : wp_X6_linkUses (nI p) (nI t) u post := by
  have hb := AR_b hA
  obtain ⟨hw, ht, hle, -⟩ := hA.2 p hap (by omega)
  obtain ⟨n2, -, kE⟩ := TL_open k1 ht
  have hs := (inTree k1 ht (j := p + 1) (by omega) (by omega) k2).2
  obtain ⟨hwt, htt, hlet, -⟩ := hA.2 t (by omega) htb
  rintro _ rfl
  rw [nI_1]
  refine after_ok hA (by omega) (by omega) (after_ok hA (by omega) htb ?_)
  have key : ∀ (d i : Nat) (w : mS), i + d = t + tl (ra u) t → t ≤ i → FR [] [4] u w → (∀ j, t ≤ j → j < i → US w p j) → (∀ j, (j < t ∨ i ≤ j) → w.2 4 j = u.2 4 j) → mL5 (fun K => wj_X6_linkUses_24 K post) (d + 1) (nI t) (nI (p + 1 + tl (ra u) (p + 1))) (nI (t + tl (ra u) t)) (nI i) w := by
    intro d
    induction d with
    | zero =>
      intro i w hi hti hF hU hO
      show wj_X6_linkUses_24 _ post _ _ _ _ w
      have ei : i = t + tl (ra u) t := by omega
      subst ei
      exact ⟨fun _ => hp w hF hU hO, fun h => absurd (Int32.le_refl _) h⟩
    | succ d ih =>
      intro i w hi hti hF hU hO
      have r1 : w.2 1 = u.2 1 := hF.2 1 (by decide)
      have r2 : w.2 2 = u.2 2 := hF.2 2 (by decide)
      have rw1 : ra w = ra u := ra_fr r1
      have hAw : AR w a b := AR_fr hA (hF.1 1 (by decide)) r1 (hF.2 3 (by decide))
      obtain ⟨⟨T, hT, hbT, hT3⟩, -⟩ := id hAw
      have go : ∀ v : Int32, ((kd (ra u i) = 3 ∧ ∃ j, p + 1 + tl (ra u) (p + 1) ≤ j ∧ j < i ∧ j < p + tl (ra u) p - 1 ∧ VR (ra u) (u.2 2) p (ra u i) (u.2 2 i) = nI j ∧ v = nI j) ∨ (¬ (kd (ra u i) = 3 ∧ ¬ VR (ra u) (u.2 2) p (ra u i) (u.2 2 i) < 0) ∧ v = -1)) → wp_X5_setVariable (nI i) v w (fun u10 => ∀ y11 : Int32, y11 = nI i + (1 : Int32) → mL5 (fun K => wj_X6_linkUses_24 K post) (d + 1) (nI t) (nI (p + 1 + tl (ra u) (p + 1))) (nI (t + tl (ra u) t)) y11 u10) := by
        intro v hv
        have fin : ∀ z : Int32, ((kd (ra u i) = 3 ∧ ∃ j, p + 1 + tl (ra u) (p + 1) ≤ j ∧ j < i ∧ j < p + tl (ra u) p - 1 ∧ VR (ra u) (u.2 2) p (ra u i) (u.2 2 i) = nI j ∧ z = nI (i - j)) ∨ (¬ (kd (ra u i) = 3 ∧ ¬ VR (ra u) (u.2 2) p (ra u i) (u.2 2 i) < 0) ∧ z = 0)) → ∀ y11 : Int32, y11 = nI i + (1 : Int32) → mL5 (fun K => wj_X6_linkUses_24 K post) (d + 1) (nI t) (nI (p + 1 + tl (ra u) (p + 1))) (nI (t + tl (ra u) t)) y11 (mPut w 4 i z) := by
          intro z hz
          rintro _ rfl
          rw [nI_1]
          have o1 : (mPut w 4 i z).2 1 = w.2 1 := mPut_other (by decide)
          have o2 : (mPut w 4 i z).2 2 = w.2 2 := mPut_other (by decide)
          refine ih (i + 1) _ (by omega) (by omega) (FR_put hF (by decide)) (fun j j1 j2 => ?_) (fun j hj => ?_)
          · rcases Nat.lt_or_ge j i with c | c
            · exact US_fr (hU j j1 c) o1 o2 (by rw [mPut_same, pk_un (by omega)])
            · have ej : j = i := by omega
              subst ej
              unfold US
              rw [ra_fr o1, o2, rw1, r2, mPut_same, pk_us]
              exact hz
          · rw [mPut_same, pk_un (by omega)]
            exact hO j (by omega)
        rcases hv with ⟨q3, j, q4, q5, q6, q7, rfl⟩ | ⟨q3, rfl⟩
        · exact setVar_ok hT hT3 (by omega) (Or.inl ⟨j, rfl, q5, rfl⟩) (fin _ (Or.inl ⟨q3, j, q4, q5, q6, q7, rfl⟩))
        · exact setVar_ok hT hT3 (by omega) (Or.inr ⟨rfl, rfl⟩) (fin _ (Or.inr ⟨q3, rfl⟩))
      show wj_X6_linkUses_24 _ post _ _ _ _ w
      refine ⟨fun h => absurd h (by rw [nI_leI (by omega) (by omega)]; omega), fun _ => ?_⟩
      refine findName_ok hAw (by omega) (by omega) (by omega) (by omega) (by omega) (fun k3 => ?_) (fun k3 => go _ (Or.inr ⟨fun q => k3 (by rw [rw1]; exact q.1), rfl⟩))
      rw [rw1] at k3 ⊢
      rw [r2]
      have ext := VR_ext (r := ra u) (s := u.2 2) (p := p) (v := ra u i) (w := u.2 2 i) k3 (by rw [show p + tl (ra u) p - 1 = p + (tl (ra u) p - 1) from by omega]; exact kE) (by omega) (by omega) (by omega)
      rw [← et] at ext
      rw [ext]
      refine go _ ?_
      have vc := vrF_cases (ra u) (u.2 2) (ra u i) (u.2 2 i) (p + tl (ra u) p - 1 - (p + 1 + tl (ra u) (p + 1))) (p + 1 + tl (ra u) (p + 1)) (by omega)
      have vc : VR (ra u) (u.2 2) p (ra u i) (u.2 2 i) = -1 ∨ ∃ j, p + 1 + tl (ra u) (p + 1) ≤ j ∧ j < p + 1 + tl (ra u) (p + 1) + (p + tl (ra u) p - 1 - (p + 1 + tl (ra u) (p + 1))) ∧ VR (ra u) (u.2 2) p (ra u i) (u.2 2 i) = nI j ∧ ra u j = ra u i ∧ u.2 2 j = u.2 2 i := vc
      rcases vc with c | ⟨j, j1, j2, j3, -⟩
      · exact Or.inr ⟨fun q => q.2 (by rw [c]; decide), c⟩
      · exact Or.inl ⟨k3, j, j1, by omega, by omega, j3, j3⟩
  exact ⟨_, key (tl (ra u) t) t u (by omega) (Nat.le_refl t) FR.rf (fun j j1 j2 => by omega) (fun j _ => rfl)⟩
theorem usF_in {r s : Nat → Int32} {p : Nat} : ∀ {n i j : Nat}, i ≤ j → j < i + n → kd (r j) = 3 → ¬ VR r s p (r j) (s j) < 0 → usF r s p n i ≠ 0 := by
  intro n
  induction n with
  | zero => intro i j h1 h2; omega
  | succ n ih =>
    intro i j h1 h2 h3 h4
    show (if kd (r i) = 3 ∧ ¬ VR r s p (r i) (s i) < 0 then 1 else 0) + usF r s p n (i + 1) ≠ 0
    rcases Nat.lt_or_ge i j with c | c
    · have := ih (i := i + 1) (j := j) (by omega) (by omega) h3 h4
      omega
    · have e : i = j := by omega
      subst e
      rw [if_pos ⟨h3, h4⟩]; omega
theorem US_pos {u : mS} {p i : Nat} (h : US u p i) (hi : i < 3000) : (¬ u.2 4 i ≤ 0) ↔ (kd (ra u i) = 3 ∧ ¬ VR (ra u) (u.2 2) p (ra u i) (u.2 2 i) < 0) := by
  rcases h with ⟨h3, j, j1, j2, j3, j4, j5⟩ | ⟨h3, h4⟩
  · refine ⟨fun _ => ⟨h3, by rw [j4]; exact nI_pos (by omega)⟩, fun _ q => ?_⟩
    rw [j5] at q
    exact nI_nle (by omega) (by omega) q
  · refine ⟨fun q => absurd ?_ q, fun q => absurd q h3⟩
    rw [h4]; decide
theorem variableAt_ok {a b p i : Nat} {u : mS} {post : Int32 → mS → Prop} (hA : AR u a b) (hib : i < b) (hU : US u p i) (h1 : ∀ j, kd (ra u i) = 3 → p + 1 + tl (ra u) (p + 1) ≤ j → j < i → j < p + tl (ra u) p - 1 → VR (ra u) (u.2 2) p (ra u i) (u.2 2 i) = nI j → post (nI j) u) (h0 : ¬ (kd (ra u i) = 3 ∧ ¬ VR (ra u) (u.2 2) p (ra u i) (u.2 2 i) < 0) → post (-1) u) : wp_X5_variableAt (nI i) u post := by
  obtain ⟨⟨T, hT, hbT, hT3⟩, -⟩ := hA
  refine ⟨fun h => absurd h (nI_pos (by omega)), fun _ => ?_⟩
  intro y2 e2
  rw [hT] at e2; subst e2
  refine ⟨fun h => absurd h (by rw [nI_leI (by omega) (by omega)]; omega), fun _ => ⟨fun h => absurd h (by rw [show (3000 : Int32) = nI 3000 from rfl, nI_leI (by omega) (by omega)]; omega), fun _ => ⟨vp_in_nI (by omega) (by omega), ?_⟩⟩⟩
  intro y5 e5
  rw [nI_clamp (by omega)] at e5; subst e5
  have up := US_pos hU (by omega)
  refine ⟨fun c => h0 (fun q => up.mpr q c), fun c => ⟨vp_in_nI (by omega) (by omega), ?_⟩⟩
  intro y7 e7
  rw [nI_clamp (by omega)] at e7; subst e7
  rintro _ rfl
  rcases hU with ⟨h3, j, j1, j2, j3, j4, j5⟩ | ⟨h3, h4⟩
  · rw [j5, pk_sub (by omega), show i - (i - j) = j from by omega]
    exact h1 j h3 j1 j2 j3 j4
  · exact absurd (up.mp c) h3
theorem hasUse_ok {a b p i : Nat} {u : mS} {post : Int32 → mS → Prop} (hA : AR u a b) (hai : a ≤ i) (hib : i < b) (hU : ∀ k, i ≤ k → k < i + tl (ra u) i → US u p k) (h1 : usF (ra u) (u.2 2) p (tl (ra u) i) i ≠ 0 → post 1 u) (h0 : usF (ra u) (u.2 2) p (tl (ra u) i) i = 0 → post 0 u) : wp_X5_hasUse (nI i) u post := by
  obtain ⟨⟨T, hT, hbT, hT3⟩, hall⟩ := hA
  obtain ⟨-, ht, hle, hs⟩ := hall i hai hib
  have key : ∀ (d k : Nat), k + d = i + tl (ra u) i → i ≤ k → (usF (ra u) (u.2 2) p d k ≠ 0 → post 1 u) → (usF (ra u) (u.2 2) p d k = 0 → post 0 u) → mL3 (fun K => wj_X5_hasUse_23 K post) (d + 1) (nI i) (nI k) u := by
    intro d
    induction d with
    | zero =>
      intro k hk _ _ q0
      show wj_X5_hasUse_23 _ post _ _ u
      refine ⟨vp_in_nI (by omega) (by omega), ?_⟩
      intro y5 e5
      rw [nI_clamp (by omega), hs] at e5; subst e5
      rintro _ rfl
      rw [nI_add]
      refine ⟨fun _ => q0 rfl, fun h => absurd ?_ h⟩
      rw [nI_leI (by omega) (by omega)]; omega
    | succ d ih =>
      intro k hk hik q1 q0
      show wj_X5_hasUse_23 _ post _ _ u
      refine ⟨vp_in_nI (by omega) (by omega), ?_⟩
      intro y5 e5
      rw [nI_clamp (by omega), hs] at e5; subst e5
      rintro _ rfl
      rw [nI_add]
      refine ⟨fun h => absurd h (by rw [nI_leI (by omega) (by omega)]; omega), fun _ => ?_⟩
      intro y8 e8
      rw [hT] at e8; subst e8
      refine ⟨fun h => absurd h (by rw [nI_leI (by omega) (by omega)]; omega), fun _ => ⟨fun h => absurd h (by rw [show (3000 : Int32) = nI 3000 from rfl, nI_leI (by omega) (by omega)]; omega), fun _ => ⟨vp_in_nI (by omega) (by omega), ?_⟩⟩⟩
      intro y11 e11
      rw [nI_clamp (by omega)] at e11; subst e11
      have up := US_pos (hU k hik (by omega)) (by omega)
      refine ⟨fun c => ?_, fun c => q1 (usF_in (Nat.le_refl k) (by omega) (up.mp c).1 (up.mp c).2)⟩
      rintro _ rfl
      rw [nI_1]
      have no : ¬ (kd (ra u k) = 3 ∧ ¬ VR (ra u) (u.2 2) p (ra u k) (u.2 2 k) < 0) := fun q => up.mpr q c
      have eu : usF (ra u) (u.2 2) p (d + 1) k = usF (ra u) (u.2 2) p d (k + 1) := by
        show (if kd (ra u k) = 3 ∧ ¬ VR (ra u) (u.2 2) p (ra u k) (u.2 2 k) < 0 then 1 else 0) + usF (ra u) (u.2 2) p d (k + 1) = _
        rw [if_neg no, Nat.zero_add]
      rw [eu] at q1 q0
      exact ih (k + 1) (by omega) (by omega) q1 q0
  refine ⟨fun h => absurd h (nI_pos (by omega)), fun _ => ?_⟩
  intro y2 e2
  rw [hT] at e2; subst e2
  refine ⟨fun h => absurd h (by rw [nI_leI (by omega) (by omega)]; omega), fun _ => ⟨fun _ => ?_, fun h => absurd ?_ h⟩⟩
  · exact ⟨_, key (tl (ra u) i) i rfl (Nat.le_refl i) h1 h0⟩
  · rw [show (3000 : Int32) = nI 3000 from rfl, nI_ltI (by omega) (by omega)]; omega
