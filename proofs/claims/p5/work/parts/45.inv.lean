-- 45: what both sides keep between the calls; type keeps it
theorem tyPut_fr (x : Int32) : ∀ (N t : Nat) (u : mS), u.1 0 = nI t → FR [0] [0] u (tyPut x N u) ∧ (tyPut x N u).1 0 = nI (t + N) := by
  intro N
  induction N with
  | zero => intro t u h; exact ⟨FR.rf, h⟩
  | succ N ih =>
    intro t u h
    have h1 : (mSet (mPut u 0 (u.1 0).toNatClampNeg (tyB x N)) 0 (u.1 0 + 1)).1 0 = nI (t + 1) := by rw [mSet_same, h, nI_1]
    obtain ⟨a, b⟩ := ih (t + 1) _ h1
    refine ⟨(FR_set (FR_put FR.rf (by decide)) (by decide)).tr a, ?_⟩
    rw [show t + (N + 1) = t + 1 + N from by omega]
    exact b
theorem IA_fr {l l' : Int32} {f : Nat} {u w : mS} (h : IA l f u) (hF : FR [0] [0] u w) (h0 : w.1 0 = l') : IA l' f w := by
  obtain ⟨a, ⟨n, b, c⟩, d, e⟩ := h
  refine ⟨h0, ⟨n, (hF.1 11 (by decide)).trans b, c⟩, ?_, ?_⟩
  · rw [hF.2 3 (by decide)]; exact d
  · rw [hF.1 2 (by decide)]; exact e
theorem LST_fr0 {l l' : Int32} {u w : mS} (h : LST l u) (hF : FR [0] [0] u w) (h0 : w.1 0 = l') : LST l' w := by
  obtain ⟨a, b, ⟨s, c, d⟩, e⟩ := h
  exact ⟨h0, RD3_fr b hF (by decide), ⟨s, (hF.1 9 (by decide)).trans c, d⟩, OWN_keep e hF (by decide) (by decide) (fun j _ => by rw [hF.2 3 (by decide), hF.2 4 (by decide)]; exact ⟨rfl, rfl⟩)⟩
def inv2 (u v : mS) : Prop := ∃ t : Nat, t ≤ 120 ∧ IA (nI t) 8 u ∧ LST (nI t) v
theorem inv2_type {x n : Int32} {u v : mS} (h : inv2 u v) : wp_X8_type x n u (fun r w => wp_X9_type x n v (fun q z => r = q ∧ inv2 w z)) := by
  obtain ⟨t, ht, hA, hM⟩ := h
  refine typeA hA.1 ht (fun N hN4 hN hc => ?_) (fun hc => ?_)
  · refine typeM hM.1 ht (fun M hM4 hM2 _ => ⟨rfl, t + N, ?_, ?_, ?_⟩) (fun hn => absurd hc hn)
    · obtain ⟨N', e, q1, q2, q3, -⟩ := hc
      have := (nI_eq (by omega) (by omega)).mp (hN.symm.trans e)
      omega
    · obtain ⟨a, b⟩ := tyPut_fr x N t u hA.1
      exact IA_fr hA a b
    · have := (nI_eq (by omega) (by omega)).mp (hN.symm.trans hM2)
      subst this
      obtain ⟨a, b⟩ := tyPut_fr x N t v hM.1
      exact LST_fr0 hM a b
  · exact typeM hM.1 ht (fun M _ _ hc2 => absurd hc2 hc) (fun _ => ⟨rfl, t, ht, hA, hM⟩)
theorem inv2_rules {u v : mS} (h : inv2 u v) : wp_X8_rules u (fun _ w => wp_X9_rules v (fun _ z => inv2 w z)) := by
  obtain ⟨t, ht, hA, hM⟩ := h
  exact s_X8_rules hA (fun _ w hw => rulesM2 hM ht (fun _ z hz => ⟨0, by omega, hw, hz⟩))
theorem inv2_expand {x : Int32} {u v : mS} (h : inv2 u v) : wp_X8_expand x u (fun _ w => wp_X9_expand x v (fun _ z => inv2 w z)) := by
  obtain ⟨t, ht, hA, hM⟩ := h
  refine s_X8_expand hA (fun g _ => expandM hM ht (fun _ _ => ⟨t, ht, hA, hM⟩) (fun g1 g2 => by
    rcases g with g | g
    · exact absurd g g1
    · exact absurd g2 g)) (fun g1 g2 _ w hw => expandM hM ht (fun g => by
    rcases g with g | g
    · exact absurd g g1
    · exact absurd g2 g) (fun _ _ _ z hz => ⟨0, by omega, hw, hz⟩))
theorem inv2_at {x : Int32} {u v : mS} (h : inv2 u v) : wp_X8_at x u (fun _ w => wp_X9_at x v (fun _ z => inv2 w z)) := by
  obtain ⟨t, ht, hA, hM⟩ := h
  exact s_X8_at hA (fun _ w hw => atM2 hM.2.2.1 (fun _ => ⟨t, ht, hw, hM⟩))
theorem inv2_count {x : Int32} {u v : mS} (h : inv2 u v) : wp_X8_count x u (fun _ w => wp_X9_count_ x v (fun _ z => inv2 w z)) := by
  obtain ⟨t, ht, hA, hM⟩ := h
  exact s_X8_count hA (fun _ w hw => countM2 (fun _ => ⟨t, ht, hw, hM⟩))
theorem inv2_0 : inv2 uA0 uM0 := by
  refine ⟨0, by omega, ⟨rfl, ⟨0, rfl, by omega⟩, fun i => ?_, by decide, by decide⟩, rfl, fun l _ => ⟨0, rfl, by decide⟩, ⟨0, rfl, by omega⟩, 0, rfl, by omega, fun k hk => absurd hk (by omega)⟩
  show -3001 ≤ (0 : Int32).toInt ∧ (0 : Int32).toInt ≤ 3001
  exact ⟨by decide, by decide⟩
