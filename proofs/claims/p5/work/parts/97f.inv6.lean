-- 97f: what both sides keep between the calls: the same counts, the same text, the same rules
def inv6 (u v : mS) : Prop := inv3 u v ∧ R6 u v
theorem inv6_own {u v : mS} (h : inv6 u v) : ∃ t o, t ≤ 120 ∧ u.1 0 = nI t ∧ LST (nI t) v ∧ u.2 0 = v.2 0 ∧ o ≤ 4 ∧ v.1 3 = nI o ∧ OWNN o u v ∧ (CN u v ∧ TXL u v) ∧ OW6 o u v := by
  obtain ⟨⟨⟨t, ht, hA, hM⟩, hT, o, ho, hvo, hO⟩, hC, hX, o', ho', h5, h6⟩ := h
  have e := hO.1
  rw [h5, nI_eq (by omega) (by omega)] at e
  subst e
  exact ⟨t, o', ht, hA.1, hM, hT, ho, hvo, hO, ⟨hC, hX⟩, h6⟩
theorem inv6_rules {u v : mS} (h : inv6 u v) : wp_X8_rules u (fun _ w => wp_X9_rules v (fun _ z => inv6 w z)) := by
  obtain ⟨t, o, ht, hu, hM, hT, ho, hvo, hO, hC, h6⟩ := inv6_own h
  refine j_wp_X8_rules (inv3_rules h.1) (rulesRel6 hu hM.1 ht hT ho hvo hO hC h6) (fun r w a b => j_wp_X9_rules a b (fun q z a b => ⟨a.2, b⟩))
theorem inv6_expand {x : Int32} {u v : mS} (h : inv6 u v) : wp_X8_expand x u (fun _ w => wp_X9_expand x v (fun _ z => inv6 w z)) := by
  obtain ⟨t, o, ht, hu, hM, hT, ho, hvo, hO, hC, h6⟩ := inv6_own h
  refine j_wp_X8_expand (inv3_expand h.1) (expandRel hu ht hT ho hvo hO hC h6 hM) (fun r w a b => j_wp_X9_expand a b (fun q z a b => ⟨a, b⟩))
/-- the class's at changes nothing -/
theorem atA {x : Int32} {u : mS} {post : Int32 → mS → Prop} {L : Nat} (h6 : u.1 6 = nI L) (hL : L ≤ 200) (h1 : ∀ j, j < L → x = nI j → post (u.2 9 j) u) (h0 : (∀ j, j < L → ¬ x = nI j) → post (-1) u) : wp_X8_at x u post := by
  refine ⟨fun q => h0 (fun j hj e => ?_), fun q => ?_⟩
  · rw [e] at q; exact absurd q (nI_pos (by omega))
  · obtain ⟨j, hj, rfl⟩ := nI_of q
    intro y2 e2
    rw [h6] at e2; subst e2
    refine ⟨fun q2 => h0 (fun i hi e => ?_), fun q2 => ⟨fun q3 => ?_, fun q3 => ⟨?_, ?_⟩⟩⟩
    · rw [nI_leI (by omega) hj] at q2
      rw [nI_eq hj (by omega)] at e
      omega
    · rw [nI_leI (by omega) hj] at q2
      rw [show (200 : Int32) = nI 200 from rfl, nI_leI (by omega) hj] at q3
      omega
    · rw [nI_leI (by omega) hj] at q2
      exact vp_in_nI (by omega) (by omega)
    · rw [nI_leI (by omega) hj] at q2
      rintro _ rfl
      rw [nI_clamp (by omega)]
      exact h1 j (by omega) rfl
theorem atM {x : Int32} {v : mS} {post : Int32 → mS → Prop} {L : Nat} (h9 : v.1 9 = nI L) (hL : L ≤ 200) (h1 : ∀ j, j < L → x = nI j → post (v.2 19 j) v) (h0 : (∀ j, j < L → ¬ x = nI j) → post (-1) v) : wp_X9_at x v post := by
  refine ⟨fun q => h0 (fun j hj e => ?_), fun q => ?_⟩
  · rw [e] at q; exact absurd q (nI_pos (by omega))
  · obtain ⟨j, hj, rfl⟩ := nI_of q
    intro y2 e2
    rw [h9] at e2; subst e2
    refine ⟨fun q2 => h0 (fun i hi e => ?_), fun q2 => ⟨?_, ?_⟩⟩
    · rw [nI_leI (by omega) hj] at q2
      rw [nI_eq hj (by omega)] at e
      omega
    · rw [nI_leI (by omega) hj] at q2
      exact vp_in_nI (by omega) (by omega)
    · rw [nI_leI (by omega) hj] at q2
      rintro _ rfl
      rw [nI_clamp (by omega)]
      exact h1 j (by omega) rfl
theorem inv6_atC {x : Int32} {u v : mS} (h : inv6 u v) : wp_X8_at x u (fun r w => wp_X9_at x v (fun q z => r = q ∧ inv6 w z)) := by
  obtain ⟨L, l1, l2, l3, l4⟩ := h.2.2.1
  refine atA l2 l1 (fun j hj e => atM l3 l1 (fun i hi e' => ⟨?_, h⟩) (fun no => absurd e (no j hj))) (fun no => atM l3 l1 (fun i hi e' => absurd e' (no i hi)) (fun _ => ⟨rfl, h⟩))
  have : j = i := by
    rw [e, nI_eq (by omega) (by omega)] at e'
    exact e'
  subst this
  exact l4 j hj
theorem inv6_at {x : Int32} {u v : mS} (h : inv6 u v) : wp_X8_at x u (fun _ w => wp_X9_at x v (fun _ z => inv6 w z)) := by
  obtain ⟨L, l1, l2, l3, l4⟩ := h.2.2.1
  exact atA l2 l1 (fun j hj e => atM l3 l1 (fun i hi e' => h) (fun no => h)) (fun no => atM l3 l1 (fun i hi e' => h) (fun _ => h))
theorem inv6_count {x : Int32} {u v : mS} (h : inv6 u v) : wp_X8_count x u (fun r w => wp_X9_count_ x v (fun q z => r = q ∧ inv6 w z)) := by
  obtain ⟨c1, c2, c3, c4⟩ := h.2.1
  refine ⟨fun e => ?_, fun e => ?_, fun e => ?_, fun e => ?_, fun n0 n1 n2 n3 => ?_⟩
  · rintro _ rfl
    subst e
    refine ⟨fun _ => ?_, fun z => absurd z (by decide), fun z => absurd z (by decide), fun z => absurd z (by decide), fun z => absurd rfl z⟩
    rintro _ rfl
    exact ⟨c1, h⟩
  · rintro _ rfl
    subst e
    refine ⟨fun z => absurd z (by decide), fun _ => ?_, fun z => absurd z (by decide), fun z => absurd z (by decide), fun _ z => absurd rfl z⟩
    rintro _ rfl _ rfl _ rfl
    exact ⟨c4, h⟩
  · rintro _ rfl
    subst e
    refine ⟨fun z => absurd z (by decide), fun z => absurd z (by decide), fun _ => ?_, fun z => absurd z (by decide), fun _ _ z => absurd rfl z⟩
    rintro _ rfl
    exact ⟨c2, h⟩
  · rintro _ rfl
    subst e
    refine ⟨fun z => absurd z (by decide), fun z => absurd z (by decide), fun z => absurd z (by decide), fun _ => ?_, fun _ _ _ z => absurd rfl z⟩
    rintro _ rfl
    exact ⟨c3, h⟩
  · exact ⟨fun z => absurd z n0, fun z => absurd z n1, fun z => absurd z n2, fun z => absurd z n3, fun _ _ _ _ => ⟨rfl, h⟩⟩
theorem inv6_countN {x : Int32} {u v : mS} (h : inv6 u v) : wp_X8_count x u (fun _ w => wp_X9_count_ x v (fun _ z => inv6 w z)) := by
  have m : wp_X9_count_ x v (fun _ z => inv6 u z) := by
    refine ⟨fun _ => ?_, fun _ => ?_, fun _ => ?_, fun _ => ?_, fun _ _ _ _ => h⟩
    · rintro _ rfl; exact h
    · rintro _ rfl _ rfl _ rfl; exact h
    · rintro _ rfl; exact h
    · rintro _ rfl; exact h
  refine ⟨fun _ => ?_, fun _ => ?_, fun _ => ?_, fun _ => ?_, fun _ _ _ _ => m⟩
  · rintro _ rfl; exact m
  · rintro _ rfl; exact m
  · rintro _ rfl; exact m
  · rintro _ rfl; exact m
theorem R6_ty {u v w z : mS} (h : R6 u v) (wF : FR [0] [0] u w) (zF : FR [0] [0] v z) : R6 w z := by
  obtain ⟨hC, hX, o, ho, h5, h6⟩ := h
  obtain ⟨c1, c2⟩ := CT_fr ⟨hC, hX⟩ wF zF (by decide) (by decide) (by decide) (by decide)
  exact ⟨c1, c2, o, ho, (wF.1 5 (by decide)).trans h5, OW6_sm h6 ho (wF.2 6 (by decide)) (wF.2 7 (by decide)) (wF.2 8 (by decide)) (zF.2 6 (by decide)) (fun x _ => by rw [wF.2 1 (by decide), wF.2 2 (by decide), wF.2 3 (by decide), wF.2 4 (by decide)]; exact ⟨rfl, rfl, rfl, rfl⟩) (fun j _ => by rw [zF.2 3 (by decide), zF.2 4 (by decide)]; exact ⟨rfl, rfl⟩)⟩
theorem inv6_type {x n : Int32} {u v : mS} (h : inv6 u v) : wp_X8_type x n u (fun _ w => wp_X9_type x n v (fun _ z => inv6 w z)) := by
  obtain ⟨⟨⟨t, ht, hA, hM⟩, hT, o, ho, hvo, hO⟩, hR⟩ := id h
  have e0 : u.1 0 = v.1 0 := hA.1.trans hM.1.symm
  refine typeA hA.1 ht (fun N hN4 hN hc => ?_) (fun hc => ?_)
  · refine typeM hM.1 ht (fun M hM4 hM2 _ => ⟨⟨⟨t + N, ?_, ?_, ?_⟩, ?_, o, ho, ?_, ?_⟩, R6_ty hR (tyPut_fr x N t u hA.1).1 (tyPut_fr x M t v hM.1).1⟩) (fun hn => absurd hc hn)
    · obtain ⟨N', e, q1, q2, q3, -⟩ := hc
      have := (nI_eq (by omega) (by omega)).mp (hN.symm.trans e)
      omega
    · obtain ⟨a, b⟩ := tyPut_fr x N t u hA.1
      exact IA_fr hA a b
    · have := (nI_eq (by omega) (by omega)).mp (hN.symm.trans hM2)
      subst this
      obtain ⟨a, b⟩ := tyPut_fr x N t v hM.1
      exact LST_fr0 hM a b
    · have := (nI_eq (by omega) (by omega)).mp (hN.symm.trans hM2)
      subst this
      exact tyPut_eq x N u v e0 hT
    · exact ((tyPut_fr x M t v hM.1).1.1 3 (by decide)).trans hvo
    · have a := (tyPut_fr x N t u hA.1).1
      have b := (tyPut_fr x M t v hM.1).1
      exact OWNN_fr hO (a.1 5 (by decide)) (a.1 4 (by decide)) (a.2 5 (by decide)) (b.2 5 (by decide))
  · exact typeM hM.1 ht (fun M _ _ hc2 => absurd hc2 hc) (fun _ => h)
theorem inv6_0 : inv6 uA0 uM0 := ⟨inv3_0, ⟨rfl, rfl, rfl, rfl⟩, ⟨0, by omega, rfl, rfl, fun i hi => by omega⟩, 0, by omega, rfl, fun i _ => ⟨rfl, rfl⟩, fun k hk => absurd hk (by omega)⟩
