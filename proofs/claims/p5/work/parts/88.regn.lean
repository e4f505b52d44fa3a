-- 88: the rules of a name on both sides
theorem MTX_mv {kp rw kp' rw' : Nat → Int32} {a1 c1 a2 c2 n m : Nat} (g1 : ∀ j, j < n → kp' (c1 + j) = kp (a1 + j)) (g2 : ∀ j, j < m → rw' (c2 + j) = rw (a2 + j)) (hT : TL kp a1 n) (hT2 : TL rw a2 m) (h : MT kp rw (MXX kp rw) 1 a1 a2) : MT kp' rw' (MXX kp' rw') 1 c1 c2 := MT_mv (kp := kp) (rw := rw) (a1 := a1) (c1 := c1) (a2 := a2) (c2 := c2) (p := 0) (u := 0) (n := n) (m := m) g1 g2 hT (by omega) hT2 (by omega) (fun x y z w q1 q2 q3 q4 q5 q6 q7 d => MXX_mv g1 g2 z x y w q1 (by omega) q5 (by omega) d) h
/-- the class's list at L with its rules is the reference's kept tokens from a to b -/
def RGN (u v : mS) (L nL N a b a1 b1 : Nat) : Prop := AR u a1 b1 ∧ DR (ra u) a1 b1 ∧ a1 ≤ L ∧ L + nL ≤ b1 ∧ LI (ra u) L nL N ∧ dn (ra u) L N = 0 ∧ 0 < N ∧ kd (ra u (L + 1)) = 3 ∧ (∀ k, 0 < k → k < N → RUL (ra u) (u.2 2) (it (ra u) L k) ∧ LKR u (it (ra u) L k)) ∧ a + nL = b + 3 ∧ ∀ j, j + 3 < nL → ra u (L + 2 + j) = v.2 3 (a + j) ∧ u.2 2 (L + 2 + j) = v.2 4 (a + j)
theorem rgn_sq {u v : mS} {L nL N a b a1 b1 N' : Nat} (h : RGN u v L nL N a b a1 b1) (hS : SQ (v.2 3) a b N') : N' + 1 = N ∧ ∀ k, k ≤ N' → it (ra u) L (k + 1) + a = nx (v.2 3) a k + (L + 2) := by
  obtain ⟨h1, h2, h3, h4, hL, h6, hN, k3, h9, h10, h11⟩ := h
  have t1 : tl (ra u) (L + 1) = 1 := tl_eq (TL_atom (by rw [k3]; decide))
  have i1 : it (ra u) L 1 = L + 2 := by
    show L + 1 + tl (ra u) (L + 1) = L + 2
    rw [t1]
  have all : ∀ k, k ≤ N' → it (ra u) L (k + 1) + a = nx (v.2 3) a k + (L + 2) := by
    intro k
    induction k with
    | zero =>
      intro _
      rw [i1]
      show L + 2 + a = a + (L + 2)
      omega
    | succ k ih =>
      intro hk
      have e := ih (by omega)
      obtain ⟨c2, cT⟩ := hS.1 k (by omega)
      have m1 := SQ_mono hS (j := k + 1) (k := N') hk (Nat.le_refl _)
      have m0 := SQ_mono hS (j := 0) (k := k) (by omega) (by omega)
      have n0 : nx (v.2 3) a 0 = a := rfl
      have n1 : nx (v.2 3) a (k + 1) = nx (v.2 3) a k + tl (v.2 3) (nx (v.2 3) a k) := rfl
      have nb := hS.2
      have et : tl (ra u) (it (ra u) L (k + 1)) = tl (v.2 3) (nx (v.2 3) a k) := tl_eq (TL_copy (r := v.2 3) (i := nx (v.2 3) a k) (fun j hj => by
        have := (h11 (nx (v.2 3) a k - a + j) (by omega)).1
        rw [show L + 2 + (nx (v.2 3) a k - a + j) = it (ra u) L (k + 1) + j from by omega, show a + (nx (v.2 3) a k - a + j) = nx (v.2 3) a k + j from by omega] at this
        rw [this]) cT)
      show it (ra u) L (k + 1) + tl (ra u) (it (ra u) L (k + 1)) + a = _
      rw [et, n1]
      omega
  refine ⟨?_, all⟩
  have nb := hS.2
  have le : L + 1 + 1 ≤ it (ra u) L 1 := (LI_at hL (k := 1) (by omega)).1
  have lt1 := (LI_at hL (k := 1) (by omega)).2.1
  have eN := hL.2.2.2
  rcases Nat.lt_trichotomy (N' + 1) N with q | q | q
  · have e := all N' (Nat.le_refl _)
    have mo := LI_mono hL (j := N' + 1) (k := N) (by omega) (Nat.le_refl _)
    omega
  · exact q
  · have e := all (N - 1) (by omega)
    rw [show N - 1 + 1 = N from by omega] at e
    have mo := SQ_mono hS (j := N - 1) (k := N') (by omega) (Nat.le_refl _)
    omega
/-- a rule matches on the one side where it matches on the other -/
theorem rgn_mt {u v : mS} {L nL N a b a1 b1 N' k lA h m : Nat} (hR : RGN u v L nL N a b a1 b1) (hS : SQ (v.2 3) a b N') (hk : k < N') (hT : TL (ra u) lA m) (h2 : ∀ j, j < m → ra u (lA + j) = v.2 1 (h + j)) : MT (ra u) (ra u) (MXX (ra u) (ra u)) 1 (it (ra u) L (k + 1) + 1) lA ↔ MT (v.2 3) (v.2 1) (MXX (v.2 3) (v.2 1)) 1 (nx (v.2 3) a k + 1) h := by
  obtain ⟨eN, all⟩ := rgn_sq hR hS
  obtain ⟨h1, hD, h3, h4, hL, h6, hN, k3, h9, h10, h11⟩ := hR
  have e := all k (by omega)
  have e2 := all (k + 1) (by omega)
  obtain ⟨c2, cT⟩ := hL.2.2.1 (k + 1) (by omega)
  have at1 := LI_at hL (k := k + 1) (by omega)
  have at2 := LI_at hL (k := k + 2) (by omega)
  have e1 : it (ra u) L (k + 2) = it (ra u) L (k + 1) + tl (ra u) (it (ra u) L (k + 1)) := rfl
  have eL := hL.2.2.2
  have mo := LI_mono hL (j := k + 2) (k := N) (by omega) (Nat.le_refl _)
  obtain ⟨-, -, p1, p2, p3, p4⟩ := RUL_pc (h9 (k + 1) (by omega) (by omega)).1 cT hD (by omega) (by omega)
  have c0 := cT.1
  have p3' := p3.1
  have g : ∀ j, j < tl (ra u) (it (ra u) L (k + 1) + 1) → ra u (it (ra u) L (k + 1) + 1 + j) = v.2 3 (nx (v.2 3) a k + 1 + j) := by
    intro j hj
    have m0 := SQ_mono hS (j := 0) (k := k) (by omega) (by omega)
    have n0 : nx (v.2 3) a 0 = a := rfl
    have := (h11 (nx (v.2 3) a k - a + 1 + j) (by omega)).1
    rw [show L + 2 + (nx (v.2 3) a k - a + 1 + j) = it (ra u) L (k + 1) + 1 + j from by omega, show a + (nx (v.2 3) a k - a + 1 + j) = nx (v.2 3) a k + 1 + j from by omega] at this
    exact this
  constructor
  · intro q
    exact MTX_mv (fun j hj => (g j hj).symm) (fun j hj => (h2 j hj).symm) p2 hT q
  · intro q
    exact MTX_mv g h2 (TL_copy (r := ra u) (i := it (ra u) L (k + 1) + 1) (fun j hj => by rw [g j hj]) p2) (TL_copy (r := ra u) (i := lA) (fun j hj => by rw [h2 j hj]) hT) q
