-- 89: the rules of a name are kept where other marks change
theorem US_mk {a u : mS} {p i n N : Nat} (h : US a p i) (r1 : u.2 1 = a.2 1) (r4 : u.2 4 = a.2 4) (hLI : LI (ra a) p n N) (hN : 0 < N) (hm : ∀ x, p ≤ x → x < p + n → u.2 2 x = a.2 2 x) (hi : u.2 2 i = a.2 2 i) : US u p i := by
  have er := ra_fr r1
  have e3 : ∀ v w, VR (ra a) (u.2 2) p v w = VR (ra a) (a.2 2) p v w := by
    intro v w
    have g := sh_VR (r := ra a) (s := a.2 2) (q := ra a) (t := u.2 2) (a := p) (c := p) (L := n) (p := 0) (n := n) (N := N) (fun j hj => ⟨rfl, hm (p + j) (by omega) (by omega)⟩) hLI hN (by omega) v w
    rw [Nat.add_zero] at g
    rcases g with ⟨x, y⟩ | ⟨j, -, -, x, y⟩
    · rw [x, y]
    · rw [x, y]
  unfold US at h ⊢
  rw [er, e3, hi, r4]
  exact h
theorem RGN_mk {u u' v : mS} {L nL N a b a1 b1 : Nat} (h : RGN u v L nL N a b a1 b1) (t1 : u'.1 1 = u.1 1) (r1 : u'.2 1 = u.2 1) (r3 : u'.2 3 = u.2 3) (r4 : u'.2 4 = u.2 4) (hm : ∀ x, L ≤ x → x < L + nL → u'.2 2 x = u.2 2 x) : RGN u' v L nL N a b a1 b1 := by
  obtain ⟨h1, h2, h3, h4, hL, h6, hN, k3, h9, h10, h11⟩ := h
  have er := ra_fr r1
  have hb := AR_b h1
  unfold RGN
  rw [er]
  refine ⟨AR_fr h1 t1 r1 r3, h2, h3, h4, hL, h6, hN, k3, fun k k0 kN => ?_, h10, fun j hj => ?_⟩
  · obtain ⟨g1, g2⟩ := h9 k k0 kN
    obtain ⟨c2, cT⟩ := hL.2.2.1 k (by omega)
    have at1 := LI_at hL (k := k) (by omega)
    have at2 := LI_at hL (k := k + 1) (by omega)
    have e1 : it (ra u) L (k + 1) = it (ra u) L k + tl (ra u) (it (ra u) L k) := rfl
    have R' := sh_RUL (r := ra u) (s := u.2 2) (q := ra u) (t := u'.2 2) (a := it (ra u) L k) (c := it (ra u) L k) (L := tl (ra u) (it (ra u) L k)) (x := 0) (fun j hj => ⟨rfl, hm _ (by omega) (by omega)⟩) g1 cT (by omega) (by omega) (by omega)
    refine ⟨R', fun x x1 x2 => ?_⟩
    rw [er] at x1 x2
    obtain ⟨-, hPAT, p1, p2, p3, p4⟩ := RUL_pc g1 cT h2 (by omega) (by omega)
    have c0 := cT.1
    have p3' := p3.1
    obtain ⟨⟨n', N', hLI, hcn⟩, -⟩ := hPAT
    have en : n' = tl (ra u) (it (ra u) L k + 1) := (tl_eq hLI.2.1).symm
    have N0 : 0 < N' := by
      rcases Nat.eq_zero_or_pos N' with z | z
      · subst z; exact absurd rfl hcn
      · exact z
    exact US_mk (g2 x x1 x2) r1 r4 hLI N0 (fun y y1 y2 => hm y (by omega) (by omega)) (hm x (by omega) (by omega))
  · have := h11 j hj
    rw [hm _ (by omega) (by omega)]
    exact this
