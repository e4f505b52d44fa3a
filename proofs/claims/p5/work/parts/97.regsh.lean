-- 97: a name's rules moved to another place
theorem US_sh {a u : mS} {A0 C0 n x y n' N' : Nat} (hw : ∀ j, j < n → ra u (C0 + j) = ra a (A0 + j) ∧ u.2 2 (C0 + j) = a.2 2 (A0 + j)) (h4 : u.2 4 (C0 + y) = a.2 4 (A0 + y)) (hLI : LI (ra a) (A0 + x) n' N') (hN : 0 < N') (hx : x + n' ≤ n) (hy : y < n) (hA : A0 + n < 2 ^ 31) (hC : C0 + n < 2 ^ 31) (h : US a (A0 + x) (A0 + y)) : US u (C0 + x) (C0 + y) := by
  have l1 := (LI_at hLI (k := 1) (by omega)).2.1
  have i1 : it (ra a) (A0 + x) 1 = A0 + x + 1 + tl (ra a) (A0 + x + 1) := rfl
  rw [i1] at l1
  have hiT : TL (ra a) (A0 + x + 1) (tl (ra a) (A0 + x + 1)) := (hLI.2.2.1 0 hN).2
  have t0 : tl (ra u) (C0 + x) = tl (ra a) (A0 + x) := sh_tl hw hLI.2.1 hx
  have t1 : tl (ra u) (C0 + x + 1) = tl (ra a) (A0 + x + 1) := by
    have := sh_tl hw (x := x + 1) (n := tl (ra a) (A0 + x + 1)) (by rw [← Nat.add_assoc]; exact hiT) (by omega)
    rw [← Nat.add_assoc, ← Nat.add_assoc] at this
    exact this
  obtain ⟨e1, e2⟩ := hw y hy
  have tn := tl_eq hLI.2.1
  have g := sh_VR hw hLI hN hx (ra a (A0 + y)) (a.2 2 (A0 + y))
  unfold US at h ⊢
  rw [e1, e2, h4, t0, t1]
  rcases h with ⟨k3, j, j1, j2, j3, j4, j5⟩ | ⟨h1, h2⟩
  · refine Or.inl ⟨k3, ?_⟩
    rcases g with ⟨g1, g2⟩ | ⟨j', g1, g2, g3, g4⟩
    · rw [j4] at g1
      exact absurd g1 (nI_ng (by omega) (by decide))
    · rw [j4, nI_eq (by omega) (by omega)] at g3
      subst g3
      refine ⟨C0 + j', by omega, by omega, by omega, g4, ?_⟩
      rw [j5, show A0 + y - (A0 + j') = C0 + y - (C0 + j') from by omega]
  · refine Or.inr ⟨fun q => h1 ⟨q.1, fun z => q.2 ?_⟩, h2⟩
    rcases g with ⟨g1, g2⟩ | ⟨j', g1, g2, g3, g4⟩
    · rw [g2]; decide
    · rw [g3] at z
      exact absurd z (nI_pos (by omega))
theorem AR_sh {a u : mS} {A0 C0 n T : Nat} (h : AR a A0 (A0 + n)) (hT : u.1 1 = nI T) (hT1 : C0 + n ≤ T) (hT3 : T ≤ 3000) (hw : ∀ j, j < n → u.2 1 (C0 + j) = a.2 1 (A0 + j) ∧ u.2 3 (C0 + j) = a.2 3 (A0 + j)) : AR u C0 (C0 + n) := by
  refine ⟨⟨T, hT, hT1, hT3⟩, fun i i1 i2 => ?_⟩
  obtain ⟨h1, h2, h3, h4⟩ := h.2 (A0 + (i - C0)) (by omega) (by omega)
  have er : ∀ j, j < n → ra u (C0 + j) = ra a (A0 + j) := fun j hj => by
    show tr (u.2 1 (C0 + j)) = tr (a.2 1 (A0 + j))
    rw [(hw j hj).1]
  obtain ⟨w1, w2⟩ := hw (i - C0) (by omega)
  rw [show C0 + (i - C0) = i from by omega] at w1 w2
  have ei := er (i - C0) (by omega)
  rw [show C0 + (i - C0) = i from by omega] at ei
  have tT : TL (ra u) i (tl (ra a) (A0 + (i - C0))) := TL_copy (r := ra a) (i := A0 + (i - C0)) (fun k hk => by
    have := er (i - C0 + k) (by omega)
    rw [show C0 + (i - C0 + k) = i + k from by omega, show A0 + (i - C0 + k) = A0 + (i - C0) + k from by omega] at this
    rw [this]) h2
  rw [tl_eq tT, w1, w2, ei]
  exact ⟨h1, tT, by omega, h4⟩
theorem RGN_sh {u u' v v' : mS} {L nL N a b L' a' T : Nat} (h : RGN u v L nL N a b L (L + nL)) (hT : u'.1 1 = nI T) (hT1 : L' + nL ≤ T) (hT3 : T ≤ 3000) (hw : ∀ j, j < nL → u'.2 1 (L' + j) = u.2 1 (L + j) ∧ u'.2 2 (L' + j) = u.2 2 (L + j) ∧ u'.2 3 (L' + j) = u.2 3 (L + j) ∧ u'.2 4 (L' + j) = u.2 4 (L + j)) (hk : ∀ j, a + j < b → v'.2 3 (a' + j) = v.2 3 (a + j) ∧ v'.2 4 (a' + j) = v.2 4 (a + j)) : RGN u' v' L' nL N a' (a' + (b - a)) L' (L' + nL) := by
  obtain ⟨h1, h2, h3, h4, hL, h6, hN, k3, h9, h10, h11⟩ := h
  have hb1 := AR_b h1
  have er : ∀ j, j < nL → ra u' (L' + j) = ra u (L + j) := fun j hj => by
    show tr (u'.2 1 (L' + j)) = tr (u.2 1 (L + j))
    rw [(hw j hj).1]
  have hA : ∀ j, j < nL → ra u' (L' + j) = ra u (L + j) ∧ u'.2 2 (L' + j) = u.2 2 (L + j) := fun j hj => ⟨er j hj, (hw j hj).2.1⟩
  have l1 := (LI_at hL (k := 1) (by omega))
  have hL' := sh_LI hA (x := 0) hL (by omega)
  have hit := sh_it hA (x := 0) hL (by omega)
  have hcn := (sh_cn hA (x := 0) hL (by omega) N (Nat.le_refl _)).2
  rw [Nat.add_zero] at hL' hcn
  have t1 : tl (ra u) (L + 1) = 1 := tl_eq (TL_atom (by rw [k3]; decide))
  have i1 : it (ra u) L 1 = L + 2 := by
    show L + 1 + tl (ra u) (L + 1) = L + 2
    rw [t1]
  have iN := LI_mono hL (j := 1) (k := N) (by omega) (Nat.le_refl _)
  have eN := hL.2.2.2
  refine ⟨AR_sh h1 hT hT1 hT3 (fun j hj => ⟨(hw j hj).1, (hw j hj).2.2.1⟩), fun i i1 i2 i6 => ?_, Nat.le_refl _, Nat.le_refl _, hL', by rw [hcn]; exact h6, hN, by rw [er 1 (by omega)]; exact k3, fun k k0 kN => ?_, by omega, fun j hj => ?_⟩
  · have e1 := er (i - L') (by omega)
    rw [show L' + (i - L') = i from by omega] at e1
    rw [e1] at i6
    obtain ⟨d1, d2, d3⟩ := h2 (L + (i - L')) (by omega) (by omega) i6
    have e2 := er (i - L' - 1) (by omega)
    rw [show L' + (i - L' - 1) = i - 1 from by omega, show L + (i - L' - 1) = L + (i - L') - 1 from by omega] at e2
    rw [e2]
    exact ⟨by omega, d2, d3⟩
  · obtain ⟨g1, g2⟩ := h9 k k0 kN
    have ei : it (ra u') L' k + L = it (ra u) L k + L' := by
      have := hit k (by omega)
      rw [Nat.add_zero, Nat.add_zero] at this
      exact this
    obtain ⟨c2, cT⟩ := hL.2.2.1 k (by omega)
    have at1 := LI_at hL (k := k) (by omega)
    have at2 := LI_at hL (k := k + 1) (by omega)
    have e1 : it (ra u) L (k + 1) = it (ra u) L k + tl (ra u) (it (ra u) L k) := rfl
    obtain ⟨x, ex⟩ : ∃ x, x = it (ra u) L k - L := ⟨_, rfl⟩
    have ex1 : it (ra u) L k = L + x := by omega
    have ex2 : it (ra u') L' k = L' + x := by omega
    rw [ex1] at g1 g2 cT at1 e1
    rw [ex2]
    have R' := sh_RUL hA (x := x) g1 cT (by omega) (by omega) (by omega)
    refine ⟨R', fun y y1 y2 => ?_⟩
    obtain ⟨-, hPAT, p1, p2, p3, p4⟩ := RUL_pc g1 cT h2 (by omega) (by omega)
    have c0 := cT.1
    have p3' := p3.1
    have p2' := p2.1
    have t1 : tl (ra u') (L' + x + 1) = tl (ra u) (L + x + 1) := by
      have := sh_tl hA (x := x + 1) (n := tl (ra u) (L + x + 1)) (by rw [← Nat.add_assoc]; exact p2) (by omega)
      rw [← Nat.add_assoc, ← Nat.add_assoc] at this
      exact this
    rw [t1] at y1 y2
    have t2 : tl (ra u') (L' + x + 1 + tl (ra u) (L + x + 1)) = tl (ra u) (L + x + 1 + tl (ra u) (L + x + 1)) := by
      have := sh_tl hA (x := x + 1 + tl (ra u) (L + x + 1)) (n := tl (ra u) (L + x + 1 + tl (ra u) (L + x + 1))) (by rw [show L + (x + 1 + tl (ra u) (L + x + 1)) = L + x + 1 + tl (ra u) (L + x + 1) from by omega]; exact p3) (by omega)
      rw [show L' + (x + 1 + tl (ra u) (L + x + 1)) = L' + x + 1 + tl (ra u) (L + x + 1) from by omega, show L + (x + 1 + tl (ra u) (L + x + 1)) = L + x + 1 + tl (ra u) (L + x + 1) from by omega] at this
      exact this
    rw [t2] at y2
    obtain ⟨⟨n', N', hLI, hcn'⟩, -⟩ := hPAT
    have en : n' = tl (ra u) (L + x + 1) := (tl_eq hLI.2.1).symm
    have N0 : 0 < N' := by
      rcases Nat.eq_zero_or_pos N' with z | z
      · subst z; exact absurd rfl hcn'
      · exact z
    have g := g2 (L + (y - L')) (by omega) (by omega)
    have := US_sh (a := u) (u := u') (A0 := L) (C0 := L') (n := nL) (x := x + 1) (y := y - L') hA (hw (y - L') (by omega)).2.2.2 (by rw [← Nat.add_assoc]; exact hLI) N0 (by omega) (by omega) (by omega) (by omega) (by rw [← Nat.add_assoc]; exact g)
    rw [show L' + (y - L') = y from by omega, ← Nat.add_assoc] at this
    exact this
  · have := h11 j hj
    obtain ⟨w1, w2, -, -⟩ := hw (2 + j) (by omega)
    have e1 := er (2 + j) (by omega)
    rw [show L' + (2 + j) = L' + 2 + j from by omega, show L + (2 + j) = L + 2 + j from by omega] at e1 w2
    obtain ⟨k1, k2⟩ := hk j (by omega)
    rw [e1, w2, k1, k2]
    exact this
/-- the rules of own name k -/
def OWK (u v : mS) (k : Nat) : Prop := u.2 6 (8 + k) = 0 ∧ u.2 7 (8 + k) = 6 ∧ u.2 8 (8 + k) = nI (120 * k) ∧ ∃ nL N e, v.2 6 k = nI e ∧ nL ≤ 120 ∧ RGN (mSet u 1 480) v (120 * k) nL N (120 * k) e (120 * k) (120 * k + nL) ∧ ∀ j, 120 * k ≤ j → j < e → v.2 4 j = 0
theorem OWK_sm {u v u' v' : mS} {k : Nat} (h : OWK u v k) (k4 : k < 4) (h6 : u'.2 6 (8 + k) = u.2 6 (8 + k)) (h7 : u'.2 7 (8 + k) = u.2 7 (8 + k)) (h8 : u'.2 8 (8 + k) = u.2 8 (8 + k)) (hv : v'.2 6 k = v.2 6 k) (hw : ∀ x, 120 * k ≤ x → x < 120 * k + 120 → u'.2 1 x = u.2 1 x ∧ u'.2 2 x = u.2 2 x ∧ u'.2 3 x = u.2 3 x ∧ u'.2 4 x = u.2 4 x) (hk : ∀ j, 120 * k ≤ j → j < 120 * k + 120 → v'.2 3 j = v.2 3 j ∧ v'.2 4 j = v.2 4 j) : OWK u' v' k := by
  obtain ⟨a1, a2, a3, nL, N, e, b1, b2, b3, b4⟩ := h
  have e10 := b3.2.2.2.2.2.2.2.2.2.1
  refine ⟨by rw [h6]; exact a1, by rw [h7]; exact a2, by rw [h8]; exact a3, nL, N, e, by rw [hv]; exact b1, b2, ?_, fun j j1 j2 => by rw [(hk j j1 (by omega)).2]; exact b4 j j1 j2⟩
  have := RGN_sh (u' := mSet u' 1 480) (v' := v') (L' := 120 * k) (a' := 120 * k) (T := 480) b3 (mSet_same _ _ _) (by omega) (by omega) (fun j hj => hw _ (by omega) (by omega)) (fun j hj => hk _ (by omega) (by omega))
  by_cases z : 120 * k ≤ e
  · rw [show 120 * k + (e - 120 * k) = e from by omega] at this
    exact this
  · -- a list has at least three tokens
    have l1 := (LI_at b3.2.2.2.2.1 (k := 1) (by have := b3.2.2.2.2.2.2.1; omega))
    have i1 : it (ra (mSet u 1 480)) (120 * k) 1 = 120 * k + 1 + tl (ra (mSet u 1 480)) (120 * k + 1) := rfl
    have t1 : tl (ra (mSet u 1 480)) (120 * k + 1) = 1 := tl_eq (TL_atom (by rw [b3.2.2.2.2.2.2.2.1]; decide))
    rw [t1] at i1
    omega
