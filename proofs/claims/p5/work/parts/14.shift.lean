-- 14: what is said of a row of tokens holds of a copy of it, wherever that stands
section SH
variable {r s q t : Nat → Int32} {a c L : Nat}
theorem sh_TL (hA : ∀ j, j < L → q (c + j) = r (a + j) ∧ t (c + j) = s (a + j)) {x n : Nat} (h : TL r (a + x) n) (hx : x + n ≤ L) : TL q (c + x) n := by
  refine TL_copy (fun k hk => ?_) h
  rw [show c + x + k = c + (x + k) from by omega, show a + x + k = a + (x + k) from by omega, (hA (x + k) (by omega)).1]
theorem sh_tl (hA : ∀ j, j < L → q (c + j) = r (a + j) ∧ t (c + j) = s (a + j)) {x n : Nat} (h : TL r (a + x) n) (hx : x + n ≤ L) : tl q (c + x) = tl r (a + x) := by
  rw [tl_eq (sh_TL hA h hx), tl_eq h]
theorem sh_it (hA : ∀ j, j < L → q (c + j) = r (a + j) ∧ t (c + j) = s (a + j)) {x n N : Nat} (h : LI r (a + x) n N) (hx : x + n ≤ L) : ∀ k, k ≤ N → it q (c + x) k + a = it r (a + x) k + c := by
  intro k
  induction k with
  | zero => intro _; show c + x + 1 + a = a + x + 1 + c; omega
  | succ k ih =>
    intro hk
    have e := ih (by omega)
    have b := LI_at h (k := k) (by omega)
    have b2 := LI_at h (k := k + 1) (by omega)
    have T := (h.2.2.1 k (by omega)).2
    have e1 : it r (a + x) k = a + (it r (a + x) k - a) := by omega
    have e2 : it q (c + x) k = c + (it r (a + x) k - a) := by omega
    have b3 : it r (a + x) k + tl r (it r (a + x) k) < a + x + n := b2.2.1
    have E : tl q (it q (c + x) k) = tl r (it r (a + x) k) := by
      rw [e2]
      have T' : TL r (a + (it r (a + x) k - a)) (tl r (it r (a + x) k)) := by rw [← e1]; exact T
      rw [sh_tl hA T' (by omega), ← e1]
    show it q (c + x) k + tl q (it q (c + x) k) + a = it r (a + x) k + tl r (it r (a + x) k) + c
    omega
theorem sh_kd (hA : ∀ j, j < L → q (c + j) = r (a + j) ∧ t (c + j) = s (a + j)) {i j : Nat} (h : j + a = i + c) (ha : a ≤ i) (hl : i < a + L) : q j = r i ∧ t j = s i := by
  have := hA (i - a) (by omega)
  rw [show c + (i - a) = j from by omega, show a + (i - a) = i from by omega] at this
  exact this
theorem sh_LI (hA : ∀ j, j < L → q (c + j) = r (a + j) ∧ t (c + j) = s (a + j)) {x n N : Nat} (h : LI r (a + x) n N) (hx : x + n ≤ L) : LI q (c + x) n N := by
  have I := sh_it hA h hx
  have n0 := h.2.1.1
  refine ⟨?_, sh_TL hA h.2.1 hx, fun k hk => ?_, ?_⟩
  · rw [(hA x (by omega)).1]; exact h.1
  · have b := LI_at h (k := k) (by omega)
    have b2 := LI_at h (k := k + 1) (by omega)
    obtain ⟨h2, T⟩ := h.2.2.1 k hk
    have e := I k (by omega)
    have e1 : it r (a + x) k = a + (it r (a + x) k - a) := by omega
    have e2 : it q (c + x) k = c + (it r (a + x) k - a) := by omega
    have b3 : it r (a + x) k + tl r (it r (a + x) k) < a + x + n := b2.2.1
    have T' : TL r (a + (it r (a + x) k - a)) (tl r (it r (a + x) k)) := by rw [← e1]; exact T
    refine ⟨?_, ?_⟩
    · rw [(sh_kd hA e (by omega) (by omega)).1]; exact h2
    · have := sh_TL hA T' (by omega)
      rw [← e2] at this
      rw [tl_eq this]; exact this
  · have e := I N (Nat.le_refl N)
    have := h.2.2.2
    omega
theorem sh_cn (hA : ∀ j, j < L → q (c + j) = r (a + j) ∧ t (c + j) = s (a + j)) {x n N : Nat} (h : LI r (a + x) n N) (hx : x + n ≤ L) : ∀ k, k ≤ N → cn q (c + x) k = cn r (a + x) k ∧ dn q (c + x) k = dn r (a + x) k := by
  intro k
  induction k with
  | zero => intro _; exact ⟨rfl, rfl⟩
  | succ k ih =>
    intro hk
    have e := sh_it hA h hx k (by omega)
    have b := LI_at h (k := k) (by omega)
    have E := (sh_kd hA e (by omega) (by omega)).1
    obtain ⟨i1, i2⟩ := ih (by omega)
    show cn q (c + x) k + (if kd (q (it q (c + x) k)) = 6 then 0 else 1) = cn r (a + x) k + (if kd (r (it r (a + x) k)) = 6 then 0 else 1) ∧ dn q (c + x) k + (if kd (q (it q (c + x) k)) = 6 then 1 else 0) = dn r (a + x) k + (if kd (r (it r (a + x) k)) = 6 then 1 else 0)
    rw [E, i1, i2]; exact ⟨rfl, rfl⟩
theorem sh_hb1 (hA : ∀ j, j < L → q (c + j) = r (a + j) ∧ t (c + j) = s (a + j)) {b y i : Nat} (hb : b ≤ L) (hi : i < L) (hT : ¬ kd (r (a + i)) = 2 → ¬ kd (r (a + i)) = 6 → TL r (a + i) (tl r (a + i)) ∧ i + tl r (a + i) ≤ L) : hb1 q (c + b) (c + y) (c + i) = hb1 r (a + b) (a + y) (a + i) := by
  unfold hb1
  rw [(hA i hi).1]
  by_cases h2 : kd (r (a + i)) = 2
  · rw [if_neg (fun z => z.1 h2), if_neg (fun z => z.1 h2)]
  · by_cases h6 : kd (r (a + i)) = 6
    · rw [if_neg (fun z => z.2.1 h6), if_neg (fun z => z.2.1 h6)]
    · obtain ⟨T, hl⟩ := hT h2 h6
      rw [sh_tl hA T hl]
      by_cases hlt : i + tl r (a + i) < b
      · have E : q (c + i + tl r (a + i)) = r (a + i + tl r (a + i)) := by
          have := (hA (i + tl r (a + i)) (by omega)).1
          rw [← Nat.add_assoc, ← Nat.add_assoc] at this
          exact this
        rw [E]
        by_cases hy : y < i + tl r (a + i)
        · by_cases hk : kd (r (a + i + tl r (a + i))) = 6
          · rw [if_pos ⟨h2, h6, by omega, by omega, hk⟩, if_pos ⟨h2, h6, by omega, by omega, hk⟩]
          · rw [if_neg (fun z => hk z.2.2.2.2), if_neg (fun z => hk z.2.2.2.2)]
        · rw [if_neg (fun z => hy (by have := z.2.2.2.1; omega)), if_neg (fun z => hy (by have := z.2.2.2.1; omega))]
      · rw [if_neg (fun z => hlt (by have := z.2.2.1; omega)), if_neg (fun z => hlt (by have := z.2.2.1; omega))]
theorem sh_HB (hA : ∀ j, j < L → q (c + j) = r (a + j) ∧ t (c + j) = s (a + j)) {x b y : Nat} (hb : b ≤ L) (hy : y < L) (hT : ∀ i, x ≤ i → i ≤ y → ¬ kd (r (a + i)) = 2 → ¬ kd (r (a + i)) = 6 → TL r (a + i) (tl r (a + i)) ∧ i + tl r (a + i) ≤ L) : HB q (c + x) (c + b) (c + y) = HB r (a + x) (a + b) (a + y) := by
  have key : ∀ k, x + k ≤ y + 1 → hbS q (c + b) (c + y) (c + x) k = hbS r (a + b) (a + y) (a + x) k := by
    intro k
    induction k with
    | zero => intro _; rfl
    | succ k ih =>
      intro hk
      show hbS q (c + b) (c + y) (c + x) k + hb1 q (c + b) (c + y) (c + x + k) = hbS r (a + b) (a + y) (a + x) k + hb1 r (a + b) (a + y) (a + x + k)
      rw [ih (by omega), show c + x + k = c + (x + k) from by omega, show a + x + k = a + (x + k) from by omega, sh_hb1 hA hb (by omega) (hT (x + k) (by omega) (by omega))]
  unfold HB
  rw [show c + y + 1 - (c + x) = y + 1 - x from by omega, show a + y + 1 - (a + x) = y + 1 - x from by omega]
  rcases Nat.lt_or_ge (y + 1) x with g | g
  · rw [show y + 1 - x = 0 from by omega]; rfl
  · exact key _ (by omega)
theorem sh_vrF (hA : ∀ j, j < L → q (c + j) = r (a + j) ∧ t (c + j) = s (a + j)) (v w : Int32) : ∀ (n x : Nat), x + n ≤ L → (vrF r s v w n (a + x) = -1 ∧ vrF q t v w n (c + x) = -1) ∨ ∃ j, x ≤ j ∧ j < x + n ∧ vrF r s v w n (a + x) = nI (a + j) ∧ vrF q t v w n (c + x) = nI (c + j) := by
  intro n
  induction n with
  | zero => intro x _; exact Or.inl ⟨rfl, rfl⟩
  | succ n ih =>
    intro x hx
    show ((if r (a + x) = v ∧ s (a + x) = w then nI (a + x) else vrF r s v w n (a + x + 1)) = -1 ∧ (if q (c + x) = v ∧ t (c + x) = w then nI (c + x) else vrF q t v w n (c + x + 1)) = -1) ∨ ∃ j, x ≤ j ∧ j < x + (n + 1) ∧ (if r (a + x) = v ∧ s (a + x) = w then nI (a + x) else vrF r s v w n (a + x + 1)) = nI (a + j) ∧ (if q (c + x) = v ∧ t (c + x) = w then nI (c + x) else vrF q t v w n (c + x + 1)) = nI (c + j)
    rw [(hA x (by omega)).1, (hA x (by omega)).2]
    by_cases h : r (a + x) = v ∧ s (a + x) = w
    · rw [if_pos h, if_pos h]; exact Or.inr ⟨x, by omega, by omega, rfl, rfl⟩
    · rw [if_neg h, if_neg h]
      rcases ih (x + 1) (by omega) with g | ⟨j, g1, g2, g3⟩
      · exact Or.inl g
      · exact Or.inr ⟨j, by omega, by omega, g3⟩
theorem sh_VR (hA : ∀ j, j < L → q (c + j) = r (a + j) ∧ t (c + j) = s (a + j)) {p n N : Nat} (h : LI r (a + p) n N) (hN : 0 < N) (hp : p + n ≤ L) (v w : Int32) : (VR r s (a + p) v w = -1 ∧ VR q t (c + p) v w = -1) ∨ ∃ j, p < j ∧ j < p + n - 1 ∧ VR r s (a + p) v w = nI (a + j) ∧ VR q t (c + p) v w = nI (c + j) := by
  have hb1 : it r (a + p) 1 < a + p + n := (LI_at h (k := 1) (by omega)).2.1
  have hb1 : a + p + 1 + tl r (a + p + 1) < a + p + n := hb1
  have T1 : TL r (a + p + 1) (tl r (a + p + 1)) := (h.2.2.1 0 hN).2
  have e1 := tl_eq h.2.1
  have e2 := sh_tl hA h.2.1 hp
  have e3 : tl q (c + p + 1) = tl r (a + p + 1) := sh_tl hA (x := p + 1) (n := tl r (a + p + 1)) T1 (by omega)
  unfold VR
  rw [e2, e3, e1]
  rw [show a + p + n - 1 - (a + p + 1 + tl r (a + p + 1)) = p + n - 1 - (p + 1 + tl r (a + p + 1)) from by omega, show c + p + n - 1 - (c + p + 1 + tl r (a + p + 1)) = p + n - 1 - (p + 1 + tl r (a + p + 1)) from by omega, show a + p + 1 + tl r (a + p + 1) = a + (p + 1 + tl r (a + p + 1)) from by omega, show c + p + 1 + tl r (a + p + 1) = c + (p + 1 + tl r (a + p + 1)) from by omega]
  rcases sh_vrF hA v w (p + n - 1 - (p + 1 + tl r (a + p + 1))) (p + 1 + tl r (a + p + 1)) (by omega) with g | ⟨j, g1, g2, g3⟩
  · exact Or.inl g
  · exact Or.inr ⟨j, by omega, by omega, g3⟩
theorem sh_usF (hA : ∀ j, j < L → q (c + j) = r (a + j) ∧ t (c + j) = s (a + j)) {p n N : Nat} (h : LI r (a + p) n N) (hN : 0 < N) (hp : p + n ≤ L) (ha : a + L < 2 ^ 31) (hc : c + L < 2 ^ 31) : ∀ (m i : Nat), i + m ≤ L → usF q t (c + p) m (c + i) = usF r s (a + p) m (a + i) := by
  intro m
  induction m with
  | zero => intro i _; rfl
  | succ m ih =>
    intro i hi
    have E : (VR q t (c + p) (r (a + i)) (s (a + i)) < 0) ↔ (VR r s (a + p) (r (a + i)) (s (a + i)) < 0) := by
      rcases sh_VR hA h hN hp (r (a + i)) (s (a + i)) with ⟨g1, g2⟩ | ⟨j, g1, g2, g3, g4⟩
      · rw [g1, g2]
      · rw [g3, g4]
        exact ⟨fun z => absurd z (nI_pos (by omega)), fun z => absurd z (nI_pos (by omega))⟩
    show (if kd (q (c + i)) = 3 ∧ ¬ VR q t (c + p) (q (c + i)) (t (c + i)) < 0 then 1 else 0) + usF q t (c + p) m (c + i + 1) = (if kd (r (a + i)) = 3 ∧ ¬ VR r s (a + p) (r (a + i)) (s (a + i)) < 0 then 1 else 0) + usF r s (a + p) m (a + i + 1)
    have ih' : usF q t (c + p) m (c + i + 1) = usF r s (a + p) m (a + i + 1) := ih (i + 1) (by omega)
    rw [(hA i (by omega)).1, (hA i (by omega)).2, ih']
    by_cases z : kd (r (a + i)) = 3 ∧ ¬ VR r s (a + p) (r (a + i)) (s (a + i)) < 0
    · rw [if_pos z, if_pos ⟨z.1, fun y => z.2 (E.mp y)⟩]
    · rw [if_neg z, if_neg (fun y => z ⟨y.1, fun x => y.2 (E.mpr x)⟩)]
theorem sh_PAT (hA : ∀ j, j < L → q (c + j) = r (a + j) ∧ t (c + j) = s (a + j)) {p n : Nat} (h : PAT r s (a + p)) (hT : TL r (a + p) n) (hp : p + n ≤ L) (ha : a + L < 2 ^ 31) (hc : c + L < 2 ^ 31) : PAT q t (c + p) := by
  obtain ⟨⟨n', N, hL, hcn⟩, h6, hall⟩ := h
  have en := TL_uniq hL.2.1 hT
  subst en
  have hN : 0 < N := by have := cn_le r (a + p) N; omega
  have hb1 : it r (a + p) 1 < a + p + n' := (LI_at hL (k := 1) (by omega)).2.1
  have hb1 : a + p + 1 + tl r (a + p + 1) < a + p + n' := hb1
  have T1 : TL r (a + p + 1) (tl r (a + p + 1)) := (hL.2.2.1 0 hN).2
  have e1 := tl_eq hL.2.1
  have e2 := sh_tl hA hL.2.1 hp
  have e3 : tl q (c + p + 1) = tl r (a + p + 1) := sh_tl hA (x := p + 1) (n := tl r (a + p + 1)) T1 (by omega)
  refine ⟨⟨n', N, sh_LI hA hL hp, ?_⟩, ?_, ?_⟩
  · rw [(sh_cn hA hL hp N (Nat.le_refl N)).1]; exact hcn
  · rw [e3]
    have := (hA (p + 1 + tl r (a + p + 1)) (by omega)).1
    rw [show c + p + 1 + tl r (a + p + 1) = c + (p + 1 + tl r (a + p + 1)) from by omega, this, show a + (p + 1 + tl r (a + p + 1)) = a + p + 1 + tl r (a + p + 1) from by omega]
    exact h6
  · intro i hi1 hi2
    rw [e3] at hi1
    rw [e2, e1] at hi2
    have E : i = c + (i - c) := by omega
    obtain ⟨g1, g2, g3⟩ := hall (a + (i - c)) (by omega) (by rw [e1]; omega)
    have k0 := (hA (i - c) (by omega)).1
    have k1 := (hA (i - c) (by omega)).2
    rw [← E] at k0 k1
    have k2 := (hA (i - c + 1) (by omega)).1
    rw [show c + (i - c + 1) = i + 1 from by omega, show a + (i - c + 1) = a + (i - c) + 1 from by omega] at k2
    refine ⟨fun z => ?_, fun z1 z2 => ?_, fun z => ?_⟩
    · rw [k2]; rw [k0] at z; exact g1 z
    · rw [k0] at z1 z2
      have := g2 z1 z2
      rw [e2]
      have H := sh_HB hA (x := p + 1) (b := p + n' - 1) (y := i - c) (by omega) (by omega) (fun j hj1 hj2 hj3 hj4 => by
        obtain ⟨b1, b2⟩ := inTree hL.1 hL.2.1 (j := a + j) (by omega) (by omega) hj3
        exact ⟨b1, by omega⟩)
      rw [show c + (p + 1) = c + p + 1 from by omega, show c + (p + n' - 1) = c + p + n' - 1 from by omega, ← E, show a + (p + 1) = a + p + 1 from by omega, show a + (p + n' - 1) = a + p + n' - 1 from by omega] at H
      rw [e1] at this ⊢
      rw [H]; exact this
    · rw [k0] at z
      have := g3 z
      rw [k0, k1]
      rcases sh_VR hA hL hN hp (r (a + (i - c))) (s (a + (i - c))) with ⟨f1, f2⟩ | ⟨j, f1, f2, f3, f4⟩
      · rw [this] at f1
        have : ¬ nI (a + (i - c)) < 0 := nI_pos (by omega)
        rw [f1] at this
        exact absurd (by decide) this
      · rw [this] at f3
        have ej := (nI_eq (by omega) (by omega)).mp f3
        rw [f4, show c + j = i from by omega]
theorem sh_TEM (hA : ∀ j, j < L → q (c + j) = r (a + j) ∧ t (c + j) = s (a + j)) {p n N x m : Nat} (h : TEM r s (a + p) (a + x)) (hL : LI r (a + p) n N) (hN : 0 < N) (hp : p + n ≤ L) (hT : TL r (a + x) m) (hx : x + m ≤ L) (ha : a + L < 2 ^ 31) (hc : c + L < 2 ^ 31) : TEM q t (c + p) (c + x) := by
  obtain ⟨h1, h2⟩ := h
  have e1 := tl_eq hL.2.1
  have e2 := sh_tl hA hL.2.1 hp
  have e3 := tl_eq hT
  have e4 := sh_tl hA hT hx
  refine ⟨fun i hi1 hi2 hk hv => ?_, fun i hi1 hi2 hk2 hk6 hlt hd => ?_⟩
  · rw [e4, e3] at hi2
    have E : i = c + (i - c) := by omega
    have k0 := (hA (i - c) (by omega)).1
    have k1 := (hA (i - c) (by omega)).2
    rw [← E] at k0 k1
    rw [k0] at hk
    rw [k0, k1] at hv ⊢
    rcases sh_VR hA hL hN hp (r (a + (i - c))) (s (a + (i - c))) with ⟨f1, f2⟩ | ⟨j, f1, f2, f3, f4⟩
    · rw [f2] at hv; exact absurd (by decide) hv
    · have g := h1 (a + (i - c)) (by omega) (by rw [e3]; omega) hk (by rw [f3]; exact nI_pos (by omega))
      rw [f4, nI_clamp (by omega), e4, e2]
      rw [f3, nI_clamp (by omega)] at g
      have H1 := sh_HB hA (x := x) (b := x + m) (y := i - c) (by omega) (by omega) (fun j hj1 hj2 hj3 hj4 => by
        obtain ⟨b1, b2⟩ := inTree0 hT (j := a + j) (by omega) (by omega) hj3
        exact ⟨b1, by omega⟩)
      have H2 := sh_HB hA (x := p + 1) (b := p + n - 1) (y := j) (by omega) (by omega) (fun j2 hj1 hj2 hj3 hj4 => by
        obtain ⟨b1, b2⟩ := inTree hL.1 hL.2.1 (j := a + j2) (by omega) (by omega) hj3
        exact ⟨b1, by omega⟩)
      rw [e3, e1] at g ⊢
      rw [show c + (x + m) = c + x + m from by omega, ← E, show a + (x + m) = a + x + m from by omega] at H1
      rw [show c + (p + 1) = c + p + 1 from by omega, show c + (p + n - 1) = c + p + n - 1 from by omega, show a + (p + 1) = a + p + 1 from by omega, show a + (p + n - 1) = a + p + n - 1 from by omega] at H2
      rw [H1, H2]; exact g
  · rw [e4, e3] at hi2 hlt
    have E : i = c + (i - c) := by omega
    have k0 := (hA (i - c) (by omega)).1
    rw [← E] at k0
    rw [k0] at hk2 hk6
    obtain ⟨b1, b2⟩ := inTree0 hT (j := a + (i - c)) (by omega) (by omega) hk2
    have et : tl q i = tl r (a + (i - c)) := by
      have := sh_tl hA b1 (by omega)
      rwa [← E] at this
    rw [et] at hlt hd ⊢
    have k3 := (hA (i - c + tl r (a + (i - c))) (by omega)).1
    rw [show c + (i - c + tl r (a + (i - c))) = i + tl r (a + (i - c)) from by omega, show a + (i - c + tl r (a + (i - c))) = a + (i - c) + tl r (a + (i - c)) from by omega] at k3
    rw [k3] at hd
    have g := h2 (a + (i - c)) (by omega) (by rw [e3]; omega) hk2 hk6 (by rw [e3]; omega) hd
    have U := sh_usF hA hL hN hp ha hc (tl r (a + (i - c))) (i - c) (by omega)
    rw [← E] at U
    rw [U]; exact g
theorem sh_RUL (hA : ∀ j, j < L → q (c + j) = r (a + j) ∧ t (c + j) = s (a + j)) {x n : Nat} (h : RUL r s (a + x)) (hT : TL r (a + x) n) (hx : x + n ≤ L) (ha : a + L < 2 ^ 31) (hc : c + L < 2 ^ 31) : RUL q t (c + x) := by
  obtain ⟨h6, ⟨n', hL, hd⟩, hP, hM⟩ := h
  have en := TL_uniq hL.2.1 hT
  subst en
  have n0 := hT.1
  have T1 : TL r (a + x + 1) (tl r (a + x + 1)) := (hL.2.2.1 0 (by omega)).2
  have T2 : TL r (a + x + 1 + tl r (a + x + 1)) (tl r (a + x + 1 + tl r (a + x + 1))) := (hL.2.2.1 1 (by omega)).2
  have b2 : it r (a + x) 2 < a + x + n' := (LI_at hL (k := 2) (by omega)).2.1
  have b2 : a + x + 1 + tl r (a + x + 1) + tl r (a + x + 1 + tl r (a + x + 1)) < a + x + n' := b2
  have e3 : tl q (c + x + 1) = tl r (a + x + 1) := sh_tl hA (x := x + 1) (n := tl r (a + x + 1)) T1 (by omega)
  obtain ⟨⟨m, N, hLp, hcn⟩, -⟩ := id hP
  have em := TL_uniq hLp.2.1 T1
  have hN : 0 < N := by have := cn_le r (a + x + 1) N; omega
  refine ⟨?_, ⟨n', sh_LI hA hL hx, ?_⟩, ?_, ?_⟩
  · rw [(hA x (by omega)).1]; exact h6
  · rw [(sh_cn hA hL hx 2 (Nat.le_refl 2)).2]; exact hd
  · exact sh_PAT hA (p := x + 1) (n := tl r (a + x + 1)) hP T1 (by omega) ha hc
  · rw [e3]
    have := sh_TEM hA (p := x + 1) (x := x + 1 + tl r (a + x + 1)) (m := tl r (a + x + 1 + tl r (a + x + 1))) (n := m) (N := N) (by rw [show a + (x + 1 + tl r (a + x + 1)) = a + x + 1 + tl r (a + x + 1) from by omega]; exact hM) hLp hN (by omega) (by rw [show a + (x + 1 + tl r (a + x + 1)) = a + x + 1 + tl r (a + x + 1) from by omega]; exact T2) (by omega) ha hc
    rw [show c + (x + 1 + tl r (a + x + 1)) = c + x + 1 + tl r (a + x + 1) from by omega] at this
    exact this
theorem sh_SQ (hA : ∀ j, j < L → q (c + j) = r (a + j) ∧ t (c + j) = s (a + j)) {N : Nat} (h : SQ r a (a + L) N) : SQ q c (c + L) N ∧ ∀ k, k ≤ N → nx q c k + a = nx r a k + c := by
  have key : ∀ k, k ≤ N → nx q c k + a = nx r a k + c := by
    intro k
    induction k with
    | zero => intro _; show c + a = a + c; omega
    | succ k ih =>
      intro hk
      have e := ih (by omega)
      have m1 := SQ_mono h (j := 0) (k := k) (by omega) (by omega)
      have m1 : a + (k - 0) ≤ nx r a k := m1
      have m2 := SQ_mono h (j := k + 1) (k := N) hk (Nat.le_refl N)
      have hN := h.2
      have T := (h.1 k (by omega)).2
      have e1 : nx r a k = a + (nx r a k - a) := by omega
      have e2 : nx q c k = c + (nx r a k - a) := by omega
      have b3 : nx r a (k + 1) = nx r a k + tl r (nx r a k) := rfl
      have E : tl q (nx q c k) = tl r (nx r a k) := by
        rw [e2]
        have T' : TL r (a + (nx r a k - a)) (tl r (nx r a k)) := by rw [← e1]; exact T
        rw [sh_tl hA T' (by omega), ← e1]
      show nx q c k + tl q (nx q c k) + a = nx r a k + tl r (nx r a k) + c
      omega
  refine ⟨⟨fun k hk => ?_, ?_⟩, key⟩
  · have e := key k (by omega)
    have m1 := SQ_mono h (j := 0) (k := k) (by omega) (by omega)
    have m1 : a + (k - 0) ≤ nx r a k := m1
    have m2 := SQ_mono h (j := k + 1) (k := N) hk (Nat.le_refl N)
    have hN := h.2
    obtain ⟨h2, T⟩ := h.1 k hk
    have T0 := T.1
    have e1 : nx r a k = a + (nx r a k - a) := by omega
    have e2 : nx q c k = c + (nx r a k - a) := by omega
    have b3 : nx r a (k + 1) = nx r a k + tl r (nx r a k) := rfl
    have T' : TL r (a + (nx r a k - a)) (tl r (nx r a k)) := by rw [← e1]; exact T
    refine ⟨?_, ?_⟩
    · rw [(sh_kd hA e (by omega) (by omega)).1]; exact h2
    · have := sh_TL hA T' (by omega)
      rw [← e2] at this
      rw [tl_eq this]; exact this
  · have e := key N (Nat.le_refl N)
    have := h.2
    omega
end SH
