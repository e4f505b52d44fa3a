-- 21: the levels on the way to a variable; when a walk is safe, and where it comes to
noncomputable def lvF (kp : Nat → Int32) (v : Nat) : Nat → Nat → Nat
  | 0, _ => 0
  | F + 1, p => if p = v then 0 else (if kd (kp (it kp p (chj kp p v + 1))) = 6 then 1 else 0) + lvF kp v F (it kp p (chj kp p v))
theorem wkS_of {kp rw : Nat → Int32} {rd : Nat → Nat} {v stop : Nat} : ∀ (F p u lev : Nat), lev ≤ stop → lev + lvF kp v F p ≤ 3 → (∀ l, lev ≤ l → l < stop → l < lev + lvF kp v F p → rd l < wkV kp rw rd v l F p u lev) → wkS kp rw rd v stop F p u lev := by
  intro F
  induction F with
  | zero => intro p u lev _ _ _; exact trivial
  | succ F ih =>
    intro p u lev hls h3 h hne
    have eL : lvF kp v (F + 1) p = (if kd (kp (it kp p (chj kp p v + 1))) = 6 then 1 else 0) + lvF kp v F (it kp p (chj kp p v)) := by
      show (if p = v then 0 else _) = _
      rw [if_neg hne]
    rw [eL] at h3 h
    refine ⟨fun h6 hne2 => ?_, fun h6 => ?_⟩
    · rw [if_pos h6] at h3 h
      have hlt : lev < stop := Nat.lt_of_le_of_ne hls hne2
      have h0 := h lev (Nat.le_refl lev) hlt (by omega)
      have e0 : wkV kp rw rd v lev (F + 1) p u lev = nit rw u - chj kp p v := by
        show (if p = v then u else if kd (kp (it kp p (chj kp p v + 1))) = 6 then (if lev = lev then nit rw u - chj kp p v else _) else _) = _
        rw [if_neg hne, if_pos h6, if_pos rfl]
      rw [e0] at h0
      refine ⟨by omega, by omega, ih _ _ (lev + 1) (by omega) (by omega) (fun l h1 h2 h4 => ?_)⟩
      have := h l (by omega) h2 (by omega)
      have e1 : wkV kp rw rd v l (F + 1) p u lev = wkV kp rw rd v l F (it kp p (chj kp p v)) (it rw u (chj kp p v + rd lev)) (lev + 1) := by
        show (if p = v then u else if kd (kp (it kp p (chj kp p v + 1))) = 6 then (if lev = l then nit rw u - chj kp p v else wkV kp rw rd v l F (it kp p (chj kp p v)) (it rw u (chj kp p v + rd lev)) (lev + 1)) else _) = _
        rw [if_neg hne, if_pos h6, if_neg (by omega)]
      rw [e1] at this
      exact this
    · rw [if_neg h6, Nat.zero_add] at h3 h
      refine ih _ _ lev hls h3 (fun l h1 h2 h4 => ?_)
      have := h l h1 h2 h4
      have e1 : wkV kp rw rd v l (F + 1) p u lev = wkV kp rw rd v l F (it kp p (chj kp p v)) (it rw u (chj kp p v)) lev := by
        show (if p = v then u else if kd (kp (it kp p (chj kp p v + 1))) = 6 then _ else wkV kp rw rd v l F (it kp p (chj kp p v)) (it rw u (chj kp p v)) lev) = _
        rw [if_neg hne, if_neg h6]
      rw [e1] at this
      exact this
/-- only the rounds of the outer levels matter -/
theorem wkV_rd {kp rw : Nat → Int32} {rd rd' : Nat → Nat} {v stop : Nat} : ∀ (F p u lev : Nat), lev ≤ stop → (∀ l, lev ≤ l → l < stop → rd' l = rd l) → wkV kp rw rd' v stop F p u lev = wkV kp rw rd v stop F p u lev := by
  intro F
  induction F with
  | zero => intro p u lev _ _; rfl
  | succ F ih =>
    intro p u lev hls h
    show (if p = v then u else if kd (kp (it kp p (chj kp p v + 1))) = 6 then (if lev = stop then nit rw u - chj kp p v else wkV kp rw rd' v stop F (it kp p (chj kp p v)) (it rw u (chj kp p v + rd' lev)) (lev + 1)) else wkV kp rw rd' v stop F (it kp p (chj kp p v)) (it rw u (chj kp p v)) lev) = (if p = v then u else if kd (kp (it kp p (chj kp p v + 1))) = 6 then (if lev = stop then nit rw u - chj kp p v else wkV kp rw rd v stop F (it kp p (chj kp p v)) (it rw u (chj kp p v + rd lev)) (lev + 1)) else wkV kp rw rd v stop F (it kp p (chj kp p v)) (it rw u (chj kp p v)) lev)
    by_cases e : lev = stop
    · rw [if_pos e, if_pos e, ih _ _ lev hls h]
    · rw [if_neg e, if_neg e, h lev (Nat.le_refl lev) (by omega), ih _ _ (lev + 1) (by omega) (fun l h1 h2 => h l (by omega) h2), ih _ _ lev hls h]
/-- a walk through all levels comes to what the variable is paired with -/
theorem wkV_node {kp rw : Nat → Int32} {rd : Nat → Nat} {D : Nat → Nat → Prop} {pat n lst m v stop : Nat} (hTop : MT kp rw D 1 pat lst) (hD : ∀ p u, D p u → VP kp pat n p ∧ VU rw lst m u ∧ (kd (kp p) = 1 → MT kp rw D 0 p u)) (hv : VP kp pat n v) : ∀ (F p u lev : Nat), ((p = pat ∧ u = lst) ∨ D p u) → p ≤ v → (p ≠ v → v < p + tl kp p - 1 ∧ kd (kp p) = 1) → v - p + 1 ≤ F → lev + lvF kp v F p ≤ stop → wkS kp rw rd v stop F p u lev → D v (wkV kp rw rd v stop F p u lev) ∨ v = pat := by
  intro F
  induction F with
  | zero => intro p u lev _ _ _ hF; omega
  | succ F ih =>
    intro p u lev hnd hpv hin hF hlev hS
    by_cases hne : p = v
    · have e : wkV kp rw rd v stop (F + 1) p u lev = u := by
        show (if p = v then u else _) = u
        rw [if_pos hne]
      rw [e]
      rcases hnd with ⟨h1, _⟩ | hd
      · exact Or.inr (hne.symm.trans h1)
      · rw [hne] at hd; exact Or.inl hd
    · obtain ⟨hin1, hin2⟩ := hin hne
      have hMT : ∃ s, MT kp rw D s p u ∧ it kp p s ≤ v := by
        rcases hnd with ⟨rfl, rfl⟩ | hd
        · exact ⟨1, hTop, hv.1⟩
        · exact ⟨0, (hD p u hd).2.2 hin2, by show p + 1 ≤ v; omega⟩
      obtain ⟨s, hMT, hs⟩ := hMT
      have hpv2 : p < v := Nat.lt_of_le_of_ne hpv hne
      obtain ⟨n', N', t', m', M, hPL', hL', jt, sj, jM, hheld, hfree⟩ := step_ok hMT hpv2 hin1 ⟨hv.2.2.1, hv.2.2.2⟩ hs
      have en' := tl_eq hPL'.1.2.1
      obtain ⟨jN, j2, j3⟩ := chj_ok hPL'.1 (v := v) hpv2 (by rw [en'] at hin1; exact hin1)
      obtain ⟨hS1, hS2⟩ := hS hne
      have eL : lvF kp v (F + 1) p = (if kd (kp (it kp p (chj kp p v + 1))) = 6 then 1 else 0) + lvF kp v F (it kp p (chj kp p v)) := by
        show (if p = v then 0 else _) = _
        rw [if_neg hne]
      rw [eL] at hlev
      have eV : wkV kp rw rd v stop (F + 1) p u lev = (if kd (kp (it kp p (chj kp p v + 1))) = 6 then (if lev = stop then nit rw u - chj kp p v else wkV kp rw rd v stop F (it kp p (chj kp p v)) (it rw u (chj kp p v + rd lev)) (lev + 1)) else wkV kp rw rd v stop F (it kp p (chj kp p v)) (it rw u (chj kp p v)) lev) := by
        show (if p = v then u else _) = _
        rw [if_neg hne]
      rw [eV]
      rw [nit_eq hL'] at hS1
      have Tj := (hPL'.1.2.2.1 (chj kp p v) jN).2
      have bj := LI_at hPL'.1 (k := chj kp p v) (by omega)
      have ej1 : it kp p (chj kp p v + 1) = it kp p (chj kp p v) + tl kp (it kp p (chj kp p v)) := rfl
      generalize chj kp p v = j at jt sj jM hheld hfree j2 j3 hS1 hS2 hlev Tj bj ej1 ⊢
      have inq : it kp p j ≠ v → v < it kp p j + tl kp (it kp p j) - 1 ∧ kd (kp (it kp p j)) = 1 := by
        intro hne2
        have kq : kd (kp (it kp p j)) = 1 := by
          apply Classical.byContradiction
          intro hn
          have := tl_eq (TL_atom hn)
          omega
        refine ⟨?_, kq⟩
        have := (TL_open kq Tj).2.2
        rcases Nat.lt_or_ge v (it kp p j + tl kp (it kp p j) - 1) with c | c
        · exact c
        · have ev : v = it kp p j + (tl kp (it kp p j) - 1) := by omega
          rw [← ev] at this
          exact absurd this hv.2.2.1
      by_cases h6 : kd (kp (it kp p (j + 1))) = 6
      · rw [if_pos h6] at hlev ⊢
        have hls : lev ≠ stop := by omega
        obtain ⟨l3, lr, lS⟩ := hS1 h6 hls
        rw [if_neg hls]
        exact ih _ _ _ (Or.inr (hheld h6 _ lr)) j2 inq (by omega) (by omega) lS
      · rw [if_neg h6] at hlev ⊢
        exact ih _ _ _ (Or.inr (hfree h6).2) j2 inq (by omega) (by omega) (hS2 h6)
/-- sums of the held, cut in two -/
theorem hbS_add (r : Nat → Int32) (b x a k : Nat) : ∀ d, hbS r b x a (k + d) = hbS r b x a k + hbS r b x (a + k) d := by
  intro d
  induction d with
  | zero => rfl
  | succ d ih =>
    show hbS r b x a (k + d) + hb1 r b x (a + (k + d)) = hbS r b x a k + (hbS r b x (a + k) d + hb1 r b x (a + k + d))
    rw [ih, Nat.add_assoc a k d]; omega
theorem hbS_zero {r : Nat → Int32} {b x a : Nat} : ∀ k, (∀ i, a ≤ i → i < a + k → hb1 r b x i = 0) → hbS r b x a k = 0 := by
  intro k
  induction k with
  | zero => intro _; rfl
  | succ k ih =>
    intro h
    show hbS r b x a k + hb1 r b x (a + k) = 0
    rw [ih (fun i h1 h2 => h i h1 (by omega)), h (a + k) (by omega) (by omega)]
/-- the levels on the way to v are the .. that hold it -/
theorem lvF_HB {kp : Nat → Int32} {pat n v : Nat} (hT : TL kp pat n) (hk : kd (kp pat) = 1) (hv1 : v < pat + n - 1) (hv2 : ¬ kd (kp v) = 2) (hv6 : ¬ kd (kp v) = 6) : ∀ (F p z : Nat), TL kp p z → kd (kp p) = 1 → pat ≤ p → p + z ≤ pat + n → p < v → v < p + z - 1 → v - p + 1 ≤ F → lvF kp v F p = hbS kp (pat + n - 1) v (p + 1) (v - p) := by
  intro F
  induction F with
  | zero => intro p z _ _ _ _ _ _ hF; omega
  | succ F ih =>
    intro p z hTp hkp h1 h2 h3 h4 hF
    obtain ⟨N, hL⟩ := LI_ex hkp hTp
    obtain ⟨jN, j2, j3⟩ := chj_ok hL h3 h4
    have eL : lvF kp v (F + 1) p = (if kd (kp (it kp p (chj kp p v + 1))) = 6 then 1 else 0) + lvF kp v F (it kp p (chj kp p v)) := by
      show (if p = v then 0 else _) = _
      rw [if_neg (by omega)]
    rw [eL]
    obtain ⟨qc, Tq⟩ := hL.2.2.1 (chj kp p v) jN
    have bq := LI_at hL (k := chj kp p v) (by omega)
    have bq1 := LI_at hL (k := chj kp p v + 1) (by omega)
    have ej1 : it kp p (chj kp p v + 1) = it kp p (chj kp p v) + tl kp (it kp p (chj kp p v)) := rfl
    have ezero : ∀ i, p + 1 ≤ i → i < it kp p (chj kp p v) → hb1 kp (pat + n - 1) v i = 0 := by
      intro i hi1 hi2
      unfold hb1
      rw [if_neg]
      rintro ⟨a2, a6, -, ax, -⟩
      obtain ⟨i1, i2, i3⟩ := chj_ok hL (v := i) (by omega) (by have := LI_mono hL (j := chj kp p v) (k := N) (by omega) (Nat.le_refl N); have := hL.2.2.2; omega)
      have cj : chj kp p i < chj kp p v := by
        rcases Nat.lt_or_ge (chj kp p i) (chj kp p v) with c | c
        · exact c
        · have := it_up kp p (chj kp p v) (chj kp p i - chj kp p v)
          rw [show chj kp p v + (chj kp p i - chj kp p v) = chj kp p i from by omega] at this
          omega
      obtain ⟨ic, Ti⟩ := hL.2.2.1 (chj kp p i) i1
      have up := it_up kp p (chj kp p i + 1) (chj kp p v - (chj kp p i + 1))
      rw [show chj kp p i + 1 + (chj kp p v - (chj kp p i + 1)) = chj kp p v from by omega] at up
      have ei1 : it kp p (chj kp p i + 1) = it kp p (chj kp p i) + tl kp (it kp p (chj kp p i)) := rfl
      obtain ⟨_, b2⟩ := inTree0 Ti i2 (by omega) a2
      omega
    generalize chj kp p v = j at jN j2 j3 qc Tq bq bq1 ej1 ezero ⊢
    have split : hbS kp (pat + n - 1) v (p + 1) (v - p) = hb1 kp (pat + n - 1) v (it kp p j) + hbS kp (pat + n - 1) v (it kp p j + 1) (v - it kp p j) := by
      have e1 : v - p = (it kp p j - (p + 1)) + (1 + (v - it kp p j)) := by omega
      rw [e1, hbS_add, hbS_add, hbS_zero _ (fun i a b => ezero i a (by omega)), show p + 1 + (it kp p j - (p + 1)) = it kp p j from by omega]
      show 0 + (0 + hb1 kp (pat + n - 1) v (it kp p j + 0) + _) = _
      rw [Nat.add_zero]; omega
    rw [split]
    have eh : hb1 kp (pat + n - 1) v (it kp p j) = (if kd (kp (it kp p (j + 1))) = 6 then 1 else 0) := by
      unfold hb1
      rw [← ej1]
      by_cases h6 : kd (kp (it kp p (j + 1))) = 6
      · rw [if_pos h6]
        have q6 : ¬ kd (kp (it kp p j)) = 6 := by
          intro q
          have := tl_eq (TL_atom (r := kp) (i := it kp p j) (by rw [q]; decide))
          have : v = it kp p j := by omega
          rw [this] at hv6
          exact hv6 q
        have lt : it kp p (j + 1) < pat + n - 1 := by
          rcases Nat.lt_or_ge (it kp p (j + 1)) (pat + n - 1) with c | c
          · exact c
          · have e : it kp p (j + 1) = pat + (n - 1) := by omega
            rw [e, (TL_open hk hT).2.2] at h6
            exact absurd h6 (by decide)
        rw [if_pos ⟨qc, q6, lt, by omega, h6⟩]
      · rw [if_neg h6, if_neg (fun q => h6 q.2.2.2.2)]
    rw [eh]
    congr 1
    by_cases hq : it kp p j = v
    · rw [hq, Nat.sub_self]
      show lvF kp v F v = 0
      cases F with
      | zero => rfl
      | succ F => show (if v = v then 0 else _) = 0; rw [if_pos rfl]
    · have kq : kd (kp (it kp p j)) = 1 := by
        apply Classical.byContradiction
        intro hn
        have := tl_eq (TL_atom hn)
        omega
      have hlast : v < it kp p j + tl kp (it kp p j) - 1 := by
        have := (TL_open kq Tq).2.2
        rcases Nat.lt_or_ge v (it kp p j + tl kp (it kp p j) - 1) with c | c
        · exact c
        · have ev : v = it kp p j + (tl kp (it kp p j) - 1) := by omega
          rw [← ev] at this
          exact absurd this hv2
      exact ih (it kp p j) _ Tq kq (by omega) (by omega) (by omega) hlast (by omega)
