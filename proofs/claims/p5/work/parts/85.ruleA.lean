-- 85: the class's way to the first rule that matches
theorem DR_dts {r : Nat → Int32} {a b x y : Nat} (h : DR r a b) (h1 : a ≤ x) (h2 : y ≤ b) : DTS r x y := fun k k1 k2 k6 => (h k (by omega) (by omega) k6).2
theorem RUL_pc {r s : Nat → Int32} {a b i n : Nat} (h : RUL r s i) (hT : TL r i n) (hD : DR r a b) (h1 : a ≤ i) (h2 : i + n ≤ b) : (∃ N t, PC r (i + 1) (tl r (i + 1)) N t) ∧ PAT r s (i + 1) ∧ i + 1 + tl r (i + 1) + tl r (i + 1 + tl r (i + 1)) = i + (n - 1) ∧ TL r (i + 1) (tl r (i + 1)) ∧ TL r (i + 1 + tl r (i + 1)) (tl r (i + 1 + tl r (i + 1))) ∧ ¬ kd (r (i + 1 + tl r (i + 1))) = 2 := by
  obtain ⟨n6, ⟨n', hLI, hdn⟩, hPAT, hTEM⟩ := h
  have en : n' = n := TL_uniq hLI.2.1 hT
  subst en
  have T1 : TL r (i + 1) (tl r (i + 1)) := (hLI.2.2.1 0 (by omega)).2
  obtain ⟨i1, i2⟩ := it2 hLI
  have T2 := hLI.2.2.1 1 (by omega)
  rw [i1] at T2
  have z := T2.2.1
  exact ⟨PC_of hPAT T1 (DR_dts hD (by omega) (by omega)), hPAT, i2, T1, T2.2, T2.1⟩
theorem ruleA {L nL N a1 b1 a2 b2 lA m : Nat} {u : mS} {post : Int32 → mS → Prop} (hA1 : AR u a1 b1) (hD : DR (ra u) a1 b1) (hA2 : AR u a2 b2) (hL : LI (ra u) L nL N) (hdn : dn (ra u) L N = 0) (hN : 0 < N) (k3 : kd (ra u (L + 1)) = 3) (haL : a1 ≤ L) (hLb : L + nL ≤ b1) (hT : TL (ra u) lA m) (hal : a2 ≤ lA) (hlb : lA + m ≤ b2) (hm : m ≤ 310) (hR : ∀ k, 0 < k → k < N → RUL (ra u) (u.2 2) (it (ra u) L k)) (h1 : ∀ k w, 0 < k → k < N → FR [15] [10, 11, 12] u w → (∀ j, 0 < j → j < k → ¬ MT (ra u) (ra u) (MXX (ra u) (ra u)) 1 (it (ra u) L j + 1) lA) → MT (ra u) (ra u) (MXX (ra u) (ra u)) 1 (it (ra u) L k + 1) lA → post (nI (it (ra u) L k)) w) (h0 : ∀ w, FR [15] [10, 11, 12] u w → (∀ j, 0 < j → j < N → ¬ MT (ra u) (ra u) (MXX (ra u) (ra u)) 1 (it (ra u) L j + 1) lA) → post (-1) w) : wp_X1_firstRule (nI L) (nI lA) u post := by
  have hb1 := AR_b hA1
  have hn0 := hL.2.1.1
  have t1 : tl (ra u) (L + 1) = 1 := tl_eq (TL_atom (by rw [k3]; decide))
  have i1 : it (ra u) L 1 = L + 2 := by
    show L + 1 + tl (ra u) (L + 1) = L + 2
    rw [t1]
  have nN : N < 3000 := by
    have := (LI_at hL (Nat.le_refl N)).1
    have := (LI_at hL (Nat.le_refl N)).2.1
    omega
  have main : ∀ (d k : Nat) (w : mS), k + d = N → 0 < k → FR [15] [10, 11, 12] u w → (∀ j, 0 < j → j < k → ¬ MT (ra u) (ra u) (MXX (ra u) (ra u)) 1 (it (ra u) L j + 1) lA) → mL5 (fun K => wj_X1_firstRule_17 K post) (d + 1) (nI lA) (nI N) (nI (it (ra u) L k)) (nI k) w := by
    intro d
    induction d with
    | zero =>
      intro k w hk k0 wF hno
      have : k = N := by omega
      subst this
      exact ⟨fun _ => h0 w wF hno, fun q => absurd (Int32.le_refl _) q⟩
    | succ d ih =>
      intro k w hk k0 wF hno
      refine ⟨fun q => absurd q (by rw [nI_leI (by omega) (by omega)]; omega), fun _ => ?_⟩
      rintro _ rfl
      rw [nI_1]
      have w1 : w.2 1 = u.2 1 := wF.2 1 (by decide)
      have w2 : w.2 2 = u.2 2 := wF.2 2 (by decide)
      have w3 : w.2 3 = u.2 3 := wF.2 3 (by decide)
      have rw' := ra_fr w1
      have wA1 := AR_fr hA1 (wF.1 1 (by decide)) w1 w3
      have wA2 := AR_fr hA2 (wF.1 1 (by decide)) w1 w3
      obtain ⟨c2, cT⟩ := hL.2.2.1 k (by omega)
      have at1 := LI_at hL (k := k) (by omega)
      have at2 := LI_at hL (k := k + 1) (by omega)
      have e1 : it (ra u) L (k + 1) = it (ra u) L k + tl (ra u) (it (ra u) L k) := rfl
      have c0 := cT.1
      obtain ⟨⟨N', t, hPC⟩, hPAT, p1, p2, p3, p4⟩ := RUL_pc (hR k k0 (by omega)) cT hD (by omega) (by omega)
      have p3' := p3.1
      have pl := p2.1
      refine matchesA (n := tl (ra u) (it (ra u) L k + 1)) (N := N') (t := t) (m := m) wA1 (by rw [rw']; exact hD) wA2 (by rw [rw']; exact hPC) (by rw [rw', w2]; exact hPAT) (by omega) (by omega) (by rw [rw']; exact hT) hal hlb hm (fun v vF hv => ⟨fun _ => ?_, fun q => absurd rfl q⟩) (fun v vF hv => ⟨fun q => absurd q (by decide), fun _ => ?_⟩)
      · have vF' := wF.tr vF
        have v1 : v.2 1 = u.2 1 := vF'.2 1 (by decide)
        have vA1 := AR_fr hA1 (vF'.1 1 (by decide)) v1 (vF'.2 3 (by decide))
        refine after_ok vA1 (by omega) (by omega) ?_
        rw [ra_fr v1, ← e1]
        rintro _ rfl
        rw [nI_1]
        refine ih (k + 1) v (by omega) (by omega) vF' (fun j j1 j2 => ?_)
        rcases Nat.lt_or_ge j k with y | y
        · exact hno j j1 y
        · have : j = k := by omega
          subst this
          rw [rw'] at hv
          exact hv
      · rw [rw'] at hv
        exact h1 k v k0 (by omega) (wF.tr vF) hno hv
  refine plainLength_ok hA1 haL (by omega) (fun q => absurd hL.1 q) (fun n' N' hL' _ hd' => ?_) (fun n' N' hL' _ _ => ?_)
  · obtain ⟨-, e2⟩ := LI_uniq hL' hL
    subst e2
    exact absurd hdn hd'
  · obtain ⟨-, e2⟩ := LI_uniq hL' hL
    subst e2
    rintro _ rfl
    have := main (N' - 1) 1 u (by omega) (by omega) FR.rf (fun j j1 j2 => by omega)
    rw [i1, ← nI_add] at this
    exact ⟨_, this⟩
