-- 96f: the check of rules with what it leaves as it was
theorem isRuleB {a b i : Nat} {u : mS} {post : Int32 → mS → Prop} (hA : AR u a b) (hD : DR (ra u) a b) (hai : a ≤ i) (hib : i < b) (h1 : RUL (ra u) (u.2 2) i → ∀ w, FR [] [4] u w → LKR w i → (∀ k, (k < i ∨ i + tl (ra u) i ≤ k) → w.2 4 k = u.2 4 k) → post 1 w) (h0 : ¬ RUL (ra u) (u.2 2) i → ∀ w, FR [] [4] u w → (∀ k, (k < i ∨ i + tl (ra u) i ≤ k) → w.2 4 k = u.2 4 k) → post 0 w) : wp_X6_isRule (nI i) u post := by
  have hb := AR_b hA
  have no2 : (∀ n, LI (ra u) i n 2 → ¬ dn (ra u) i 2 = 0) → ¬ RUL (ra u) (u.2 2) i := by
    rintro q ⟨-, ⟨n, hL, hd⟩, -⟩
    exact q n hL hd
  refine plainLength_ok hA hai hib (fun k1 => ⟨fun h => absurd h (by decide), fun _ => h0 (no2 (fun n hL => absurd hL.1 k1)) u FR.rf (fun _ _ => rfl)⟩) (fun n N hL hle hd => ⟨fun h => absurd h (by decide), fun _ => h0 (no2 (fun n' hL' hd' => ?_)) u FR.rf (fun _ _ => rfl)⟩) (fun n N hL hle hd => ?_)
  · obtain ⟨-, e2⟩ := LI_uniq hL hL'
    subst e2
    exact hd hd'
  have hn := LI_at hL (Nat.le_refl N)
  refine ⟨fun hN2 => ?_, fun hN2 => h0 (no2 (fun n' hL' hd' => ?_)) u FR.rf (fun _ _ => rfl)⟩
  · have hN2 : nI N = nI 2 := hN2
    rw [nI_eq (by omega) (by omega)] at hN2
    subst hN2
    obtain ⟨e1, e2⟩ := it2 hL
    have en : tl (ra u) i = n := tl_eq hL.2.1
    obtain ⟨cP, tP⟩ := hL.2.2.1 0 (by omega)
    obtain ⟨cT, tT⟩ := hL.2.2.1 1 (by omega)
    rw [e1] at cT tT
    have cP : ¬ kd (ra u (i + 1)) = 2 := cP
    have tP : TL (ra u) (i + 1) (tl (ra u) (i + 1)) := tP
    have tP0 := tP.1
    have tT0 := tT.1
    have n2 := (TL_open hL.1 hL.2.1)
    rintro _ rfl
    rw [nI_1]
    refine after_ok hA (by omega) (by omega) ?_
    refine isPatternA hA hD (by omega) (by omega) (fun hP => ⟨fun _ => ?_, fun h => absurd h (by decide)⟩) (fun hP => ⟨fun h => absurd rfl h, fun _ => h0 (fun q => hP q.2.2.1) u FR.rf (fun _ _ => rfl)⟩)
    have k1 : kd (ra u (i + 1)) = 1 := by
      obtain ⟨⟨n', N', hL', -⟩, -⟩ := hP
      exact hL'.1
    have k2 : ¬ kd (ra u (i + 1 + 1)) = 2 := by
      obtain ⟨⟨n', N', hL', hc⟩, -⟩ := hP
      intro q
      rcases Nat.eq_zero_or_pos N' with z | z
      · subst z; exact hc rfl
      · exact (hL'.2.2.1 0 z).1 q
    refine linkUses_ok hA (by omega) k1 k2 rfl (by omega) (fun w wF wU wO => ?_)
    have r1 : w.2 1 = u.2 1 := wF.2 1 (by decide)
    have r2 : w.2 2 = u.2 2 := wF.2 2 (by decide)
    have rw1 : ra w = ra u := ra_fr r1
    have hAw : AR w a b := AR_fr hA (wF.1 1 (by decide)) r1 (wF.2 3 (by decide))
    have ln : LKR w i := by
      intro k
      rw [rw1]
      exact fun q1 q2 => wU k q1 q2
    have wO' : ∀ k, (k < i ∨ i + tl (ra u) i ≤ k) → w.2 4 k = u.2 4 k := fun k hk => wO k (by omega)
    have kz : kd (ra u (i + (n - 1))) = 2 := n2.2.2
    have go := isTemplateA (post := post) (p := i + 1) (t := i + 1 + tl (ra w) (i + 1)) hAw (by rw [rw1]; exact hD) (by omega) (by rw [rw1]; exact k1) (by rw [rw1]; exact k2) rfl (by rw [rw1]; omega) (by rw [rw1, e2, kz]; decide) (by rw [rw1]; exact cT) (by rw [rw1]; exact wU) (fun hT => h1 ⟨by rw [hL.1]; decide, ⟨n, hL, hd⟩, hP, by rw [rw1, r2] at hT; exact hT⟩ w wF ln wO') (fun hT => h0 (fun q => hT (by rw [rw1, r2]; exact q.2.2.2)) w wF wO')
    rw [rw1] at go
    exact go
  · obtain ⟨-, e2⟩ := LI_uniq hL hL'
    subst e2
    exact hN2 rfl
theorem isNWRB {a b l : Nat} {u : mS} {post : Int32 → mS → Prop} (hA : AR u a b) (hD : DR (ra u) a b) (hal : a ≤ l) (hlb : l < b) (h1 : NWR (ra u) (u.2 2) l → ∀ w, FR [] [4] u w → (∀ k, (k < l ∨ l + tl (ra u) l ≤ k) → w.2 4 k = u.2 4 k) → (∀ n N, LI (ra u) l n N → ∀ k, 0 < k → k < N → LKR w (it (ra u) l k)) → post 1 w) (h0 : ¬ NWR (ra u) (u.2 2) l → ∀ w, FR [] [4] u w → (∀ k, (k < l ∨ l + tl (ra u) l ≤ k) → w.2 4 k = u.2 4 k) → post 0 w) : wp_X6_isNameWithRules (nI l) u post := by
  have hb := AR_b hA
  have m1 : ((-1 : Int32) < 1) := by decide
  have no : ∀ {n N : Nat}, LI (ra u) l n N → (¬ dn (ra u) l N = 0 ∨ N = 0 ∨ ¬ kd (ra u (l + 1)) = 3 ∨ ∃ k, 0 < k ∧ k < N ∧ ¬ RUL (ra u) (u.2 2) (it (ra u) l k)) → ¬ NWR (ra u) (u.2 2) l := by
    rintro n N hL q ⟨n', N', hL', g1, g2, g3, g4⟩
    obtain ⟨e1, e2⟩ := LI_uniq hL hL'
    subst e1 e2
    rcases q with q | q | q | ⟨k, q1, q2, q3⟩
    · exact q g1
    · omega
    · exact q g3
    · exact q3 (g4 k q1 q2)
  refine plainLength_ok hA hal hlb (fun k1 => ⟨fun _ => h0 ?_ u FR.rf (fun _ _ => rfl), fun h => absurd m1 h⟩) (fun n N hL hle hd => ⟨fun _ => h0 (no hL (Or.inl hd)) u FR.rf (fun _ _ => rfl), fun h => absurd m1 h⟩) (fun n N hL hle hd => ?_)
  · rintro ⟨n', N', hL', -⟩
    exact k1 hL'.1
  have hat := LI_at hL (Nat.le_refl N)
  have en : tl (ra u) l = n := tl_eq hL.2.1
  have n2 := (TL_open hL.1 hL.2.1).1
  refine ⟨fun h => ?_, fun h => ?_⟩
  · have h : nI N < nI 1 := h
    rw [nI_ltI (by omega) (by omega)] at h
    exact h0 (no hL (Or.inr (Or.inl (by omega)))) u FR.rf (fun _ _ => rfl)
  have hN : 0 < N := by
    have h : ¬ nI N < nI 1 := h
    rw [nI_ltI (by omega) (by omega)] at h
    omega
  rintro _ rfl
  rw [nI_1]
  obtain ⟨hw1, -⟩ := hA.2 (l + 1) (by omega) (by omega)
  refine wordAR hA (by omega) (isName_ok hw1 (fun k3 => ⟨fun _ => ?_, fun h => absurd h (by decide)⟩) (fun k3 => ⟨fun h => absurd rfl h, fun _ => h0 (no hL (Or.inr (Or.inr (Or.inl k3)))) u FR.rf (fun _ _ => rfl)⟩))
  rintro _ rfl
  have i1 : it (ra u) l 1 = l + 2 := by
    show l + 1 + tl (ra u) (l + 1) = l + 2
    rw [tl_eq (TL_atom (r := ra u) (i := l + 1) (by rw [k3]; decide))]
  rw [show (2 : Int32) = nI 2 from rfl, nI_add]
  have key : ∀ (d k : Nat) (w : mS), k + d = N → 0 < k → FR [] [4] u w → (∀ j, 0 < j → j < k → RUL (ra u) (u.2 2) (it (ra u) l j) ∧ LKR w (it (ra u) l j)) → (∀ j, (j < l ∨ it (ra u) l k ≤ j) → w.2 4 j = u.2 4 j) → mL4 (fun K => wj_X6_isNameWithRules_39 K post) (d + 1) (nI N) (nI (it (ra u) l k)) (nI k) w := by
    intro d
    induction d with
    | zero =>
      intro k w hk hk0 wF wL wO
      show wj_X6_isNameWithRules_39 _ post _ _ _ w
      refine ⟨fun _ => h1 ⟨n, N, hL, hd, hN, k3, fun j j1 j2 => (wL j j1 (by omega)).1⟩ w wF (fun j hj => wO j ?_) (fun n' N' hL' j j1 j2 => ?_), fun h => absurd ?_ h⟩
      · rw [show k = N from by omega, hL.2.2.2]
        rw [en] at hj
        omega
      · obtain ⟨-, e2⟩ := LI_uniq hL hL'
        subst e2
        exact (wL j j1 (by omega)).2
      · rw [nI_leI (by omega) (by omega)]; omega
    | succ d ih =>
      intro k w hk hk0 wF wL wO
      have r1 : w.2 1 = u.2 1 := wF.2 1 (by decide)
      have r2 : w.2 2 = u.2 2 := wF.2 2 (by decide)
      have rw1 : ra w = ra u := ra_fr r1
      have hAw : AR w a b := AR_fr hA (wF.1 1 (by decide)) r1 (wF.2 3 (by decide))
      have hatk := LI_at hL (k := k) (by omega)
      obtain ⟨ck, tk⟩ := hL.2.2.1 k (by omega)
      show wj_X6_isNameWithRules_39 _ post _ _ _ w
      refine ⟨fun h => absurd h (by rw [nI_leI (by omega) (by omega)]; omega), fun _ => ?_⟩
      refine isRuleB hAw (by rw [rw1]; exact hD) (by omega) (by omega) (fun hR v vF vL vO => ⟨fun _ => ?_, fun h => absurd h (by decide)⟩) (fun hR v vF vO => ⟨fun h => absurd rfl h, fun _ => h0 (no hL (Or.inr (Or.inr (Or.inr ⟨k, hk0, by omega, fun q => hR (by rw [rw1, r2]; exact q)⟩)))) v (wF.tr vF) (fun j hj => by
        rw [rw1] at vO
        have e9 := LI_at hL (k := k + 1) (by omega)
        have ek : it (ra u) l k + tl (ra u) (it (ra u) l k) = it (ra u) l (k + 1) := rfl
        rw [en] at hj
        exact (vO j (by omega)).trans (wO j (by omega)))⟩)
      rw [rw1, r2] at hR
      rw [rw1] at vO
      have v1 : v.2 1 = w.2 1 := vF.2 1 (by decide)
      have v2 : v.2 2 = w.2 2 := vF.2 2 (by decide)
      have rv1 : ra v = ra u := (ra_fr v1).trans rw1
      have hAv : AR v a b := AR_fr hAw (vF.1 1 (by decide)) v1 (vF.2 3 (by decide))
      refine after_ok hAv (by omega) (by omega) ?_
      rintro _ rfl
      rw [nI_1, rv1]
      have ek : it (ra u) l k + tl (ra u) (it (ra u) l k) = it (ra u) l (k + 1) := rfl
      rw [ek]
      refine ih (k + 1) v (by omega) (by omega) (wF.tr vF) (fun j j1 j2 => ?_) (fun j hj => ?_)
      · rcases Nat.lt_or_ge j k with c | c
        · obtain ⟨g1, g2⟩ := wL j j1 c
          refine ⟨g1, ?_⟩
          have hm := LI_mono hL (j := j + 1) (k := k) (by omega) (by omega)
          have ej : it (ra u) l j + tl (ra u) (it (ra u) l j) = it (ra u) l (j + 1) := rfl
          obtain ⟨-, ⟨nj, hLj, -⟩, -⟩ := g1
          have e3 := (it2 hLj).2
          have e4 := tl_eq hLj.2.1
          refine LKR_fr (n := it (ra u) l k) g2 v1 v2 ?_ (fun m m1 m2 => vO m (Or.inl m2))
          rw [rw1]
          have := hLj.2.1.1
          omega
        · have ej : j = k := by omega
          subst ej
          exact ⟨hR, vL⟩
      · refine (vO j ?_).trans (wO j ?_)
        · omega
        · omega
  have hend := hL.2.2.2
  have := key (N - 1) 1 u (by omega) (by omega) FR.rf (fun j j1 j2 => by omega) (fun j _ => rfl)
  rw [i1] at this
  exact ⟨_, this⟩
