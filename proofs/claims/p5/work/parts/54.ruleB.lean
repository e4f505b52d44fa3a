-- 54: isTemplate, isRule, isNameWithRules of the class
theorem isTemplateA {a b p t : Nat} {u : mS} {post : Int32 → mS → Prop} (hA : AR u a b) (hD : DR (ra u) a b) (hap : a ≤ p) (k1 : kd (ra u p) = 1) (k2 : ¬ kd (ra u (p + 1)) = 2) (et : t = p + tl (ra u) p) (htb : t + tl (ra u) t < b) (hE6 : ¬ kd (ra u (t + tl (ra u) t)) = 6) (hc : ¬ kd (ra u t) = 2) (hU : ∀ i, t ≤ i → i < t + tl (ra u) t → US u p i) (h1 : TEM (ra u) (u.2 2) p t → post 1 u) (h0 : ¬ TEM (ra u) (u.2 2) p t → post 0 u) : wp_X6_isTemplate (nI p) (nI t) u post := by
  have hb := AR_b hA
  obtain ⟨hw, ht, hle, -⟩ := hA.2 p hap (by omega)
  obtain ⟨n2, -, kE⟩ := TL_open k1 ht
  obtain ⟨hwt, htt, hlet, -⟩ := hA.2 t (by omega) (by omega)
  have ht0 := htt.1
  have inT : ∀ j, t < j → j < t + tl (ra u) t → j + tl (ra u) j < t + tl (ra u) t ∨ kd (ra u j) = 2 := by
    intro j j1 j2
    have ko : kd (ra u t) = 1 := by
      by_cases c : kd (ra u t) = 1
      · exact c
      · have := tl_eq (TL_atom (r := ra u) (i := t) c)
        omega
    by_cases c : kd (ra u j) = 2
    · exact Or.inr c
    · exact Or.inl (inTree ko htt j1 j2 c).2
  refine after_ok hA (by omega) (by omega) ?_
  have key : ∀ (d i : Nat), i + d = t + tl (ra u) t → t ≤ i → (∀ j, t ≤ j → j < i → (kd (ra u j) = 3 → ¬ VR (ra u) (u.2 2) p (ra u j) (u.2 2 j) < 0 → HB (ra u) t (t + tl (ra u) t) j = HB (ra u) (p + 1) (p + tl (ra u) p - 1) (VR (ra u) (u.2 2) p (ra u j) (u.2 2 j)).toNatClampNeg) ∧ (¬ kd (ra u j) = 2 → ¬ kd (ra u j) = 6 → j + tl (ra u) j < t + tl (ra u) t → kd (ra u (j + tl (ra u) j)) = 6 → usF (ra u) (u.2 2) p (tl (ra u) j) j ≠ 0)) → mL5 (fun K => wj_X6_isTemplate_12 K post) (d + 1) (nI p) (nI t) (nI (t + tl (ra u) t)) (nI i) u := by
    intro d
    induction d with
    | zero =>
      intro i hi hti hall
      show wj_X6_isTemplate_12 _ post _ _ _ _ u
      refine ⟨fun _ => h1 ⟨fun j q1 q2 => (hall j q1 (by omega)).1, fun j q1 q2 => (hall j q1 (by omega)).2⟩, fun h => absurd ?_ h⟩
      rw [nI_leI (by omega) (by omega)]; omega
    | succ d ih =>
      intro i hi hti hall
      obtain ⟨hwi, hti2, hlei, -⟩ := hA.2 i (by omega) (by omega)
      have s85 : ((kd (ra u i) = 3 → ¬ VR (ra u) (u.2 2) p (ra u i) (u.2 2 i) < 0 → HB (ra u) t (t + tl (ra u) t) i = HB (ra u) (p + 1) (p + tl (ra u) p - 1) (VR (ra u) (u.2 2) p (ra u i) (u.2 2 i)).toNatClampNeg) ∧ (¬ kd (ra u i) = 2 → ¬ kd (ra u i) = 6 → i + tl (ra u) i < t + tl (ra u) t → kd (ra u (i + tl (ra u) i)) = 6 → usF (ra u) (u.2 2) p (tl (ra u) i) i ≠ 0)) → wj_X6_isTemplate_85 (mL5 (fun K => wj_X6_isTemplate_12 K post) (d + 1)) post (nI p) (nI t) (nI (t + tl (ra u) t)) (nI i) u := by
        intro g
        rintro _ rfl
        rw [nI_1]
        refine ih (i + 1) (by omega) (by omega) (fun j j1 j2 => ?_)
        rcases Nat.lt_or_ge j i with c | c
        · exact hall j j1 c
        · have ej : j = i := by omega
          subst ej
          exact g
      have ile : i + tl (ra u) i ≤ t + tl (ra u) t := by
        rcases Nat.lt_or_ge t i with c | c
        · rcases inT i c (by omega) with q | q
          · omega
          · have := tl_eq (TL_atom (r := ra u) (i := i) (by rw [q]; decide))
            omega
        · have e : i = t := by omega
          rw [e]; exact Nat.le_refl _
      have s59 : (kd (ra u i) = 3 → ¬ VR (ra u) (u.2 2) p (ra u i) (u.2 2 i) < 0 → HB (ra u) t (t + tl (ra u) t) i = HB (ra u) (p + 1) (p + tl (ra u) p - 1) (VR (ra u) (u.2 2) p (ra u i) (u.2 2 i)).toNatClampNeg) → wj_X6_isTemplate_59 (mL5 (fun K => wj_X6_isTemplate_12 K post) (d + 1)) post (nI p) (nI t) (nI (t + tl (ra u) t)) (nI i) u := by
        intro g1
        refine heldA hA (by omega) (by omega) (fun q2 q6 => ⟨fun h => absurd h (by decide), fun _ => ?_⟩) (fun hk => ⟨fun _ => s85 ⟨g1, fun q1 _ _ q4 => ?_⟩, fun h => absurd rfl h⟩)
        · have lt : i + tl (ra u) i < t + tl (ra u) t := by
            rcases Nat.lt_or_ge (i + tl (ra u) i) (t + tl (ra u) t) with c | c
            · exact c
            · rw [show i + tl (ra u) i = t + tl (ra u) t from by omega] at q6
              exact absurd q6 hE6
          have n6 : ¬ kd (ra u i) = 6 := by
            intro q
            have e1 := tl_eq (TL_atom (r := ra u) (i := i) (by rw [q]; decide))
            rw [e1] at q6
            exact (hD (i + 1) (by omega) (by omega) q6).2.2 (by rw [show i + 1 - 1 = i from by omega]; exact q)
          refine hasUse_ok (p := p) hA (by omega) (by omega) (fun k q1' q2' => hU k (by omega) (by omega)) (fun q => ⟨fun _ => s85 ⟨g1, fun _ _ _ _ => q⟩, fun h => absurd h (by decide)⟩) (fun q => ⟨fun h => absurd rfl h, fun _ => h0 (fun hT => hT.2 i hti (by omega) q2 n6 lt q6 q)⟩)
        · rcases hk with q | q
          · exact absurd q q1
          · exact absurd q4 q
      show wj_X6_isTemplate_12 _ post _ _ _ _ u
      refine ⟨fun h => absurd h (by rw [nI_leI (by omega) (by omega)]; omega), fun _ => ?_⟩
      refine variableAt_ok (p := p) hA (by omega) (hU i hti (by omega)) (fun j k3 j1 j2 j3 j4 => ⟨fun h => absurd h (nI_pos (by omega)), fun _ => ?_⟩) (fun q => ⟨fun _ => s59 (fun q1 q2 => absurd ⟨q1, q2⟩ q), fun h => absurd (by decide) h⟩)
      have n6 : ¬ kd (ra u i) = 6 := by rw [k3]; decide
      refine holders_ok (e := t + tl (ra u) t) hA (by omega) hti (by omega) htb (fun k q1 q2 => ?_) hE6 n6 ?_
      · rcases inT k q1 (by omega) with q | q
        · omega
        · have := tl_eq (TL_atom (r := ra u) (i := k) (by rw [q]; decide))
          omega
      have eT : HB (ra u) t (t + tl (ra u) t) i = HB (ra u) (t + 1) (t + tl (ra u) t) i := by
        refine HB_cons hti ?_
        unfold hb1
        rw [if_neg]
        rintro ⟨-, -, q, -⟩
        omega
      have hj3 : kd (ra u j) = 3 := by
        have vc := vrF_cases (ra u) (u.2 2) (ra u i) (u.2 2 i) (p + tl (ra u) p - 1 - (p + 1 + tl (ra u) (p + 1))) (p + 1 + tl (ra u) (p + 1)) (by omega)
        have vc : VR (ra u) (u.2 2) p (ra u i) (u.2 2 i) = -1 ∨ ∃ j, p + 1 + tl (ra u) (p + 1) ≤ j ∧ j < p + 1 + tl (ra u) (p + 1) + (p + tl (ra u) p - 1 - (p + 1 + tl (ra u) (p + 1))) ∧ VR (ra u) (u.2 2) p (ra u i) (u.2 2 i) = nI j ∧ ra u j = ra u i ∧ u.2 2 j = u.2 2 i := vc
        rcases vc with c | ⟨m, m1, m2, m3, m4, -⟩
        · rw [c] at j4
          exact absurd j4.symm (nI_ng (by omega) (by decide))
        · rw [j4] at m3
          have := (nI_eq (by omega) (by omega)).mp m3
          rw [this, m4]; exact k3
      have hsj := (inTree k1 ht (j := p + 1) (by omega) (by omega) k2).2
      refine holders_ok (e := p + tl (ra u) p - 1) hA hap (by omega) (by omega) (by omega) (fun k q1 q2 => ?_) (by rw [show p + tl (ra u) p - 1 = p + (tl (ra u) p - 1) from by omega, kE]; decide) (by rw [hj3]; decide) ?_
      · by_cases c2 : kd (ra u k) = 2
        · have e1 := tl_eq (TL_atom (r := ra u) (i := k) (by rw [c2]; decide))
          omega
        · have := (inTree k1 ht (j := k) (by omega) (by omega) c2).2
          omega
      have b1 : HB (ra u) (t + 1) (t + tl (ra u) t) i ≤ i + 1 - (t + 1) := hbS_le _ _ _ _ _
      have b2 : HB (ra u) (p + 1) (p + tl (ra u) p - 1) j ≤ j + 1 - (p + 1) := hbS_le _ _ _ _ _
      have cl : (VR (ra u) (u.2 2) p (ra u i) (u.2 2 i)).toNatClampNeg = j := by rw [j4, nI_clamp (by omega)]
      refine ⟨fun h => s59 (fun _ _ => ?_), fun h => h0 (fun hT => ?_)⟩
      · rw [nI_eq (by omega) (by omega)] at h
        rw [eT, cl]; exact h
      · refine h ?_
        have := hT.1 i hti (by omega) k3 (by rw [j4]; exact nI_pos (by omega))
        rw [eT, cl] at this
        rw [this]
  exact ⟨_, key (tl (ra u) t) t rfl (Nat.le_refl t) (fun j j1 j2 => by omega)⟩
/-- the templates of the rule at i are linked -/
def LKR (u : mS) (i : Nat) : Prop := ∀ k, i + 1 + tl (ra u) (i + 1) ≤ k → k < i + 1 + tl (ra u) (i + 1) + tl (ra u) (i + 1 + tl (ra u) (i + 1)) → US u (i + 1) k
theorem LKR_fr {u w : mS} {i n : Nat} (h : LKR u i) (h1 : w.2 1 = u.2 1) (h2 : w.2 2 = u.2 2) (hn : i + 1 + tl (ra u) (i + 1) + tl (ra u) (i + 1 + tl (ra u) (i + 1)) ≤ n) (h4 : ∀ k, i ≤ k → k < n → w.2 4 k = u.2 4 k) : LKR w i := by
  intro k
  rw [ra_fr h1]
  intro q1 q2
  exact US_fr (h k q1 q2) h1 h2 (h4 k (by omega) (by omega))
theorem it2 {r : Nat → Int32} {i n : Nat} (h : LI r i n 2) : it r i 1 = i + 1 + tl r (i + 1) ∧ i + 1 + tl r (i + 1) + tl r (i + 1 + tl r (i + 1)) = i + (n - 1) := by
  have e1 : it r i 1 = i + 1 + tl r (i + 1) := rfl
  have e2 : it r i 2 = it r i 1 + tl r (it r i 1) := rfl
  have e3 := h.2.2.2
  rw [e2, e1] at e3
  exact ⟨e1, e3⟩
theorem isRuleA {a b i : Nat} {u : mS} {post : Int32 → mS → Prop} (hA : AR u a b) (hD : DR (ra u) a b) (hai : a ≤ i) (hib : i < b) (h1 : RUL (ra u) (u.2 2) i → ∀ w, FR [] [4] u w → LKR w i → (∀ k, (k < i ∨ i + tl (ra u) i ≤ k) → w.2 4 k = u.2 4 k) → post 1 w) (h0 : ¬ RUL (ra u) (u.2 2) i → ∀ w, FR [] [4] u w → post 0 w) : wp_X6_isRule (nI i) u post := by
  have hb := AR_b hA
  have no2 : (∀ n, LI (ra u) i n 2 → ¬ dn (ra u) i 2 = 0) → ¬ RUL (ra u) (u.2 2) i := by
    rintro q ⟨-, ⟨n, hL, hd⟩, -⟩
    exact q n hL hd
  refine plainLength_ok hA hai hib (fun k1 => ⟨fun h => absurd h (by decide), fun _ => h0 (no2 (fun n hL => absurd hL.1 k1)) u FR.rf⟩) (fun n N hL hle hd => ⟨fun h => absurd h (by decide), fun _ => h0 (no2 (fun n' hL' hd' => ?_)) u FR.rf⟩) (fun n N hL hle hd => ?_)
  · obtain ⟨-, e2⟩ := LI_uniq hL hL'
    subst e2
    exact hd hd'
  have hn := LI_at hL (Nat.le_refl N)
  refine ⟨fun hN2 => ?_, fun hN2 => h0 (no2 (fun n' hL' hd' => ?_)) u FR.rf⟩
  · have hN2 : nI N = nI 2 := hN2
    rw [nI_eq (by omega) (by omega)] at hN2
    subst hN2
    obtain ⟨e1, e2⟩ := it2 hL
    have en : tl (ra u) i = n := tl_eq hL.2.1
    obtain ⟨cP, tP⟩ := hL.2.2.1 0 (by omega)
    obtain ⟨cT, tT⟩ := hL.2.2.1 1 (by omega)
    rw [e1] at cT tT
    have cP : ¬ kd (ra u (i + 1)) = 2 := cP
    have tP : TL (ra u) (i + 1) (tl (ra u) (i + 1)) := tP
    have tP0 := tP.1
    have tT0 := tT.1
    have n2 := (TL_open hL.1 hL.2.1)
    rintro _ rfl
    rw [nI_1]
    refine after_ok hA (by omega) (by omega) ?_
    refine isPatternA hA hD (by omega) (by omega) (fun hP => ⟨fun _ => ?_, fun h => absurd h (by decide)⟩) (fun hP => ⟨fun h => absurd rfl h, fun _ => h0 (fun q => hP q.2.2.1) u FR.rf⟩)
    have k1 : kd (ra u (i + 1)) = 1 := by
      obtain ⟨⟨n', N', hL', -⟩, -⟩ := hP
      exact hL'.1
    have k2 : ¬ kd (ra u (i + 1 + 1)) = 2 := by
      obtain ⟨⟨n', N', hL', hc⟩, -⟩ := hP
      intro q
      rcases Nat.eq_zero_or_pos N' with z | z
      · subst z; exact hc rfl
      · exact (hL'.2.2.1 0 z).1 q
    refine linkUses_ok hA (by omega) k1 k2 rfl (by omega) (fun w wF wU wO => ?_)
    have r1 : w.2 1 = u.2 1 := wF.2 1 (by decide)
    have r2 : w.2 2 = u.2 2 := wF.2 2 (by decide)
    have rw1 : ra w = ra u := ra_fr r1
    have hAw : AR w a b := AR_fr hA (wF.1 1 (by decide)) r1 (wF.2 3 (by decide))
    have ln : LKR w i := by
      intro k
      rw [rw1]
      exact fun q1 q2 => wU k q1 q2
    have wO' : ∀ k, (k < i ∨ i + tl (ra u) i ≤ k) → w.2 4 k = u.2 4 k := fun k hk => wO k (by omega)
    have kz : kd (ra u (i + (n - 1))) = 2 := n2.2.2
    have go := isTemplateA (post := post) (p := i + 1) (t := i + 1 + tl (ra w) (i + 1)) hAw (by rw [rw1]; exact hD) (by omega) (by rw [rw1]; exact k1) (by rw [rw1]; exact k2) rfl (by rw [rw1]; omega) (by rw [rw1, e2, kz]; decide) (by rw [rw1]; exact cT) (by rw [rw1]; exact wU) (fun hT => h1 ⟨by rw [hL.1]; decide, ⟨n, hL, hd⟩, hP, by rw [rw1, r2] at hT; exact hT⟩ w wF ln wO') (fun hT => h0 (fun q => hT (by rw [rw1, r2]; exact q.2.2.2)) w wF)
    rw [rw1] at go
    exact go
  · obtain ⟨-, e2⟩ := LI_uniq hL hL'
    subst e2
    exact hN2 rfl
/-- the list at l is a name and rules -/
def NWR (r s : Nat → Int32) (l : Nat) : Prop := ∃ n N, LI r l n N ∧ dn r l N = 0 ∧ 0 < N ∧ kd (r (l + 1)) = 3 ∧ ∀ k, 0 < k → k < N → RUL r s (it r l k)
theorem isNWR {a b l : Nat} {u : mS} {post : Int32 → mS → Prop} (hA : AR u a b) (hD : DR (ra u) a b) (hal : a ≤ l) (hlb : l < b) (h1 : NWR (ra u) (u.2 2) l → ∀ w, FR [] [4] u w → (∀ k, (k < l ∨ l + tl (ra u) l ≤ k) → w.2 4 k = u.2 4 k) → (∀ n N, LI (ra u) l n N → ∀ k, 0 < k → k < N → LKR w (it (ra u) l k)) → post 1 w) (h0 : ¬ NWR (ra u) (u.2 2) l → ∀ w, FR [] [4] u w → post 0 w) : wp_X6_isNameWithRules (nI l) u post := by
  have hb := AR_b hA
  have m1 : ((-1 : Int32) < 1) := by decide
  have no : ∀ {n N : Nat}, LI (ra u) l n N → (¬ dn (ra u) l N = 0 ∨ N = 0 ∨ ¬ kd (ra u (l + 1)) = 3 ∨ ∃ k, 0 < k ∧ k < N ∧ ¬ RUL (ra u) (u.2 2) (it (ra u) l k)) → ¬ NWR (ra u) (u.2 2) l := by
    rintro n N hL q ⟨n', N', hL', g1, g2, g3, g4⟩
    obtain ⟨e1, e2⟩ := LI_uniq hL hL'
    subst e1 e2
    rcases q with q | q | q | ⟨k, q1, q2, q3⟩
    · exact q g1
    · omega
    · exact q g3
    · exact q3 (g4 k q1 q2)
  refine plainLength_ok hA hal hlb (fun k1 => ⟨fun _ => h0 ?_ u FR.rf, fun h => absurd m1 h⟩) (fun n N hL hle hd => ⟨fun _ => h0 (no hL (Or.inl hd)) u FR.rf, fun h => absurd m1 h⟩) (fun n N hL hle hd => ?_)
  · rintro ⟨n', N', hL', -⟩
    exact k1 hL'.1
  have hat := LI_at hL (Nat.le_refl N)
  have en : tl (ra u) l = n := tl_eq hL.2.1
  have n2 := (TL_open hL.1 hL.2.1).1
  refine ⟨fun h => ?_, fun h => ?_⟩
  · have h : nI N < nI 1 := h
    rw [nI_ltI (by omega) (by omega)] at h
    exact h0 (no hL (Or.inr (Or.inl (by omega)))) u FR.rf
  have hN : 0 < N := by
    have h : ¬ nI N < nI 1 := h
    rw [nI_ltI (by omega) (by omega)] at h
    omega
  rintro _ rfl
  rw [nI_1]
  obtain ⟨hw1, -⟩ := hA.2 (l + 1) (by omega) (by omega)
  refine wordAR hA (by omega) (isName_ok hw1 (fun k3 => ⟨fun _ => ?_, fun h => absurd h (by decide)⟩) (fun k3 => ⟨fun h => absurd rfl h, fun _ => h0 (no hL (Or.inr (Or.inr (Or.inl k3)))) u FR.rf⟩))
  rintro _ rfl
  have i1 : it (ra u) l 1 = l + 2 := by
    show l + 1 + tl (ra u) (l + 1) = l + 2
    rw [tl_eq (TL_atom (r := ra u) (i := l + 1) (by rw [k3]; decide))]
  rw [show (2 : Int32) = nI 2 from rfl, nI_add]
  have key : ∀ (d k : Nat) (w : mS), k + d = N → 0 < k → FR [] [4] u w → (∀ j, 0 < j → j < k → RUL (ra u) (u.2 2) (it (ra u) l j) ∧ LKR w (it (ra u) l j)) → (∀ j, (j < l ∨ it (ra u) l k ≤ j) → w.2 4 j = u.2 4 j) → mL4 (fun K => wj_X6_isNameWithRules_39 K post) (d + 1) (nI N) (nI (it (ra u) l k)) (nI k) w := by
    intro d
    induction d with
    | zero =>
      intro k w hk hk0 wF wL wO
      show wj_X6_isNameWithRules_39 _ post _ _ _ w
      refine ⟨fun _ => h1 ⟨n, N, hL, hd, hN, k3, fun j j1 j2 => (wL j j1 (by omega)).1⟩ w wF (fun j hj => wO j ?_) (fun n' N' hL' j j1 j2 => ?_), fun h => absurd ?_ h⟩
      · rw [show k = N from by omega, hL.2.2.2]
        rw [en] at hj
        omega
      · obtain ⟨-, e2⟩ := LI_uniq hL hL'
        subst e2
        exact (wL j j1 (by omega)).2
      · rw [nI_leI (by omega) (by omega)]; omega
    | succ d ih =>
      intro k w hk hk0 wF wL wO
      have r1 : w.2 1 = u.2 1 := wF.2 1 (by decide)
      have r2 : w.2 2 = u.2 2 := wF.2 2 (by decide)
      have rw1 : ra w = ra u := ra_fr r1
      have hAw : AR w a b := AR_fr hA (wF.1 1 (by decide)) r1 (wF.2 3 (by decide))
      have hatk := LI_at hL (k := k) (by omega)
      obtain ⟨ck, tk⟩ := hL.2.2.1 k (by omega)
      show wj_X6_isNameWithRules_39 _ post _ _ _ w
      refine ⟨fun h => absurd h (by rw [nI_leI (by omega) (by omega)]; omega), fun _ => ?_⟩
      refine isRuleA hAw (by rw [rw1]; exact hD) (by omega) (by omega) (fun hR v vF vL vO => ⟨fun _ => ?_, fun h => absurd h (by decide)⟩) (fun hR v vF => ⟨fun h => absurd rfl h, fun _ => h0 (no hL (Or.inr (Or.inr (Or.inr ⟨k, hk0, by omega, fun q => hR (by rw [rw1, r2]; exact q)⟩)))) v (wF.tr vF)⟩)
      rw [rw1, r2] at hR
      rw [rw1] at vO
      have v1 : v.2 1 = w.2 1 := vF.2 1 (by decide)
      have v2 : v.2 2 = w.2 2 := vF.2 2 (by decide)
      have rv1 : ra v = ra u := (ra_fr v1).trans rw1
      have hAv : AR v a b := AR_fr hAw (vF.1 1 (by decide)) v1 (vF.2 3 (by decide))
      refine after_ok hAv (by omega) (by omega) ?_
      rintro _ rfl
      rw [nI_1, rv1]
      have ek : it (ra u) l k + tl (ra u) (it (ra u) l k) = it (ra u) l (k + 1) := rfl
      rw [ek]
      refine ih (k + 1) v (by omega) (by omega) (wF.tr vF) (fun j j1 j2 => ?_) (fun j hj => ?_)
      · rcases Nat.lt_or_ge j k with c | c
        · obtain ⟨g1, g2⟩ := wL j j1 c
          refine ⟨g1, ?_⟩
          have hm := LI_mono hL (j := j + 1) (k := k) (by omega) (by omega)
          have ej : it (ra u) l j + tl (ra u) (it (ra u) l j) = it (ra u) l (j + 1) := rfl
          obtain ⟨-, ⟨nj, hLj, -⟩, -⟩ := g1
          have e3 := (it2 hLj).2
          have e4 := tl_eq hLj.2.1
          refine LKR_fr (n := it (ra u) l k) g2 v1 v2 ?_ (fun m m1 m2 => vO m (Or.inl m2))
          rw [rw1]
          have := hLj.2.1.1
          omega
        · have ej : j = k := by omega
          subst ej
          exact ⟨hR, vL⟩
      · refine (vO j ?_).trans (wO j ?_)
        · omega
        · omega
  have hend := hL.2.2.2
  have := key (N - 1) 1 u (by omega) (by omega) FR.rf (fun j j1 j2 => by omega) (fun j _ => rfl)
  rw [i1] at this
  exact ⟨_, this⟩
