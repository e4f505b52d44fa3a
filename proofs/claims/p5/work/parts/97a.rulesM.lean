-- 97a: the reference's rules, with what it keeps
theorem rulesM6 {v z : mS} {n ow : Nat} {Q : Int32 → mS → Prop} (go : ∀ Q : Int32 → mS → Prop, Q (-1) z → wp_X9_read v Q) (hR : ROW1 z n) (hw3 : z.1 3 = nI ow) (how : ow ≤ 4) (hno : ¬ NWR (z.2 1) (z.2 2) (2600 - n) → ∀ w, FR [0] [3, 4] z w → (∀ j, j < 480 → w.2 3 j = z.2 3 j ∧ w.2 4 j = z.2 4 j) → w.1 0 = 0 → Q (-1000) w) (hco : NWR (z.2 1) (z.2 2) (2600 - n) → ∀ y, y < 65536 → z.2 1 (2600 - n + 1) = nI (196608 + y) → ¬ FREE y → ∀ w, FR [0] [3, 4] z w → (∀ j, j < 480 → w.2 3 j = z.2 3 j ∧ w.2 4 j = z.2 4 j) → w.1 0 = 0 → Q (-1001) w) (hsl : NWR (z.2 1) (z.2 2) (2600 - n) → ∀ y s, y < 65536 → z.2 1 (2600 - n + 1) = nI (196608 + y) → FREE y → s ≤ ow → (∀ j, j < s → ¬ z.2 5 j = nI y) → (s < ow → z.2 5 s = nI y) → (s = 4 → ∀ w, FR [0] [3, 4] z w → (∀ j, j < 480 → w.2 3 j = z.2 3 j ∧ w.2 4 j = z.2 4 j) → w.1 0 = 0 → Q (-1001) w) ∧ (s < 4 → ∀ o' w, ((s = ow ∧ o' = ow + 1) ∨ (s < ow ∧ o' = ow)) → FR [0, 3] [3, 4, 5, 6] z w → w.1 0 = 0 → w.1 3 = nI o' → w.2 5 = upd (z.2 5) s (nI y) → w.2 6 = upd (z.2 6) s (nI (120 * s + (n - 3))) → (∀ j, j < n - 3 → w.2 3 (120 * s + j) = z.2 1 (2600 - n + 2 + j) ∧ w.2 4 (120 * s + j) = z.2 2 (2600 - n + 2 + j)) → (∀ j, j < 480 → (j < 120 * s ∨ 120 * s + (n - 3) ≤ j) → w.2 3 j = z.2 3 j ∧ w.2 4 j = z.2 4 j) → 3 ≤ n → Q (nI o') w)) : wp_X9_rules v Q := by
  obtain ⟨r0, r1, r2, r3, r4, r5⟩ := hR
  generalize hh : 2600 - n = h at *
  have en : h + n = 2600 := by omega
  refine go _ ?_
  rintro _ rfl
  have vF : FR [0] [] z (mSet z 0 0) := FR_set FR.rf (by decide)
  have v0 : (mSet z 0 0).1 0 = 0 := mSet_same _ _ _
  have v1 : (mSet z 0 0).1 1 = nI h := (mSet_other (by decide : (1 : Nat) ≠ 0)).trans r2
  have v3 : (mSet z 0 0).1 3 = nI ow := (mSet_other (by decide : (3 : Nat) ≠ 0)).trans hw3
  have va : (mSet z 0 0).2 = z.2 := rfl
  generalize mSet z 0 0 = x at vF v0 v1 v3 va ⊢
  have xF : FR [0] [3, 4] z x := vF.wk (by decide) (by decide)
  have xK : ∀ j, j < 480 → x.2 3 j = z.2 3 j ∧ x.2 4 j = z.2 4 j := fun j _ => by rw [va]; exact ⟨rfl, rfl⟩
  refine ⟨fun _ => ?_, fun q => absurd (by decide) q⟩
  intro y5 q5
  rw [v1] at q5; subst q5
  refine kind_2 (by omega) ?_
  rw [va]
  refine ⟨fun k1 => hno (fun q => ?_) x xF xK v0, fun k1 => ?_⟩
  · obtain ⟨n', N', hL', -⟩ := q
    exact k1 hL'.1
  have m2 := TL_open k1 r3
  intro y9 q9
  rw [v1] at q9; subst q9
  rintro _ rfl
  rw [nI_1]
  refine kind_2 (by omega) ?_
  rw [va]
  refine ⟨fun k3 => hno (fun q => ?_) x xF xK v0, fun k3 => ?_⟩
  · obtain ⟨n', N', hL', a1, a2, a3, -⟩ := q
    exact k3 a3
  obtain ⟨N, hLI⟩ := LI_ex k1 r3
  have n3 : 3 ≤ n := by
    rcases Nat.lt_or_ge 2 n with a | a
    · omega
    · have : n = 2 := by omega
      have q := m2.2.2
      rw [this] at q
      rw [show h + (2 - 1) = h + 1 from rfl, k3] at q
      exact absurd q (by decide)
  have N0 : 0 < N := by
    rcases Nat.eq_zero_or_pos N with a | a
    · subst a
      have q : h + 1 = h + (n - 1) := hLI.2.2.2
      omega
    · exact a
  have hSQ := SQ_of_LI hLI N0
  have i1 := it1_name hLI N0 k3
  rw [i1] at hSQ
  have hSQ : SQ (z.2 1) (h + 2) (h + 2 + (2599 - (h + 2))) (N - 1) := by
    rw [show h + 2 + (2599 - (h + 2)) = h + (n - 1) from by omega]; exact hSQ
  intro y14 q14
  rw [v1] at q14; subst q14
  refine dots_2 (n := n) (N := N) (by rw [va]; exact hLI) (by omega) ?_
  rw [va]
  have dl := dn_le (z.2 1) h N
  have Nn := LI_at hLI (Nat.le_refl N)
  have nod : ¬ nI (dn (z.2 1) h N) ≤ 0 → ¬ NWR (z.2 1) (z.2 2) h := by
    rintro hd ⟨n', N', hL', a1, -⟩
    obtain ⟨-, e2⟩ := LI_uniq hLI hL'
    subst e2
    rw [a1] at hd
    exact hd (by decide)
  refine ⟨fun hd => ?_, fun hd => hno (nod hd) x xF xK v0⟩
  have hd0 : dn (z.2 1) h N = 0 := by
    have hd : nI (dn (z.2 1) h N) ≤ nI 0 := hd
    rw [nI_leI (by omega) (by omega)] at hd
    omega
  intro y18 q18
  rw [v1] at q18; subst q18
  rintro _ rfl
  rw [show (2 : Int32) = nI 2 from rfl, nI_add, show (2599 : Int32) = nI 2599 from rfl, show (480 : Int32) = nI 480 from rfl]
  refine keep_ok (a := h + 2) (b := 2599) (o := 480) (by omega) (by omega) (by omega) (fun w2 hw2 => ?_)
  obtain ⟨wF2, wC, wO⟩ := hw2
  rw [va] at wC
  have w2F : FR [0] [3, 4] z w2 := xF.tr (wF2.wk (by decide) (by decide))
  have w2K : ∀ j, j < 480 → w2.2 3 j = z.2 3 j ∧ w2.2 4 j = z.2 4 j := fun j hj => by
    rw [(wO j (Or.inl hj)).1, (wO j (Or.inl hj)).2, va]
    exact ⟨rfl, rfl⟩
  have w20 : w2.1 0 = 0 := (wF2.1 0 (by decide)).trans v0
  have hSQ' := (sh_SQ wC hSQ).1
  have wC' : ∀ j, j < 2599 - (h + 2) → z.2 1 (h + 2 + j) = w2.2 3 (480 + j) ∧ z.2 2 (h + 2 + j) = w2.2 4 (480 + j) := fun j hj => ⟨((wC j hj).1).symm, ((wC j hj).2).symm⟩
  have eqR : (∀ k, k < N - 1 → RUL (w2.2 3) (w2.2 4) (nx (w2.2 3) 480 k)) ↔ NWR (z.2 1) (z.2 2) h := by
    constructor
    · intro q
      have q2 := RUL_cp wC' hSQ' (by omega) (by omega) q
      refine ⟨n, N, hLI, hd0, N0, k3, fun k k1' k2' => ?_⟩
      have := q2 (k - 1) (by omega)
      rw [← i1, it_nx, show k - 1 + 1 = k from by omega] at this
      exact this
    · rintro ⟨n', N', hL', a1, a2, a3, a4⟩
      obtain ⟨-, e2⟩ := LI_uniq hLI hL'
      subst e2
      refine RUL_cp wC hSQ (by omega) (by omega) (fun k hk => ?_)
      rw [← i1, it_nx]
      exact a4 (k + 1) (by omega) (by omega)
  refine areRules_ok hSQ' (by omega) (fun hRu => ⟨fun _ => ?_, fun q => absurd q (by decide)⟩) (fun hRu => ⟨fun q => absurd rfl q, fun _ => hno (fun q => hRu (eqR.mpr q)) w2 w2F w2K w20⟩)
  have hNW := eqR.mp hRu
  have w21 : w2.1 1 = nI h := (wF2.1 1 (by decide)).trans v1
  have w2r : w2.2 1 = z.2 1 := (wF2.2 1 (by decide)).trans (by rw [va])
  have w23 : w2.1 3 = nI ow := (wF2.1 3 (by decide)).trans v3
  have w25 : w2.2 5 = z.2 5 := (wF2.2 5 (by decide)).trans (by rw [va])
  intro y25 q25
  rw [w21] at q25; subst q25
  rintro _ rfl
  rw [nI_1]
  obtain ⟨y, hy, ey⟩ : ∃ y, y < 65536 ∧ z.2 1 (h + 1) = nI (196608 + y) := by
    obtain ⟨k, a, t1, t2, t3, t4⟩ := r4 1 (by omega)
    rw [t4] at k3
    rw [kd_nI (by omega), show (65536 * k + a) / 65536 = k from by omega, show (3 : Int32) = nI 3 from rfl, nI_eq (by omega) (by omega)] at k3
    subst k3
    exact ⟨a, t3, t4⟩
  refine what_2x (k := 3) (a := y) (by omega) (by rw [w2r, ey]) (by omega) hy ?_
  refine coreM hy (fun hc r hr => ⟨fun _ => ?_, fun q => absurd hr q⟩) (fun hc => ⟨fun q => absurd q (by decide), fun _ => ⟨fun h4 => ?_, fun h4 => ?_⟩⟩)
  · exact hco hNW y hy ey (fun q => by unfold FREE at q; omega) w2 w2F w2K w20
  · have h4 : nI y < nI 40000 := h4
    rw [nI_ltI (by omega) (by omega)] at h4
    have hf : FREE y := by unfold FREE; omega
    refine mL3_in (fun x3 x4 z' => x3 = nI y ∧ z' = w2 ∧ ∃ k, x4 = nI k ∧ k ≤ ow ∧ ∀ j, j < k → ¬ z.2 5 j = nI y) (fun _ x4 _ => ow - x4.toNatClampNeg) ?_ _ _ _ ⟨rfl, rfl, 0, rfl, by omega, fun j hj => by omega⟩
    rintro K x3 x4 z' ⟨rfl, rfl, k, rfl, hk, hkj⟩ ih
    have j160 : (k < ow → z.2 5 k = nI y) → wj_X9_rules_160 Q (nI y) (nI k) z' := by
      intro hkk
      obtain ⟨g4, gs⟩ := hsl hNW y k hy ey hf hk hkj hkk
      refine ⟨fun n4 => ?_, fun k4 => g4 ?_ z' w2F w2K w20⟩
      · have k4 : k < 4 := by
          rcases Nat.lt_or_ge k 4 with a | a
          · exact a
          · exact absurd (by rw [show k = 4 from by omega]; rfl) n4
        have j193 : ∀ o', ((k = ow ∧ o' = ow + 1) ∨ (k < ow ∧ o' = ow)) → wj_X9_rules_193 Q (nI y) (nI k) (nI o') z' := by
          intro o' ho'
          rintro _ rfl
          refine ⟨vp_in_nI (by omega) (by omega), ?_⟩
          rintro _ rfl y47 q47
          have q47 : y47 = nI h := q47.trans ((mSet_other (u := z') (v := nI o') (by decide : (1 : Nat) ≠ 3)).trans w21)
          subst q47
          rintro _ rfl _ rfl
          rw [show (2 : Int32) = nI 2 from rfl, nI_add, show (2599 : Int32) = nI 2599 from rfl, show (120 : Int32) = nI 120 from rfl, pk_mul, nI_clamp (by omega)]
          have G1 : FR [3] [5] z' (mPut (mSet z' 3 (nI o')) 5 k (nI y)) := FR_put (FR_set FR.rf (by decide)) (by decide)
          have G3 : (mPut (mSet z' 3 (nI o')) 5 k (nI y)).1 3 = nI o' := mSet_same z' 3 (nI o')
          have G5 : (mPut (mSet z' 3 (nI o')) 5 k (nI y)).2 5 = upd (z'.2 5) k (nI y) := mPut_same _ _ _ _
          generalize mPut (mSet z' 3 (nI o')) 5 k (nI y) = z1 at *
          refine keep_ok (a := h + 2) (b := 2599) (o := 120 * k) (by omega) (by omega) (by omega) (fun z2 hz2 => ?_)
          obtain ⟨F2, C2, O2⟩ := hz2
          refine ⟨vp_in_nI (by omega) (by omega), ?_⟩
          rintro _ rfl y53 q53
          have GA : FR [3] [3, 4, 5, 6] z' (mPut z2 6 k (nI (120 * k + (2599 - (h + 2))))) := FR_put ((G1.wk (by decide) (by decide)).tr (F2.wk (by decide) (by decide))) (by decide)
          have e3 : (mPut z2 6 k (nI (120 * k + (2599 - (h + 2))))).1 3 = nI o' := (F2.1 3 (by decide)).trans G3
          rw [e3] at q53; subst q53
          have e33 : (mPut z2 6 k (nI (120 * k + (2599 - (h + 2))))).2 3 = z2.2 3 := mPut_other (by decide)
          have e34 : (mPut z2 6 k (nI (120 * k + (2599 - (h + 2))))).2 4 = z2.2 4 := mPut_other (by decide)
          refine gs k4 o' _ ho' ((w2F.wk (by decide) (by decide)).tr (GA.wk (by decide) (by decide))) ((GA.1 0 (by decide)).trans w20) e3 ?_ ?_ (fun j hj => ?_) (fun j hj hj2 => ?_) n3
          · rw [mPut_other (by decide : (5 : Nat) ≠ 6), F2.2 5 (by decide), G5, w25]
          · rw [mPut_same, F2.2 6 (by decide), G1.2 6 (by decide), w2F.2 6 (by decide), show 2599 - (h + 2) = n - 3 from by omega]
          · rw [e33, e34, (C2 j (by omega)).1, (C2 j (by omega)).2, G1.2 1 (by decide), G1.2 2 (by decide), w2F.2 1 (by decide), w2F.2 2 (by decide)]
            exact ⟨rfl, rfl⟩
          · rw [e33, e34, (O2 j (by omega)).1, (O2 j (by omega)).2, G1.2 3 (by decide), G1.2 4 (by decide)]
            exact w2K j hj
        intro y40 q40
        rw [w23] at q40; subst q40
        refine ⟨fun hne => ?_, fun heq => ?_⟩
        · intro y42 q42
          rw [w23] at q42; subst q42
          have : k ≠ ow := fun q => hne (by rw [q])
          exact j193 ow (Or.inr ⟨by omega, rfl⟩)
        · rw [nI_eq (by omega) (by omega)] at heq
          intro y43 q43
          rw [w23] at q43; subst q43
          rintro _ rfl
          rw [nI_1]
          exact j193 (ow + 1) (Or.inl ⟨heq, rfl⟩)
      · have k4 : nI k = nI 4 := k4
        rw [nI_eq (by omega) (by omega)] at k4
        exact k4
    intro y34 q34
    rw [w23] at q34; subst q34
    refine ⟨fun q => j160 (fun q2 => ?_), fun q => ?_⟩
    · rw [nI_leI (by omega) (by omega)] at q; omega
    rw [nI_leI (by omega) (by omega)] at q
    refine ⟨vp_in_nI (by omega) (by omega), ?_⟩
    intro y36 q36
    rw [nI_clamp (by omega), w25] at q36; subst q36
    refine ⟨fun q2 => j160 (fun _ => q2), fun q2 => ?_⟩
    rintro _ rfl
    rw [nI_1]
    refine ih _ _ _ ⟨rfl, rfl, k + 1, rfl, by omega, fun j hj => ?_⟩ ?_
    · rcases Nat.lt_or_ge j k with c | c
      · exact hkj j c
      · have : j = k := by omega
        subst this; exact q2
    · rw [nI_clamp (by omega), nI_clamp (by omega)]; omega
  · have h4 : ¬ nI y < nI 40000 := h4
    rw [nI_ltI (by omega) (by omega)] at h4
    exact hco hNW y hy ey (fun q => by unfold FREE at q; omega) w2 w2F w2K w20
