-- 34: expand, rules, at, count of the reference
set_option maxRecDepth 20000 in
theorem expandM {x : Int32} {len : Nat} {u : mS} {post : Int32 → mS → Prop} (hL : LST (nI len) u) (hlen : len ≤ 120) (h7 : (x < 0 ∨ ¬ x ≤ 8) → ∀ r, post r u) (h1 : ¬ x < 0 → x ≤ 8 → ∀ r v, LST 0 v → post r v) : wp_X9_expand x u post := by
  refine ⟨fun q => h7 (Or.inl q) _, fun q0 => ⟨fun q8 => ?_, fun q => h7 (Or.inr q) _⟩⟩
  have hp := h1 q0 q8
  obtain ⟨f, f8, rfl⟩ := nI_of2 (M := (8 : Int32)) (n := 8) (by decide) q0 q8
  -- behind the reading
  have L11 : ∀ w, FR [1] [1, 2] u w → ∀ v, FR [0, 9, 10, 11, 12, 13, 14] [] w v → v.1 0 = 0 → v.1 9 = 0 → LST 0 v := by
    intro w wF v vF v0 v9
    obtain ⟨c0, c1, -, c4⟩ := hL
    refine ⟨v0, RD3_fr (RD3_fr c1 wF (by decide)) vF (by decide), ⟨0, v9, by omega⟩, OWN_keep (OWN_keep c4 wF (by decide) (by decide) (fun j _ => by rw [wF.2 3 (by decide), wF.2 4 (by decide)]; exact ⟨rfl, rfl⟩)) vF (by decide) (by decide) (fun j _ => by rw [vF.2 3 (by decide), vF.2 4 (by decide)]; exact ⟨rfl, rfl⟩)⟩
  have beg : ∀ (v : mS) (z0 : Int32) (q : mS → Prop), LST 0 v → (∀ w, FR [2, 4, 5, 12, 15] [7, 8, 9, 10, 11] v w → LST 0 w → w.1 15 = z0 → w.1 2 = nI 480 → BNS (PB (w.2 3) (w.2 4) 480) w → q w) → ∀ u13 : mS, u13 = mSet v 15 z0 → ∀ u14 : mS, u14 = mSet u13 2 (480 : Int32) → wp_X9_beginning u14 q := by
    intro v z0 q vL hq
    rintro _ rfl _ rfl
    have F0 : FR [2, 15] [] v (mSet (mSet v 15 z0) 2 480) := FR_set (FR_set FR.rf (by decide)) (by decide)
    have sL : LST 0 (mSet (mSet v 15 z0) 2 480) := LST_fr vL F0 (by decide) (by decide) (by decide) (by decide) (by decide) (by decide) (by decide)
    obtain ⟨ow, o1, o2, o3⟩ := sL.2.2.2
    refine beginning_ok (P := PB (v.2 3) (v.2 4) 480) (fun _ _ q => absurd q (by decide)) (fun _ _ q => absurd q (by decide)) o1 o2 (fun k hk => ?_) (fun w wF wB => ?_)
    · obtain ⟨e, e1, e2, e3, e4⟩ := o3 k hk
      exact fun _ => ⟨120 * k, e, rfl, e1, by omega, e4⟩
    · refine hq w ((F0.wk (by decide) (by decide)).tr (wF.wk (by decide) (by decide))) (LST_fr sL wF (by decide) (by decide) (by decide) (by decide) (by decide) (by decide) (by decide)) ?_ ?_ ?_
      · exact (wF.1 15 (by decide)).trans ((mSet_other (by decide : (15 : Nat) ≠ 2)).trans (mSet_same _ _ _))
      · exact (wF.1 2 (by decide)).trans (mSet_same _ _ _)
      · rw [wF.2 3 (by decide), wF.2 4 (by decide)]; exact wB
  have G11 : ∀ w : mS, FR [0, 9, 10, 11, 12, 13, 14] [] w (mSet (mSet (mSet (mSet (mSet (mSet (mSet w 0 0) 9 0) 10 0) 11 0) 12 0) 13 0) 14 0) := fun w => FR_set (FR_set (FR_set (FR_set (FR_set (FR_set (FR_set FR.rf (by decide)) (by decide)) (by decide)) (by decide)) (by decide)) (by decide)) (by decide)
  refine read_ok hL.1 hlen (fun p w hp120 wF => ?_) (fun n w wF hR => ?_)
  · rintro _ rfl _ rfl _ rfl _ rfl _ rfl _ rfl _ rfl
    have vL := L11 w wF _ (G11 w) (by simp only [mSet_other, mSet_same, ne_eq, reduceCtorEq, not_false_eq_true, Nat.reduceEqDiff]) (by simp only [mSet_other, mSet_same, ne_eq, reduceCtorEq, not_false_eq_true, Nat.reduceEqDiff])
    refine ⟨fun _ => beg _ _ _ vL (fun z zF zL _ _ _ => ⟨fun q => absurd q (nI_pos (by omega)), fun _ => ?_⟩), fun q => absurd (nI_pos' (by omega)) q⟩
    rintro _ rfl
    exact hp _ z zL
  · rintro _ rfl _ rfl _ rfl _ rfl _ rfl _ rfl _ rfl
    have vL := L11 w wF _ (G11 w) (by simp only [mSet_other, mSet_same, ne_eq, reduceCtorEq, not_false_eq_true, Nat.reduceEqDiff]) (by simp only [mSet_other, mSet_same, ne_eq, reduceCtorEq, not_false_eq_true, Nat.reduceEqDiff])
    refine ⟨fun q => absurd q (by decide), fun _ => beg _ _ _ vL (fun z zF zL z15 z2 zB => ⟨fun _ => ?_, fun q => absurd (by decide) q⟩)⟩
    obtain ⟨r0, r1, r2, r3, r4, r5⟩ := hR
    have zr : z.2 1 = w.2 1 := (zF.2 1 (by decide)).trans ((G11 w).2 1 (by decide))
    have z1 : z.1 1 = nI (2600 - n) := (zF.1 1 (by decide)).trans (((G11 w).1 1 (by decide)).trans r2)
    have en : 2600 - n + n = 2600 := by omega
    have zE : EXI z (2600 - n) f := by
      refine ⟨z1, by omega, z15, f8, ⟨1, by omega, ?_⟩, 480, z2, by omega, by omega, zB⟩
      rw [zr]
      by_cases y2 : kd (w.2 1 (2600 - n)) = 2
      · have := TL_uniq r3 (TL_atom (by rw [y2]; decide))
        subst this
        exact Or.inl ⟨Or.inl y2, rfl⟩
      · refine Or.inr ⟨n, y2, r3, by omega, by omega, fun j j1 j2 => ?_, fun k k1 k2 k6 => ?_, en⟩
        · have := r4 (j - (2600 - n)) (by omega)
          rw [show 2600 - n + (j - (2600 - n)) = j from by omega] at this
          exact this
        · have := r5 (k - (2600 - n)) (by omega)
          rw [show 2600 - n + (k - (2600 - n)) = k from by omega, show 2600 - n + (k - (2600 - n) - 1) = k - 1 from by omega] at this
          exact (this k6).2
    have ending : ∀ v, LST 0 v → wj_X9_expand_110 post v := by
      intro v vL
      have j122 : ∀ v, LST 0 v → wj_X9_expand_122 post v := by
        intro v vL
        rintro _ rfl
        refine ⟨fun _ => ?_, fun _ => ?_⟩
        · rintro _ rfl; exact hp _ v vL
        · rintro _ rfl _ rfl; exact hp _ v vL
      rintro _ rfl
      refine ⟨fun _ => j122 v vL, fun _ => ?_⟩
      rintro _ rfl
      refine j122 _ ?_
      obtain ⟨c0, c1, -, c4⟩ := vL
      have F : FR [9] [] v (mSet v 9 0) := FR_set FR.rf (by decide)
      exact ⟨(F.1 0 (by decide)).trans c0, RD3_fr c1 F (by decide), ⟨0, mSet_same _ _ _, by omega⟩, OWN_keep c4 F (by decide) (by decide) (fun j _ => ⟨rfl, rfl⟩)⟩
    refine mL1_in (fun v => LST 0 v ∧ (v.1 12 = 0 → ∃ h f, EXI v h f)) (fun v => if v.1 12 = 0 then (v.1 15).toNatClampNeg * 3000 + (2600 - (v.1 1).toNatClampNeg) + 1 else 0) ?_ _ ⟨zL, fun _ => ⟨_, _, zE⟩⟩
    rintro K v ⟨vL, vE⟩ ih
    rintro _ rfl
    refine ⟨fun _ => ending v vL, fun hlt => ?_⟩
    rintro _ rfl
    refine ⟨fun _ => ending v vL, fun ve => ?_⟩
    obtain ⟨h, f, hE⟩ := vE ve
    have v1 := hE.1
    rw [v1] at hlt
    have hlt : ¬ nI 2600 ≤ nI h := hlt
    have h26 := hE.2.1
    have g8 := hE.2.2.2.1
    rw [nI_leI (by omega) (by omega)] at hlt
    refine step_ok2 hE vL (by omega) (fun v' vL' hv' => ih v' ⟨vL', fun q => ?_⟩ ?_)
    · obtain ⟨h', f', a1, -⟩ := hv' q
      exact ⟨h', f', a1⟩
    · rw [if_pos ve, v1, hE.2.2.1, nI_clamp (by omega), nI_clamp (by omega)]
      by_cases q : v'.1 12 = 0
      · obtain ⟨h', f', a1, a2⟩ := hv' q
        have b1 := a1.2.1
        have b2 := a1.2.2.2.1
        rw [if_pos q, a1.1, a1.2.2.1, nI_clamp (by omega), nI_clamp (by omega)]
        omega
      · rw [if_neg q]; omega
theorem rulesM2 {len : Nat} {u : mS} {post : Int32 → mS → Prop} (hL : LST (nI len) u) (hlen : len ≤ 120) (hp : ∀ r v, LST 0 v → post r v) : wp_X9_rules u post := by
  have L0 : ∀ w, FR [1] [1, 2] u w → LST 0 (mSet w 0 0) := by
    intro w wF
    obtain ⟨c0, c1, ⟨s, c2, c3⟩, c4⟩ := hL
    have vF : FR [0] [] w (mSet w 0 0) := FR_set FR.rf (by decide)
    exact ⟨mSet_same _ _ _, RD3_fr (RD3_fr c1 wF (by decide)) vF (by decide), ⟨s, (mSet_other (by decide : (9 : Nat) ≠ 0)).trans ((wF.1 9 (by decide)).trans c2), c3⟩, OWN_keep (OWN_keep c4 wF (by decide) (by decide) (fun j _ => by rw [wF.2 3 (by decide), wF.2 4 (by decide)]; exact ⟨rfl, rfl⟩)) vF (by decide) (by decide) (fun j _ => by rw [vF.2 3 (by decide), vF.2 4 (by decide)]; exact ⟨rfl, rfl⟩)⟩
  refine read_ok hL.1 hlen (fun p w hp120 wF => ?_) (fun n w wF hR => ?_)
  · rintro _ rfl
    refine ⟨fun q => absurd q (nI_pos (by omega)), fun _ => ?_⟩
    rintro _ rfl
    exact hp _ _ (L0 w wF)
  · rintro _ rfl
    have vL := L0 w wF
    have vF : FR [0] [] w (mSet w 0 0) := FR_set FR.rf (by decide)
    obtain ⟨r0, r1, r2, r3, r4, r5⟩ := hR
    generalize mSet w 0 0 = v at *
    have v1 : v.1 1 = nI (2600 - n) := (vF.1 1 (by decide)).trans r2
    have vr : v.2 1 = w.2 1 := vF.2 1 (by decide)
    rw [← vr] at r3 r4 r5
    generalize hh : 2600 - n = h at *
    have en : h + n = 2600 := by omega
    refine ⟨fun _ => ?_, fun q => absurd (by decide) q⟩
    intro y5 q5
    have q5 : y5 = nI h := q5.trans v1
    subst q5
    refine kind_2 (by omega) ⟨fun _ => hp _ v vL, fun k1 => ?_⟩
    have m2 := (TL_open k1 r3)
    intro y9 q9
    have q9 : y9 = nI h := q9.trans v1
    subst q9
    rintro _ rfl
    rw [nI_1]
    refine kind_2 (by omega) ⟨fun _ => hp _ v vL, fun k3 => ?_⟩
    obtain ⟨N, hLI⟩ := LI_ex k1 r3
    have n3 : 3 ≤ n := by
      rcases Nat.lt_or_ge 2 n with a | a
      · omega
      · have : n = 2 := by omega
        have q := m2.2.2
        rw [this] at q
        rw [show h + (2 - 1) = h + 1 from rfl, k3] at q
        exact absurd q (by decide)
    have N0 : 0 < N := by
      rcases Nat.eq_zero_or_pos N with a | a
      · subst a
        have q : h + 1 = h + (n - 1) := hLI.2.2.2
        omega
      · exact a
    have hSQ := SQ_of_LI hLI N0
    rw [it1_name hLI N0 k3] at hSQ
    intro y14 q14
    have q14 : y14 = nI h := q14.trans v1
    subst q14
    refine dots_2 hLI (by omega) ⟨fun _ => ?_, fun _ => hp _ v vL⟩
    intro y18 q18
    have q18 : y18 = nI h := q18.trans v1
    subst q18
    rintro _ rfl
    rw [show (2 : Int32) = nI 2 from rfl, nI_add, show (2599 : Int32) = nI 2599 from rfl, show (480 : Int32) = nI 480 from rfl]
    refine keep_ok (a := h + 2) (b := 2599) (o := 480) (by omega) (by omega) (by omega) (fun w2 hw2 => ?_)
    obtain ⟨wF2, wC, wO⟩ := hw2
    have w2L : LST 0 w2 := by
      obtain ⟨c0, c1, ⟨s, c2, c3⟩, c4⟩ := vL
      exact ⟨(wF2.1 0 (by decide)).trans c0, RD3_fr c1 wF2 (by decide), ⟨s, (wF2.1 9 (by decide)).trans c2, c3⟩, OWN_keep c4 wF2 (by decide) (by decide) (fun j hj => wO j (by omega))⟩
    have hSQ' := (sh_SQ (L := 2599 - (h + 2)) wC (N := N - 1) (by rw [show h + 2 + (2599 - (h + 2)) = h + (n - 1) from by omega]; exact hSQ)).1
    refine areRules_ok hSQ' (by omega) (fun hRu => ⟨fun _ => ?_, fun q => absurd q (by decide)⟩) (fun _ => ⟨fun q => absurd rfl q, fun _ => hp _ w2 w2L⟩)
    have hRS : RS (w2.2 3) (w2.2 4) 480 (480 + (2599 - (h + 2))) := by
      refine ⟨by omega, ⟨N - 1, hSQ', hRu⟩, fun j j1 j2 => ?_, fun k g1 g2 g6 => ?_⟩
      · have a1 := (wC (j - 480) (by omega)).1
        rw [show 480 + (j - 480) = j from by omega] at a1
        have a2 := r4 (j - 480 + 2) (by omega)
        rw [show h + (j - 480 + 2) = h + 2 + (j - 480) from by omega] at a2
        rw [a1]; exact a2
      · have a1 := (wC (k - 480) (by omega)).1
        have a2 := (wC (k - 1 - 480) (by omega)).1
        rw [show 480 + (k - 480) = k from by omega] at a1
        rw [show 480 + (k - 1 - 480) = k - 1 from by omega] at a2
        rw [a1] at g6
        have := r5 (k - 480 + 2) (by omega)
        rw [show h + (k - 480 + 2) = h + 2 + (k - 480) from by omega, show h + (k - 480 + 2 - 1) = h + 2 + (k - 1 - 480) from by omega] at this
        rw [a2]; exact (this g6).2
    have w21 : w2.1 1 = nI h := (wF2.1 1 (by decide)).trans v1
    have w2r : w2.2 1 = v.2 1 := wF2.2 1 (by decide)
    have w2s : w2.2 2 = v.2 2 := wF2.2 2 (by decide)
    intro y25 q25
    have q25 : y25 = nI h := q25.trans w21
    subst q25
    rintro _ rfl
    rw [nI_1]
    refine what_2 (by omega) (fun nm => ?_)
    have loop : ∃ k, mL3 (fun K => wj_X9_rules_134 K post) k nm (0 : Int32) w2 := by
      obtain ⟨c0, c1, ⟨s, c2, c3⟩, c4⟩ := id w2L
      obtain ⟨ow, o1, o2, o3⟩ := c4
      refine mL3_in (fun _ x4 z => z = w2 ∧ ∃ k, x4 = nI k ∧ k ≤ ow) (fun _ x4 _ => ow - x4.toNatClampNeg) ?_ _ _ _ ⟨rfl, 0, rfl, by omega⟩
      rintro K x3 x4 z ⟨rfl, k, rfl, hk⟩ ih
      have j160 : wj_X9_rules_160 post x3 (nI k) z := by
        refine ⟨fun k4 => ?_, fun _ => hp _ z w2L⟩
        have k4 : k < 4 := by
          rcases Nat.lt_or_ge k 4 with a | a
          · exact a
          · exact absurd (by rw [show k = 4 from by omega]; rfl) k4
        have j193 : ∀ o', k < o' → o' ≤ 4 → (o' = ow ∨ (k = ow ∧ o' = ow + 1)) → wj_X9_rules_193 post x3 (nI k) (nI o') z := by
          intro o' ho1 ho2 ho3
          rintro _ rfl
          refine ⟨vp_in_nI (by omega) (by omega), ?_⟩
          rintro _ rfl y47 q47
          have q47 : y47 = nI h := q47.trans ((mSet_other (u := z) (v := nI o') (by decide : (1 : Nat) ≠ 3)).trans w21)
          subst q47
          rintro _ rfl _ rfl
          rw [show (2 : Int32) = nI 2 from rfl, nI_add, show (2599 : Int32) = nI 2599 from rfl, show (120 : Int32) = nI 120 from rfl, pk_mul, nI_clamp (by omega)]
          have G1 : FR [3] [5] z (mPut (mSet z 3 (nI o')) 5 k x3) := FR_put (FR_set FR.rf (by decide)) (by decide)
          have G3 : (mPut (mSet z 3 (nI o')) 5 k x3).1 3 = nI o' := mSet_same z 3 (nI o')
          generalize mPut (mSet z 3 (nI o')) 5 k x3 = z1 at *
          refine keep_ok (a := h + 2) (b := 2599) (o := 120 * k) (by omega) (by omega) (by omega) (fun z2 hz2 => ?_)
          obtain ⟨F2, C2, O2⟩ := hz2
          refine ⟨vp_in_nI (by omega) (by omega), ?_⟩
          rintro _ rfl _ rfl
          have GA : FR [3] [3, 4, 5, 6] z (mPut z2 6 k (nI (120 * k + (2599 - (h + 2))))) := FR_put ((G1.wk (by decide) (by decide)).tr (F2.wk (by decide) (by decide))) (by decide)
          refine hp _ _ ⟨(GA.1 0 (by decide)).trans c0, RD3_fr c1 GA (by decide), ⟨s, (GA.1 9 (by decide)).trans c2, c3⟩, o', ?_, ho2, fun i hi => ?_⟩
          · rw [mPut_scal]; exact (F2.1 3 (by decide)).trans G3
          · have e3 : (mPut z2 6 k (nI (120 * k + (2599 - (h + 2))))).2 3 = z2.2 3 := mPut_other (by decide)
            have e4 : (mPut z2 6 k (nI (120 * k + (2599 - (h + 2))))).2 4 = z2.2 4 := mPut_other (by decide)
            rw [e3, e4, mPut_same]
            by_cases y : i = k
            · subst y
              rw [pk_us]
              refine ⟨_, rfl, by omega, by omega, RS_copy hRS (by omega) (fun j hj => ?_)⟩
              obtain ⟨a1, a2⟩ := C2 j hj
              obtain ⟨d1, d2⟩ := wC j hj
              rw [a1, a2, d1, d2, G1.2 1 (by decide), G1.2 2 (by decide), w2r, w2s]
              exact ⟨rfl, rfl⟩
            · rw [pk_un y, F2.2 6 (by decide), G1.2 6 (by decide)]
              obtain ⟨e, a1, a2, a3, a4⟩ := o3 i (by omega)
              refine ⟨e, a1, a2, a3, RS_same a4 (fun j j1 j2 => ?_)⟩
              obtain ⟨d1, d2⟩ := O2 j (by omega)
              rw [d1, d2, G1.2 3 (by decide), G1.2 4 (by decide)]
              exact ⟨rfl, rfl⟩
        intro y40 q40
        have q40 : y40 = nI ow := q40.trans o1
        subst q40
        refine ⟨fun hne => ?_, fun heq => ?_⟩
        · intro y42 q42
          have q42 : y42 = nI ow := q42.trans o1
          subst q42
          have : k ≠ ow := fun q => hne (by rw [q])
          exact j193 ow (by omega) o2 (Or.inl rfl)
        · rw [nI_eq (by omega) (by omega)] at heq
          intro y43 q43
          have q43 : y43 = nI ow := q43.trans o1
          subst q43
          rintro _ rfl
          rw [nI_1]
          exact j193 (ow + 1) (by omega) (by omega) (Or.inr ⟨heq, rfl⟩)
      intro y34 q34
      have q34 : y34 = nI ow := q34.trans o1
      subst q34
      refine ⟨fun _ => j160, fun q => ?_⟩
      rw [nI_leI (by omega) (by omega)] at q
      refine ⟨vp_in_nI (by omega) (by omega), ?_⟩
      rintro _ rfl
      refine ⟨fun _ => j160, fun _ => ?_⟩
      rintro _ rfl
      rw [nI_1]
      refine ih _ _ _ ⟨rfl, k + 1, rfl, by omega⟩ ?_
      rw [nI_clamp (by omega), nI_clamp (by omega)]; omega
    have behind : ∀ r29 : Int32, ((0 ≤ r29) → wj_X9_rules_127 post w2) ∧ ((¬ 0 ≤ r29) → ((nm < (40000 : Int32)) → ∃ n, mL3 (fun K => wj_X9_rules_134 K post) n nm (0 : Int32) w2) ∧ ((¬ nm < (40000 : Int32)) → wj_X9_rules_127 post w2)) := fun r29 => ⟨fun _ => hp _ w2 w2L, fun _ => ⟨fun _ => loop, fun _ => hp _ w2 w2L⟩⟩
    exact ⟨fun _ => ⟨fun _ => ⟨fun _ => ⟨fun _ => behind _, fun _ => behind _⟩, fun _ => behind _⟩, fun _ => behind _⟩, fun _ => behind _⟩
theorem atM2 {x : Int32} {u : mS} {post : Int32 → mS → Prop} (h : SZ u) (hp : ∀ r, post r u) : wp_X9_at x u post := by
  obtain ⟨s, e, hs⟩ := h
  refine ⟨fun _ => hp _, fun h0 => ?_⟩
  intro y q
  have q : y = nI s := q.trans e
  subst q
  refine ⟨fun _ => hp _, fun hx => ?_⟩
  obtain ⟨j, hj, rfl⟩ := nI_of h0
  rw [nI_leI (by omega) hj] at hx
  refine ⟨vp_in_nI (by omega) (by omega), ?_⟩
  rintro _ rfl
  exact hp _
theorem countM2 {x : Int32} {u : mS} {post : Int32 → mS → Prop} (hp : ∀ r, post r u) : wp_X9_count_ x u post := by
  refine ⟨fun _ => ?_, fun _ => ?_, fun _ => ?_, fun _ => ?_, fun _ _ _ _ => hp _⟩
  · rintro _ rfl; exact hp _
  · rintro _ rfl _ rfl _ rfl; exact hp _
  · rintro _ rfl; exact hp _
  · rintro _ rfl; exact hp _
