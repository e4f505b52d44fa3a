-- 65: what both sides keep between the calls, the names with rules of their own among it; rules answers alike
/-- the names with rules of their own -/
def OWNN (o : Nat) (u v : mS) : Prop := u.1 5 = nI o ∧ (∃ n, u.1 4 = nI n ∧ 8 + o ≤ n ∧ n ≤ 40) ∧ (∀ i, i < 8 → u.2 5 i = tabN i) ∧ ∀ k, k < o → ∃ x y, NM x y ∧ u.2 5 (8 + k) = nI x ∧ v.2 5 k = nI y ∧ FREE y
theorem OWNN_fr {o : Nat} {u v w z : mS} (h : OWNN o u v) (h5 : w.1 5 = u.1 5) (h4 : w.1 4 = u.1 4) (ha : w.2 5 = u.2 5) (hb : z.2 5 = v.2 5) : OWNN o w z := by
  unfold OWNN
  rw [h5, h4, ha, hb]
  exact h
/-- the first eight names -/
theorem tabN_free {x y : Nat} (h : NM x y) : (∃ i, i < 8 ∧ tabN i = nI x) ↔ ¬ FREE y := by
  have hb := NM_bd h
  have nm : ∀ {x' y' : Nat}, NM x' y' → x' < 2 ^ 25 → (nI x' = nI x ↔ y' = y) := by
    intro x' y' g gb
    rw [nI_eq (by omega) (by omega)]
    exact NM_inj g h
  have n0 : NM 91758 206 := Or.inr (Or.inr (Or.inl ⟨102, 110, by omega, by omega, by omega, by omega, rfl, rfl⟩))
  have n1 : NM 92518 294 := Or.inr (Or.inr (Or.inl ⟨105, 102, by omega, by omega, by omega, by omega, rfl, rfl⟩))
  have n2 : NM 369 17 := Or.inl ⟨113, by omega, by omega, rfl, rfl⟩
  have n3 : NM 93299 403 := Or.inr (Or.inr (Or.inl ⟨108, 115, by omega, by omega, by omega, by omega, rfl, rfl⟩))
  have n4 : NM 299 40043 := Or.inr (Or.inl ⟨43, by omega, rfl, rfl⟩)
  have n5 : NM 298 40042 := Or.inr (Or.inl ⟨42, by omega, rfl, rfl⟩)
  have n6 : NM 317 40061 := Or.inr (Or.inl ⟨61, by omega, rfl, rfl⟩)
  have n7 : NM 316 40060 := Or.inr (Or.inl ⟨60, by omega, rfl, rfl⟩)
  have big : ¬ y < 40000 → y = 40043 ∨ y = 40042 ∨ y = 40061 ∨ y = 40060 := by
    intro q
    rcases h with ⟨a, h1, h2, rfl, rfl⟩ | ⟨a, h1, rfl, rfl⟩ | ⟨a, b, h1, h2, h3, h4, rfl, rfl⟩ | ⟨a, b, c, h1, h2, h3, h4, h5, h6, rfl, rfl⟩ <;> omega
  have t0 : tabN 0 = nI 91758 := by decide
  have t1 : tabN 1 = nI 92518 := by decide
  have t2 : tabN 2 = nI 369 := by decide
  have t3 : tabN 3 = nI 93299 := by decide
  have t4 : tabN 4 = nI 299 := by decide
  have t5 : tabN 5 = nI 298 := by decide
  have t6 : tabN 6 = nI 317 := by decide
  have t7 : tabN 7 = nI 316 := by decide
  constructor
  · rintro ⟨i, hi, e⟩ q
    unfold FREE at q
    have c : i = 0 ∨ i = 1 ∨ i = 2 ∨ i = 3 ∨ i = 4 ∨ i = 5 ∨ i = 6 ∨ i = 7 := by omega
    rcases c with c | c | c | c | c | c | c | c
    · subst c; rw [t0] at e; have := (nm n0 (by omega)).mp e; omega
    · subst c; rw [t1] at e; have := (nm n1 (by omega)).mp e; omega
    · subst c; rw [t2] at e; have := (nm n2 (by omega)).mp e; omega
    · subst c; rw [t3] at e; have := (nm n3 (by omega)).mp e; omega
    · subst c; rw [t4] at e; have := (nm n4 (by omega)).mp e; omega
    · subst c; rw [t5] at e; have := (nm n5 (by omega)).mp e; omega
    · subst c; rw [t6] at e; have := (nm n6 (by omega)).mp e; omega
    · subst c; rw [t7] at e; have := (nm n7 (by omega)).mp e; omega
  · intro q
    by_cases c0 : 206 = y
    · exact ⟨0, by omega, t0.trans ((nm n0 (by omega)).mpr c0)⟩
    by_cases c1 : 294 = y
    · exact ⟨1, by omega, t1.trans ((nm n1 (by omega)).mpr c1)⟩
    by_cases c2 : 17 = y
    · exact ⟨2, by omega, t2.trans ((nm n2 (by omega)).mpr c2)⟩
    by_cases c3 : 403 = y
    · exact ⟨3, by omega, t3.trans ((nm n3 (by omega)).mpr c3)⟩
    have nb : ¬ y < 40000 := fun z => q ⟨by omega, by omega, by omega, by omega, z⟩
    rcases big nb with c | c | c | c
    · exact ⟨4, by omega, t4.trans ((nm n4 (by omega)).mpr c.symm)⟩
    · exact ⟨5, by omega, t5.trans ((nm n5 (by omega)).mpr c.symm)⟩
    · exact ⟨6, by omega, t6.trans ((nm n6 (by omega)).mpr c.symm)⟩
    · exact ⟨7, by omega, t7.trans ((nm n7 (by omega)).mpr c.symm)⟩
theorem rulesRel {u v : mS} {len o : Nat} (hu : u.1 0 = nI len) (hv : v.1 0 = nI len) (hlen : len ≤ 120) (hT : u.2 0 = v.2 0) (ho : o ≤ 4) (hvo : v.1 3 = nI o) (hO : OWNN o u v) : wp_X8_rules u (fun r w => wp_X9_rules v (fun q z => r = q ∧ w.2 0 = z.2 0 ∧ ∃ o', o' ≤ 4 ∧ z.1 3 = nI o' ∧ OWNN o' w z)) := by
  intro y1 e1
  rw [hu] at e1; subst e1
  refine readRel hu hv hlen hT (fun p w z hp wF wL zF go => ?_) (fun n w z wF wL zF hR hA hwT hc go => ?_)
  · rintro _ rfl
    refine ⟨fun h => absurd h (nI_pos (by omega)), fun _ => ?_⟩
    rintro _ rfl
    refine go _ ?_
    rintro _ rfl
    refine ⟨fun h => absurd h (nI_pos (by omega)), fun _ => ?_⟩
    rintro _ rfl
    refine ⟨rfl, ?_, o, ho, ?_, OWNN_fr hO ?_ ?_ ?_ ?_⟩
    · show w.2 0 = z.2 0
      rw [wF.2 0 (by decide), zF.2 0 (by decide), hT]
    · exact (mSet_other (by decide : (3 : Nat) ≠ 0)).trans ((zF.1 3 (by decide)).trans hvo)
    · exact (mSet_other (by decide : (5 : Nat) ≠ 0)).trans (wF.1 5 (by decide))
    · exact (mSet_other (by decide : (4 : Nat) ≠ 0)).trans (wF.1 4 (by decide))
    · exact wF.2 5 (by decide)
    · exact zF.2 5 (by decide)
  · rintro W rfl
    have hR' := hR
    obtain ⟨r0, r1, r2, r3, r4, r5⟩ := hR'
    have WF : FR [0, 1, 2, 3] [1, 2, 3, 4] u (mSet w 0 0) := FR_set (wF.wk (by decide) (by decide)) (by decide)
    have wr : ra (mSet w 0 0) = ra w := ra_fr rfl
    have hAW : AR (mSet w 0 0) 480 (480 + n) := AR_fr hA (mSet_other (by decide)) rfl rfl
    have hm : (mSet w 0 0).2 2 = w.2 2 := rfl
    have h1W : (mSet w 0 0).2 1 = w.2 1 := rfl
    generalize mSet w 0 0 = W at WF wr hAW hm h1W ⊢
    rw [← wr, ← hm] at hc
    have zo : z.1 3 = nI o := (zF.1 3 (by decide)).trans hvo
    have TLA : TL (ra W) 480 n := TL_copy (r := z.2 1) (i := 2600 - n) (fun k hk => by rw [(hc k hk).1]) r3
    have cpA : ∀ j, j < n → z.2 1 (2600 - n + j) = ra W (480 + j) ∧ z.2 2 (2600 - n + j) = W.2 2 (480 + j) := fun j hj => ⟨(hc j hj).1.symm, by rw [(hc j hj).2.1, (hc j hj).2.2]⟩
    have cpM : ∀ j, j < n → ra W (480 + j) = z.2 1 (2600 - n + j) ∧ W.2 2 (480 + j) = z.2 2 (2600 - n + j) := fun j hj => ⟨(cpA j hj).1.symm, (cpA j hj).2.symm⟩
    have eqN : NWR (ra W) (W.2 2) 480 ↔ NWR (z.2 1) (z.2 2) (2600 - n) := ⟨fun q => NWR_sh cpA TLA (by omega) (by omega) q, fun q => NWR_sh cpM r3 (by omega) (by omega) q⟩
    have hD : DR (ra W) 480 (480 + n) := by
      intro i i1 i2 i6
      have e1 := (hc (i - 480) (by omega)).1
      rw [show 480 + (i - 480) = i from by omega] at e1
      rw [e1] at i6
      obtain ⟨d1, d2, d3⟩ := r5 (i - 480) (by omega) i6
      have e2 := (hc (i - 480 - 1) (by omega)).1
      rw [show 480 + (i - 480 - 1) = i - 1 from by omega] at e2
      rw [e2]
      exact ⟨by omega, d2, d3⟩
    have OWZ : ∀ {w' z' : mS}, FR [0, 1, 2, 3] [1, 2, 3, 4] u w' → FR [0] [3, 4] z z' → OWNN o w' z' ∧ w'.2 0 = z'.2 0 ∧ z'.1 3 = nI o := by
      intro w' z' f1 f2
      refine ⟨OWNN_fr hO (f1.1 5 (by decide)) (f1.1 4 (by decide)) (f1.2 5 (by decide)) ((f2.2 5 (by decide)).trans (zF.2 5 (by decide))), ?_, (f2.1 3 (by decide)).trans zo⟩
      rw [f1.2 0 (by decide), f2.2 0 (by decide), zF.2 0 (by decide), hT]
    refine ⟨fun _ => ?_, fun q => absurd (by decide) q⟩
    rw [show (480 : Int32) = nI 480 from rfl]
    refine isNWR hAW hD (Nat.le_refl 480) (by omega) (fun hN w1 w1F w1O w1L => ⟨fun _ => ?_, fun q => absurd q (by decide)⟩) (fun hN w1 w1F => ⟨fun q => absurd rfl q, fun _ => ?_⟩)
    · have F1 : FR [0, 1, 2, 3] [1, 2, 3, 4] u w1 := WF.tr (w1F.wk (by decide) (by decide))
      have hA1 : AR w1 480 (480 + n) := AR_fr hAW (w1F.1 1 (by decide)) (w1F.2 1 (by decide)) (w1F.2 3 (by decide))
      have ra1 : ra w1 = ra W := ra_fr (w1F.2 1 (by decide))
      obtain ⟨n', N, hL, g1, g2, g3, g4⟩ := id hN
      have n2 := (TL_open hL.1 TLA).1
      have hw1 := (hA1.2 481 (by omega) (by omega)).1
      rw [ra1] at hw1
      obtain ⟨x, y, hxy, ex, ey⟩ := AW_name hw1 g3
      have hxb := NM_bd hxy
      have ey' : z.2 1 (2600 - n + 1) = nI (196608 + y) := by rw [(cpA 1 (by omega)).1]; exact ey
      have yu : ∀ y', y' < 65536 → z.2 1 (2600 - n + 1) = nI (196608 + y') → y' = y := by
        intro y' q1 q2
        rw [ey', nI_eq (by omega) (by omega)] at q2
        omega
      have hN' := eqN.mp hN
      rw [show (481 : Int32) = nI 481 from rfl]
      refine wordAR hA1 (by omega) ?_
      rw [ex]
      have o1 : OWNN o w1 z := OWNN_fr hO (F1.1 5 (by decide)) (F1.1 4 (by decide)) (F1.2 5 (by decide)) (zF.2 5 (by decide))
      obtain ⟨p5, p4, p8, pk⟩ := id o1
      have eqk : ∀ k, k < o → (w1.2 5 (8 + k) = nI x ↔ z.2 5 k = nI y) := by
        intro k hk
        obtain ⟨x', y', q1, q2, q3, q4⟩ := pk k hk
        have := NM_bd q1
        rw [q2, q3, nI_eq (by omega) (by omega), nI_eq (by omega) (by omega)]
        exact NM_inj q1 hxy
      have core : ¬ FREE y → wp_X9_rules v (fun q z' => (-1001 : Int32) = q ∧ w1.2 0 = z'.2 0 ∧ ∃ o', o' ≤ 4 ∧ z'.1 3 = nI o' ∧ OWNN o' w1 z') := by
        intro hf
        refine rulesM3 go hR zo ho (fun q => absurd hN' q) (fun _ y' _ _ _ z' z'F _ => ?_) (fun _ y' s' q1 q2 q3 => absurd q3 (by rw [yu y' q1 q2]; exact hf))
        obtain ⟨a1, a2, a3⟩ := OWZ F1 z'F
        exact ⟨rfl, a2, o, ho, a3, a1⟩
      refine ownSlot_ok p5 ho (fun h8 => ⟨fun q => absurd q (by decide), fun _ => core ?_⟩) (fun h8 s hs hsj hss => ⟨fun s4 => ⟨fun _ => ?_, fun q => absurd (nI_pos' (by omega)) q⟩, fun s4 => ⟨fun q => absurd q (by decide), fun _ => ?_⟩⟩)
      · obtain ⟨i, i1, i2⟩ := h8
        refine (tabN_free hxy).mp ⟨i, i1, ?_⟩
        rw [← p8 i i1]; exact i2
      · have hf : FREE y := by
          apply Classical.byContradiction
          intro q
          obtain ⟨i, i1, i2⟩ := (tabN_free hxy).mpr q
          exact h8 i i1 (by rw [p8 i i1]; exact i2)
        have hsj' : ∀ j, j < s → ¬ z.2 5 j = nI y := fun j q1 q2 => hsj j q1 ((eqk j (by omega)).mpr q2)
        have hss' : s < o → z.2 5 s = nI y := fun q => (eqk s q).mp (hss q)
        have tl1 : tl (ra w1) 480 = n := by rw [ra1]; exact tl_eq TLA
        refine keepA hA1 tl1 (by omega) (by omega) s4 (fun w2 w2F _ => ?_)
        have p52 : w2.1 5 = nI o := (w2F.1 5 (by decide)).trans p5
        obtain ⟨o', hoo⟩ : ∃ o', (s = o ∧ o' = o + 1) ∨ (s < o ∧ o' = o) := by
          rcases Nat.lt_or_ge s o with c | c
          · exact ⟨o, Or.inr ⟨c, rfl⟩⟩
          · exact ⟨o + 1, Or.inl ⟨by omega, rfl⟩⟩
        refine bindOwn_ok p52 s4 ho hoo (fun w3 w3F b5 b4 ba _ _ _ => ?_)
        intro y16 e16
        rw [b5] at e16; subst e16
        have so : ∀ s', s' ≤ o → (∀ j, j < s' → ¬ z.2 5 j = nI y) → (s' < o → z.2 5 s' = nI y) → s' = s := by
          intro s' q1 q2 q3
          rcases Nat.lt_trichotomy s' s with c | c | c
          · exact absurd (q3 (by omega)) (hsj' s' c)
          · exact c
          · exact absurd (hss' (by omega)) (q2 s c)
        refine rulesM3 go hR zo ho (fun q => absurd hN' q) (fun _ y' q1 q2 q3 => absurd (by rw [yu y' q1 q2]; exact hf) q3) (fun _ y' s' q1 q2 q3 q4 q5 q6 => ?_)
        have ye := yu y' q1 q2
        subst ye
        have se := so s' q4 q5 q6
        subst se
        refine ⟨fun q => by omega, fun _ o'' z' hoo' z'F z0 z3 z5 => ?_⟩
        have oe : o'' = o' := by omega
        subst oe
        refine ⟨rfl, ?_, o'', by omega, z3, b5, ⟨8 + o'', b4, by omega, by omega⟩, fun i hi => ?_, fun k hk => ?_⟩
        · rw [w3F.2 0 (by decide), w2F.2 0 (by decide), F1.2 0 (by decide), z'F.2 0 (by decide), zF.2 0 (by decide), hT]
        · rw [ba, pk_un (by omega), w2F.2 5 (by decide)]; exact p8 i hi
        · rw [ba, z5]
          by_cases c : k = s'
          · subst c
            rw [pk_us, pk_us]
            exact ⟨x, y', hxy, rfl, rfl, hf⟩
          · rw [pk_un (by omega), pk_un c, w2F.2 5 (by decide)]
            exact pk k (by omega)
      · have hf : FREE y := by
          apply Classical.byContradiction
          intro q
          obtain ⟨i, i1, i2⟩ := (tabN_free hxy).mpr q
          exact h8 i i1 (by rw [p8 i i1]; exact i2)
        refine rulesM3 go hR zo ho (fun q => absurd hN' q) (fun _ y' q1 q2 q3 => absurd (by rw [yu y' q1 q2]; exact hf) q3) (fun _ y' s' q1 q2 q3 q4 q5 q6 => ?_)
        have ye := yu y' q1 q2
        subst ye
        have s'4 : s' = 4 := by
          rcases Nat.lt_or_ge s' o with c | c
          · exact absurd (q6 c) (fun q => hsj s' (by omega) ((eqk s' c).mpr q))
          · omega
        refine ⟨fun _ z' z'F z0 => ?_, fun q => by omega⟩
        obtain ⟨a1, a2, a3⟩ := OWZ F1 z'F
        exact ⟨rfl, a2, o, ho, a3, a1⟩
    · refine rulesM3 go hR zo ho (fun _ z' z'F _ => ?_) (fun q => absurd (eqN.mpr q) hN) (fun q => absurd (eqN.mpr q) hN)
      have F1 : FR [0, 1, 2, 3] [1, 2, 3, 4] u w1 := WF.tr (w1F.wk (by decide) (by decide))
      obtain ⟨a1, a2, a3⟩ := OWZ F1 z'F
      exact ⟨rfl, a2, o, ho, a3, a1⟩
def inv3 (u v : mS) : Prop := inv2 u v ∧ u.2 0 = v.2 0 ∧ ∃ o, o ≤ 4 ∧ v.1 3 = nI o ∧ OWNN o u v
theorem inv3_rules {u v : mS} (h : inv3 u v) : wp_X8_rules u (fun r w => wp_X9_rules v (fun q z => r = q ∧ inv3 w z)) := by
  obtain ⟨h2, hT, o, ho, hvo, hO⟩ := h
  obtain ⟨t, ht, hA, hM⟩ := id h2
  refine j_wp_X8_rules (inv2_rules h2) (rulesRel hA.1 hM.1 ht hT ho hvo hO) (fun r w a b => j_wp_X9_rules a b (fun q z a b => ⟨b.1, a, b.2⟩))
theorem TB_own {o : Nat} {u v w z : mS} (hO : OWNN o u v) (ho : o ≤ 4) (hA : RA u w) (hM : z.2 5 = v.2 5) : OWNN o w z := by
  obtain ⟨a, b, c, d⟩ := hO
  obtain ⟨e, f, g⟩ := hA.2 o (u.2 5) ho ⟨a, b, fun _ _ => rfl⟩
  refine ⟨e, f, fun i hi => (g i (by omega)).trans (c i hi), fun k hk => ?_⟩
  rw [g (8 + k) (by omega), hM]
  exact d k hk
theorem inv3_expand {x : Int32} {u v : mS} (h : inv3 u v) : wp_X8_expand x u (fun _ w => wp_X9_expand x v (fun _ z => inv3 w z)) := by
  obtain ⟨h2, hT, o, ho, hvo, hO⟩ := h
  refine f_wp_X8_expand (fun r w hA a => f_wp_X9_expand (fun q z hM b => ⟨b, ?_, o, ho, hM.2.2.trans hvo, TB_own hO ho hA hM.2.1⟩) a) (inv2_expand h2)
  rw [hA.1, hM.1, hT]
theorem inv3_at {x : Int32} {u v : mS} (h : inv3 u v) : wp_X8_at x u (fun _ w => wp_X9_at x v (fun _ z => inv3 w z)) := by
  obtain ⟨h2, hT, o, ho, hvo, hO⟩ := h
  obtain ⟨t, ht, hA, hM⟩ := id h2
  refine f_wp_X8_at (post := fun _ w => IA (nI t) 8 w) (fun r w hR a => atM2 hM.2.2.1 (fun _ => ⟨⟨t, ht, a, hM⟩, by rw [hR.1, hT], o, ho, hvo, TB_own hO ho hR rfl⟩)) (s_X8_at hA (fun _ w hw => hw))
theorem inv3_count {x : Int32} {u v : mS} (h : inv3 u v) : wp_X8_count x u (fun _ w => wp_X9_count_ x v (fun _ z => inv3 w z)) := by
  obtain ⟨h2, hT, o, ho, hvo, hO⟩ := h
  obtain ⟨t, ht, hA, hM⟩ := id h2
  refine f_wp_X8_count (post := fun _ w => IA (nI t) 8 w) (fun r w hR a => countM2 (fun _ => ⟨⟨t, ht, a, hM⟩, by rw [hR.1, hT], o, ho, hvo, TB_own hO ho hR rfl⟩)) (s_X8_count hA (fun _ w hw => hw))
theorem tyPut_eq (x : Int32) : ∀ (N : Nat) (u v : mS), u.1 0 = v.1 0 → u.2 0 = v.2 0 → (tyPut x N u).2 0 = (tyPut x N v).2 0 := by
  intro N
  induction N with
  | zero => intro u v _ h; exact h
  | succ N ih =>
    intro u v h1 h2
    refine ih _ _ ?_ ?_
    · rw [mSet_same, mSet_same, h1]
    · show (mPut u 0 (u.1 0).toNatClampNeg (tyB x N)).2 0 = (mPut v 0 (v.1 0).toNatClampNeg (tyB x N)).2 0
      rw [mPut_same, mPut_same, h1, h2]
theorem inv3_typeC {x n : Int32} {u v : mS} (h : inv3 u v) : wp_X8_type x n u (fun r w => wp_X9_type x n v (fun q z => r = q ∧ inv3 w z)) := by
  obtain ⟨⟨t, ht, hA, hM⟩, hT, o, ho, hvo, hO⟩ := h
  have e0 : u.1 0 = v.1 0 := hA.1.trans hM.1.symm
  refine typeA hA.1 ht (fun N hN4 hN hc => ?_) (fun hc => ?_)
  · refine typeM hM.1 ht (fun M hM4 hM2 _ => ⟨rfl, ⟨t + N, ?_, ?_, ?_⟩, ?_, o, ho, ?_, ?_⟩) (fun hn => absurd hc hn)
    · obtain ⟨N', e, q1, q2, q3, -⟩ := hc
      have := (nI_eq (by omega) (by omega)).mp (hN.symm.trans e)
      omega
    · obtain ⟨a, b⟩ := tyPut_fr x N t u hA.1
      exact IA_fr hA a b
    · have := (nI_eq (by omega) (by omega)).mp (hN.symm.trans hM2)
      subst this
      obtain ⟨a, b⟩ := tyPut_fr x N t v hM.1
      exact LST_fr0 hM a b
    · have := (nI_eq (by omega) (by omega)).mp (hN.symm.trans hM2)
      subst this
      exact tyPut_eq x N u v e0 hT
    · exact ((tyPut_fr x M t v hM.1).1.1 3 (by decide)).trans hvo
    · have a := (tyPut_fr x N t u hA.1).1
      have b := (tyPut_fr x M t v hM.1).1
      exact OWNN_fr hO (a.1 5 (by decide)) (a.1 4 (by decide)) (a.2 5 (by decide)) (b.2 5 (by decide))
  · exact typeM hM.1 ht (fun M _ _ hc2 => absurd hc2 hc) (fun _ => ⟨rfl, ⟨t, ht, hA, hM⟩, hT, o, ho, hvo, hO⟩)
theorem inv3_type {x n : Int32} {u v : mS} (h : inv3 u v) : wp_X8_type x n u (fun _ w => wp_X9_type x n v (fun _ z => inv3 w z)) := by
  obtain ⟨⟨t, ht, hA, hM⟩, hT, o, ho, hvo, hO⟩ := h
  have e0 : u.1 0 = v.1 0 := hA.1.trans hM.1.symm
  refine typeA hA.1 ht (fun N hN4 hN hc => ?_) (fun hc => ?_)
  · refine typeM hM.1 ht (fun M hM4 hM2 _ => ⟨⟨t + N, ?_, ?_, ?_⟩, ?_, o, ho, ?_, ?_⟩) (fun hn => absurd hc hn)
    · obtain ⟨N', e, q1, q2, q3, -⟩ := hc
      have := (nI_eq (by omega) (by omega)).mp (hN.symm.trans e)
      omega
    · obtain ⟨a, b⟩ := tyPut_fr x N t u hA.1
      exact IA_fr hA a b
    · have := (nI_eq (by omega) (by omega)).mp (hN.symm.trans hM2)
      subst this
      obtain ⟨a, b⟩ := tyPut_fr x N t v hM.1
      exact LST_fr0 hM a b
    · have := (nI_eq (by omega) (by omega)).mp (hN.symm.trans hM2)
      subst this
      exact tyPut_eq x N u v e0 hT
    · exact ((tyPut_fr x M t v hM.1).1.1 3 (by decide)).trans hvo
    · have a := (tyPut_fr x N t u hA.1).1
      have b := (tyPut_fr x M t v hM.1).1
      exact OWNN_fr hO (a.1 5 (by decide)) (a.1 4 (by decide)) (a.2 5 (by decide)) (b.2 5 (by decide))
  · exact typeM hM.1 ht (fun M _ _ hc2 => absurd hc2 hc) (fun _ => ⟨⟨t, ht, hA, hM⟩, hT, o, ho, hvo, hO⟩)
theorem inv3_0 : inv3 uA0 uM0 := ⟨inv2_0, rfl, 0, by omega, rfl, rfl, ⟨8, rfl, by omega, by omega⟩, fun i _ => rfl, fun k hk => absurd hk (by omega)⟩
