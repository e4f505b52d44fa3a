-- 97e: expand on both sides
theorem NM8 {v : mS} {i : Nat} (hi : i < 8) : ∃ x y, NM x y ∧ tabN i = nI x ∧ snm v i = nI y := by
  have c : i = 0 ∨ i = 1 ∨ i = 2 ∨ i = 3 ∨ i = 4 ∨ i = 5 ∨ i = 6 ∨ i = 7 := by omega
  rcases c with rfl | rfl | rfl | rfl | rfl | rfl | rfl | rfl
  · exact ⟨91758, 206, Or.inr (Or.inr (Or.inl ⟨102, 110, by omega, by omega, by omega, by omega, rfl, rfl⟩)), by decide, rfl⟩
  · exact ⟨92518, 294, Or.inr (Or.inr (Or.inl ⟨105, 102, by omega, by omega, by omega, by omega, rfl, rfl⟩)), by decide, rfl⟩
  · exact ⟨369, 17, Or.inl ⟨113, by omega, by omega, rfl, rfl⟩, by decide, rfl⟩
  · exact ⟨93299, 403, Or.inr (Or.inr (Or.inl ⟨108, 115, by omega, by omega, by omega, by omega, rfl, rfl⟩)), by decide, rfl⟩
  · exact ⟨299, 40043, Or.inr (Or.inl ⟨43, by omega, rfl, rfl⟩), by decide, rfl⟩
  · exact ⟨298, 40042, Or.inr (Or.inl ⟨42, by omega, rfl, rfl⟩), by decide, rfl⟩
  · exact ⟨317, 40061, Or.inr (Or.inl ⟨61, by omega, rfl, rfl⟩), by decide, rfl⟩
  · exact ⟨316, 40060, Or.inr (Or.inl ⟨60, by omega, rfl, rfl⟩), by decide, rfl⟩
theorem KDR8 {u v : mS} {c st ke i : Nat} (hi : i < 8) (h7 : u.2 7 i = tabK i) (h5 : u.2 5 i = tabN i) (h9 : v.2 9 i = sme i) (h10 : v.2 10 i = sfr i) : KDR u v c st ke i := by
  have c : i = 0 ∨ i = 1 ∨ i = 2 ∨ i = 3 ∨ i = 4 ∨ i = 5 ∨ i = 6 ∨ i = 7 := by omega
  unfold KDR
  rw [h7, h5, h9, h10]
  rcases c with rfl | rfl | rfl | rfl | rfl | rfl | rfl | rfl
  · exact Or.inl ⟨by decide, rfl, rfl, by decide⟩
  · exact Or.inr (Or.inl ⟨by decide, rfl, rfl, by decide⟩)
  · exact Or.inr (Or.inr (Or.inl ⟨by decide, rfl, rfl⟩))
  · exact Or.inr (Or.inr (Or.inr (Or.inl ⟨by decide, rfl, rfl⟩)))
  · exact Or.inr (Or.inr (Or.inr (Or.inr (Or.inl ⟨by decide, rfl⟩))))
  · exact Or.inr (Or.inr (Or.inr (Or.inr (Or.inl ⟨by decide, rfl⟩))))
  · exact Or.inr (Or.inr (Or.inr (Or.inr (Or.inl ⟨by decide, rfl⟩))))
  · exact Or.inr (Or.inr (Or.inr (Or.inr (Or.inl ⟨by decide, rfl⟩))))
/-- the end of the reference's loop -/
theorem endLP {z : mS} {Q : Int32 → mS → Prop} (h : ¬ z.1 12 = 0 ∨ ∃ h, z.1 1 = nI h ∧ 2600 ≤ h ∧ h < 2 ^ 31) (h0 : z.1 12 = 0 → Q (z.1 9) z) (h1 : ¬ z.1 12 = 0 → ∀ r, Q r (mSet z 9 0)) : LPX Q z := by
  have fin : wj_X9_expand_110 Q z := by
    intro y25 e25
    refine ⟨fun q => ?_, fun q => ?_⟩
    · have z0 : z.1 12 = 0 := e25.symm.trans q
      intro y28 e28
      refine ⟨fun _ => ?_, fun q2 => absurd (e28.trans z0) q2⟩
      rintro _ rfl
      exact h0 z0
    · have z0 : ¬ z.1 12 = 0 := fun q2 => q (e25.trans q2)
      rintro _ rfl
      intro y28 e28
      rw [mSet_other (by decide : (12 : Nat) ≠ 9)] at e28
      refine ⟨fun q2 => absurd (e28.symm.trans q2) z0, fun _ => ?_⟩
      rintro _ rfl _ rfl
      exact h1 z0 _
  refine ⟨1, ?_⟩
  intro y19 e19
  refine ⟨fun _ => fin, fun q => ?_⟩
  intro y21 e21
  refine ⟨fun _ => fin, fun q2 => ?_⟩
  exfalso
  rcases h with h | ⟨hd, h2, h3, h4⟩
  · exact h (e21.symm.trans q2)
  · rw [h2] at e19; subst e19
    exact q (by rw [show (2600 : Int32) = nI 2600 from rfl, nI_leI (by omega) (by omega)]; exact h3)
theorem expandRel {x : Int32} {u v : mS} {len o : Nat} (hu : u.1 0 = nI len) (hlen : len ≤ 120) (hT : u.2 0 = v.2 0) (ho : o ≤ 4) (hvo : v.1 3 = nI o) (hO : OWNN o u v) (hC : CN u v ∧ TXL u v) (h6 : OW6 o u v) (hL : LST (nI len) v) : wp_X8_expand x u (fun r w => wp_X9_expand x v (fun q z => R6 w z)) := by
  have hv := hL.1
  have asis : R6 u v := ⟨hC.1, hC.2, o, ho, hO.1, h6⟩
  refine ⟨fun q => ⟨fun _ => asis, fun z => absurd q z⟩, fun q0 => ⟨fun q8 => ?_, fun q => ⟨fun z => absurd z q0, fun _ => ⟨fun z => absurd z q, fun _ => asis⟩⟩⟩⟩
  obtain ⟨f, f8, rfl⟩ := nI_of2 (M := (8 : Int32)) (n := 8) (by decide) q0 q8
  have u5 := hO.1
  -- the reference's state ahead of its first bindings
  have G : ∀ (z : mS) (x : Int32), FR [0, 2, 9, 10, 11, 12, 13, 14, 15] [] z (mSet (mSet (mSet (mSet (mSet (mSet (mSet (mSet (mSet z 0 0) 9 0) 10 0) 11 0) 12 0) 13 0) 14 0) 15 x) 2 480) := fun z x => FR_set (FR_set (FR_set (FR_set (FR_set (FR_set (FR_set (FR_set (FR_set FR.rf (by decide)) (by decide)) (by decide)) (by decide)) (by decide)) (by decide)) (by decide)) (by decide)) (by decide)
  -- the class's state ahead of its expansion
  have H : ∀ (w : mS) (x : Int32), FR [0, 4, 6, 7, 8, 9, 10, 11] [] w (mSet (mSet (mSet (mSet (mSet (mSet (mSet (mSet w 0 0) 6 0) 7 0) 8 0) 9 0) 10 0) 11 x) 4 (nI (8 + o))) := fun w x => FR_set (FR_set (FR_set (FR_set (FR_set (FR_set (FR_set (FR_set FR.rf (by decide)) (by decide)) (by decide)) (by decide)) (by decide)) (by decide)) (by decide)) (by decide)
  have stA : ∀ (w : mS) (x2 x : Int32) (post : Int32 → mS → Prop), w.1 5 = nI o → (∀ ua, ua = mSet (mSet (mSet (mSet (mSet (mSet (mSet (mSet w 0 0) 6 0) 7 0) 8 0) 9 0) 10 0) 11 x) 4 (nI (8 + o)) → ((x2 < 0) → wp_X0_expandTree (wpT 24) (480 : Int32) (0 : Int32) ua (fun u12 => ∀ y13 : Int32, y13 = (u12.1 7) → ((y13 = 0) → ∀ y15 : Int32, y15 = (u12.1 6) → post y15 u12) ∧ ((¬ y13 = 0) → ∀ u16 : mS, u16 = mSet u12 6 (0 : Int32) → ∀ y17 : Int32, y17 = (u16.1 7) → ∀ y18 : Int32, y18 = ((-1000 : Int32) * y17) → post y18 u16))) ∧ ((¬ x2 < 0) → ∀ y19 : Int32, y19 = ((-1 : Int32) - x2) → post y19 ua)) → wj_X8_expand_39 post x2 x (mSet (mSet (mSet w 0 0) 6 0) 7 0) := by
    intro w x2 x post w5 hp
    rintro _ rfl _ rfl _ rfl _ rfl y1 e1
    have e1 : y1 = nI o := e1.trans w5
    subst e1
    rintro _ rfl _ rfl
    rw [show (8 : Int32) = nI 8 from rfl, nI_add]
    exact hp _ rfl
  have zeroA : ∀ (w : mS) (x : Int32), (mSet (mSet (mSet (mSet (mSet (mSet (mSet (mSet w 0 0) 6 0) 7 0) 8 0) 9 0) 10 0) 11 x) 4 (nI (8 + o))).1 6 = 0 ∧ (mSet (mSet (mSet (mSet (mSet (mSet (mSet (mSet w 0 0) 6 0) 7 0) 8 0) 9 0) 10 0) 11 x) 4 (nI (8 + o))).1 7 = 0 ∧ (mSet (mSet (mSet (mSet (mSet (mSet (mSet (mSet w 0 0) 6 0) 7 0) 8 0) 9 0) 10 0) 11 x) 4 (nI (8 + o))).1 8 = 0 ∧ (mSet (mSet (mSet (mSet (mSet (mSet (mSet (mSet w 0 0) 6 0) 7 0) 8 0) 9 0) 10 0) 11 x) 4 (nI (8 + o))).1 9 = 0 ∧ (mSet (mSet (mSet (mSet (mSet (mSet (mSet (mSet w 0 0) 6 0) 7 0) 8 0) 9 0) 10 0) 11 x) 4 (nI (8 + o))).1 10 = 0 ∧ (mSet (mSet (mSet (mSet (mSet (mSet (mSet (mSet w 0 0) 6 0) 7 0) 8 0) 9 0) 10 0) 11 x) 4 (nI (8 + o))).1 11 = x ∧ (mSet (mSet (mSet (mSet (mSet (mSet (mSet (mSet w 0 0) 6 0) 7 0) 8 0) 9 0) 10 0) 11 x) 4 (nI (8 + o))).1 4 = nI (8 + o) := fun w x => ⟨rfl, rfl, rfl, rfl, rfl, rfl, rfl⟩
  have zeroM : ∀ (z : mS) (x : Int32) (y : mS), y = mSet (mSet (mSet (mSet (mSet (mSet (mSet (mSet (mSet z 0 0) 9 0) 10 0) 11 0) 12 0) 13 0) 14 0) 15 x) 2 480 → y.1 0 = 0 ∧ y.1 9 = 0 ∧ y.1 10 = 0 ∧ y.1 11 = 0 ∧ y.1 12 = 0 ∧ y.1 13 = 0 ∧ y.1 14 = 0 ∧ y.1 15 = x ∧ y.1 2 = nI 480 := by
    rintro z x y rfl
    exact ⟨rfl, rfl, rfl, rfl, rfl, rfl, rfl, rfl, rfl⟩
  intro y1 e1
  rw [hu] at e1; subst e1
  refine readRel2 hu hv hlen hT (fun p w z hp wF wL zF go => ?_) (fun n w z wF wL zF hR hnc hA hwT hc go => ?_)
  · -- a fault
    rintro _ rfl _ rfl _ rfl
    refine ⟨fun q => absurd q (nI_pos (by omega)), fun _ => stA w _ 0 _ ((wF.1 5 (by decide)).trans u5) (fun ua eua => ⟨fun q => absurd q (nI_pos (by omega)), fun _ => ?_⟩)⟩
    rintro _ rfl
    refine ⟨fun z => absurd z q0, fun _ => ⟨fun _ => go _ ?_, fun z => absurd q8 z⟩⟩
    rintro _ rfl _ rfl _ rfl _ rfl _ rfl _ rfl _ rfl
    refine ⟨fun _ => ?_, fun q => absurd (nI_pos' (by omega)) q⟩
    rintro _ rfl _ rfl
    obtain ⟨vm, evm⟩ : ∃ vm, vm = mSet (mSet (mSet (mSet (mSet (mSet (mSet (mSet (mSet z 0 0) 9 0) 10 0) 11 0) 12 0) 13 0) 14 0) 15 0) 2 480 := ⟨_, rfl⟩
    rw [← evm]
    have vmF := G z 0
    rw [← evm] at vmF
    obtain ⟨m0, m9, m10, m11, m12, m13, m14, m15, m2⟩ := zeroM z 0 vm evm
    obtain ⟨vb, bF, b4, b5, -, bgo⟩ := beginX (v := vm) ho ((vmF.1 3 (by decide)).trans ((zF.1 3 (by decide)).trans hvo))
    refine bgo _ ⟨fun q => absurd q (nI_pos (by omega)), fun _ => ?_⟩
    rintro _ rfl
    obtain ⟨a6, a7, a8, a9, a10, a11, a4⟩ := zeroA w 0
    have uaF := H w 0
    rw [← eua] at a6 a7 a8 a9 a10 a11 a4 uaF
    have UF : FR [0, 1, 2, 3, 4, 6, 7, 8, 9, 10, 11] [1, 2, 3, 4] u ua := (wF.wk (by decide) (by decide)).tr (uaF.wk (by decide) (by decide))
    have VF : FR [0, 1, 2, 4, 5, 9, 10, 11, 12, 13, 14, 15] [1, 2, 7, 8, 9, 10, 11] v vb := ((zF.wk (by decide) (by decide)).tr (vmF.wk (by decide) (by decide))).tr (bF.wk (by decide) (by decide))
    refine ⟨⟨?_, ?_, ?_, ?_⟩, ⟨0, by omega, a6, (bF.1 9 (by decide)).trans m9, fun i hi => by omega⟩, o, ho, (UF.1 5 (by decide)).trans u5, OW6_sm h6 ho (UF.2 6 (by decide)) (UF.2 7 (by decide)) (UF.2 8 (by decide)) (VF.2 6 (by decide)) (fun x hx => by rw [uaF.2 1 (by decide), uaF.2 2 (by decide), uaF.2 3 (by decide), uaF.2 4 (by decide)]; exact wL x hx) (fun j _ => by rw [VF.2 3 (by decide), VF.2 4 (by decide)]; exact ⟨rfl, rfl⟩)⟩
    · rw [a8, bF.1 13 (by decide), m13]
    · rw [a10, bF.1 14 (by decide), m14]
    · rw [a11, bF.1 15 (by decide), m15]
    · rw [a9, b4, b5, pk_sub (Nat.le_refl _), Nat.sub_self]; rfl
  · -- a tree
    rintro _ rfl _ rfl _ rfl
    refine ⟨fun _ => stA w _ (nI f) _ ((wF.1 5 (by decide)).trans u5) (fun ua eua => ⟨fun _ => ?_, fun q => absurd (by decide) q⟩), fun q => absurd (by decide) q⟩
    obtain ⟨a6, a7, a8, a9, a10, a11, a4⟩ := zeroA w (nI f)
    have uaF := H w (nI f)
    rw [← eua] at a6 a7 a8 a9 a10 a11 a4 uaF
    obtain ⟨vm, evm⟩ : ∃ vm, vm = mSet (mSet (mSet (mSet (mSet (mSet (mSet (mSet (mSet z 0 0) 9 0) 10 0) 11 0) 12 0) 13 0) 14 0) 15 (nI f)) 2 480 := ⟨_, rfl⟩
    have vmF := G z (nI f)
    rw [← evm] at vmF
    obtain ⟨m0, m9, m10, m11, m12, m13, m14, m15, m2⟩ := zeroM z (nI f) vm evm
    obtain ⟨vb, bF, b4, b5, bT, bgo⟩ := beginX (v := vm) ho ((vmF.1 3 (by decide)).trans ((zF.1 3 (by decide)).trans hvo))
    obtain ⟨r0, r1, r2, r3, r4, r5⟩ := hR
    have UF : FR [0, 1, 2, 3, 4, 6, 7, 8, 9, 10, 11] [1, 2, 3, 4] u ua := (wF.wk (by decide) (by decide)).tr (uaF.wk (by decide) (by decide))
    have ZF : FR [0, 2, 4, 5, 9, 10, 11, 12, 13, 14, 15] [7, 8, 9, 10, 11] z vb := (vmF.wk (by decide) (by decide)).tr (bF.wk (by decide) (by decide))
    have VF : FR [0, 1, 2, 4, 5, 9, 10, 11, 12, 13, 14, 15] [1, 2, 7, 8, 9, 10, 11] v vb := (zF.wk (by decide) (by decide)).tr (ZF.wk (by decide) (by decide))
    have var : ra ua = ra w := ra_fr (uaF.2 1 (by decide))
    have vbr : vb.2 1 = z.2 1 := ZF.2 1 (by decide)
    have vbs : vb.2 2 = z.2 2 := ZF.2 2 (by decide)
    have b13 : vb.1 13 = nI 0 := (bF.1 13 (by decide)).trans m13
    have b14 : vb.1 14 = nI 0 := (bF.1 14 (by decide)).trans m14
    have b15 : vb.1 15 = nI f := (bF.1 15 (by decide)).trans m15
    have b2 : vb.1 2 = nI 480 := (bF.1 2 (by decide)).trans m2
    have b12 : vb.1 12 = 0 := (bF.1 12 (by decide)).trans m12
    have b9 : vb.1 9 = nI 0 := (bF.1 9 (by decide)).trans m9
    have b1 : vb.1 1 = nI (2600 - n) := (ZF.1 1 (by decide)).trans r2
    have u1 : ua.1 1 = nI (480 + n) := (uaF.1 1 (by decide)).trans hwT
    have low : ∀ x, x < 480 → ua.2 1 x = u.2 1 x ∧ ua.2 2 x = u.2 2 x ∧ ua.2 3 x = u.2 3 x ∧ ua.2 4 x = u.2 4 x := fun x hx => by
      rw [uaF.2 1 (by decide), uaF.2 2 (by decide), uaF.2 3 (by decide), uaF.2 4 (by decide)]; exact wL x hx
    have v5 : vm.2 5 = v.2 5 := (vmF.2 5 (by decide)).trans (zF.2 5 (by decide))
    have v6 : vm.2 6 = v.2 6 := (vmF.2 6 (by decide)).trans (zF.2 6 (by decide))
    have hREL : REL ua vb (480 + n) 0 f := by
      refine ⟨0, 8 + o, 8 + o, 480, by omega, by omega, by omega, Nat.le_refl _, a8, b13, a10, b14, a11, b15, a4, b4, b5, by rw [Nat.sub_self]; exact a9, u1, by omega, b2, by omega, fun i hi => ?_⟩
      obtain ⟨t7, t8, t9, t10, t11⟩ := bT i hi
      rcases Nat.lt_or_ge i 8 with c | c
      · have e5 : ua.2 5 i = tabN i := by rw [UF.2 5 (by decide)]; exact hO.2.2.1 i c
        obtain ⟨x1, x2⟩ := h6.1 i c
        refine ⟨?_, ?_, ?_, KDR8 c (by rw [UF.2 7 (by decide)]; exact x2) e5 t9 t10⟩
        · rw [e5, t7]; exact NM8 c
        · rw [UF.2 6 (by decide), x1, t8]
        · rw [UF.2 6 (by decide), x1]; exact MB_0
      · obtain ⟨k, rfl⟩ : ∃ k, i = 8 + k := ⟨i - 8, by omega⟩
        obtain ⟨x, y, q1, q2, q3, q4⟩ := hO.2.2.2 k (by omega)
        obtain ⟨g1, g2, g3, nL, N, e, g4, g5, g6, g7⟩ := h6.2 k (by omega)
        have s1 : snm vm (8 + k) = v.2 5 k := by
          unfold snm
          rw [if_neg (by omega), if_neg (by omega), if_neg (by omega), if_neg (by omega), if_neg (by omega), if_neg (by omega), if_neg (by omega), if_neg (by omega), show 8 + k - 8 = k from by omega, v5]
        have s2 : sme (8 + k) = 3 := by
          unfold sme
          rw [if_neg (by omega), if_neg (by omega)]
        have s3 : sfr (8 + k) = nI (120 * k) := by
          unfold sfr
          rw [if_neg (by omega), if_neg (by omega), show 8 + k - 8 = k from by omega]
        have t11' := t11 (by omega)
        rw [show 8 + k - 8 = k from by omega, v6, g4] at t11'
        have e10 := g6.2.2.2.2.2.2.2.2.2.1
        have l1 := (LI_at g6.2.2.2.2.1 (k := 1) (by have := g6.2.2.2.2.2.2.1; omega)).2.1
        have i1 : it (ra (mSet u 1 480)) (120 * k) 1 = 120 * k + 1 + tl (ra (mSet u 1 480)) (120 * k + 1) := rfl
        have tt1 : tl (ra (mSet u 1 480)) (120 * k + 1) = 1 := tl_eq (TL_atom (by rw [g6.2.2.2.2.2.2.2.1]; decide))
        rw [tt1] at i1
        refine ⟨⟨x, y, q1, by rw [UF.2 5 (by decide)]; exact q2, by rw [t7, s1]; exact q3⟩, by rw [UF.2 6 (by decide), g1, t8], by rw [UF.2 6 (by decide), g1]; exact MB_0, Or.inr (Or.inr (Or.inr (Or.inr (Or.inr (Or.inr ⟨by rw [UF.2 7 (by decide)]; exact g2, by rw [t9, s2], 120 * k, nL, N, 120 * k, e, 120 * k, 120 * k + nL, by rw [UF.2 8 (by decide)]; exact g3, by rw [t10, s3], t11', ?_, by omega, by omega, by omega, fun j j1 j2 => ?_⟩)))))⟩
        · have := RGN_sh (u' := ua) (v' := vb) (L' := 120 * k) (a' := 120 * k) (T := 480 + n) g6 u1 (by omega) (by omega) (fun j hj => low _ (by omega)) (fun j hj => by rw [VF.2 3 (by decide), VF.2 4 (by decide)]; exact ⟨rfl, rfl⟩)
          rw [show 120 * k + (e - 120 * k) = e from by omega] at this
          exact this
        · rw [VF.2 4 (by decide), g7 j j1 j2]; exact MB_0
    have zLST : LST 0 vb := by
      obtain ⟨c0, c1, -, c4⟩ := hL
      refine ⟨(bF.1 0 (by decide)).trans m0, RD3_fr c1 VF (by decide), ⟨0, b9, by omega⟩, OWN_keep c4 VF (by decide) (by decide) (fun j _ => by rw [VF.2 3 (by decide), VF.2 4 (by decide)]; exact ⟨rfl, rfl⟩)⟩
    have zEXI : EXI vb (2600 - n) f := by
      refine ⟨b1, by omega, b15, f8, ⟨1, by omega, Or.inr ⟨n, by rw [vbr]; exact hnc, by rw [vbr]; exact r3, by omega, by omega, fun j j1 j2 => ?_, fun k k1 k2 k6 => ?_, by show 2600 - n + n = 2600; omega⟩⟩, 480, b2, by omega, by omega, 8 + o, b4, by omega, fun k hk => ?_⟩
      · have := r4 (j - (2600 - n)) (by omega)
        rw [show 2600 - n + (j - (2600 - n)) = j from by omega] at this
        rw [vbr]; exact this
      · have := r5 (k - (2600 - n)) (by omega)
        rw [show 2600 - n + (k - (2600 - n)) = k from by omega, show 2600 - n + (k - (2600 - n) - 1) = k - 1 from by omega] at this
        rw [vbr] at k6 ⊢
        exact (this k6).2
      · obtain ⟨t7, t8, t9, t10, t11⟩ := bT k hk
        intro z3
        rcases Nat.lt_or_ge k 8 with c | c
        · rw [t9] at z3
          unfold sme at z3
          rcases Nat.lt_or_ge k 4 with c4 | c4
          · rw [if_pos c4] at z3; exact absurd z3 (by decide)
          · rw [if_neg (by omega), if_pos c] at z3; exact absurd z3 (by decide)
        · obtain ⟨i, rfl⟩ : ∃ i, k = 8 + i := ⟨k - 8, by omega⟩
          obtain ⟨ow, o1, o2, o3⟩ := hL.2.2.2
          have eow : ow = o := by rw [hvo, nI_eq (by omega) (by omega)] at o1; exact o1.symm
          subst eow
          obtain ⟨e, e1, e2, e3, e4⟩ := o3 i (by omega)
          have t11' := t11 (by omega)
          rw [show 8 + i - 8 = i from by omega, v6, e1] at t11'
          have s3 : sfr (8 + i) = nI (120 * i) := by
            unfold sfr
            rw [if_neg (by omega), if_neg (by omega), show 8 + i - 8 = i from by omega]
          exact ⟨120 * i, e, by rw [t10, s3], t11', by omega, by rw [VF.2 3 (by decide), VF.2 4 (by decide)]; exact e4⟩
    have hnb : nbA ua = 8 + o := nbA_of a4 (by omega)
    have hpre : PRE ua vb 480 n (2600 - n) (480 + n) 0 f 0 := by
      refine ⟨hREL, zEXI, zLST, b12, (bF.1 11 (by decide)).trans m11, Or.inl ⟨(bF.1 10 (by decide)).trans m10, Or.inl ⟨a7, b12, 0, by omega, a6, b9, fun i hi => by omega⟩⟩, ⟨⟨480, 480 + n, AR_fr hA (uaF.1 1 (by decide)) (uaF.2 1 (by decide)) (uaF.2 3 (by decide)), fun i i1 i2 i6 => ?_, Nat.le_refl _, Nat.le_refl _, Nat.le_refl _⟩, by omega, by rw [vbr]; exact r3, by rw [vbr]; exact hnc, fun j hj => ?_⟩, fun i L i1 i7 i8 hL3 => ?_⟩
      · rw [var] at i6 ⊢
        have e1 := (hc (i - 480) (by omega)).1
        rw [show 480 + (i - 480) = i from by omega] at e1
        rw [e1] at i6
        obtain ⟨d1, d2, d3⟩ := r5 (i - 480) (by omega) i6
        have e2 := (hc (i - 480 - 1) (by omega)).1
        rw [show 480 + (i - 480 - 1) = i - 1 from by omega] at e2
        rw [e2]
        exact ⟨by omega, d2, d3⟩
      · obtain ⟨c1, c2, c3⟩ := hc j hj
        rw [var, vbr, vbs, uaF.2 2 (by decide), c1, c2, c3]
        exact ⟨rfl, rfl, MB_0⟩
      · rw [hnb] at i1
        rcases Nat.lt_or_ge i 8 with c | c
        · rw [UF.2 7 (by decide), (h6.1 i c).2] at i7
          exfalso
          have cc : i = 0 ∨ i = 1 ∨ i = 2 ∨ i = 3 ∨ i = 4 ∨ i = 5 ∨ i = 6 ∨ i = 7 := by omega
          rcases cc with rfl | rfl | rfl | rfl | rfl | rfl | rfl | rfl <;> exact absurd i7 (by decide)
        · obtain ⟨k, rfl⟩ : ∃ k, i = 8 + k := ⟨i - 8, by omega⟩
          obtain ⟨g1, g2, g3, nL, N, e, g4, g5, g6, g7⟩ := h6.2 k (by omega)
          rw [UF.2 8 (by decide), g3, nI_eq (by omega) (by omega)] at i8
          subst i8
          have tn : tl (ra ua) (120 * k) = nL := tl_eq (TL_copy (r := ra (mSet u 1 480)) (i := 120 * k) (fun j hj => by
            show kd (tr (ua.2 1 (120 * k + j))) = kd (tr (u.2 1 (120 * k + j)))
            rw [(low _ (by omega)).1]) g6.2.2.2.2.1.2.1)
          rw [tn]
          omega
    -- both sides at their end
    have go2 : ∀ Q : Int32 → mS → Prop, LPX Q vb → wp_X9_expand (nI f) v Q := by
      intro Q hq
      refine ⟨fun z => absurd z q0, fun _ => ⟨fun _ => go _ ?_, fun z => absurd q8 z⟩⟩
      rintro _ rfl _ rfl _ rfl _ rfl _ rfl _ rfl _ rfl
      refine ⟨fun q => absurd q (by decide), fun _ => ?_⟩
      rintro _ rfl _ rfl
      rw [← evm]
      exact bgo _ ⟨fun _ => hq, fun q => absurd (by decide) q⟩
    rw [show (480 : Int32) = nI 480 from rfl, show (0 : Int32) = nI 0 from rfl]
    refine treeX (wpT_ok 24) (wpT_er 23) (by omega) (by omega) hpre (fun u' v' gg hr => ?_)
    obtain ⟨f1, f2, f3⟩ := hr
    obtain ⟨l1, l2, ⟨l3, l4⟩, ⟨l5, l6⟩, l7, l8⟩ := f1
    have ke : keM vb = 480 := keM_of b2 (by omega)
    -- what lasts
    have last : ∀ (w' z' : mS), FR [6] [] u' w' → FR [9] [] v' z' → ∀ o', o' = o → OW6 o' w' z' := by
      intro w' z' wF' zF' o' eo
      subst eo
      have lowu : ∀ x, x < 480 → w'.2 1 x = u.2 1 x ∧ w'.2 2 x = u.2 2 x ∧ w'.2 3 x = u.2 3 x ∧ w'.2 4 x = u.2 4 x := by
        intro x hx
        obtain ⟨k1, k2, k3⟩ := l1 x (by omega)
        obtain ⟨k4, k5⟩ := k3 (Or.inl hx)
        obtain ⟨j1, j2, j3, j4⟩ := low x hx
        rw [wF'.2 1 (by decide), wF'.2 2 (by decide), wF'.2 3 (by decide), wF'.2 4 (by decide), k1, k2, k4, k5]
        exact ⟨j1, j2, j3, j4⟩
      have lowv : ∀ j, j < 480 → z'.2 3 j = v.2 3 j ∧ z'.2 4 j = v.2 4 j := by
        intro j hj
        obtain ⟨k1, k2⟩ := l6 j (by rw [ke]; exact hj)
        rw [zF'.2 3 (by decide), zF'.2 4 (by decide), k1, k2, VF.2 3 (by decide), VF.2 4 (by decide)]
        exact ⟨rfl, rfl⟩
      refine ⟨fun i hi => ?_, fun k hk => OWK_sm (h6.2 k hk) (by omega) ?_ ?_ ?_ ?_ (fun x x1 x2 => lowu x (by omega)) (fun j j1 j2 => lowv j (by omega))⟩
      · obtain ⟨-, k6, k7, -⟩ := l4 i (by rw [hnb]; omega)
        rw [wF'.2 6 (by decide), wF'.2 7 (by decide), k6, k7, UF.2 6 (by decide), UF.2 7 (by decide)]
        exact h6.1 i hi
      · rw [wF'.2 6 (by decide), (l4 (8 + k) (by rw [hnb]; omega)).2.1, UF.2 6 (by decide)]
      · rw [wF'.2 7 (by decide), (l4 (8 + k) (by rw [hnb]; omega)).2.2.1, UF.2 7 (by decide)]
      · rw [wF'.2 8 (by decide), (l4 (8 + k) (by rw [hnb]; omega)).2.2.2, UF.2 8 (by decide)]
      · rw [zF'.2 6 (by decide), l7, VF.2 6 (by decide)]
    have u5' : u'.1 5 = nI o := l8.trans ((UF.1 5 (by decide)).trans u5)
    intro y13 e13
    rcases f3 with ⟨e1, e2, e3⟩ | ⟨st', c', f', w1, w2, w3, w4, w5, w6, w7, w8, w9, w10, w11, w12⟩
    · refine ⟨fun q => absurd (e13.symm.trans q) e1, fun _ => ?_⟩
      rintro _ rfl y17 _ y18 _
      refine go2 _ (gg _ (endLP (Or.inl e2) (fun q => absurd q e2) (fun _ r => ⟨e3, ⟨0, by omega, mSet_same _ _ _, mSet_same _ _ _, fun i hi => by omega⟩, o, ho, u5', last _ _ (FR_set FR.rf (by decide)) (FR_set FR.rf (by decide)) o rfl⟩)))
    · refine ⟨fun _ => ?_, fun q => absurd (e13.trans w2) q⟩
      intro y15 _
      refine go2 _ (gg _ (endLP (Or.inr ⟨2600 - n + n, w8, by omega, by omega⟩) (fun _ => ⟨REL_CN w7, ?_, o, ho, u5', last _ _ FR.rf FR.rf o rfl⟩) (fun q => absurd w3 q)))
      rcases w1 with ⟨-, -, L, l1', l2', l3', l4'⟩ | ⟨q, -⟩
      · exact ⟨L, l1', l2', l3', l4'⟩
      · exact absurd w2 q
