-- 32: function of the reference
theorem step_i {x V : Int32} (h : ¬ V ≤ x) : (V.toInt - (x + 1).toInt).toNat < (V.toInt - x.toInt).toNat := by
  have h1 : x.toInt < V.toInt := by
    rcases Int.lt_or_le x.toInt V.toInt with a | a
    · exact a
    · exact absurd (Int32.le_iff_toInt_le.mpr a) h
  have hV := Int32.toInt_lt V
  have hx := Int32.le_toInt x
  have e : (x + 1).toInt = x.toInt + 1 := by
    rw [Int32.toInt_add, show (1 : Int32).toInt = 1 from by decide]
    exact Int.bmod_eq_of_le (by omega) (by omega)
  rw [e]
  omega
theorem LI3 {r : Nat → Int32} {h m N t : Nat} (hL : LI r h m N) (hc : cn r h N = t) (hd : dn r h N = 0) : N = t := by
  have := cn_dn r h N; omega
theorem it1_name {r : Nat → Int32} {h m N : Nat} (hL : LI r h m N) (hN : 0 < N) (h3 : kd (r (h + 1)) = 3) : it r h 1 = h + 2 := by
  have e : it r h 1 = h + 1 + tl r (h + 1) := rfl
  rw [e, tl_eq (TL_atom (r := r) (i := h + 1) (by rw [h3]; decide))]
theorem PB_two {kp ks : Nat → Int32} {ke : Nat} {f t : Int32} : PB kp ks ke 2 f t := fun q => absurd q (by decide)
/-- the state of function behind its scope -/
def FN (P : Int32 → Int32 → Int32 → Prop) (u w : mS) : Prop := FR [4, 12, 13, 14] [2, 7, 8, 9, 10, 11] u w ∧ BNS P w
theorem FN.err {P : Int32 → Int32 → Int32 → Prop} {u w v : mS} (h : FN P u w) (hv : FR [12] [] w v) : FN P u v := ⟨h.1.tr (hv.wk (by decide) (by decide)), BNS_fr h.2 hv (by decide) (by decide) (by decide) (by decide)⟩
theorem FN_LST {P : Int32 → Int32 → Int32 → Prop} {l : Int32} {u w : mS} (hL : LST l u) (h : FN P u w) : LST l w := LST_fr hL h.1 (by decide) (by decide) (by decide) (by decide) (by decide) (by decide) (by decide)
theorem function_end {l : Int32} {h f m N n ke : Nat} {x6 : Int32} {u w : mS} {post : mS → Prop} (hE : EXI u h f) (hke : u.1 2 = nI ke ∧ 480 ≤ ke ∧ ke + (2600 - h) + 300 * f ≤ 3000) (hL : LST l u) (hT : TH (u.2 1) h m N n) (hN : N = 3) (h3 : kd (u.2 1 (h + 1)) = 3) (hp : HP l h f post) (hw : FN (PB (u.2 3) (u.2 4) ke) u w) : wj_X9_function_292 post (nI (it (u.2 1) h 2)) x6 w := by
  have e1 := hE.1
  have wL := FN_LST hL hw
  have hh := hT.2.1
  have m2 := (TL_open hT.1.1 hT.1.2.1).1
  rintro _ rfl
  refine ⟨fun _ => putOpen_ok wL.2.2.1 (fun v1 p1 => space_ok p1.2 (fun v2 p2 => ?_)), fun q => hp w wL (fun z => absurd z q)⟩
  intro y71 e71
  have p12 := p1.tr p2
  have e71 : y71 = nI h := e71.trans ((p12.1.1 1 (by decide)).trans ((hw.1.1 1 (by decide)).trans e1))
  subst e71
  rintro _ rfl
  rw [nI_1]
  refine what_2 (by omega) (fun r => putName_ok p2.2 (fun v3 p3 => putOpen_ok p3.2 (fun v4 p4 => ?_)))
  have p14 := (p12.tr p3).tr p4
  refine mL3_in (fun x4 _ z => x4 = nI (it (u.2 1) h 2) ∧ PQ w z) (fun _ x7 z => ((z.1 14).toInt - x7.toInt).toNat) ?_ _ _ _ ⟨rfl, p14⟩
  rintro K x4 x7 z ⟨rfl, pz⟩ ih
  rintro _ rfl
  refine ⟨fun _ => putClose_ok pz.2 (fun v5 p5 => ?_), fun q => putVariable_ok pz.2 (fun v5 p5 => ?_)⟩
  · rintro _ rfl _ rfl _ rfl _ rfl
    have p15 := pz.tr p5
    have vL := LST_pq wL p15
    have b2 := LI_at hT.1 (k := 2) (by omega)
    have F9 : FR [1, 4, 9, 10, 11, 12, 13, 14] [2, 7, 8, 9, 10, 11, 19] u (mSet (mSet v5 11 (v5.1 11 + 1)) 1 (nI (it (u.2 1) h 2))) := FR_set (FR_set ((hw.1.wk (by decide) (by decide)).tr (p15.1.wk (by decide) (by decide))) (by decide)) (by decide)
    refine hp _ (LST_fr (S := [1, 11]) (A := []) vL (FR_set (FR_set FR.rf (by decide)) (by decide)) (by decide) (by decide) (by decide) (by decide) (by decide) (by decide) (by decide)) (fun _ => ⟨it (u.2 1) h 2, f, ?_, by omega⟩)
    obtain ⟨n', hr⟩ := RO_itemsS hT (k := 2) (by omega)
    obtain ⟨q1, q2, q3, q4, q5, -⟩ := hE
    obtain ⟨q6, q7, q8⟩ := hke
    refine ⟨mSet_same _ _ _, by omega, (F9.1 15 (by decide)).trans q3, q4, ⟨n', ?_⟩, ke, (F9.1 2 (by decide)).trans q6, q7, by omega, ?_⟩
    · rw [F9.2 1 (by decide)]; exact hr
    · rw [F9.2 3 (by decide), F9.2 4 (by decide)]
      refine BNS_fr (S := [1, 9, 10, 11, 12]) (A := [19]) hw.2 (FR_set (FR_set (p15.1.wk (by decide) (by decide)) (by decide)) (by decide)) (by decide) (by decide) (by decide) (by decide)
  · rintro _ rfl
    refine ih _ _ _ ⟨rfl, pz.tr p5⟩ ?_
    rw [p5.1.1 14 (by decide)]
    exact step_i q
theorem function_ok {l : Int32} {h f m N n : Nat} {u : mS} {post : mS → Prop} (hE : EXI u h f) (hL : LST l u) (hT : TH (u.2 1) h m N n) (h3 : kd (u.2 1 (h + 1)) = 3) (he : u.1 12 = 0) (hp : HP l h f post) : wp_X9_function u post := by
  have e1 := hE.1
  have hh := hT.2.1
  have m2 := (TL_open hT.1.1 hT.1.2.1).1
  obtain ⟨ke, k6, k7, k8, k9⟩ := hE.2.2.2.2.2
  have bad : wj_X9_function_68 post (nI (h + m)) (nI (h + 2)) 0 0 u := by
    rintro _ rfl
    refine mL6_in (fun _ _ x3 x4 x5 z => x3 = 0 ∧ x4 = 0 ∧ x5 = nI (h + 3) ∧ z = u) (fun _ _ _ _ _ _ => 0) ?_ _ _ _ _ _ _ ⟨rfl, rfl, by rw [nI_1], rfl⟩
    rintro K x1 x2 x3 x4 x5 z ⟨rfl, rfl, rfl, rfl⟩ ih
    rintro _ rfl
    refine ⟨fun _ => ⟨fun q => absurd rfl q, fun _ => failsHP hL (by decide) hp⟩, fun q => absurd ?_ q⟩
    have : ((0 : Int32) - 1) ≤ nI (h + 3) := by
      rw [Int32.le_iff_toInt_le, nI_toInt (by omega)]
      show (-1 : Int) ≤ _
      omega
    exact this
  intro y1 q1
  have q1 : y1 = nI h := q1.trans e1
  subst q1
  refine end_2 hT.1.2.1 hh ?_
  intro y4 q4
  have q4 : y4 = nI h := q4.trans e1
  subst q4
  rintro _ rfl y6 q6
  have q6 : y6 = nI h := q6.trans e1
  subst q6
  rw [show (2 : Int32) = nI 2 from rfl, nI_add]
  refine isPlain_2 (t := 3) hT.1.2.1 hh (by omega) (fun N' hL' hc hd => ⟨fun q => absurd q (by decide), fun _ => ?_⟩) (fun _ => ⟨fun _ => ⟨fun _ => bad, fun q => absurd rfl q⟩, fun q => absurd rfl q⟩)
  have hN' := LI3 hL' hc hd
  have hNN := (LI_uniq hT.1 hL').2
  have hN : N = 3 := by omega
  subst hN
  have i1 := it1_name hT.1 (by omega) h3
  have b1 := LI_at hT.1 (k := 1) (by omega)
  have b2 := LI_at hT.1 (k := 2) (by omega)
  have b3 := LI_mono hT.1 (j := 2) (k := 3) (by omega) (by omega)
  have bE := hT.1.2.2.2
  have t1 := (hT.1.2.2.1 1 (by omega)).2
  have e2 : it (u.2 1) h 2 = it (u.2 1) h 1 + tl (u.2 1) (it (u.2 1) h 1) := rfl
  rw [i1] at t1 e2 b1
  refine kind_2 (by omega) ⟨fun _ => ⟨fun _ => bad, fun q => absurd rfl q⟩, fun k1 => ⟨fun q => absurd q (by decide), fun _ => end_2 t1 (by omega) ?_⟩⟩
  have l2 := (TL_open k1 t1).1
  rw [← e2]
  have fend := fun x6 w hw => function_end (x6 := x6) (w := w) hE ⟨k6, k7, k8⟩ hL hT rfl h3 hp hw
  generalize it (u.2 1) h 2 = bd at *
  rintro _ rfl
  rw [nI_1]
  refine mL6_in (fun x1 x2 _ x4 x5 z => x1 = nI (h + m) ∧ x2 = nI (h + 2) ∧ x4 = nI bd ∧ z = u ∧ ∃ k, x5 = nI k ∧ h + 3 ≤ k ∧ k ≤ bd - 1) (fun _ _ _ _ x5 _ => bd - x5.toNatClampNeg) ?_ _ _ _ _ _ _ ⟨rfl, rfl, rfl, rfl, h + 3, rfl, by omega, by omega⟩
  rintro K x1 x2 x3 x4 x5 z ⟨rfl, rfl, rfl, rfl, k, rfl, k1, k2⟩ ih
  rintro _ rfl
  rw [show (1 : Int32) = nI 1 from rfl, pk_sub (by omega)]
  refine ⟨fun _ => ⟨fun _ => ?_, fun _ => failsHP hL (by decide) hp⟩, fun q => ?_⟩
  · refine scope_ok (fun s v hv => ?_) (fun s v hv hv2 => ?_)
    · rintro _ rfl
      refine ⟨fun _ => give_ok (by omega) (by omega) (fun w hw => ?_), fun q => absurd ((hv.1 12 (by decide)).trans he) q⟩
      have wFN : FN (PB (z.2 3) (z.2 4) ke) z w := ⟨(hv.wk (by decide) (by decide)).tr (hw.wk (by decide) (by decide)), BNS_fr (BNS_fr k9 hv (by decide) (by decide) (by decide) (by decide)) hw (by decide) (by decide) (by decide) (by decide)⟩
      rintro _ rfl _ rfl
      rw [nI_add]
      refine mL5_in (fun x2 x4 _ x7 y => x2 = nI (h + 2) ∧ x4 = nI bd ∧ (∃ k, x7 = nI k ∧ h + 3 ≤ k ∧ k ≤ bd - 1) ∧ FN (PB (z.2 3) (z.2 4) ke) z y) (fun _ _ _ x7 _ => bd - x7.toNatClampNeg) ?_ _ _ _ _ _ ⟨rfl, rfl, ⟨h + 3, rfl, by omega, by omega⟩, wFN⟩
      rintro K5 x2 x4 x6 x7 y ⟨rfl, rfl, ⟨c, rfl, c1, c2⟩, yFN⟩ ih5
      rintro _ rfl
      rw [show (1 : Int32) = nI 1 from rfl, pk_sub (by omega)]
      refine ⟨fun _ => fend x6 y yFN, fun g => ?_⟩
      rw [nI_leI (by omega) (by omega)] at g
      rintro _ rfl
      refine ⟨fun _ => fend x6 y yFN, fun _ => ?_⟩
      rintro _ rfl
      rw [nI_add]
      -- behind a name
      have n262 : ∀ y', FN (PB (z.2 3) (z.2 4) ke) z y' → wj_X9_function_262 K5 post (nI (h + 2)) (nI bd) x6 (nI c) y' := by
        intro y' hy'
        have n283 : ∀ z0, wj_X9_function_283 K5 post (nI (h + 2)) (nI bd) x6 (nI c) z0 y' := by
          intro z0
          rintro _ rfl _ rfl
          rw [nI_1]
          refine ih5 _ _ _ _ _ ⟨rfl, rfl, ⟨c + 1, rfl, by omega, by omega⟩, FR_set hy'.1 (by decide), ?_⟩ ?_
          · exact BNS_fr (S := [14]) (A := []) hy'.2 (FR_set FR.rf (by decide)) (by decide) (by decide) (by decide) (by decide)
          · rw [nI_clamp (by omega), nI_clamp (by omega)]; omega
        rintro _ rfl
        refine ⟨fun _ => ?_, fun _ => ?_⟩
        · rintro _ rfl; exact n283 _
        · rintro _ rfl _ rfl; exact n283 _
      refine mL6_in (fun x2 x4 z6 x7 x8 y' => x2 = nI (h + 2) ∧ x4 = nI bd ∧ z6 = x6 ∧ x7 = nI c ∧ (∃ q, x8 = nI q ∧ h + 3 ≤ q ∧ q ≤ c) ∧ FN (PB (z.2 3) (z.2 4) ke) z y') (fun _ _ _ _ x8 _ => c - x8.toNatClampNeg) ?_ _ _ _ _ _ _ ⟨rfl, rfl, rfl, rfl, ⟨h + 3, rfl, by omega, by omega⟩, yFN⟩
      rintro K6 x2 x4 z6 x7 x8 y' ⟨rfl, rfl, rfl, rfl, ⟨q, rfl, q1, q2⟩, hy'⟩ ih6
      have n223 : ∀ y'', FN (PB (z.2 3) (z.2 4) ke) z y'' → q < c → wj_X9_function_223 K5 K6 post (nI (h + 2)) (nI bd) z6 (nI c) (nI q) y'' := by
        intro y'' hy'' hqc
        rintro _ rfl
        rw [nI_1]
        refine ih6 _ _ _ _ _ _ ⟨rfl, rfl, rfl, rfl, ⟨q + 1, rfl, by omega, by omega⟩, hy''⟩ ?_
        rw [nI_clamp (by omega), nI_clamp (by omega)]; omega
      refine ⟨fun _ => ?_, fun g2 => ?_⟩
      · rintro _ rfl
        refine ⟨fun _ => n262 y' hy', fun _ => what_2 (by omega) (fun r => ⟨vp_in_nI (by omega) (by omega), ?_⟩)⟩
        rintro _ rfl _ rfl
        exact bind_ok hy'.2 PB_two (fun v' hv' hB' => n262 v' ⟨hy'.1.tr (hv'.wk (by decide) (by decide)), hB'⟩)
      · rw [nI_leI (by omega) (by omega)] at g2
        refine ⟨vp_in_nI (by omega) (by omega), ?_⟩
        rintro _ rfl
        refine ⟨vp_in_nI (by omega) (by omega), ?_⟩
        rintro _ rfl
        refine ⟨fun _ => n223 y' hy' (by omega), fun _ => ⟨vp_in_nI (by omega) (by omega), ?_⟩⟩
        rintro _ rfl
        refine ⟨vp_in_nI (by omega) (by omega), ?_⟩
        rintro _ rfl
        refine ⟨fun _ => n223 y' hy' (by omega), fun _ => fails_ok (by decide) (fun v' hv' _ _ => n223 v' (hy'.err hv') (by omega))⟩
    · rintro _ rfl
      exact ⟨fun q => absurd q hv2, fun _ => hp v (LST_fr hL hv (by decide) (by decide) (by decide) (by decide) (by decide) (by decide) (by decide)) (fun q => absurd q hv2)⟩
  · rw [nI_leI (by omega) (by omega)] at q
    have n106 : ∀ z0, wj_X9_function_106 K post (nI (h + m)) (nI (h + 2)) (nI bd) (nI k) z0 z := by
      intro z0
      rintro _ rfl
      rw [nI_1]
      refine ih _ _ _ _ _ _ ⟨rfl, rfl, rfl, rfl, k + 1, rfl, by omega, by omega⟩ ?_
      rw [nI_clamp (by omega), nI_clamp (by omega)]; omega
    refine ⟨fun _ => n106 _, fun _ => kind_2 (by omega) ⟨fun _ => n106 _, fun _ => n106 _⟩⟩
