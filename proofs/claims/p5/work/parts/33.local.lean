-- 33: local, form, list, step of the reference
theorem SQ_of_LI {r : Nat → Int32} {i n N : Nat} (hL : LI r i n N) (hN : 0 < N) : SQ r (it r i 1) (i + (n - 1)) (N - 1) := by
  have e : ∀ k, nx r (it r i 1) k = it r i (k + 1) := by
    intro k
    induction k with
    | zero => rfl
    | succ k ih =>
      show nx r (it r i 1) k + tl r (nx r (it r i 1) k) = it r i (k + 1) + tl r (it r i (k + 1))
      rw [ih]
  refine ⟨fun k hk => ?_, ?_⟩
  · rw [e k]; exact hL.2.2.1 (k + 1) (by omega)
  · rw [e (N - 1), show N - 1 + 1 = N from by omega]; exact hL.2.2.2
theorem PB_keep {kp ks kp' ks' : Nat → Int32} {ke ke' : Nat} {m f t : Int32} (h : PB kp ks ke m f t) (hk : ke ≤ ke') (hs : ∀ j, j < ke → kp' j = kp j ∧ ks' j = ks j) : PB kp' ks' ke' m f t := by
  intro q
  obtain ⟨a, b, h1, h2, h3, h4⟩ := h q
  exact ⟨a, b, h1, h2, by omega, RS_same h4 (fun j _ j2 => hs j (by omega))⟩
theorem BNS_mono {P Q : Int32 → Int32 → Int32 → Prop} {w : mS} (h : BNS P w) (hPQ : ∀ m f t, P m f t → Q m f t) : BNS Q w := by
  obtain ⟨nb, h1, h2, h3⟩ := h
  exact ⟨nb, h1, h2, fun k hk => hPQ _ _ _ (h3 k hk)⟩
theorem local_ok {l : Int32} {h f m N n : Nat} {u : mS} {post : mS → Prop} (hE : EXI u h f) (hL : LST l u) (hT : TH (u.2 1) h m N n) (h3 : kd (u.2 1 (h + 1)) = 3) (he : u.1 12 = 0) (hp : HP l h f post) : wp_X9_local u post := by
  have e1 := hE.1
  have hh := hT.2.1
  have m2 := (TL_open hT.1.1 hT.1.2.1).1
  obtain ⟨ke, k6, k7, k8, k9⟩ := hE.2.2.2.2.2
  have bad : wj_X9_local_76 post (nI (h + m)) (nI (h + 2)) 0 u := by
    refine ⟨fun _ => ?_, fun q => absurd rfl q⟩
    rintro _ rfl
    exact ⟨fun _ => ⟨fun _ => failsHP hL (by decide) hp, fun q => absurd rfl q⟩, fun q => absurd rfl q⟩
  intro y1 q1
  have q1 : y1 = nI h := q1.trans e1
  subst q1
  refine end_2 hT.1.2.1 hh ?_
  intro y4 q4
  have q4 : y4 = nI h := q4.trans e1
  subst q4
  rintro _ rfl y6 q6
  have q6 : y6 = nI h := q6.trans e1
  subst q6
  rw [show (2 : Int32) = nI 2 from rfl, nI_add]
  refine isPlain_2 (t := 3) hT.1.2.1 hh (by omega) (fun N' hL' hc hd => ⟨fun q => absurd q (by decide), fun _ => ?_⟩) (fun _ => ⟨fun _ => bad, fun q => absurd rfl q⟩)
  have hN' := LI3 hL' hc hd
  have hNN := (LI_uniq hT.1 hL').2
  have hN : N = 3 := by omega
  subst hN
  have i1 := it1_name hT.1 (by omega) h3
  have b1 := LI_at hT.1 (k := 1) (by omega)
  have b2 := LI_at hT.1 (k := 2) (by omega)
  have b3 := LI_mono hT.1 (j := 2) (k := 3) (by omega) (by omega)
  have bE := hT.1.2.2.2
  have t1 := (hT.1.2.2.1 1 (by omega)).2
  have e2 : it (u.2 1) h 2 = it (u.2 1) h 1 + tl (u.2 1) (it (u.2 1) h 1) := rfl
  rw [i1] at t1 e2 b1
  refine kind_2 (by omega) ⟨fun _ => bad, fun k1 => ?_⟩
  have l2 := TL_open k1 t1
  rintro _ rfl
  rw [nI_1]
  refine kind_2 (by omega) ⟨fun _ => bad, fun k3 => ?_⟩
  have l3 : 3 ≤ tl (u.2 1) (h + 2) := by
    rcases Nat.lt_or_ge 2 (tl (u.2 1) (h + 2)) with a | a
    · omega
    · have : tl (u.2 1) (h + 2) = 2 := by omega
      have q := l2.2.2
      rw [this] at q
      rw [show h + 2 + (2 - 1) = h + 2 + 1 from rfl, k3] at q
      exact absurd q (by decide)
  obtain ⟨N2, hL2⟩ := LI_ex k1 t1
  have N20 : 0 < N2 := by
    rcases Nat.eq_zero_or_pos N2 with a | a
    · subst a
      have q : h + 2 + 1 = h + 2 + (tl (u.2 1) (h + 2) - 1) := hL2.2.2.2
      omega
    · exact a
  have hSQ := SQ_of_LI hL2 N20
  rw [it1_name hL2 N20 k3] at hSQ
  refine dots_2 hL2 (by omega) ⟨fun _ => bad, fun _ => ⟨fun q => absurd q (by decide), fun _ => end_2 t1 (by omega) ?_⟩⟩
  rw [← e2]
  have rit := RO_items (q := upd (u.2 1) (h + m - 1) 458752) hT (fun j j1 j2 => pk_un (by omega)) (fun j j1 => pk_un (by omega)) (Or.inr (by rw [pk_us]; decide)) 1 2 (by omega)
  generalize hbd : it (u.2 1) h 2 = bd at *
  generalize hz : tl (u.2 1) (h + 2) = z at *
  intro y23 q23
  have q23 : y23 = nI ke := q23.trans k6
  subst q23
  refine ⟨fun q => absurd q (by decide), fun _ => ?_⟩
  rintro _ rfl _ rfl
  rw [show (1 : Int32) = nI 1 from rfl, pk_sub (by omega), show (2 : Int32) = nI 2 from rfl, nI_add]
  refine keep_ok (a := h + 2 + 2) (b := bd - 1) (o := ke) (by omega) (by omega) (by omega) (fun w hw => ?_)
  obtain ⟨wF, wC, wO⟩ := hw
  have hA : ∀ j, j < bd - 1 - (h + 2 + 2) → w.2 3 (ke + j) = u.2 1 (h + 2 + 2 + j) ∧ w.2 4 (ke + j) = u.2 2 (h + 2 + 2 + j) := wC
  have hSQ' := (sh_SQ (L := bd - 1 - (h + 2 + 2)) hA (N := N2 - 1) (by rw [show h + 2 + 2 + (bd - 1 - (h + 2 + 2)) = h + 2 + (z - 1) from by omega]; exact hSQ)).1
  have wL : LST l w := by
    obtain ⟨c0, c1, ⟨s, c2, c3⟩, c4⟩ := hL
    exact ⟨(wF.1 0 (by decide)).trans c0, RD3_fr c1 wF (by decide), ⟨s, (wF.1 9 (by decide)).trans c2, c3⟩, OWN_keep c4 wF (by decide) (by decide) (fun j hj => wO j (by omega))⟩
  refine ⟨fun q => absurd q (by decide), fun _ => areRules_ok hSQ' (by omega) (fun hR => ⟨fun _ => ?_, fun q => absurd q (by decide)⟩) (fun _ => ⟨fun q => absurd rfl q, fun _ => failsHP wL (by decide) hp⟩)⟩
  have hRS : RS (w.2 3) (w.2 4) ke (ke + (bd - 1 - (h + 2 + 2))) := by
    refine ⟨by omega, ⟨N2 - 1, hSQ', hR⟩, fun j j1 j2 => ?_, fun k g1 g2 g6 => ?_⟩
    · have := (hA (j - ke) (by omega)).1
      rw [show ke + (j - ke) = j from by omega] at this
      rw [this]; exact hT.2.2.2.1 _ (by omega) (by omega)
    · have a1 := (hA (k - ke) (by omega)).1
      have a2 := (hA (k - 1 - ke) (by omega)).1
      rw [show ke + (k - ke) = k from by omega] at a1
      rw [show ke + (k - 1 - ke) = k - 1 from by omega] at a2
      rw [a1] at g6
      have := hT.2.2.2.2.1 (h + 2 + 2 + (k - ke)) (by omega) (by omega) g6
      rw [show h + 2 + 2 + (k - ke) - 1 = h + 2 + 2 + (k - 1 - ke) from by omega] at this
      rw [a2]; exact this
  generalize hLen : bd - 1 - (h + 2 + 2) = Ln at *
  have wB : BNS (PB (w.2 3) (w.2 4) (ke + Ln)) w := BNS_mono (BNS_fr k9 wF (by decide) (by decide) (by decide) (by decide)) (fun _ _ _ q => PB_keep q (by omega) (fun j hj => wO j (by omega)))
  refine scope_ok (fun s v hv => ?_) (fun s v hv hv2 => ?_)
  · rintro _ rfl
    refine ⟨fun _ => ?_, fun q => absurd ((hv.1 12 (by decide)).trans ((wF.1 12 (by decide)).trans he)) q⟩
    rintro _ rfl _ rfl
    rw [nI_1, show (2 : Int32) = nI 2 from rfl, nI_add]
    refine give_ok (by omega) (by omega) (fun v1 g1 => give_ok (by omega) (by omega) (fun v2 g2 => ?_))
    rintro _ rfl
    refine what_2 (by omega) (fun r => ?_)
    rintro _ rfl
    refine ⟨vp_in_nI (by omega) (by omega), ?_⟩
    rintro _ rfl
    have vF : FR [13] [2] w v2 := (hv.wk (by decide) (by decide)).tr ((g1.wk (by decide) (by decide)).tr (g2.wk (by decide) (by decide)))
    have vB : BNS (PB (w.2 3) (w.2 4) (ke + Ln)) v2 := BNS_fr wB vF (by decide) (by decide) (by decide) (by decide)
    refine bind_ok vB (fun _ => ⟨ke, ke + Ln, rfl, rfl, Nat.le_refl _, hRS⟩) (fun v3 f3 b3' => ?_)
    rintro _ rfl _ rfl
    rw [show (1 : Int32) = nI 1 from rfl, pk_sub (by omega)]
    refine ⟨vp_in_nI (by omega) (by omega), ?_⟩
    rintro _ rfl _ rfl _ rfl _ rfl _ rfl
    rw [nI_clamp (by omega)]
    have F1 : FR [4, 12, 13] [2, 7, 8, 9, 10, 11] w v3 := (vF.wk (by decide) (by decide)).tr (f3.wk (by decide) (by decide))
    have v3L : LST l v3 := LST_fr wL F1 (by decide) (by decide) (by decide) (by decide) (by decide) (by decide) (by decide)
    refine hp _ (LST_fr (S := [1, 2, 11]) (A := [1]) v3L (FR_set (FR_set (FR_put (FR_set FR.rf (by decide)) (by decide)) (by decide)) (by decide)) (by decide) (by decide) (by decide) (by decide) (by decide) (by decide) (by decide)) (fun _ => ⟨bd, f, ?_, by omega⟩)
    obtain ⟨q1, q2, q3, q4, q5, -⟩ := hE
    have G : FR [1, 2, 11] [1] v3 (mSet (mSet (mPut (mSet v3 2 (nI (ke + Ln))) 1 (h + m - 1) 458752) 11 ((mPut (mSet v3 2 (nI (ke + Ln))) 1 (h + m - 1) 458752).1 11 + nI 1)) 1 (nI bd)) := FR_set (FR_set (FR_put (FR_set FR.rf (by decide)) (by decide)) (by decide)) (by decide)
    refine ⟨mSet_same _ _ _, by omega, ?_, q4, ⟨n + 1 + 1, ?_⟩, ke + Ln, ?_, by omega, by omega, ?_⟩
    · exact (G.1 15 (by decide)).trans ((F1.1 15 (by decide)).trans ((wF.1 15 (by decide)).trans q3))
    · rw [mSet_arr, mSet_arr, mPut_same, mSet_arr, F1.2 1 (by decide), wF.2 1 (by decide)]
      exact rit
    · rw [mSet_other (by decide : (2 : Nat) ≠ 1), mSet_other (by decide : (2 : Nat) ≠ 11), mPut_scal, mSet_same]
    · rw [G.2 3 (by decide), G.2 4 (by decide), F1.2 3 (by decide), F1.2 4 (by decide)]
      exact BNS_fr b3' G (by decide) (by decide) (by decide) (by decide)
  · rintro _ rfl
    exact ⟨fun q => absurd q hv2, fun _ => hp v (LST_fr wL hv (by decide) (by decide) (by decide) (by decide) (by decide) (by decide) (by decide)) (fun q => absurd q hv2)⟩
/-- the head goes on to h' behind text that was put -/
theorem move_ok {l : Int32} {h f h' : Nat} {u v : mS} {x : Int32} (hE : EXI u h f) (hq : PQ u v) (hr : ∃ n, RO (u.2 1) n h') (h1 : h < h') (h2 : h' ≤ 2600) (hL : LST l u) : LST l (mSet (mSet v 11 x) 1 (nI h')) ∧ ∃ k f', EXI (mSet (mSet v 11 x) 1 (nI h')) k f' ∧ f' * 3000 + (2600 - k) < f * 3000 + (2600 - h) := by
  have F : FR [1, 9, 10, 11, 12] [19] u (mSet (mSet v 11 x) 1 (nI h')) := FR_set (FR_set (hq.1.wk (by decide) (by decide)) (by decide)) (by decide)
  refine ⟨LST_fr (S := [1, 11]) (A := []) (LST_pq hL hq) (FR_set (FR_set FR.rf (by decide)) (by decide)) (by decide) (by decide) (by decide) (by decide) (by decide) (by decide) (by decide), h', f, ?_, by omega⟩
  refine EXI_mv hE F (mSet_same _ _ _) (by omega) h2 ?_ (by decide) (by decide) (by decide) (by decide) (fun P hB => BNS_fr hB F (by decide) (by decide) (by decide) (by decide))
  rw [F.2 1 (by decide)]; exact hr
theorem move1_ok {l : Int32} {h f h' : Nat} {u v : mS} (hE : EXI u h f) (hq : PQ u v) (hr : ∃ n, RO (u.2 1) n h') (h1 : h < h') (h2 : h' ≤ 2600) (hL : LST l u) : LST l (mSet v 1 (nI h')) ∧ ∃ k f', EXI (mSet v 1 (nI h')) k f' ∧ f' * 3000 + (2600 - k) < f * 3000 + (2600 - h) := by
  have F : FR [1, 9, 10, 11, 12] [19] u (mSet v 1 (nI h')) := FR_set (hq.1.wk (by decide) (by decide)) (by decide)
  refine ⟨LST_fr (S := [1, 11]) (A := []) (LST_pq hL hq) (FR_set FR.rf (by decide)) (by decide) (by decide) (by decide) (by decide) (by decide) (by decide) (by decide), h', f, ?_, by omega⟩
  refine EXI_mv hE F (mSet_same _ _ _) (by omega) h2 ?_ (by decide) (by decide) (by decide) (by decide) (fun P hB => BNS_fr hB F (by decide) (by decide) (by decide) (by decide))
  rw [F.2 1 (by decide)]; exact hr
theorem form_ok {l x : Int32} {h f m N n : Nat} {u : mS} {post : mS → Prop} (hE : EXI u h f) (hL : LST l u) (hT : TH (u.2 1) h m N n) (h3 : kd (u.2 1 (h + 1)) = 3) (he : u.1 12 = 0) (hp : HP l h f post) : wp_X9_form x u post := by
  have e1 := hE.1
  have hh := hT.2.1
  have m2 := (TL_open hT.1.1 hT.1.2.1).1
  have f41 : ∀ t : Nat, t < 2 ^ 31 → 0 < t → wj_X9_form_41 post x (nI t) (nI h) u := by
    intro t ht t0
    refine isPlain_2 hT.1.2.1 hh ht (fun N' hL' hc hd => ⟨fun _ => ⟨fun _ => ?_, fun _ => ?_⟩, fun q => absurd q (by decide)⟩) (fun _ => ⟨fun q => absurd rfl q, fun _ => failsHP hL (by decide) hp⟩)
    · intro y13 q13
      have q13 : y13 = nI h := q13.trans e1
      subst q13
      refine end_2 hT.1.2.1 hh ?_
      intro y16 q16
      have q16 : y16 = nI h := q16.trans e1
      subst q16
      refine mL3_in (fun x2 x3 z => x2 = nI (h + m) ∧ (∃ k, x3 = nI k ∧ k ≤ h + m) ∧ PQ u z) (fun _ x3 _ => h + m - x3.toNatClampNeg) ?_ _ _ _ ⟨rfl, ⟨h, rfl, by omega⟩, PQ.rf hL.2.2.1⟩
      rintro K x2 x3 z ⟨rfl, ⟨k, rfl, hk⟩, pz⟩ ih
      have fin : wj_X9_form_148 post (nI (h + m)) z := by
        rintro _ rfl
        obtain ⟨a1, a2⟩ := move1_ok (h' := h + m) hE pz ⟨n, hT.2.2.2.2.2⟩ (by omega) hh hL
        exact hp _ a1 (fun _ => a2)
      refine ⟨fun _ => fin, fun q => ?_⟩
      rw [nI_leI (by omega) (by omega)] at q
      rintro _ rfl
      refine ⟨fun _ => fin, fun _ => putToken_ok (by omega) pz.2 (fun v hv => ?_)⟩
      rintro _ rfl
      rw [nI_1]
      refine ih _ _ _ ⟨rfl, ⟨k + 1, rfl, by omega⟩, pz.tr hv⟩ ?_
      rw [nI_clamp (by omega), nI_clamp (by omega)]; omega
    · refine putOpen_ok hL.2.2.1 (fun v1 p1 => space_ok p1.2 (fun v2 p2 => ?_))
      have p12 := p1.tr p2
      intro y21 q21
      have q21 : y21 = nI h := q21.trans ((p12.1.1 1 (by decide)).trans e1)
      subst q21
      rintro _ rfl
      rw [nI_1]
      refine what_2 (by omega) (fun r => putName_ok p2.2 (fun v3 p3 => ?_))
      have p13 := p12.tr p3
      rintro _ rfl _ rfl _ rfl y30 q30
      have q30 : y30 = nI h := q30.trans ((mSet_other (by decide : (1 : Nat) ≠ 11)).trans ((p13.1.1 1 (by decide)).trans e1))
      subst q30
      rintro _ rfl _ rfl
      rw [show (2 : Int32) = nI 2 from rfl, nI_add]
      have hN' := LI3 hL' hc hd
      have hNN := (LI_uniq hT.1 hL').2
      have i1 := it1_name hT.1 (by omega) h3
      have b1 := LI_at hT.1 (k := 1) (by omega)
      have rr := RO_itemsS hT (k := 1) (by omega)
      rw [i1] at rr b1
      obtain ⟨a1, a2⟩ := move_ok (h' := h + 2) (x := v3.1 11 + 1) hE p13 rr (by omega) (by omega) hL
      exact hp _ a1 (fun _ => a2)
  refine ⟨fun _ => ⟨fun _ => ?_, fun _ => local_ok hE hL hT h3 he hp⟩, fun _ => function_ok hE hL hT h3 he hp⟩
  intro y3 q3
  have q3 : y3 = nI h := q3.trans e1
  subst q3
  exact ⟨fun _ => f41 2 (by omega) (by omega), fun _ => f41 4 (by omega) (by omega)⟩
theorem list_ok {l : Int32} {h f : Nat} {u : mS} {post : mS → Prop} (hE : EXI u h f) (hL : LST l u) (hh : h < 2600) (hk : kd (u.2 1 h) = 1) (he : u.1 12 = 0) (hp : HP l h f post) : wp_X9_list u post := by
  have e1 := hE.1
  obtain ⟨n0, hr⟩ := hE.2.2.2.2.1
  obtain ⟨m, N, n, hT⟩ := RO_list hr hh hk
  have hl := hT.2.1
  have m2 := (TL_open hT.1.1 hT.1.2.1).1
  obtain ⟨ke, k6, k7, k8, k9⟩ := hE.2.2.2.2.2
  obtain ⟨nb, n1, n2, n3⟩ := id k9
  have e15 := hE.2.2.1
  have f8 := hE.2.2.2.1
  have l150 : wj_X9_list_150 post u := by
    refine putOpen_ok hL.2.2.1 (fun v p => ?_)
    rintro _ rfl _ rfl _ rfl y42 q42
    have q42 : y42 = nI h := q42.trans ((mSet_other (by decide : (1 : Nat) ≠ 11)).trans ((p.1.1 1 (by decide)).trans e1))
    subst q42
    rintro _ rfl _ rfl
    rw [nI_1]
    obtain ⟨a1, a2⟩ := move_ok (h' := h + 1) (x := v.1 11 + 1) hE p (RO_itemsS hT (k := 0) (by omega)) (by omega) (by omega) hL
    exact hp _ a1 (fun _ => a2)
  rintro _ rfl
  refine ⟨fun _ => ?_, fun _ => failsHP hL (by decide) hp⟩
  intro y3 q3
  have q3 : y3 = nI h := q3.trans e1
  subst q3
  rintro _ rfl
  rw [nI_1]
  refine kind_2 (by omega) ⟨fun _ => ⟨fun k3 => ?_, fun k3 => ?_⟩, fun _ => failsHP hL (by decide) hp⟩
  · refine ⟨fun _ => ⟨fun _ => ⟨fun _ => l150, fun q => absurd q k3⟩, fun q => absurd q k3⟩, fun q => absurd (Int32.le_refl _) q⟩
  · intro y9 q9
    have q9 : y9 = nI h := q9.trans e1
    subst q9
    rintro _ rfl
    rw [nI_1]
    refine what_2 (by omega) (fun r => ?_)
    intro y13 q13
    have q13 : y13 = nI h := q13.trans e1
    subst q13
    rintro _ rfl
    rw [nI_1]
    refine ⟨vp_in_nI (by omega) (by omega), ?_⟩
    rintro _ rfl
    refine means_ok n1 n2 (fun k hk => ⟨fun _ => ⟨fun q => absurd k3 q, fun _ => ⟨vp_in_nI (by omega) (by omega), ?_⟩⟩, fun q => absurd (nI_pos' (by omega)) q⟩) ⟨fun q => absurd q (by decide), fun _ => ⟨fun q => absurd rfl q, fun _ => failsHP hL (by decide) hp⟩⟩ ⟨fun q => absurd q (by decide), fun _ => ⟨fun _ => failsHP hL (by decide) hp, fun q => absurd q (by decide)⟩⟩
    rintro _ rfl
    refine ⟨fun _ => ⟨fun q => absurd k3 q, fun _ => ⟨vp_in_nI (by omega) (by omega), ?_⟩⟩, fun _ => ⟨vp_in_nI (by omega) (by omega), ?_⟩⟩
    · rintro _ rfl
      refine ⟨fun _ => l150, fun hm3 => ?_⟩
      rw [nI_clamp (by omega)] at hm3
      obtain ⟨a, b, q1, q2, q3, q4⟩ := n3 k hk hm3
      refine use_ok (by omega) q1 q2 q4 e1 hT.1.2.1 hl hT.2.2.1 (by omega) hT.2.2.2.1 hT.2.2.2.2.1 hL.2.1 he e15 f8 (fun v vF vR ve => ?_) (fun v c f' vF vR ve hf v15 v1 c0 c3 vT vtok vdt vhigh => ?_)
      · refine hp v ?_ (fun q => absurd q ve)
        obtain ⟨c0, c1, ⟨s, c2, c3⟩, c4⟩ := hL
        exact ⟨(vF.1 0 (by decide)).trans c0, vR, ⟨s, (vF.1 9 (by decide)).trans c2, c3⟩, OWN_keep c4 vF (by decide) (by decide) (fun j hj => by rw [vF.2 3 (by decide), vF.2 4 (by decide)]; exact ⟨rfl, rfl⟩)⟩
      · refine hp v ?_ (fun _ => ⟨h + m - c, f', ?_, by omega⟩)
        · obtain ⟨c0, c1, ⟨s, c2, c3⟩, c4⟩ := hL
          exact ⟨(vF.1 0 (by decide)).trans c0, vR, ⟨s, (vF.1 9 (by decide)).trans c2, c3⟩, OWN_keep c4 vF (by decide) (by decide) (fun j hj => by rw [vF.2 3 (by decide), vF.2 4 (by decide)]; exact ⟨rfl, rfl⟩)⟩
        · refine ⟨v1, by omega, v15, by omega, ⟨n + 1, ?_⟩, ke, (vF.1 2 (by decide)).trans k6, k7, by omega, ?_⟩
          · have rest : RO (v.2 1) n (h + m) := RO_congr _ _ hT.2.2.2.2.2 vhigh
            refine ⟨by omega, ?_⟩
            have ec : h + m - c + c = h + m := by omega
            by_cases y2 : kd (v.2 1 (h + m - c)) = 2
            · have := TL_uniq vT (TL_atom (by rw [y2]; decide))
              subst this
              refine Or.inl ⟨Or.inl y2, ?_⟩
              rw [show h + m - 1 + 1 = h + m from by omega]; exact rest
            · refine Or.inr ⟨c, y2, vT, by omega, by omega, fun j j1 j2 => vtok j j1 (by omega), ?_, ?_⟩
              · rw [ec]; exact vdt
              · rw [ec]; exact rest
          · rw [vF.2 3 (by decide), vF.2 4 (by decide)]
            exact BNS_fr k9 vF (by decide) (by decide) (by decide) (by decide)
    · rintro _ rfl
      exact form_ok hE hL hT k3 he hp
theorem step_ok2 {l : Int32} {h f : Nat} {u : mS} {post : mS → Prop} (hE : EXI u h f) (hL : LST l u) (hh : h < 2600) (hp : HP l h f post) : wp_X9_step u post := by
  have e1 := hE.1
  have j47 : ∀ v, PQ u v → wj_X9_step_47 post (kd (u.2 1 h)) v := by
    intro v pv
    have vE : EXI v h f := EXI_mv hE pv.1 ((pv.1.1 1 (by decide)).trans e1) (Nat.le_refl h) (by omega) (by rw [pv.1.2 1 (by decide)]; exact hE.2.2.2.2.1) (by decide) (by decide) (by decide) (by decide) (fun P hB => BNS_fr hB pv.1 (by decide) (by decide) (by decide) (by decide))
    have vL := LST_pq hL pv
    have v1 := vE.1
    have r1 : v.2 1 = u.2 1 := pv.1.2 1 (by decide)
    have atom : ¬ kd (u.2 1 h) = 1 → ∃ n, RO (v.2 1) n (h + 1) := by
      intro hk
      obtain ⟨n, hr⟩ := vE.2.2.2.2.1
      cases n with
      | zero => exact absurd hr (by show ¬ h = 2600; omega)
      | succ n => exact ⟨n, RO_atom hr (by rw [r1]; exact hk)⟩
    have s125 : ¬ kd (u.2 1 h) = 1 → ∀ w, PQ v w → wj_X9_step_125 post w := by
      intro hk w pw
      rintro _ rfl _ rfl _ rfl y37 q37
      have q37 : y37 = nI h := q37.trans ((mSet_other (by decide : (1 : Nat) ≠ 11)).trans ((pw.1.1 1 (by decide)).trans v1))
      subst q37
      rintro _ rfl _ rfl
      rw [nI_1]
      obtain ⟨a1, a2⟩ := move_ok (h' := h + 1) (x := w.1 11 - 1) vE pw (atom hk) (by omega) (by omega) vL
      exact hp _ a1 (fun _ => a2)
    have s116 : ¬ kd (u.2 1 h) = 1 → wj_X9_step_116 post (kd (u.2 1 h)) v := fun hk => ⟨fun _ => s125 hk v (PQ.rf vL.2.2.1), fun _ => putClose_ok vL.2.2.1 (fun w pw => s125 hk w pw)⟩
    rintro _ rfl
    refine ⟨fun ve => ⟨fun k1 => ⟨fun k3 => ⟨fun k4 => ⟨fun k2 => s116 k1, fun k2 => ⟨fun _ => failsHP vL (by decide) hp, fun _ => s116 k1⟩⟩, fun k4 => ?_⟩, fun k3 => word_ok vE vL hh (by rw [r1]; exact k1) hp⟩, fun k1 => list_ok vE vL hh (by rw [r1]; exact k1) ve hp⟩, fun ve => hp v vL (fun q => absurd q ve)⟩
    intro y21 q21
    have q21 : y21 = nI h := q21.trans v1
    subst q21
    refine putToken_ok hh vL.2.2.1 (fun w pw => ?_)
    intro y24 q24
    have q24 : y24 = nI h := q24.trans ((pw.1.1 1 (by decide)).trans v1)
    subst q24
    rintro _ rfl _ rfl
    rw [nI_1]
    obtain ⟨a1, a2⟩ := move1_ok (h' := h + 1) vE pw (atom k1) (by omega) (by omega) vL
    exact hp _ a1 (fun _ => a2)
  have j0 := j47 u (PQ.rf hL.2.2.1)
  intro y1 q1
  have q1 : y1 = nI h := q1.trans e1
  subst q1
  refine kind_2 hh ?_
  rintro _ rfl
  refine ⟨fun _ => j0, fun _ => ⟨fun _ => j0, fun _ => ⟨fun _ => j0, fun _ => ⟨fun _ => j0, fun _ => put_ok hL.2.2.1 (fun v pv => ?_)⟩⟩⟩⟩
  rintro _ rfl
  exact j47 _ pv.set
