-- 96g: the form ls
theorem FR_set2 {S A : List Nat} {u w : mS} {k : Nat} {x : Int32} (h : FR S A u w) : FR S A (mSet u k x) (mSet w k x) := by
  refine ⟨fun j hj => ?_, fun j hj => h.2 j hj⟩
  by_cases q : j = k
  · subst q; rw [mSet_same, mSet_same]
  · rw [mSet_other q, mSet_other q]; exact h.1 j hj
/-- both sides fail at once, kept tokens apart -/
theorem failY {v u g u' w : mS} {p m N h st c f ar : Nat} {post : mS → Prop} (hC : CTX u g p m N h st c f ar) (uF : FR [7] [4] u u') (u4 : ∀ x, (x < p ∨ p + m ≤ x) → u'.2 4 x = u.2 4 x) (wF : FR [12] [3, 4] g w) (wk : ∀ j, j < keM g → w.2 3 j = g.2 3 j ∧ w.2 4 j = g.2 4 j) (ue : ¬ u'.1 7 = 0) (we : ¬ w.1 12 = 0) (go : MGo v w ∧ MIN w) (fin : ∀ u' v', MGo v v' → RES u g u' v' p m h st c f → post u') : post u' := by
  obtain ⟨⟨hR, -⟩, -⟩ := hC
  obtain ⟨t1, t2, t3, t4⟩ := REL_top hR
  obtain ⟨c1, c2, c3, c4⟩ := REL_CN hR
  refine fin u' w go.1 (RES_bad ⟨fun x hx => ⟨by rw [uF.2 1 (by decide)], by rw [uF.2 3 (by decide)], fun z => ⟨by rw [uF.2 2 (by decide)], u4 x z⟩⟩, ⟨st, (uF.1 1 (by decide)).trans t1, Nat.le_refl _, by omega⟩, ⟨Nat.le_of_eq (nbA_fr uF (by decide)).symm, fun i _ => by rw [uF.2 5 (by decide), uF.2 6 (by decide), uF.2 7 (by decide), uF.2 8 (by decide)]; exact ⟨rfl, rfl, rfl, rfl⟩⟩, ⟨Nat.le_of_eq (by unfold keM; rw [wF.1 2 (by decide)]), wk⟩, wF.2 6 (by decide), uF.1 5 (by decide)⟩ go.2 ue we ⟨?_, ?_, ?_, ?_⟩)
  · rw [uF.1 8 (by decide), wF.1 13 (by decide)]; exact c1
  · rw [uF.1 10 (by decide), wF.1 14 (by decide)]; exact c2
  · rw [uF.1 11 (by decide), wF.1 15 (by decide)]; exact c3
  · rw [uF.1 9 (by decide), wF.1 4 (by decide), wF.1 5 (by decide)]; exact c4
theorem lsX {X : Int32 → Int32 → mS → (mS → Prop) → Prop} {d : Nat} {v u g : mS} {p m N h st c f ar : Nat} {post : mS → Prop} (hX : XOK X d) (hC : CTX u g p m N h st c f ar) (hd : 12 + f ≤ d + (ar + 1)) (har : ar ≤ 9) (k3 : kd (g.2 1 (h + 1)) = 3) (hm3 : 3 ≤ m) (go : ∀ w, (∀ Q : mS → Prop, Q w → wp_X9_form 3 g Q) → MGo v w ∧ MIN w) (fin : ∀ u' v', MGo v v' → RES u g u' v' p m h st c f → post u') : wp_X0_expandLs X (nI p) (nI ar) u post := by
  have hTX := CTX_tx hC
  have hdn := CTX_dn hC
  have hC' := hC
  obtain ⟨aLI, ait⟩ := CTX_li hC
  obtain ⟨⟨hR, hE, hL, he, h11, -, ⟨⟨a2, b2, A1, A2, A3, A4, A5⟩, h26, hT, n2, hl⟩, hDJ⟩, u7, g10, hLI⟩ := hC
  obtain ⟨t1, t2, t3, t4⟩ := REL_top hR
  obtain ⟨nv, nb, b0, ke, q1, q2, q3, q4, r1, r2, r3, r4, r5, r6, r7, r8, r9, r10, r11, r12, r13, r14, r15⟩ := id hR
  have hnb : nbA u = nb := nbA_of r7 (by omega)
  have hke : keM g = ke := keM_of r13 r14
  have h1 := hE.1
  obtain ⟨-, -, -, f8, ⟨ro, hro⟩, ke', e6, e7, e8, -⟩ := hE
  have ek : ke' = ke := by rw [r13, nI_eq (by omega) (by omega)] at e6; exact e6.symm
  subst ek
  obtain ⟨o1, o2, o3, -⟩ := RO_tree hro hT h26 n2 (by rw [hLI.1]; decide)
  have m2 := (TL_open hLI.1 hLI.2.1)
  have hb2 := AR_b A1
  have NN : N < 2 ^ 20 := by
    have := (LI_at hLI (Nat.le_refl N)).1
    have := (LI_at hLI (Nat.le_refl N)).2.1
    omega
  have f75 : ∀ Q : mS → Prop, wp_X9_fails 3 g Q → wj_X9_local_75 Q (nI (h + m)) (nI (h + 2)) g := by
    intro Q q
    refine ⟨fun _ => ?_, fun z => absurd rfl z⟩
    intro y23 e23
    exact ⟨fun _ => ⟨fun _ => q, fun z => absurd rfl z⟩, fun z => absurd rfl z⟩
  have begM : ∀ Q : mS → Prop, wp_X9_isPlain_2 (nI h) (nI 3) g (fun r7 u8 => ((r7 = 0) → wj_X9_local_75 Q (nI (h + m)) (nI (h + 2)) u8) ∧ ((¬ r7 = 0) → wp_X9_kind_2 (nI (h + 2)) u8 (fun r10 u11 => ((¬ r10 = (1 : Int32)) → wj_X9_local_75 Q (nI (h + m)) (nI (h + 2)) u11) ∧ ((r10 = (1 : Int32)) → ∀ y13 : Int32, y13 = (nI (h + 2) + (1 : Int32)) → wp_X9_kind_2 y13 u11 (fun r14 u15 => ((¬ r14 = (3 : Int32)) → wj_X9_local_75 Q (nI (h + m)) (nI (h + 2)) u15) ∧ ((r14 = (3 : Int32)) → wp_X9_dots_2 (nI (h + 2)) u15 (fun r17 u18 => ((¬ r17 = 0) → wj_X9_local_75 Q (nI (h + m)) (nI (h + 2)) u18) ∧ ((r17 = 0) → wj_X9_local_76 Q (nI (h + m)) (nI (h + 2)) (1 : Int32) u18)))))))) → wp_X9_form 3 g Q := by
    intro Q q
    refine ⟨fun _ => ⟨fun z => absurd rfl z, fun _ => ?_⟩, fun z => absurd z (by decide)⟩
    intro y1 e1
    rw [h1] at e1; subst e1
    refine end_2 hLI.2.1 h26 ?_
    intro y4 e4
    rw [h1] at e4; subst e4
    rintro _ rfl y6 e6
    rw [h1] at e6; subst e6
    rw [show (2 : Int32) = nI 2 from rfl, nI_add]
    exact q
  obtain ⟨yb, ybF, ybe, ybg⟩ := failM (c := 3) (v := g) (by decide)
  have bad0 : (¬ dn (g.2 1) h N = 0 ∨ ¬ N = 3) → wj_X0_expandLs_37 X post u := by
    intro hb
    exact failA (by decide) (fun u' uF ue => failX hC' uF ybF (by decide) (by decide) (by decide) (by decide) ue ybe (go yb (fun Q q => begM Q (isPlainM hLI h26 (by decide) (fun q1 q2 => by rcases hb with z | z; exact absurd q1 z; exact absurd q2 z) (fun _ => ⟨fun _ => f75 Q (ybg Q q), fun z => absurd rfl z⟩)))) fin)
  rintro _ rfl
  rw [show (2 : Int32) = nI 2 from rfl, nI_add]
  refine after_ok A1 (by omega) (by omega) ?_
  refine plainX A1 A3 (by omega) aLI (fun q => ⟨fun q4 => bad0 (Or.inr (fun z => q4 (by rw [z]; rfl))), fun q4 => ?_⟩) (fun q => ⟨fun _ => bad0 (Or.inl (by rw [← hdn]; exact q)), fun q4 => absurd q4 (by decide)⟩)
  rw [show (3 : Int32) = nI 3 from rfl, nI_eq (by omega) (by omega)] at q4
  subst q4
  rw [hdn] at q
  have hdn0 := q
  have i1 : it (g.2 1) h 1 = h + 2 := it1_name hLI (by omega) k3
  obtain ⟨c2a, cTa⟩ := hLI.2.2.1 1 (by omega)
  obtain ⟨c2b, cTb⟩ := hLI.2.2.1 2 (by omega)
  have i2 : it (g.2 1) h 2 = h + 2 + tl (g.2 1) (h + 2) := by
    show it (g.2 1) h 1 + tl (g.2 1) (it (g.2 1) h 1) = _
    rw [i1]
  have i3 : it (g.2 1) h 3 = it (g.2 1) h 2 + tl (g.2 1) (it (g.2 1) h 2) := rfl
  have eN := hLI.2.2.2
  rw [i3, i2] at eN
  rw [i2] at c2b cTb
  rw [i1] at c2a cTa
  obtain ⟨n1, en1⟩ : ∃ x, x = tl (g.2 1) (h + 2) := ⟨_, rfl⟩
  rw [← en1] at cTa cTb c2b eN
  obtain ⟨nn2, en2⟩ : ∃ x, x = tl (g.2 1) (h + 2 + n1) := ⟨_, rfl⟩
  rw [← en2] at cTb eN
  have n10 := cTa.1
  have n20 := cTb.1
  have toA : ∀ j, j < m → ra u (p + j) = g.2 1 (h + j) := fun j hj => (hl j hj).1
  have aT1 : TL (ra u) (p + 2) n1 := TL_copy (r := g.2 1) (i := h + 2) (fun j hj => by rw [show p + 2 + j = p + (2 + j) from by omega, toA _ (by omega), show h + (2 + j) = h + 2 + j from by omega]) cTa
  have aT2 : TL (ra u) (p + 2 + n1) nn2 := TL_copy (r := g.2 1) (i := h + 2 + n1) (fun j hj => by rw [show p + 2 + n1 + j = p + (2 + n1 + j) from by omega, toA _ (by omega), show h + (2 + n1 + j) = h + 2 + n1 + j from by omega]) cTb
  have at1 : tl (ra u) (p + 2) = n1 := tl_eq aT1
  have at2 : tl (ra u) (p + 2 + n1) = nn2 := tl_eq aT2
  have sh1 : ∀ j, j < n1 → ra u (p + 2 + j) = g.2 1 (h + 2 + j) ∧ u.2 2 (p + 2 + j) = g.2 2 (h + 2 + j) := by
    intro j hj
    have := hl (2 + j) (by omega)
    rw [show p + (2 + j) = p + 2 + j from by omega, show h + (2 + j) = h + 2 + j from by omega] at this
    exact ⟨this.1, this.2.1⟩
  have nwrM : NWR (ra u) (u.2 2) (p + 2) → NWR (g.2 1) (g.2 2) (h + 2) := NWR_sh (r := ra u) (s := u.2 2) (q := g.2 1) (t := g.2 2) (a := p + 2) (c := h + 2) (n := n1) (fun j hj => ⟨(sh1 j hj).1.symm, (sh1 j hj).2.symm⟩) aT1 (by omega) (by omega)
  have nwrA : NWR (g.2 1) (g.2 2) (h + 2) → NWR (ra u) (u.2 2) (p + 2) := NWR_sh (r := g.2 1) (s := g.2 2) (q := ra u) (t := u.2 2) (a := h + 2) (c := p + 2) (n := n1) sh1 cTa (by omega) (by omega)
  -- a list that begins with a name, without ..: the reference keeps what is behind the name
  have keepM : ∀ N1, LI (g.2 1) (h + 2) n1 N1 → 0 < N1 → kd (g.2 1 (h + 3)) = 3 → ∃ gk, KP g gk (h + 4) ke' (n1 - 3) ∧ 3 ≤ n1 ∧ SQ (g.2 1) (h + 4) (h + 4 + (n1 - 3)) (N1 - 1) ∧ SQ (gk.2 3) ke' (ke' + (n1 - 3)) (N1 - 1) ∧ (dn (g.2 1) (h + 2) N1 = 0 → ∀ Q : mS → Prop, wj_X9_local_123 Q (nI (h + m)) (nI (h + 2)) 1 (nI (h + 2 + n1)) (nI ke') (nI (ke' + (n1 - 3))) gk → wp_X9_form 3 g Q) := by
    intro N1 hL1 hN1 hk3
    have i11 : it (g.2 1) (h + 2) 1 = h + 4 := it1_name hL1 hN1 hk3
    have l1 := (LI_at hL1 (k := 1) (by omega)).2.1
    have l2 := (LI_mono hL1 (j := 1) (k := N1) (by omega) (Nat.le_refl _))
    have e9 := hL1.2.2.2
    have hSQ := SQ_of_LI hL1 hN1
    rw [i11, show h + 2 + (n1 - 1) = h + 4 + (n1 - 3) from by omega] at hSQ
    have mid : wp_X9_keep (nI (h + 4)) (nI (h + 2 + n1 - 1)) (nI ke') g (fun r w => r = nI (ke' + (n1 - 3)) ∧ KP g w (h + 4) ke' (n1 - 3)) := by
      refine keep_ok (by omega) (by omega) (by omega) (fun w hw => ?_)
      rw [show h + 2 + n1 - 1 - (h + 4) = n1 - 3 from by omega] at hw ⊢
      exact ⟨rfl, hw⟩
    refine d_wp_X9_keep mid (fun r gk hgk reb => ?_)
    obtain ⟨rfl, hKP⟩ := hgk
    refine ⟨gk, hKP, by omega, hSQ, (sh_SQ (L := n1 - 3) hKP.2.1 hSQ).1, fun hd1 Q q => ?_⟩
    refine begM Q (isPlainM hLI h26 (by decide) (fun _ _ => ⟨fun z => absurd z (by decide), fun _ => kind_2 (by omega) ⟨fun z => absurd hL1.1 z, fun _ => ?_⟩⟩) (fun z => by rcases z with z | z; exact absurd hdn0 z; exact absurd rfl z))
    rintro _ rfl
    rw [nI_1]
    refine kind_2 (by omega) ⟨fun z => absurd hk3 z, fun _ => dots_2 hL1 (by omega) ⟨fun z => absurd (by rw [hd1]; rfl) z, fun _ => ?_⟩⟩
    refine ⟨fun z => absurd z (by decide), fun _ => end_2 cTa (by omega) ?_⟩
    intro y23 e23
    rw [r13] at e23; subst e23
    refine ⟨fun z => absurd z (by decide), fun _ => ?_⟩
    rintro _ rfl _ rfl
    rw [show (2 : Int32) = nI 2 from rfl, nI_add, show (1 : Int32) = nI 1 from rfl, pk_sub (by omega)]
    exact reb _ q
  have noRules : ¬ NWR (g.2 1) (g.2 2) (h + 2) → ∃ w, FR [12] [3, 4] g w ∧ (∀ j, j < keM g → w.2 3 j = g.2 3 j ∧ w.2 4 j = g.2 4 j) ∧ ¬ w.1 12 = 0 ∧ ∀ Q : mS → Prop, Q w → wp_X9_form 3 g Q := by
    intro hno
    have easy : (∀ Q : mS → Prop, wj_X9_local_75 Q (nI (h + m)) (nI (h + 2)) g → wp_X9_form 3 g Q) → ∃ w, FR [12] [3, 4] g w ∧ (∀ j, j < keM g → w.2 3 j = g.2 3 j ∧ w.2 4 j = g.2 4 j) ∧ ¬ w.1 12 = 0 ∧ ∀ Q : mS → Prop, Q w → wp_X9_form 3 g Q := fun hh => ⟨yb, ybF.wk (by decide) (by decide), fun j _ => by rw [ybF.2 3 (by decide), ybF.2 4 (by decide)]; exact ⟨rfl, rfl⟩, ybe, fun Q q => hh Q (f75 Q (ybg Q q))⟩
    have plain3 : ∀ Q : mS → Prop, wp_X9_kind_2 (nI (h + 2)) g (fun r10 u11 => ((¬ r10 = (1 : Int32)) → wj_X9_local_75 Q (nI (h + m)) (nI (h + 2)) u11) ∧ ((r10 = (1 : Int32)) → ∀ y13 : Int32, y13 = (nI (h + 2) + (1 : Int32)) → wp_X9_kind_2 y13 u11 (fun r14 u15 => ((¬ r14 = (3 : Int32)) → wj_X9_local_75 Q (nI (h + m)) (nI (h + 2)) u15) ∧ ((r14 = (3 : Int32)) → wp_X9_dots_2 (nI (h + 2)) u15 (fun r17 u18 => ((¬ r17 = 0) → wj_X9_local_75 Q (nI (h + m)) (nI (h + 2)) u18) ∧ ((r17 = 0) → wj_X9_local_76 Q (nI (h + m)) (nI (h + 2)) (1 : Int32) u18)))))) → wp_X9_form 3 g Q := fun Q q => begM Q (isPlainM hLI h26 (by decide) (fun _ _ => ⟨fun z => absurd z (by decide), fun _ => q⟩) (fun z => by rcases z with z | z; exact absurd hdn0 z; exact absurd rfl z))
    by_cases k1 : kd (g.2 1 (h + 2)) = 1
    · obtain ⟨N1, hL1⟩ := LI_ex k1 cTa
      by_cases hk3 : kd (g.2 1 (h + 3)) = 3
      · have hN1 : 0 < N1 := by
          rcases Nat.eq_zero_or_pos N1 with z | z
          · subst z
            have e9 : h + 2 + 1 = h + 2 + (n1 - 1) := hL1.2.2.2
            have := (TL_open k1 cTa).2.2
            rw [← e9, show h + 2 + 1 = h + 3 from by omega, hk3] at this
            exact absurd this (by decide)
          · exact z
        by_cases hd1 : dn (g.2 1) (h + 2) N1 = 0
        · obtain ⟨gk, hKP, n13, hSQ, hSQk, toK⟩ := keepM N1 hL1 hN1 hk3
          have hnoR : ¬ (∀ k, k < N1 - 1 → RUL (gk.2 3) (gk.2 4) (nx (gk.2 3) ke' k)) := by
            intro all
            refine hno ⟨n1, N1, hL1, hd1, hN1, hk3, fun k k0 kN => ?_⟩
            have := RUL_cp (r := gk.2 3) (s := gk.2 4) (q := g.2 1) (t := g.2 2) (a := ke') (c := h + 4) (L := n1 - 3) (fun j hj => ⟨(hKP.2.1 j hj).1.symm, (hKP.2.1 j hj).2.symm⟩) hSQk (by omega) (by omega) all (k - 1) (by omega)
            have i11 : it (g.2 1) (h + 2) 1 = h + 4 := it1_name hL1 hN1 hk3
            rw [← i11, it_nx, show k - 1 + 1 = k from by omega] at this
            exact this
          obtain ⟨w, wF, we, wg⟩ := failM (c := 3) (v := gk) (by decide)
          refine ⟨w, (hKP.1.wk (by decide) (by decide)).tr (wF.wk (by decide) (by decide)), fun j hj => ?_, we, fun Q q => toK hd1 Q ⟨fun z => absurd z (by decide), fun _ => areRules_ok hSQk (by omega) (fun all => absurd all hnoR) (fun _ => ⟨fun z => absurd rfl z, fun _ => wg Q q⟩)⟩⟩
          rw [wF.2 3 (by decide), wF.2 4 (by decide)]
          exact hKP.2.2 j (Or.inl (by omega))
        · refine easy (fun Q q => plain3 Q (kind_2 (by omega) ⟨fun z => absurd k1 z, fun _ => ?_⟩))
          rintro _ rfl
          rw [nI_1]
          refine kind_2 (by omega) ⟨fun z => absurd hk3 z, fun _ => dots_2 hL1 (by omega) ⟨fun _ => q, fun z => absurd z ?_⟩⟩
          intro z2
          have := (LI_at hL1 (Nat.le_refl N1)).2.1
          have := (LI_at hL1 (Nat.le_refl N1)).1
          have cd := cn_dn (g.2 1) (h + 2) N1
          rw [show (0 : Int32) = nI 0 from rfl, nI_eq (by omega) (by omega)] at z2
          exact hd1 z2
      · refine easy (fun Q q => plain3 Q (kind_2 (by omega) ⟨fun z => absurd k1 z, fun _ => ?_⟩))
        rintro _ rfl
        rw [nI_1]
        exact kind_2 (by omega) ⟨fun _ => q, fun z => absurd z hk3⟩
    · exact easy (fun Q q => plain3 Q (kind_2 (by omega) ⟨fun _ => q, fun z => absurd z k1⟩))
  rw [at1]
  refine isNWRB A1 A2 (by omega) (by omega) (fun hN ul ulF ul4 ulK => ⟨fun _ => ?_, fun z => absurd z (by decide)⟩) (fun hN ul ulF ul4 => ⟨fun z => absurd rfl z, fun _ => failA (by decide) (fun u' uF ue => ?_)⟩)
  · rw [at1] at ul4
    have hNM' := nwrM hN
    obtain ⟨n1', N1, hL1, hd1, hN1, hk3, hRU⟩ := hNM'
    have en' : n1' = n1 := TL_uniq hL1.2.1 cTa
    subst en'
    obtain ⟨gk, hKP, n13, hSQ, hSQk, toK⟩ := keepM N1 hL1 hN1 hk3
    have i11 : it (g.2 1) (h + 2) 1 = h + 4 := it1_name hL1 hN1 hk3
    have hRk : ∀ k, k < N1 - 1 → RUL (gk.2 3) (gk.2 4) (nx (gk.2 3) ke' k) := by
      refine RUL_cp (r := g.2 1) (s := g.2 2) (a := h + 4) (L := n1' - 3) (fun j hj => hKP.2.1 j hj) hSQ (by omega) (by omega) (fun k hk => ?_)
      rw [← i11, it_nx]
      exact hRU (k + 1) (by omega) (by omega)
    have gkF : FR [] [3, 4] g gk := hKP.1
    have gke : gk.1 12 = 0 := (gkF.1 12 (by decide)).trans he
    have scM : ∀ Q : mS → Prop, wp_X9_scope gk (fun r33 u34 => ∀ y35 : Int32, y35 = (u34.1 12) → ((y35 = 0) → ∀ y37 : Int32, y37 = (nI (h + 2) + (1 : Int32)) → ∀ y38 : Int32, y38 = (nI (h + 2) + (2 : Int32)) → wp_X9_give y37 y38 r33 u34 (fun u40 => wp_X9_give (nI (h + 2 + n1')) (nI (h + m)) r33 u40 (fun u42 => ∀ y43 : Int32, y43 = (nI (h + 2) + (1 : Int32)) → wp_X9_what_2 y43 u42 (fun r44 u45 => ∀ y46 : Int32, y46 = (nI (h + 2) + (1 : Int32)) → vp_in y46 2600 ∧ ∀ y47 : Int32, y47 = u45.2 2 y46.toNatClampNeg → wp_X9_bind r44 y47 (3 : Int32) (nI ke') (nI (ke' + (n1' - 3))) u45 (fun u49 => ∀ u50 : mS, u50 = mSet u49 2 (nI (ke' + (n1' - 3))) → ∀ y51 : Int32, y51 = (nI (h + m) - (1 : Int32)) → vp_in y51 2600 ∧ ∀ u52 : mS, u52 = mPut u50 1 y51.toNatClampNeg (458752 : Int32) → ∀ y53 : Int32, y53 = (u52.1 11) → ∀ y54 : Int32, y54 = (y53 + (1 : Int32)) → ∀ u55 : mS, u55 = mSet u52 11 y54 → ∀ u56 : mS, u56 = mSet u55 1 (nI (h + 2 + n1')) → Q u56))))) ∧ ((¬ y35 = 0) → Q u34)) → wp_X9_form 3 g Q := fun Q q => toK hd1 Q ⟨fun z => absurd z (by decide), fun _ => areRules_ok hSQk (by omega) (fun _ => ⟨fun _ => q, fun z => absurd z (by decide)⟩) (fun z => absurd hRk z)⟩
    have sc30 : c = 30 → ∀ u', FR [7] [] ul u' → ¬ u'.1 7 = 0 → post u' := by
      intro e30 u' uF ue
      have mid : wp_X9_scope gk (fun r w => FR [12] [] gk w ∧ ¬ w.1 12 = 0) := scopeX (c := c) ((gkF.1 13 (by decide)).trans r2) q1 (fun z => by omega) (fun _ w wF we => ⟨wF, we⟩)
      refine d_wp_X9_scope mid (fun r w hw reb => ?_)
      refine failY hC' ((ulF.wk (by decide) (by decide)).tr (uF.wk (by decide) (by decide))) (fun x hx => by rw [uF.2 4 (by decide)]; exact ul4 x (by omega)) ((gkF.wk (by decide) (by decide)).tr (hw.1.wk (by decide) (by decide))) (fun j hj => by rw [hw.1.2 3 (by decide), hw.1.2 4 (by decide)]; exact hKP.2.2 j (Or.inl (by omega))) ue hw.2 (go w (fun Q q => scM Q (reb _ ?_))) fin
      intro y22 e22
      exact ⟨fun z => absurd (e22.symm.trans z) hw.2, fun _ => q⟩
    refine newScopeA (c := c) ((ulF.1 8 (by decide)).trans r1) q1 (fun lt u1 u1F u18 => ⟨fun _ => ?_, fun z => absurd (nI_pos' (by omega)) z⟩) (fun e30 u' uF ue => ⟨fun z => absurd z (by decide), fun _ => sc30 e30 u' uF ue⟩)
    -- the reference: scope, marks
    have mid : wp_X9_scope gk (fun r w => r = nI (2 ^ c) ∧ FR [13] [] gk w ∧ w.1 13 = nI (c + 1)) := scopeX (c := c) ((gkF.1 13 (by decide)).trans r2) q1 (fun _ w wF w13 => ⟨bit_sc lt, wF, w13⟩) (fun z => by omega)
    refine d_wp_X9_scope mid (fun r g1 hg1 rebS => ?_)
    obtain ⟨rfl, g1F, g113⟩ := hg1
    have g1r : g1.2 1 = g.2 1 := (g1F.2 1 (by decide)).trans (gkF.2 1 (by decide))
    have g1s : g1.2 2 = g.2 2 := (g1F.2 2 (by decide)).trans (gkF.2 2 (by decide))
    have mid2 : wp_X9_give (nI (h + 3)) (nI (h + 4)) (nI (2 ^ c)) g1 (fun w => FR [] [2] g1 w ∧ w.2 2 = tnF (fun s x => s ||| x) (g.2 1) (g.2 2) (nI (2 ^ c)) (h + 3) (h + 4)) := giveX (by omega) (by omega) (fun w wF w2 => ⟨wF, by rw [w2, g1r, g1s]⟩)
    refine d_wp_X9_give mid2 (fun g2 hg2 rebG1 => ?_)
    obtain ⟨g2F, g22⟩ := hg2
    have mid3 : wp_X9_give (nI (h + 2 + n1')) (nI (h + m)) (nI (2 ^ c)) g2 (fun w => FR [] [2] g2 w ∧ w.2 2 = tnF (fun s x => s ||| x) (g.2 1) (g2.2 2) (nI (2 ^ c)) (h + 2 + n1') (h + m)) := giveX (by omega) h26 (fun w wF w2 => ⟨wF, by rw [w2, g2F.2 1 (by decide), g1r]⟩)
    refine d_wp_X9_give mid3 (fun gb hgb rebG2 => ?_)
    obtain ⟨gbF1, gb2⟩ := hgb
    have gbkF : FR [13] [2] gk gb := ((g1F.wk (by decide) (by decide)).tr (g2F.wk (by decide) (by decide))).tr (gbF1.wk (by decide) (by decide))
    have gbF : FR [13] [2, 3, 4] g gb := (gkF.wk (by decide) (by decide)).tr (gbkF.wk (by decide) (by decide))
    have gb13 : gb.1 13 = nI (c + 1) := (gbF1.1 13 (by decide)).trans ((g2F.1 13 (by decide)).trans g113)
    have gbm : ∀ x, gb.2 2 x = if x = h + 3 ∨ (h + 2 + n1' ≤ x ∧ x < h + m) then (if kd (g.2 1 x) = 3 then g.2 2 x ||| nI (2 ^ c) else g.2 2 x) else g.2 2 x := by
      intro x
      rw [gb2]
      by_cases z1 : h + 2 + n1' ≤ x ∧ x < h + m
      · rw [if_pos (Or.inr z1), tnF_in z1.1 z1.2, g22, tnF_out (by omega)]
      · rw [tnF_out (by omega), g22]
        by_cases z2 : x = h + 3
        · rw [if_pos (Or.inl z2), tnF_in (by omega) (by omega)]
        · rw [if_neg (by omega), tnF_out (by omega)]
    obtain ⟨zn, -, -⟩ := hl 3 (by omega)
    have hAW3 : AW (u.2 1 (p + 3)) (g.2 1 (h + 3)) := by rw [← zn]; exact (A1.2 (p + 3) (by omega) (by omega)).1
    obtain ⟨x, y, hNM, ewx, ec⟩ := NM_of3 hAW3 hk3
    have hby := NM_bd hNM
    have gbr : gb.2 1 = g.2 1 := gbF.2 1 (by decide)
    have gbe : gb.1 12 = 0 := (gbF.1 12 (by decide)).trans he
    -- the reference's way behind its binding
    have toB : ∀ (gB : mS), (∀ P : mS → Prop, P gB → wp_X9_bind (nI y) (gb.2 2 (h + 3)) 3 (nI ke') (nI (ke' + (n1' - 3))) gb P) → gB.1 11 = nI ar → ∀ Q : mS → Prop, Q (mSet (mSet (mPut (mSet gB 2 (nI (ke' + (n1' - 3)))) 1 (h + m - 1) 458752) 11 (nI (ar + 1))) 1 (nI (h + 2 + n1'))) → wp_X9_form 3 g Q := by
      intro gB hB' gB11 Q hq
      refine scM Q (rebS _ ?_)
      intro y35 e35
      refine ⟨fun _ => ?_, fun z => absurd (e35.trans ((g1F.1 12 (by decide)).trans gke)) z⟩
      rintro _ rfl _ rfl
      rw [nI_1, show (2 : Int32) = nI 2 from rfl, nI_add]
      refine rebG1 _ (rebG2 _ ?_)
      rintro _ rfl
      refine what_2x (by omega) (by rw [gbr]; exact ec) (by decide) (by omega) ?_
      rintro _ rfl
      refine ⟨vp_in_nI (by omega) (by omega), ?_⟩
      rintro _ rfl
      rw [nI_clamp (by omega)]
      refine hB' _ ?_
      rintro _ rfl _ rfl
      rw [show (1 : Int32) = nI 1 from rfl, pk_sub (by omega)]
      refine ⟨vp_in_nI (by omega) (by omega), ?_⟩
      rintro _ rfl
      rw [nI_clamp (by omega)]
      intro y53 e53
      rw [mPut_scal, mSet_other (by decide : (11 : Nat) ≠ 2), gB11] at e53; subst e53
      rintro _ rfl _ rfl
      rw [nI_add]
      rintro _ rfl
      exact hq
    -- the class: marks
    have ur1 : ra u1 = ra u := (ra_fr (u1F.2 1 (by decide))).trans (ra_fr (ulF.2 1 (by decide)))
    have u1uF : FR [8] [4] u u1 := (ulF.wk (by decide) (by decide)).tr (u1F.wk (by decide) (by decide))
    have u1s : u1.2 2 = u.2 2 := u1uF.2 2 (by decide)
    rintro _ rfl
    rw [nI_1]
    have t3n : tl (ra u) (p + 3) = 1 := tl_eq (TL_atom (by rw [zn, hk3]; decide))
    refine turnA (AR_fr A1 (u1uF.1 1 (by decide)) (u1uF.2 1 (by decide)) (u1uF.2 3 (by decide))) (by omega) (by omega) (fun u2 u2F u22 => ?_)
    rw [bit_sc lt, ur1, t3n, u1s] at u22
    have ur2 : ra u2 = ra u := (ra_fr (u2F.2 1 (by decide))).trans ur1
    have u2uF : FR [8] [2, 4] u u2 := (u1uF.wk (by decide) (by decide)).tr (u2F.wk (by decide) (by decide))
    refine turnA (AR_fr A1 (u2uF.1 1 (by decide)) (u2uF.2 1 (by decide)) (u2uF.2 3 (by decide))) (by omega) (by omega) (fun ub ubF1 ub2 => ?_)
    rw [bit_sc lt, ur2, at2] at ub2
    have ubF : FR [8] [2, 4] u ub := u2uF.tr (ubF1.wk (by decide) (by decide))
    have ub8 : ub.1 8 = nI (c + 1) := (ubF1.1 8 (by decide)).trans ((u2F.1 8 (by decide)).trans u18)
    have ubr : ra ub = ra u := ra_fr (ubF.2 1 (by decide))
    have ub4 : ub.2 4 = ul.2 4 := (ubF1.2 4 (by decide)).trans ((u2F.2 4 (by decide)).trans (u1F.2 4 (by decide)))
    have ubm : ∀ x, ub.2 2 x = if x = p + 3 ∨ (p + 2 + n1' ≤ x ∧ x < p + m - 1) then (if kd (ra u x) = 3 then u.2 2 x ^^^ nI (2 ^ c) else u.2 2 x) else u.2 2 x := by
      intro x
      rw [ub2]
      by_cases z1 : p + 2 + n1' ≤ x ∧ x < p + m - 1
      · rw [if_pos (Or.inr z1), tnF_in z1.1 (by omega), u22, tnF_out (by omega)]
      · rw [tnF_out (by omega), u22]
        by_cases z2 : x = p + 3
        · rw [if_pos (Or.inl z2), tnF_in (by omega) (by omega)]
        · rw [if_neg (by omega), tnF_out (by omega)]
    have mk : ∀ j, j < m → ra u (p + j) = g.2 1 (h + j) ∧ ub.2 2 (p + j) = gb.2 2 (h + j) ∧ MB (ub.2 2 (p + j)) (c + 1) := by
      refine two_marks hl (fun j hj => ?_)
      rw [ubm, gbm]
      by_cases z : j = 3 ∨ (2 + n1' ≤ j ∧ j < m - 1)
      · rw [if_pos (show p + j = p + 3 ∨ (p + 2 + n1' ≤ p + j ∧ p + j < p + m - 1) by omega), if_pos (show h + j = h + 3 ∨ (h + 2 + n1' ≤ h + j ∧ h + j < h + m) by omega)]
        exact Or.inr ⟨rfl, rfl⟩
      · by_cases z2 : j = m - 1
        · subst z2
          rw [if_neg (by omega), if_pos (by omega), if_neg (by rw [m2.2.2]; decide)]
          exact Or.inl ⟨rfl, rfl⟩
        · rw [if_neg (by omega), if_neg (by omega)]
          exact Or.inl ⟨rfl, rfl⟩
    have ubA := AR_fr A1 (ubF.1 1 (by decide)) (ubF.2 1 (by decide)) (ubF.2 3 (by decide))
    -- what is left as it was
    have mkF : ∀ (S : List Nat) (u' w : mS), FR S [5, 6, 7, 8] ub u' → (∀ k ∈ [1, 5], k ∉ S) → (nbA u ≤ nbA u' ∧ ∀ i, i < nbA u → u'.2 5 i = u.2 5 i ∧ u'.2 6 i = u.2 6 i ∧ u'.2 7 i = u.2 7 i ∧ u'.2 8 i = u.2 8 i) → w.1 2 = nI (ke' + (n1' - 3)) → w.2 3 = gk.2 3 → w.2 4 = gk.2 4 → w.2 6 = g.2 6 → FRX u g u' w p m st := by
      intro S u' w uF hS htab w2 w3 w4 w6
      refine ⟨fun x hx => ⟨by rw [uF.2 1 (by decide), ubF.2 1 (by decide)], by rw [uF.2 3 (by decide), ubF.2 3 (by decide)], fun z => ⟨?_, ?_⟩⟩, ⟨st, (uF.1 1 (hS 1 (by decide))).trans ((ubF.1 1 (by decide)).trans r11), Nat.le_refl _, by omega⟩, htab, ⟨by rw [hke, keM_of w2 (by omega)]; omega, fun j hj => by rw [w3, w4]; exact hKP.2.2 j (Or.inl (by omega))⟩, w6, (uF.1 5 (hS 5 (by decide))).trans (ubF.1 5 (by decide))⟩
      · rw [uF.2 2 (by decide), ubm, if_neg (by omega)]
      · rw [uF.2 4 (by decide), ub4]; exact ul4 x (by omega)
    have gbk3 : gb.2 3 = gk.2 3 := gbkF.2 3 (by decide)
    have gbk4 : gb.2 4 = gk.2 4 := gbkF.2 4 (by decide)
    have s4 : gb.1 4 = nI nb := (gbF.1 4 (by decide)).trans r8
    have gb11 : gb.1 11 = nI ar := (gbF.1 11 (by decide)).trans h11
    rintro _ rfl
    refine bindA ubA (by omega) ((ubF.1 4 (by decide)).trans r7) q3 (fun nlt uB uBF uB4 uB9 uB5 uB6 uB7 uB8 => ⟨fun z => absurd z (by decide), fun _ => ?_⟩) (fun e40 u' uF ue => ⟨fun _ => ?_, fun z => absurd rfl z⟩)
    · -- bound on both sides
      have base : wp_X9_bind (nI y) (gb.2 2 (h + 3)) 3 (nI ke') (nI (ke' + (n1' - 3))) gb (fun w => FR [4] [7, 8, 9, 10, 11] gb w ∧ w.1 4 = nI (nb + 1) ∧ w.2 7 = upd (gb.2 7) nb (nI y) ∧ w.2 8 = upd (gb.2 8) nb (gb.2 2 (h + 3)) ∧ w.2 9 = upd (gb.2 9) nb 3 ∧ w.2 10 = upd (gb.2 10) nb (nI ke') ∧ w.2 11 = upd (gb.2 11) nb (nI (ke' + (n1' - 3)))) := bindX s4 q3 (fun _ w wF w4 w7 w8 w9 w10 w11 => ⟨wF, w4, w7, w8, w9, w10, w11⟩) (fun z => by omega)
      refine d_wp_X9_bind base (fun gB hgB rebB => ?_)
      obtain ⟨gBF, gB4, gB7, gB8, gB9, gB10, gB11⟩ := hgB
      obtain ⟨w, ew⟩ : ∃ w, w = mSet (mSet (mPut (mSet gB 2 (nI (ke' + (n1' - 3)))) 1 (h + m - 1) 458752) 11 (nI (ar + 1))) 1 (nI (h + 2 + n1')) := ⟨_, rfl⟩
      obtain ⟨gw, wM⟩ := go w (fun Q q => toB gB rebB ((gBF.1 11 (by decide)).trans gb11) Q (by rw [← ew]; exact q))
      have wF : FR [1, 11] [1] (mSet gB 2 (nI (ke' + (n1' - 3)))) w := by
        rw [ew]
        exact FR_set (FR_set (FR_put FR.rf (by decide)) (by decide)) (by decide)
      have gBg : FR [2, 4, 13] [2, 3, 4, 7, 8, 9, 10, 11] g (mSet gB 2 (nI (ke' + (n1' - 3)))) := FR_set ((gbF.wk (by decide) (by decide)).tr (gBF.wk (by decide) (by decide))) (by decide)
      have wgF : FR [1, 2, 4, 11, 13] [1, 2, 3, 4, 7, 8, 9, 10, 11] g w := (gBg.wk (by decide) (by decide)).tr (wF.wk (by decide) (by decide))
      have w2 : w.1 2 = nI (ke' + (n1' - 3)) := (wF.1 2 (by decide)).trans (mSet_same _ _ _)
      have w3 : w.2 3 = gk.2 3 := (wF.2 3 (by decide)).trans ((gBF.2 3 (by decide)).trans gbk3)
      have w4 : w.2 4 = gk.2 4 := (wF.2 4 (by decide)).trans ((gBF.2 4 (by decide)).trans gbk4)
      have w1 : w.1 1 = nI (h + 2 + n1') := by rw [ew, mSet_same]
      have w11 : w.1 11 = nI (ar + 1) := by rw [ew, mSet_other (by decide : (11 : Nat) ≠ 1), mSet_same]
      have we : w.1 12 = 0 := (wgF.1 12 (by decide)).trans he
      have w10 : w.1 10 = 0 := (wgF.1 10 (by decide)).trans g10
      have wr : ∀ l, ¬ l = h + m - 1 → w.2 1 l = g.2 1 l := by
        intro l hl'
        rw [ew, mSet_arr, mSet_arr, mPut_row, pk_un hl', mSet_arr, gBF.2 1 (by decide), gbr]
      have wl : w.2 1 (h + m - 1) = 458752 := by rw [ew, mSet_arr, mSet_arr, mPut_row, pk_us]
      have ws : w.2 2 = gb.2 2 := (wF.2 2 (by decide)).trans (gBF.2 2 (by decide))
      have uBr : ra uB = ra u := (ra_fr (uBF.2 1 (by decide))).trans ubr
      have uBA := AR_fr ubA (uBF.1 1 (by decide)) (uBF.2 1 (by decide)) (uBF.2 3 (by decide))
      have nbB : nbA uB = nb + 1 := nbA_of uB4 (by omega)
      have tabB : ∀ i, i < nb → uB.2 5 i = u.2 5 i ∧ uB.2 6 i = u.2 6 i ∧ uB.2 7 i = u.2 7 i ∧ uB.2 8 i = u.2 8 i := by
        intro i hi
        rw [uB5, uB6, uB7, uB8, pk_un (by omega), pk_un (by omega), pk_un (by omega), pk_un (by omega), ubF.2 5 (by decide), ubF.2 6 (by decide), ubF.2 7 (by decide), ubF.2 8 (by decide)]
        exact ⟨rfl, rfl, rfl, rfl⟩
      -- the rules on both sides
      have aLI1 : LI (ra u) (p + 2) n1' N1 := by
        have := sh_LI (r := g.2 1) (s := g.2 2) (q := ra u) (t := u.2 2) (a := h + 2) (c := p + 2) (L := n1') (x := 0) sh1 hL1 (by omega)
        exact this
      have adn : dn (ra u) (p + 2) N1 = 0 := by
        have := (sh_cn (r := g.2 1) (s := g.2 2) (q := ra u) (t := u.2 2) (a := h + 2) (c := p + 2) (L := n1') sh1 (x := 0) hL1 (by omega) N1 (Nat.le_refl _)).2
        exact this.trans hd1
      obtain ⟨na, Na, hLa, -, -, -, hRa⟩ := hN
      obtain ⟨ena, eNa⟩ := LI_uniq hLa aLI1
      subst ena; subst eNa
      have ulr : ra ul = ra u := ra_fr (ulF.2 1 (by decide))
      have rg0 : RGN ul gk (p + 2) na Na ke' (ke' + (na - 3)) a2 b2 := by
        refine ⟨AR_fr A1 (ulF.1 1 (by decide)) (ulF.2 1 (by decide)) (ulF.2 3 (by decide)), by rw [ulr]; exact A2, by omega, by omega, by rw [ulr]; exact aLI1, by rw [ulr]; exact adn, hN1, by rw [ulr, show p + 2 + 1 = p + 3 from rfl, zn]; exact hk3, fun k k0 kN => ?_, by omega, fun j hj => ?_⟩
        · rw [ulr, ulF.2 2 (by decide)]
          exact ⟨hRa k k0 kN, ulK na Na hLa k k0 kN⟩
        · have := sh1 (2 + j) (by omega)
          rw [show p + 2 + (2 + j) = p + 2 + 2 + j from by omega, show h + 2 + (2 + j) = h + 4 + j from by omega] at this
          obtain ⟨k1, k2⟩ := hKP.2.1 j (by omega)
          rw [ulr, ulF.2 2 (by decide), k1, k2]
          exact this
      have rgB : ∀ w' : mS, w'.2 3 = gk.2 3 → w'.2 4 = gk.2 4 → RGN uB w' (p + 2) na Na ke' (ke' + (na - 3)) a2 b2 := by
        intro w' e3 e4
        refine RGN_lt rg0 A5 ((uBF.1 1 (by decide)).trans ((ubF.1 1 (by decide)).trans r11)) (Nat.le_refl _) (by omega) (fun x _ => ⟨by rw [uBF.2 1 (by decide), ubF.2 1 (by decide), ulF.2 1 (by decide)], by rw [uBF.2 3 (by decide), ubF.2 3 (by decide), ulF.2 3 (by decide)]⟩) (fun x x1 x2 => ⟨?_, ?_⟩) (fun j _ _ => by rw [e3, e4]; exact ⟨rfl, rfl⟩)
        · rw [uBF.2 2 (by decide), ubm, if_neg (by omega), ulF.2 2 (by decide)]
        · rw [uBF.2 4 (by decide), ub4]
      have kMB : ∀ j, ke' ≤ j → j < ke' + (na - 3) → MB (gk.2 4 j) (c + 1) := by
        intro j j1 j2
        obtain ⟨k1, k2⟩ := hKP.2.1 (j - ke') (by omega)
        rw [show ke' + (j - ke') = j from by omega] at k2
        have := hl (4 + (j - ke')) (by omega)
        rw [k2, show h + 4 + (j - ke') = h + (4 + (j - ke')) from by omega, ← this.2.1]
        exact MB_le this.2.2 (by omega)
      have hRb : REL ub (mSet gb 2 (nI (ke' + (na - 3)))) st (c + 1) f := REL_lt (l := p) (m := m) (ke' := ke' + (na - 3)) hR (Nat.le_refl _) (by omega) (by omega) r12 ubF (FR_set (gbF.wk (by decide) (by decide)) (by decide) : FR [2, 13] [2, 3, 4] g _) (by decide) (by decide) (by decide) (by decide) ub8 ((mSet_other (by decide : (13 : Nat) ≠ 2)).trans gb13) ((ubF.1 11 (by decide)).trans r5) ((mSet_other (by decide : (15 : Nat) ≠ 2)).trans ((gbF.1 15 (by decide)).trans r6)) ((ubF.1 1 (by decide)).trans r11) (mSet_same _ _ _) (by rw [hke]; omega) (by omega) (fun j hj => by rw [mSet_arr, gbk3, gbk4]; exact hKP.2.2 j (Or.inl (by omega))) (fun x hx => ⟨by rw [ubF.2 1 (by decide)], by rw [ubF.2 3 (by decide)], fun z => ⟨by rw [ubm, if_neg (by omega)], by rw [ub4]; exact ul4 x (by omega)⟩⟩) hDJ
      have hRB : REL uB (mSet gB 2 (nI (ke' + (na - 3)))) st (c + 1) f := by
        refine REL_bind (nv' := nv) hRb (by rw [nbA_fr ubF (by decide), hnb]) nlt (uBF.wk (by decide) (by decide)) ((FR_set2 gBF).wk (by decide) (by decide)) uB4 uB9 ((uBF.1 10 (by decide)).trans ((ubF.1 10 (by decide)).trans r3)) ?_ (by omega) uB5 uB6 uB7 uB8 ((mSet_other (by decide : (4 : Nat) ≠ 2)).trans gB4) gB7 gB8 gB9 gB10 gB11 ⟨x, y, hNM, ?_, rfl⟩ (mk 3 (by omega)).2.1 (mk 3 (by omega)).2.2 (fun ke2 hke2 hke3 => ?_)
        · rw [mSet_other (by decide : (14 : Nat) ≠ 2), gBF.1 14 (by decide), gbF.1 14 (by decide)]; exact r4
        · rw [ubF.2 1 (by decide)]; exact ewx
        · rw [mSet_same, nI_eq (by omega) (by omega)] at hke2
          subst hke2
          refine Or.inr (Or.inr (Or.inr (Or.inr (Or.inr (Or.inr ⟨by rw [uB7, pk_us], by rw [mSet_arr, gB9, pk_us], p + 2, na, Na, ke', ke' + (na - 3), a2, b2, by rw [uB8, pk_us], by rw [mSet_arr, gB10, pk_us], by rw [mSet_arr, gB11, pk_us], rgB _ ((gBF.2 3 (by decide)).trans gbk3) ((gBF.2 4 (by decide)).trans gbk4), by omega, A5, by omega, fun j j1 j2 => ?_⟩)))))
          rw [mSet_arr, gBF.2 4 (by decide), gbk4]
          exact kMB j j1 j2
      have hRw : REL uB w st (c + 1) f := REL_fr (S := []) (A := []) hRB FR.rf wF (by decide) (by decide) (by decide) (by decide)
      have uBF7 : uB.1 7 = 0 := (uBF.1 7 (by decide)).trans ((ubF.1 7 (by decide)).trans u7)
      have hB : LB uB w p m h st (c + 1) := ⟨⟨a2, b2, uBA, by rw [uBr]; exact A2, A3, A4, A5⟩, h26, fun j hj => by
        rw [uBr, wr _ (by omega), ws, uBF.2 2 (by decide)]
        exact mk j (by omega), REL_reg hRw⟩
      have S0 : STG uB w uB w p m h st (c + 1) f (ar + 1) (h + 2 + na) := ⟨st, c + 1, f, hRw, Nat.le_refl _, Nat.le_refl _, Nat.le_refl _, wM.1, MIN_E wM we w1 (by omega) ((wgF.1 15 (by decide)).trans t3) (by omega), we, w11, fun l _ => ⟨rfl, rfl⟩, fun x _ _ => ⟨rfl, rfl⟩, FRX_rf (S := []) (A := []) (S' := []) (A' := []) FR.rf FR.rf (by decide) (by decide) (by decide) (by decide) ((uBF.1 1 (by decide)).trans ((ubF.1 1 (by decide)).trans r11)) (by omega), fun i i1 i2 => by omega⟩
      have dj : DJ uB (p + (h + 2 + na - h)) (p + m) := by
        intro i L i1 i7 i8 hL'
        rw [uBr]
        rcases Nat.lt_or_ge i nb with z | z
        · obtain ⟨-, -, k7, k8⟩ := tabB i z
          rw [k7] at i7
          rw [k8] at i8
          have := hDJ i L (by rw [hnb]; exact z) i7 i8 hL'
          omega
        · have ei : i = nb := by omega
          subst ei
          rw [uB8, pk_us, nI_eq (by omega) (by omega)] at i8
          subst i8
          rw [at1]
          omega
      have toG : ∀ u' v', RES uB (mSet w 11 (nI ar)) u' v' p m h st (c + 1) f → RES u g u' v' p m h st c f := by
        intro u' v' hr
        refine RES_tr (u0 := uB) (v0 := mSet w 11 (nI ar)) (mkF _ uB _ uBF (by decide) ⟨by omega, by rw [hnb]; exact tabB⟩ ((mSet_other (by decide : (2 : Nat) ≠ 11)).trans w2) w3 w4 (wgF.2 6 (by decide))) (Nat.le_refl _) (by omega) (Nat.le_refl _) (fun q => by omega) (fun q => by omega) rfl (by rw [mSet_same, h11]) (fun l hl' => ⟨by rw [mSet_arr, wr _ (by omega)], by rw [mSet_arr, ws, gbm, if_neg (by omega)]⟩) (fun i i1 i2 i7 => ?_) (REL_reg hRw) hr
        have ei : i = nb := by omega
        subst ei
        refine ⟨p + 2, by rw [uB8, pk_us], by omega, Or.inl ⟨by omega, ?_⟩⟩
        rw [uBr, at1]
        omega
      rintro _ rfl
      rw [nI_1]
      have := stage (t := nn2) hX hd (by omega) hB S0 dj (by omega) (TL_copy (r := g.2 1) (i := h + 2 + na) (fun j hj => by rw [wr _ (by omega)]) cTb) (by rw [wr _ (by omega)]; exact c2b) (by omega) (Or.inl ⟨w10, TX_fr hTX u7 ((ubF.wk (by decide) (by decide)).tr (uBF.wk (by decide) (by decide)) : FR [4, 8, 9] [2, 4, 5, 6, 7, 8] u uB) wgF (by decide) (by decide) (by decide) (by decide) uBF7 we⟩) (post := post) (fun u' v' g' f' mi e1' e2' e3' => ?_) (fun u' v' g' S' T' u7' v10' => ?_)
      · rw [show p + (h + 2 + na - h) = p + 2 + na from by omega] at this
        exact this
      · exact fin u' v' (gw.tr g') (toG _ _ (RES_bad (FRX_M (S := [11]) (A := []) f' ⟨fun k hk => (mSet_other (fun q => hk (by rw [q]; decide))).symm, fun _ _ => rfl⟩ (by decide) (by decide)) mi e1' e2' e3'))
      · rw [show h + 2 + na + nn2 = h + m - 1 from by omega] at S'
        obtain ⟨z, z1, z2⟩ := leaveX S' (by omega) h26 T' (by rw [wl]; decide) v10'
        exact fin _ z ((gw.tr g').tr z1) (toG _ _ z2)
    · -- no room for a binding
      rw [e40] at s4
      have base : wp_X9_bind (nI y) (gb.2 2 (h + 3)) 3 (nI ke') (nI (ke' + (n1' - 3))) gb (fun w => FR [12] [] gb w ∧ ¬ w.1 12 = 0) := bindX (nb := 40) s4 (by omega) (fun z => by omega) (fun _ w wF we => ⟨wF, we⟩)
      refine d_wp_X9_bind base (fun gB hgB rebB => ?_)
      obtain ⟨gBF, gBe⟩ := hgB
      obtain ⟨w, ew⟩ : ∃ w, w = mSet (mSet (mPut (mSet gB 2 (nI (ke' + (n1' - 3)))) 1 (h + m - 1) 458752) 11 (nI (ar + 1))) 1 (nI (h + 2 + n1')) := ⟨_, rfl⟩
      obtain ⟨gw, wM⟩ := go w (fun Q q => toB gB rebB ((gBF.1 11 (by decide)).trans gb11) Q (by rw [← ew]; exact q))
      have wF : FR [1, 2, 11] [1] gB w := by
        rw [ew]
        exact FR_set (FR_set (FR_put (FR_set FR.rf (by decide)) (by decide)) (by decide)) (by decide)
      have w2 : w.1 2 = nI (ke' + (n1' - 3)) := by
        rw [ew, mSet_other (by decide : (2 : Nat) ≠ 1), mSet_other (by decide : (2 : Nat) ≠ 11), mPut_scal, mSet_same]
      have wbF : FR [1, 2, 11, 12] [1] gb w := (gBF.wk (by decide) (by decide)).tr (wF.wk (by decide) (by decide))
      have we : ¬ w.1 12 = 0 := by rw [wF.1 12 (by decide)]; exact gBe
      refine fin u' w gw (RES_bad (mkF _ u' w (uF.wk (fun k hk => hk) (by decide)) (by decide) ⟨Nat.le_of_eq (by rw [nbA_fr uF (by decide), nbA_fr ubF (by decide)]), fun i _ => by rw [uF.2 5 (by decide), uF.2 6 (by decide), uF.2 7 (by decide), uF.2 8 (by decide), ubF.2 5 (by decide), ubF.2 6 (by decide), ubF.2 7 (by decide), ubF.2 8 (by decide)]; exact ⟨rfl, rfl, rfl, rfl⟩⟩ w2 ((wbF.2 3 (by decide)).trans gbk3) ((wbF.2 4 (by decide)).trans gbk4) ((wbF.2 6 (by decide)).trans (gbF.2 6 (by decide)))) wM ue we ⟨?_, ?_, ?_, ?_⟩)
      · rw [uF.1 8 (by decide), ub8, wbF.1 13 (by decide), gb13]
      · rw [uF.1 10 (by decide), ubF.1 10 (by decide), wbF.1 14 (by decide), gbF.1 14 (by decide), r3, r4]
      · rw [uF.1 11 (by decide), ubF.1 11 (by decide), wbF.1 15 (by decide), gbF.1 15 (by decide), r5, r6]
      · rw [uF.1 9 (by decide), ubF.1 9 (by decide), wbF.1 4 (by decide), wbF.1 5 (by decide), gbF.1 4 (by decide), gbF.1 5 (by decide), r10, r8, r9, pk_sub q4]
  · rw [at1] at ul4
    obtain ⟨w, wF, wk, we, wg⟩ := noRules (fun z => hN (nwrA z))
    exact failY hC' ((ulF.wk (by decide) (by decide)).tr (uF.wk (by decide) (by decide))) (fun x hx => by rw [uF.2 4 (by decide)]; exact ul4 x (by omega)) wF wk ue we (go w wg) fin
