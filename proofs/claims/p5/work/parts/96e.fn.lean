-- 96e: the form fn
/-- the marks behind the turns of a form's two trees, and the reference's -/
theorem two_marks {r : Nat → Int32} {s s' t t' : Nat → Int32} {q : Nat → Int32} {p h m c : Nat} (hl : ∀ j, j < m → q (p + j) = r (h + j) ∧ s (p + j) = t (h + j) ∧ MB (s (p + j)) c) (hs : ∀ j, j < m → (s' (p + j) = s (p + j) ∧ t' (h + j) = t (h + j)) ∨ (s' (p + j) = (if kd (q (p + j)) = 3 then s (p + j) ^^^ nI (2 ^ c) else s (p + j)) ∧ t' (h + j) = (if kd (r (h + j)) = 3 then t (h + j) ||| nI (2 ^ c) else t (h + j)))) : ∀ j, j < m → q (p + j) = r (h + j) ∧ s' (p + j) = t' (h + j) ∧ MB (s' (p + j)) (c + 1) := by
  intro j hj
  obtain ⟨h1, h2, h3⟩ := hl j hj
  refine ⟨h1, ?_⟩
  rcases hs j hj with ⟨e1, e2⟩ | ⟨e1, e2⟩
  · rw [e1, e2, ← h2]
    exact ⟨rfl, MB_le h3 (by omega)⟩
  · rw [e1, e2, ← h1, ← h2]
    by_cases k : kd (q (p + j)) = 3
    · rw [if_pos k, if_pos k, xor_or h3]
      exact ⟨rfl, MB_or (MB_le h3 (by omega))⟩
    · rw [if_neg k, if_neg k]
      exact ⟨rfl, MB_le h3 (by omega)⟩
theorem fnX {X : Int32 → Int32 → mS → (mS → Prop) → Prop} {d : Nat} {v u g : mS} {p m N h st c f ar : Nat} {post : mS → Prop} (hX : XOK X d) (hXE : XER X) (hC : CTX u g p m N h st c f ar) (hd : 12 + f ≤ d + (ar + 1)) (har : ar ≤ 9) (nm : u.2 1 (p + 1) = 91758) (k3 : kd (g.2 1 (h + 1)) = 3) (hm3 : 3 ≤ m) (go : ∀ w, (∀ Q : mS → Prop, Q w → wp_X9_form 0 g Q) → MGo v w ∧ MIN w) (fin : ∀ u' v', MGo v v' → RES u g u' v' p m h st c f → post u') : wp_X0_expandFn X (nI p) (nI ar) u post := by
  have hTX := CTX_tx hC
  have hdn := CTX_dn hC
  have hC' := hC
  obtain ⟨aLI, ait⟩ := CTX_li hC
  obtain ⟨⟨hR, hE, hL, he, h11, -, ⟨⟨a2, b2, A1, A2, A3, A4, A5⟩, h26, hT, n2, hl⟩, hDJ⟩, u7, g10, hLI⟩ := hC
  obtain ⟨t1, t2, t3, t4⟩ := REL_top hR
  obtain ⟨nv, nb, b0, ke, q1, q2, q3, q4, r1, r2, r3, r4, r5, r6, r7, r8, r9, r10, r11, r12, r13, r14, r15⟩ := id hR
  have hnb : nbA u = nb := nbA_of r7 (by omega)
  have h1 := hE.1
  have f8 := hE.2.2.2.1
  have m2 := (TL_open hLI.1 hLI.2.1)
  have hb2 := AR_b A1
  have NN : N < 2 ^ 20 := by
    have := (LI_at hLI (Nat.le_refl N)).1
    have := (LI_at hLI (Nat.le_refl N)).2.1
    omega
  -- the reference's failing
  have neg1 : ∀ x : Nat, x < 2 ^ 31 → (0 : Int32) - 1 ≤ nI x := fun x hx => Int32.le_trans (by decide : (0 : Int32) - 1 ≤ 0) (nI_pos' hx)
  have f50 : ∀ Q : mS → Prop, wp_X9_fails 3 g Q → wj_X9_function_50 Q (nI (h + m)) (nI (h + 2)) g := by
    intro Q q
    refine ⟨fun _ => ?_, fun z => absurd rfl z⟩
    rintro _ rfl
    rw [nI_1]
    refine ⟨1, ?_⟩
    rintro _ rfl
    exact ⟨fun _ => ⟨fun z => absurd rfl z, fun _ => q⟩, fun z => absurd (neg1 _ (by omega)) z⟩
  have begM : ∀ Q : mS → Prop, wp_X9_isPlain_2 (nI h) (nI 3) g (fun r7 u8 => ((r7 = 0) → wj_X9_function_50 Q (nI (h + m)) (nI (h + 2)) u8) ∧ ((¬ r7 = 0) → wp_X9_kind_2 (nI (h + 2)) u8 (fun r10 u11 => ((¬ r10 = (1 : Int32)) → wj_X9_function_50 Q (nI (h + m)) (nI (h + 2)) u11) ∧ ((r10 = (1 : Int32)) → wj_X9_function_51 Q (nI (h + m)) (nI (h + 2)) (1 : Int32) u11)))) → wp_X9_form 0 g Q := by
    intro Q q
    refine ⟨fun z => absurd rfl z, fun _ => ?_⟩
    intro y1 e1
    rw [h1] at e1; subst e1
    refine end_2 hLI.2.1 h26 ?_
    intro y4 e4
    rw [h1] at e4; subst e4
    rintro _ rfl y6 e6
    rw [h1] at e6; subst e6
    rw [show (2 : Int32) = nI 2 from rfl, nI_add]
    exact q
  obtain ⟨yb, ybF, ybe, ybg⟩ := failM (c := 3) (v := g) (by decide)
  have bad0 : (¬ dn (g.2 1) h N = 0 ∨ ¬ N = 3) → wj_X0_expandFn_34 X post u := by
    intro hb
    exact failA (by decide) (fun u' uF ue => failX hC' uF ybF (by decide) (by decide) (by decide) (by decide) ue ybe (go yb (fun Q q => begM Q (isPlainM hLI h26 (by decide) (fun q1 q2 => by rcases hb with z | z; exact absurd q1 z; exact absurd q2 z) (fun _ => ⟨fun _ => f50 Q (ybg Q q), fun z => absurd rfl z⟩)))) fin)
  rintro _ rfl
  rw [show (2 : Int32) = nI 2 from rfl, nI_add]
  refine after_ok A1 (by omega) (by omega) ?_
  refine plainX A1 A3 (by omega) aLI (fun q => ⟨fun q4 => bad0 (Or.inr (fun z => q4 (by rw [z]; rfl))), fun q4 => ?_⟩) (fun q => ⟨fun _ => bad0 (Or.inl (by rw [← hdn]; exact q)), fun q4 => absurd q4 (by decide)⟩)
  rw [show (3 : Int32) = nI 3 from rfl, nI_eq (by omega) (by omega)] at q4
  subst q4
  rw [hdn] at q
  have hdn0 := q
  have i1 : it (g.2 1) h 1 = h + 2 := it1_name hLI (by omega) k3
  obtain ⟨c2a, cTa⟩ := hLI.2.2.1 1 (by omega)
  obtain ⟨c2b, cTb⟩ := hLI.2.2.1 2 (by omega)
  have i2 : it (g.2 1) h 2 = h + 2 + tl (g.2 1) (h + 2) := by
    show it (g.2 1) h 1 + tl (g.2 1) (it (g.2 1) h 1) = _
    rw [i1]
  have i3 : it (g.2 1) h 3 = it (g.2 1) h 2 + tl (g.2 1) (it (g.2 1) h 2) := rfl
  have eN := hLI.2.2.2
  rw [i3, i2] at eN
  rw [i2] at c2b cTb
  rw [i1] at c2a cTa
  obtain ⟨n1, en1⟩ : ∃ x, x = tl (g.2 1) (h + 2) := ⟨_, rfl⟩
  rw [← en1] at cTa cTb c2b eN
  obtain ⟨nn2, en2⟩ : ∃ x, x = tl (g.2 1) (h + 2 + n1) := ⟨_, rfl⟩
  rw [← en2] at cTb eN
  have n10 := cTa.1
  have n20 := cTb.1
  have toA : ∀ j, j < m → ra u (p + j) = g.2 1 (h + j) := fun j hj => (hl j hj).1
  have aT1 : TL (ra u) (p + 2) n1 := TL_copy (r := g.2 1) (i := h + 2) (fun j hj => by rw [show p + 2 + j = p + (2 + j) from by omega, toA _ (by omega), show h + (2 + j) = h + 2 + j from by omega]) cTa
  have aT2 : TL (ra u) (p + 2 + n1) nn2 := TL_copy (r := g.2 1) (i := h + 2 + n1) (fun j hj => by rw [show p + 2 + n1 + j = p + (2 + n1 + j) from by omega, toA _ (by omega), show h + (2 + n1 + j) = h + 2 + n1 + j from by omega]) cTb
  have at1 : tl (ra u) (p + 2) = n1 := tl_eq aT1
  have at2 : tl (ra u) (p + 2 + n1) = nn2 := tl_eq aT2
  have k2e : ra u (p + 2) = g.2 1 (h + 2) := toA 2 (by omega)
  have alln : ALLN (ra u) (p + 2) n1 ↔ ALLN (g.2 1) (h + 2) n1 := by
    constructor
    · intro z j j1 j2
      have := z (p + (j - h)) (by omega) (by omega)
      rw [toA _ (by omega), show h + (j - h) = j from by omega] at this
      exact this
    · intro z j j1 j2
      have := z (h + (j - p)) (by omega) (by omega)
      rw [← toA _ (by omega), show p + (j - p) = j from by omega] at this
      exact this
  have bad1 : (¬ kd (g.2 1 (h + 2)) = 1 ∨ (kd (g.2 1 (h + 2)) = 1 ∧ ¬ ALLN (g.2 1) (h + 2) n1)) → wj_X0_expandFn_34 X post u := by
    intro hb
    refine failA (by decide) (fun u' uF ue => failX hC' uF ybF (by decide) (by decide) (by decide) (by decide) ue ybe (go yb (fun Q q => begM Q (isPlainM hLI h26 (by decide) (fun _ _ => ⟨fun z => absurd z (by decide), fun _ => kind_2 (by omega) ⟨fun _ => f50 Q (ybg Q q), fun k1 => ?_⟩⟩) (fun z => by rcases z with z | z; exact absurd hdn0 z; exact absurd rfl z)))) fin)
    refine ⟨fun z => absurd z (by decide), fun _ => end_2 cTa (by omega) ?_⟩
    rintro _ rfl
    rw [nI_1]
    refine namesM (l := h + 2) (n := n1) (TL_open k1 cTa).1 (by omega) (fun z K => ?_) (fun z K => ?_)
    · rcases hb with z2 | z2
      · exact absurd k1 z2
      · exact absurd z z2.2
    · rintro _ rfl
      rw [show (1 : Int32) = nI 1 from rfl, pk_sub (by omega)]
      exact ⟨fun _ => ⟨fun z => absurd rfl z, fun _ => ybg Q q⟩, fun z => absurd (Int32.le_refl _) z⟩
  rw [at1]
  have bad2 : (¬ kd (ra u (p + 2)) = 1 ∨ ¬ ALLN (ra u) (p + 2) n1) → wj_X0_expandFn_34 X post u := by
    intro hno
    rw [k2e, alln] at hno
    refine bad1 ?_
    by_cases z : kd (g.2 1 (h + 2)) = 1
    · exact Or.inr ⟨z, hno.resolve_left (fun y => y z)⟩
    · exact Or.inl z
  refine areNamesA A1 (by omega) (by omega) aT1 (fun k1 hall => ⟨fun _ => ?_, fun z => absurd z (by decide)⟩) (fun hno => ⟨fun z => absurd rfl z, fun _ => bad2 hno⟩)
  have hallM := alln.mp hall
  rw [k2e] at k1
  obtain ⟨N1, hLI1⟩ := LI_ex k1 cTa
  have eN1 : n1 = N1 + 2 := ALLN_n hLI1 hallM
  -- the reference's way to its scope
  have scM : ∀ Q : mS → Prop, wp_X9_scope g (fun r20 u21 => ∀ y22 : Int32, y22 = (u21.1 12) → ((y22 = 0) → wp_X9_give (nI (h + 2)) (nI (h + m)) r20 u21 (fun u25 => ∀ y26 : Int32, y26 = (u25.1 14) → ∀ y27 : Int32, y27 = (nI (h + 2) + (1 : Int32)) → ∃ n, mL5 (fun K => wj_X9_function_156 K Q) n (nI (h + 2)) (nI (h + 2 + n1)) y26 y27 u25)) ∧ ((¬ y22 = 0) → Q u21)) → wp_X9_form 0 g Q := by
    intro Q q
    refine begM Q (isPlainM hLI h26 (by decide) (fun _ _ => ⟨fun z => absurd z (by decide), fun _ => kind_2 (by omega) ⟨fun z => absurd k1 z, fun _ => ?_⟩⟩) (fun z => by rcases z with z | z; exact absurd hdn0 z; exact absurd rfl z))
    refine ⟨fun z => absurd z (by decide), fun _ => end_2 cTa (by omega) ?_⟩
    rintro _ rfl
    rw [nI_1]
    refine namesM (l := h + 2) (n := n1) (TL_open k1 cTa).1 (by omega) (fun z K => ?_) (fun z K => absurd hallM z)
    rintro _ rfl
    rw [show (1 : Int32) = nI 1 from rfl, pk_sub (by omega)]
    exact ⟨fun _ => ⟨fun _ => q, fun z => absurd z (by decide)⟩, fun z => absurd (Int32.le_refl _) z⟩
  have sc30 : c = 30 → ∀ u', FR [7] [] u u' → ¬ u'.1 7 = 0 → post u' := by
    intro e30 u' uF ue
    have mid : wp_X9_scope g (fun r w => FR [12] [] g w ∧ ¬ w.1 12 = 0) := scopeX (c := c) r2 q1 (fun z => by omega) (fun _ w wF we => ⟨wF, we⟩)
    refine d_wp_X9_scope mid (fun r w hw reb => ?_)
    refine failX hC' uF hw.1 (by decide) (by decide) (by decide) (by decide) ue hw.2 (go w (fun Q q => scM Q (reb _ ?_))) fin
    intro y22 e22
    exact ⟨fun z => absurd (e22.symm.trans z) hw.2, fun _ => q⟩
  refine newScopeA (c := c) r1 q1 (fun lt u1 u1F u18 => ⟨fun _ => ?_, fun z => absurd (nI_pos' (by omega)) z⟩) (fun e30 u' uF ue => ⟨fun z => absurd z (by decide), fun _ => sc30 e30 u' uF ue⟩)
  -- scopes and turns
  have mid : wp_X9_scope g (fun r w => r = nI (2 ^ c) ∧ FR [13] [] g w ∧ w.1 13 = nI (c + 1)) := scopeX (c := c) r2 q1 (fun _ w wF w13 => ⟨bit_sc lt, wF, w13⟩) (fun z => by omega)
  refine d_wp_X9_scope mid (fun r g1 hg1 rebS => ?_)
  obtain ⟨rfl, g1F, g113⟩ := hg1
  have mid2 : wp_X9_give (nI (h + 2)) (nI (h + m)) (nI (2 ^ c)) g1 (fun w => FR [] [2] g1 w ∧ w.2 2 = tnF (fun s x => s ||| x) (g1.2 1) (g1.2 2) (nI (2 ^ c)) (h + 2) (h + m)) := giveX (by omega) h26 (fun w wF w2 => ⟨wF, w2⟩)
  refine d_wp_X9_give mid2 (fun gb hgb rebG => ?_)
  obtain ⟨gbF1, gb2⟩ := hgb
  rw [g1F.2 1 (by decide), g1F.2 2 (by decide)] at gb2
  have gbF : FR [13] [2] g gb := (g1F.wk (by decide) (by decide)).tr (gbF1.wk (by decide) (by decide))
  have gb13 : gb.1 13 = nI (c + 1) := (gbF1.1 13 (by decide)).trans g113
  have gbe : gb.1 12 = 0 := (gbF.1 12 (by decide)).trans he
  have goB : ∀ w, (∀ Q : mS → Prop, Q w → ∃ n, mL5 (fun K => wj_X9_function_156 K Q) n (nI (h + 2)) (nI (h + 2 + n1)) (nI nv) (nI (h + 3)) gb) → MGo v w ∧ MIN w := by
    intro w hw
    refine go w (fun Q q => scM Q (rebS _ ?_))
    intro y22 e22
    refine ⟨fun _ => rebG _ ?_, fun z => absurd (e22.trans ((g1F.1 12 (by decide)).trans he)) z⟩
    intro y26 e26
    rw [gbF.1 14 (by decide), r4] at e26; subst e26
    rintro _ rfl
    rw [nI_1]
    exact hw Q q
  have ur1 : ra u1 = ra u := ra_fr (u1F.2 1 (by decide))
  refine turnA (AR_fr A1 (u1F.1 1 (by decide)) (u1F.2 1 (by decide)) (u1F.2 3 (by decide))) (by omega) (by omega) (fun u2 u2F u22 => ?_)
  rw [bit_sc lt, ur1, at1, u1F.2 2 (by decide)] at u22
  have ur2 : ra u2 = ra u := (ra_fr (u2F.2 1 (by decide))).trans ur1
  have u12F : FR [8] [2] u u2 := (u1F.wk (by decide) (by decide)).tr (u2F.wk (by decide) (by decide))
  refine turnA (AR_fr A1 (u12F.1 1 (by decide)) (u12F.2 1 (by decide)) (u12F.2 3 (by decide))) (by omega) (by omega) (fun ub ubF1 ub2 => ?_)
  rw [bit_sc lt, ur2, at2] at ub2
  have ubF : FR [8] [2] u ub := u12F.tr (ubF1.wk (by decide) (by decide))
  have ub8 : ub.1 8 = nI (c + 1) := (ubF1.1 8 (by decide)).trans ((u2F.1 8 (by decide)).trans u18)
  have ubr : ra ub = ra u := ra_fr (ubF.2 1 (by decide))
  have ubm : ∀ x, ub.2 2 x = if p + 2 ≤ x ∧ x < p + m - 1 then (if kd (ra u x) = 3 then u.2 2 x ^^^ nI (2 ^ c) else u.2 2 x) else u.2 2 x := by
    intro x
    rw [ub2]
    by_cases z1 : p + 2 ≤ x ∧ x < p + m - 1
    · rw [if_pos z1]
      rcases Nat.lt_or_ge x (p + 2 + n1) with z2 | z2
      · rw [tnF_out (Or.inl z2), u22, tnF_in z1.1 z2]
      · rw [tnF_in z2 (by omega), u22, tnF_out (Or.inr z2)]
    · rw [if_neg z1, tnF_out (by omega), u22, tnF_out (by omega)]
  have mk : ∀ j, j < m → ra u (p + j) = g.2 1 (h + j) ∧ ub.2 2 (p + j) = gb.2 2 (h + j) ∧ MB (ub.2 2 (p + j)) (c + 1) := by
    refine two_marks hl (fun j hj => ?_)
    rw [ubm, gb2]
    by_cases z : 2 ≤ j
    · rcases Nat.lt_or_ge j (m - 1) with z2 | z2
      · rw [if_pos ⟨by omega, by omega⟩, tnF_in (by omega) (by omega)]
        exact Or.inr ⟨rfl, rfl⟩
      · rw [if_neg (by omega), tnF_in (by omega) (by omega)]
        have : j = m - 1 := by omega
        subst this
        rw [if_neg (by rw [m2.2.2]; decide)]
        exact Or.inl ⟨rfl, rfl⟩
    · rw [if_neg (by omega), tnF_out (by omega)]
      exact Or.inl ⟨rfl, rfl⟩
  have hRb : REL ub gb st (c + 1) f := REL_lt (l := p) (m := m) (ke' := ke) hR (Nat.le_refl _) (by omega) (by omega) r12 ubF gbF (by decide) (by decide) (by decide) (by decide) ub8 gb13 ((ubF.1 11 (by decide)).trans r5) ((gbF.1 15 (by decide)).trans r6) ((ubF.1 1 (by decide)).trans r11) ((gbF.1 2 (by decide)).trans r13) (by rw [keM_of r13 r14]; exact Nat.le_refl _) r14 (fun j _ => by rw [gbF.2 3 (by decide), gbF.2 4 (by decide)]; exact ⟨rfl, rfl⟩) (fun x hx => ⟨by rw [ubF.2 1 (by decide)], by rw [ubF.2 3 (by decide)], fun z => ⟨by rw [ubm, if_neg (by omega)], by rw [ubF.2 4 (by decide)]⟩⟩) hDJ
  rintro y17 e17
  rw [ubF.1 10 (by decide), r3] at e17; subst e17
  rintro _ rfl
  rw [nI_1]
  have ubA := AR_fr A1 (ubF.1 1 (by decide)) (ubF.2 1 (by decide)) (ubF.2 3 (by decide))
  have aLI1 : LI (ra ub) (p + 2) n1 N1 := by
    rw [ubr]
    have := sh_LI (r := g.2 1) (s := g.2 2) (q := ra u) (t := u.2 2) (a := h + 2) (c := p + 2) (L := n1) (x := 0) (fun j hj => by
      have := hl (2 + j) (by omega)
      rw [show p + (2 + j) = p + 2 + j from by omega, show h + (2 + j) = h + 2 + j from by omega] at this
      exact ⟨this.1, this.2.1⟩) hLI1 (by omega)
    exact this
  refine itemsFrom_ok (k := 0) ubA aLI1 (by omega) (by omega) (by omega) ?_
  rw [Nat.sub_zero]
  -- what is left as it was
  have mkF : ∀ (uk u' vk w : mS), FR [4, 9, 10] [5, 6, 7, 8] ub uk → (nbA u ≤ nbA uk ∧ ∀ i, i < nbA u → uk.2 5 i = u.2 5 i ∧ uk.2 6 i = u.2 6 i ∧ uk.2 7 i = u.2 7 i ∧ uk.2 8 i = u.2 8 i) → FR [6, 7] [9] uk u' → FR [4, 14] [7, 8, 9, 10, 11] gb vk → FR [1, 9, 10, 11, 12, 14] [19] vk w → FRX u g u' w p m st := by
    intro uk u' vk w kF ⟨kn, kt⟩ uF' vF' wF'
    have F1 : FR [4, 6, 7, 8, 9, 10] [2, 5, 6, 7, 8, 9] u u' := ((ubF.wk (by decide) (by decide)).tr (kF.wk (by decide) (by decide))).tr (uF'.wk (by decide) (by decide))
    have F2 : FR [1, 4, 9, 10, 11, 12, 13, 14] [2, 7, 8, 9, 10, 11, 19] g w := ((gbF.wk (by decide) (by decide)).tr (vF'.wk (by decide) (by decide))).tr (wF'.wk (by decide) (by decide))
    refine ⟨fun x hx => ⟨by rw [F1.2 1 (by decide)], by rw [F1.2 3 (by decide)], fun z => ⟨?_, by rw [F1.2 4 (by decide)]⟩⟩, ⟨st, (F1.1 1 (by decide)).trans r11, Nat.le_refl _, by omega⟩, ⟨by rw [nbA_fr uF' (by decide)]; exact kn, fun i hi => by rw [uF'.2 5 (by decide), uF'.2 6 (by decide), uF'.2 7 (by decide), uF'.2 8 (by decide)]; exact kt i hi⟩, ⟨Nat.le_of_eq (by unfold keM; rw [F2.1 2 (by decide)]), fun j _ => by rw [F2.2 3 (by decide), F2.2 4 (by decide)]; exact ⟨rfl, rfl⟩⟩, F2.2 6 (by decide), F1.1 5 (by decide)⟩
    rw [uF'.2 2 (by decide), kF.2 2 (by decide), ubm, if_neg (by omega)]
  obtain ⟨z1, -, -⟩ := hl 1 (by omega)
  have hAW1 : AW (u.2 1 (p + 1)) (g.2 1 (h + 1)) := by rw [← z1]; exact (A1.2 (p + 1) (by omega) (by omega)).1
  obtain ⟨x, y, hNM, ewx, ec⟩ := NM_of3 hAW1 k3
  have hby := NM_bd hNM
  obtain ⟨cs, hcs⟩ := NCH_ex hNM
  -- behind the bindings
  have tail : ∀ (uk vk : mS), FR [4, 9, 10] [5, 6, 7, 8] ub uk → FR [4, 14] [7, 8, 9, 10, 11] gb vk → REL uk vk st (c + 1) f → vk.1 14 = nI (nv + N1) → nbA uk = nb + N1 → (∀ i, i < nb → uk.2 5 i = u.2 5 i ∧ uk.2 6 i = u.2 6 i ∧ uk.2 7 i = u.2 7 i ∧ uk.2 8 i = u.2 8 i) → (∀ i, nb ≤ i → i < nbA uk → uk.2 7 i = 5) → (∀ w, (∀ Q : mS → Prop, Q w → ∃ n, mL5 (fun K => wj_X9_function_156 K Q) n (nI (h + 2)) (nI (h + 2 + n1)) (nI nv) (nI (h + 3 + N1)) vk) → MGo v w ∧ MIN w) → wj_X0_expandFn_133 X post (nI ar) (nI (p + 2 + n1)) (nI nv) (nI N1) uk := by
    intro uk vk kF vF hRk v14 hnk kt kn5 gk
    have kF' : FR [4, 8, 9, 10] [2, 5, 6, 7, 8] u uk := (ubF.wk (by decide) (by decide)).tr (kF.wk (by decide) (by decide))
    have vF' : FR [4, 13, 14] [2, 7, 8, 9, 10, 11] g vk := (gbF.wk (by decide) (by decide)).tr (vF.wk (by decide) (by decide))
    have uk7 : uk.1 7 = 0 := (kF'.1 7 (by decide)).trans u7
    have vke : vk.1 12 = 0 := (vF'.1 12 (by decide)).trans he
    have nb40 : nb + N1 ≤ 40 := by
      obtain ⟨_, nb', _, _, _, _, k3', _, _, _, _, _, _, _, k7, -⟩ := id hRk
      rw [nbA_of k7 (by omega)] at hnk
      omega
    intro y30 e30
    refine ⟨fun _ => ?_, fun z => absurd (e30.trans uk7) z⟩
    refine varsX (hb := h + 2 + n1) (h := h) (ar := ar) (TX_fr hTX u7 kF' vF' (by decide) (by decide) (by decide) (by decide) uk7 vke) vke v14 (by omega) ((vF'.1 10 (by decide)).trans g10) ((vF'.1 1 (by decide)).trans h1) ((vF'.1 11 (by decide)).trans h11) hcs (nm.symm.trans ewx) (by omega) (by rw [vF'.2 1 (by decide)]; exact ec) (by omega) (fun ux w xF wF wT w1 w11 w10 wg => ?_)
    obtain ⟨gw, wM⟩ := gk w (fun Q hq => ⟨1, by
      rintro _ rfl
      rw [show (1 : Int32) = nI 1 from rfl, pk_sub (by omega)]
      refine ⟨fun _ => wg Q hq, fun z => absurd (by rw [nI_leI (by omega) (by omega)]; omega) z⟩⟩)
    rintro _ rfl
    rw [nI_1]
    have xF' : FR [6, 7] [9] uk (pA 32 ux) := xF.tr pA_fr
    have fx : FRX u g uk w p m st := mkF uk uk vk w kF ⟨by omega, by rw [hnb]; exact kt⟩ FR.rf vF (wF.wk (by decide) (by decide))
    have hRw : REL uk w st (c + 1) f := REL_fr (S := []) (A := []) hRk FR.rf wF (by decide) (by decide) (by decide) (by decide)
    by_cases we : w.1 12 = 0
    · have wr : w.2 1 = g.2 1 := (wF.2 1 (by decide)).trans (vF'.2 1 (by decide))
      have ws : w.2 2 = gb.2 2 := (wF.2 2 (by decide)).trans (vF.2 2 (by decide))
      have kr : ra uk = ra u := (ra_fr (kF.2 1 (by decide))).trans ubr
      have kA := AR_fr A1 (kF'.1 1 (by decide)) (kF'.2 1 (by decide)) (kF'.2 3 (by decide))
      have hB : LB uk w p m h st (c + 1) := ⟨⟨a2, b2, kA, by rw [kr]; exact A2, A3, A4, A5⟩, h26, fun j hj => by rw [kr, wr, ws, kF.2 2 (by decide)]; exact mk j (by omega), REL_reg hRk⟩
      have S0 : STG uk w (pA 32 ux) w p m h st (c + 1) f (ar + 1) (h + 2 + n1) := by
        refine ⟨st, c + 1, f, REL_fr (S' := []) (A' := []) hRw xF' FR.rf (by decide) (by decide) (by decide) (by decide), Nat.le_refl _, Nat.le_refl _, Nat.le_refl _, wM.1, MIN_E wM we w1 (by omega) ((wF.1 15 (by decide)).trans ((vF'.1 15 (by decide)).trans t3)) (by omega), we, w11, fun l _ => ⟨rfl, rfl⟩, fun x _ _ => by rw [xF'.2 2 (by decide), xF'.2 4 (by decide)]; exact ⟨rfl, rfl⟩, FRX_rf (S' := []) (A' := []) xF' FR.rf (by decide) (by decide) (by decide) (by decide) ((kF'.1 1 (by decide)).trans r11) (by omega), fun i i1 i2 => by rw [nbA_fr xF' (by decide)] at i2; omega⟩
      have dj : DJ uk (p + (h + 2 + n1 - h)) (p + m) := by
        intro i L i1 i7 i8 hL
        rcases Nat.lt_or_ge i nb with z | z
        · obtain ⟨-, -, k7, k8⟩ := kt i z
          rw [k7] at i7
          rw [k8] at i8
          have := hDJ i L (by rw [hnb]; exact z) i7 i8 hL
          rw [kr]
          omega
        · rw [kn5 i z i1] at i7
          exact absurd i7 (by decide)
      have toG : ∀ u' v', RES uk (mSet w 11 (nI ar)) u' v' p m h st (c + 1) f → RES u g u' v' p m h st c f := by
        intro u' v' hr
        refine RES_tr (u0 := uk) (v0 := mSet w 11 (nI ar)) (mkF uk uk vk _ kF ⟨by omega, by rw [hnb]; exact kt⟩ FR.rf vF (FR_set (wF.wk (by decide) (by decide)) (by decide))) (Nat.le_refl _) (by omega) (Nat.le_refl _) (fun q => by omega) (fun q => by omega) rfl (by rw [mSet_same, h11]) (fun l hl' => ⟨by rw [mSet_arr, wr], by rw [mSet_arr, ws, gb2, tnF_out (Or.inr hl')]⟩) (fun i i1 i2 i7 => ?_) (REL_reg hRk) hr
        rw [kn5 i (by omega) i2] at i7
        exact absurd i7 (by decide)
      have := stage (t := nn2) hX hd (by omega) hB S0 dj (by omega) (by rw [wr]; exact cTb) (by rw [wr]; exact c2b) (by omega) (Or.inr ⟨w10, TX_put wT⟩) (post := fun u35 => wp_X2_put 41 u35 (fun u37 => post u37)) (fun u' v' g' f' mi e1' e2' e3' => ?_) (fun u' v' g' S' T' u7' v10' => ?_)
      · rw [show p + (h + 2 + n1 - h) = p + 2 + n1 from by omega] at this
        exact this
      · refine put_A (fun z => absurd z e1') ?_
        rw [pA_err e1']
        exact fin u' v' (gw.tr g') (toG _ _ (RES_bad (FRX_M (S := [11]) (A := []) f' ⟨fun k hk => (mSet_other (fun q => hk (by rw [q]; decide))).symm, fun _ _ => rfl⟩ (by decide) (by decide)) mi e1' e2' e3'))
      · refine put_A (TX_A T') ?_
        rw [show h + 2 + n1 + nn2 = h + m - 1 from by omega] at S'
        obtain ⟨z, z1, z2⟩ := closeX S' (by omega) h26 T' (by rw [wr, show h + m - 1 = h + (m - 1) from by omega]; exact m2.2.2) (by omega)
        exact fin _ z ((gw.tr g').tr z1) (toG _ _ z2)
    · have ue : ¬ ux.1 7 = 0 := by
        rcases wT with ⟨-, z, -⟩ | ⟨z, -⟩
        · exact absurd z we
        · exact z
      rw [pA_err ue]
      refine hXE _ _ ux _ ue (put_A (fun z => absurd z ue) ?_)
      rw [pA_err ue]
      exact fin ux w gw (RES_bad (mkF uk ux vk w kF ⟨by omega, by rw [hnb]; exact kt⟩ xF vF (wF.wk (by decide) (by decide))) wM ue we (REL_CN (REL_fr (S' := []) (A' := []) hRw xF FR.rf (by decide) (by decide) (by decide) (by decide))))
  -- the names, one after the other
  have errB : ∀ (n : Nat) (x8 : Int32) (u' : mS), ¬ u'.1 7 = 0 → post u' → mL7 (fun K => wj_X0_expandFn_97 X K post) (n + 1) (nI ar) (nI (p + 2)) (nI (p + 2 + n1)) (nI nv) (nI N1) x8 u' := by
    intro n x8 u' ue hp
    have e133 : wj_X0_expandFn_133 X post (nI ar) (nI (p + 2 + n1)) (nI nv) (nI N1) u' := fun _ e => ⟨fun z => absurd (e.symm.trans z) ue, fun _ => hp⟩
    refine ⟨fun _ => e133, fun _ => ?_⟩
    intro y22 e22
    exact ⟨fun _ => e133, fun z => absurd (e22.symm.trans z) ue⟩
  have main : ∀ (dd k : Nat) (uk vk : mS), k + dd = N1 → FR [4, 9, 10] [5, 6, 7, 8] ub uk → FR [4, 14] [7, 8, 9, 10, 11] gb vk → REL uk vk st (c + 1) f → uk.1 10 = nI (nv + k) → vk.1 14 = nI (nv + k) → nbA uk = nb + k → (∀ i, i < nb → uk.2 5 i = u.2 5 i ∧ uk.2 6 i = u.2 6 i ∧ uk.2 7 i = u.2 7 i ∧ uk.2 8 i = u.2 8 i) → (∀ i, nb ≤ i → i < nbA uk → uk.2 7 i = 5) → (∀ w, (∀ Q : mS → Prop, Q w → ∃ n, mL5 (fun K => wj_X9_function_156 K Q) n (nI (h + 2)) (nI (h + 2 + n1)) (nI nv) (nI (h + 3 + k)) vk) → MGo v w ∧ MIN w) → mL7 (fun K => wj_X0_expandFn_97 X K post) (dd + 1) (nI ar) (nI (p + 2)) (nI (p + 2 + n1)) (nI nv) (nI N1) (nI k) uk := by
    intro dd
    induction dd with
    | zero =>
      intro k uk vk hk kF vF hRk u10 v14 hnk kt kn5 gk
      have : k = N1 := by omega
      subst this
      exact ⟨fun _ => tail uk vk kF vF hRk v14 hnk kt kn5 gk, fun z => absurd (Int32.le_refl _) z⟩
    | succ dd ih =>
      intro k uk vk hk kF vF hRk u10 v14 hnk kt kn5 gk
      have kF' : FR [4, 8, 9, 10] [2, 5, 6, 7, 8] u uk := (ubF.wk (by decide) (by decide)).tr (kF.wk (by decide) (by decide))
      have vF' : FR [4, 13, 14] [2, 7, 8, 9, 10, 11] g vk := (gbF.wk (by decide) (by decide)).tr (vF.wk (by decide) (by decide))
      have uk7 : uk.1 7 = 0 := (kF'.1 7 (by decide)).trans u7
      have vke : vk.1 12 = 0 := (vF'.1 12 (by decide)).trans he
      have kr : ra uk = ra u := (ra_fr (kF.2 1 (by decide))).trans ubr
      have kA := AR_fr A1 (kF'.1 1 (by decide)) (kF'.2 1 (by decide)) (kF'.2 3 (by decide))
      obtain ⟨_, nbk, b0k, _, s1, s2, s3, s4, s5, s6, s7, s8, s9, s10, s11, s12, s13, s14, s15, -⟩ := id hRk
      have enk : nbk = nb + k := by rw [nbA_of s11 (by omega)] at hnk; exact hnk
      subst enk
      have vr : vk.2 1 = g.2 1 := vF'.2 1 (by decide)
      have vs : vk.2 2 = gb.2 2 := vF.2 2 (by decide)
      have us : uk.2 2 = ub.2 2 := kF.2 2 (by decide)
      have tk : ∀ j, j < m → ra uk (p + j) = vk.2 1 (h + j) ∧ uk.2 2 (p + j) = vk.2 2 (h + j) := fun j hj => by rw [kr, vr, us, vs]; exact ⟨(mk j hj).1, (mk j hj).2.1⟩
      have k3k : kd (g.2 1 (h + 3 + k)) = 3 := hallM _ (by omega) (by omega)
      have hAWk : AW (u.2 1 (p + (3 + k))) (g.2 1 (h + (3 + k))) := by rw [← toA _ (by omega)]; exact (A1.2 _ (by omega) (by omega)).1
      obtain ⟨xk, yk, hNMk, ewk, eck⟩ := NM_of3 hAWk (by rw [show h + (3 + k) = h + 3 + k from by omega]; exact k3k)
      have hbyk := NM_bd hNMk
      have eck' : vk.2 1 (h + 2 + 1 + k) = nI (65536 * 3 + yk) := by rw [vr, show h + 2 + 1 + k = h + (3 + k) from by omega]; exact eck
      refine ⟨fun z => absurd z (by rw [nI_leI (by omega) (by omega)]; omega), fun _ => ?_⟩
      intro y22 e22
      refine ⟨fun z => absurd (e22.trans uk7) z, fun _ => ?_⟩
      rintro _ rfl _ rfl _ rfl
      rw [nI_1, nI_add]
      -- an end with an error on both sides
      have endE : ∀ (u' w : mS), FR [7] [] uk u' → ¬ u'.1 7 = 0 → FR [12, 14] [] vk w → ¬ w.1 12 = 0 → w.1 14 = nI (nv + k) → (∀ Q : mS → Prop, Q w → ∃ n, mL5 (fun K => wj_X9_function_156 K Q) n (nI (h + 2)) (nI (h + 2 + n1)) (nI nv) (nI (h + 3 + k)) vk) → post u' := by
        intro u' w uF ue wF we w14 wg
        obtain ⟨gw, wM⟩ := gk w wg
        refine fin u' w gw (RES_bad (mkF uk u' vk w kF ⟨by omega, by rw [hnb]; exact kt⟩ (uF.wk (by decide) (by decide)) vF (wF.wk (by decide) (by decide))) wM ue we ⟨?_, ?_, ?_, ?_⟩)
        · rw [uF.1 8 (by decide), wF.1 13 (by decide), s5, s6]
        · rw [uF.1 10 (by decide), u10, w14]
        · rw [uF.1 11 (by decide), wF.1 15 (by decide), s9, s10]
        · rw [uF.1 9 (by decide), wF.1 4 (by decide), wF.1 5 (by decide), s14, s12, s13, pk_sub s4]
      -- the reference's way behind its check
      have way : ∀ (Q : mS → Prop) (n : Nat), (∃ c', mL6 (fun K' => wj_X9_function_177 K' (mL5 (fun K => wj_X9_function_156 K Q) n) Q) c' (nI (h + 2)) (nI (h + 2 + n1)) (nI nv) (nI (h + 2 + 1 + k)) (nI (h + 2 + 1)) vk) → mL5 (fun K => wj_X9_function_156 K Q) (n + 1) (nI (h + 2)) (nI (h + 2 + n1)) (nI nv) (nI (h + 3 + k)) vk := by
        intro Q n hq
        rintro _ rfl
        rw [show (1 : Int32) = nI 1 from rfl, pk_sub (by omega)]
        refine ⟨fun z => absurd z (by rw [nI_leI (by omega) (by omega)]; omega), fun _ => ?_⟩
        intro y37 e37
        refine ⟨fun z => absurd (e37.trans vke) z, fun _ => ?_⟩
        rintro _ rfl
        rw [nI_add]
        rw [show h + 2 + 1 + k = h + 3 + k from by omega] at hq
        exact hq
      refine findName_ok kA (by omega) (by omega) (by omega) (by omega) (by omega) (fun _ => ?_) (fun z => absurd (by rw [show p + 3 + k = p + (3 + k) from by omega, (tk _ (by omega)).1, vr, show h + (3 + k) = h + 3 + k from by omega]; exact k3k) z)
      rw [show p + 3 + k - (p + 3) = k from by omega]
      rcases vrF_cases (ra uk) (uk.2 2) (ra uk (p + 3 + k)) (uk.2 2 (p + 3 + k)) k (p + 3) (by omega) with z | ⟨j, j1, j2, j3, j4, j5⟩
      · have none := vrF_none k (p + 3) (by omega) z
        rw [z]
        have noneM : ∀ j, j < k → ¬ (vk.2 1 (h + 2 + 1 + j) = vk.2 1 (h + 2 + 1 + k) ∧ vk.2 2 (h + 2 + 1 + j) = vk.2 2 (h + 2 + 1 + k)) := by
          intro j hj zz
          refine none j hj ?_
          obtain ⟨a1, a2⟩ := tk (3 + j) (by omega)
          obtain ⟨a3, a4⟩ := tk (3 + k) (by omega)
          rw [show p + 3 + j = p + (3 + j) from by omega, show p + 3 + k = p + (3 + k) from by omega, a1, a2, a3, a4, show h + (3 + j) = h + 2 + 1 + j from by omega, show h + (3 + k) = h + 2 + 1 + k from by omega]
          exact zz
        refine ⟨fun _ => ?_, fun zz => absurd (by decide) zz⟩
        intro y4 e4
        rw [u10] at e4; subst e4
        refine bindA kA (by omega) s11 s3 (fun lt u' uF' u4 u9 u5 u6 u7' u8 => ⟨fun zz => absurd zz (by decide), fun _ => ?_⟩) (fun e40 u' uF' ue => ⟨fun _ => ?_, fun zz => absurd rfl zz⟩)
        · intro y8 e8
          rw [uF'.1 10 (by decide), u10] at e8; subst e8
          rintro _ rfl _ rfl _ rfl
          rw [nI_1, nI_1]
          obtain ⟨v', w1, w2, w3, w4, w5, w6, w7, w8, w9⟩ := bindM (l := h + 2) (k := k) (nv := nv + k) (nb := nb + k) (y := yk) (w := vk) (by omega) vke eck' (by omega) v14 s12 lt
          have uF2 : FR [4, 9, 10] [5, 6, 7, 8] uk (mSet u' 10 (nI (nv + k + 1))) := FR_set (uF'.wk (by decide) (by decide)) (by decide)
          have nb2 : nbA (mSet u' 10 (nI (nv + k + 1))) = nb + k + 1 := nbA_of (by rw [mSet_other (by decide : (4 : Nat) ≠ 10)]; exact u4) (by omega)
          have hR2 : REL (mSet u' 10 (nI (nv + k + 1))) v' st (c + 1) f := by
            refine REL_bind (nv' := nv + k + 1) hRk hnk lt uF2 w1 (by rw [mSet_other (by decide : (4 : Nat) ≠ 10)]; exact u4) (by rw [mSet_other (by decide : (9 : Nat) ≠ 10)]; exact u9) (mSet_same _ _ _) w3 (by omega) u5 u6 u7' u8 w2 w4 w5 w6 w7 w8 ⟨xk, yk, hNMk, ?_, rfl⟩ ?_ ?_ (fun ke' _ _ => Or.inr (Or.inr (Or.inr (Or.inr (Or.inr (Or.inl ⟨?_, ?_, ?_, nv + k, by omega, ?_⟩))))))
            · rw [kF'.2 1 (by decide), show p + 3 + k = p + (3 + k) from by omega]; exact ewk
            · have := (tk (3 + k) (by omega)).2
              rw [show p + (3 + k) = p + 3 + k from by omega, show h + (3 + k) = h + 2 + 1 + k from by omega] at this
              exact this
            · rw [us, show p + 3 + k = p + (3 + k) from by omega]
              exact (mk (3 + k) (by omega)).2.2
            · rw [mSet_arr, u7', pk_us]
            · rw [w6, pk_us]
            · rw [mSet_arr, u8, w7, pk_us, pk_us]
            · rw [w7, pk_us]
          refine ih (k + 1) _ v' (by omega) (kF.tr uF2) (vF.tr w1) hR2 (mSet_same _ _ _) w3 nb2 (fun i hi => ?_) (fun i i1 i2 => ?_) (fun w hw => gk w (fun Q hq => ?_))
          · rw [mSet_arr, u5, u6, u7', u8, pk_un (by omega), pk_un (by omega), pk_un (by omega), pk_un (by omega)]
            exact kt i hi
          · rw [nb2] at i2
            rw [mSet_arr, u7']
            by_cases ei : i = nb + k
            · subst ei; rw [pk_us]
            · rw [pk_un ei]; exact kn5 i i1 (by omega)
          · obtain ⟨n, hn⟩ := hw Q hq
            refine ⟨n + 1, way Q n (dupM (n := n1) (by omega) (by omega) vke (fun _ => w9 _ _ _ Q ?_) (fun ⟨j, j1, j2⟩ => absurd j2 (noneM j j1)))⟩
            rw [show h + 2 + 1 + k + 1 = h + 3 + (k + 1) from by omega]
            exact hn
        · rintro _ rfl
          rw [nI_1]
          rw [e40] at s12
          obtain ⟨w, w1, w2, w3, w4⟩ := bindM0 (l := h + 2) (k := k) (nv := nv + k) (y := yk) (w := vk) (by omega) eck' (by omega) v14 s12
          refine errB _ _ u' ue (endE u' w uF' ue w1 w2 w3 (fun Q hq => ⟨2, way Q 1 (dupM (n := n1) (by omega) (by omega) vke (fun _ => w4 _ _ _ Q ?_) (fun ⟨j, j1, j2⟩ => absurd j2 (noneM j j1)))⟩))
          exact f156e w2 hq
      · rw [j3]
        refine ⟨fun zz => absurd zz (nI_pos (by omega)), fun _ => failA (by decide) (fun u' uF' ue => ?_)⟩
        rintro _ rfl
        rw [nI_1]
        have found : ∃ i, i < k ∧ vk.2 1 (h + 2 + 1 + i) = vk.2 1 (h + 2 + 1 + k) ∧ vk.2 2 (h + 2 + 1 + i) = vk.2 2 (h + 2 + 1 + k) := by
          refine ⟨j - (p + 3), by omega, ?_⟩
          obtain ⟨a1, a2⟩ := tk (3 + (j - (p + 3))) (by omega)
          obtain ⟨a3, a4⟩ := tk (3 + k) (by omega)
          rw [show p + (3 + (j - (p + 3))) = j from by omega] at a1 a2
          rw [show p + (3 + k) = p + 3 + k from by omega] at a3 a4
          rw [show h + 2 + 1 + (j - (p + 3)) = h + (3 + (j - (p + 3))) from by omega, show h + 2 + 1 + k = h + (3 + k) from by omega, ← a1, ← a2, ← a3, ← a4]
          exact ⟨j4, j5⟩
        refine errB _ _ u' ue (endE u' (mSet (mSet vk 12 3) 14 (nI (nv + k))) uF' ue (FR_set (FR_set FR.rf (by decide)) (by decide)) ?_ (mSet_same _ _ _) (fun Q hq => ⟨2, way Q 1 (dupM (n := n1) (by omega) (by omega) vke (fun zz => absurd found.choose_spec.2 (zz _ found.choose_spec.1)) (fun _ y' yF' ey' ye' => ?_))⟩))
        · rw [mSet_other (by decide : (12 : Nat) ≠ 14), mSet_same]; decide
        · subst ey'
          refine f262e (nv := nv + k) ye' (by rw [mSet_other (by decide : (14 : Nat) ≠ 12)]; exact v14) (f156e ?_ hq)
          rw [mSet_other (by decide : (12 : Nat) ≠ 14)]; exact ye'
  refine ⟨_, main N1 0 ub gb (by omega) FR.rf FR.rf hRb ?_ ?_ (by rw [nbA_fr ubF (by decide), hnb, Nat.add_zero]) (fun i hi => by rw [ubF.2 5 (by decide), ubF.2 6 (by decide), ubF.2 7 (by decide), ubF.2 8 (by decide)]; exact ⟨rfl, rfl, rfl, rfl⟩) (fun i i1 i2 => ?_) goB⟩
  · rw [Nat.add_zero]; exact (ubF.1 10 (by decide)).trans r3
  · rw [Nat.add_zero]; exact (gbF.1 14 (by decide)).trans r4
  · rw [nbA_fr ubF (by decide), hnb] at i2
    omega
