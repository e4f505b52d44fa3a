-- 96b: the use of rules
theorem keM_of {v : mS} {ke : Nat} (h : v.1 2 = nI ke) (hk : ke ≤ 3000) : keM v = ke := by unfold keM; rw [h, nI_clamp (by omega)]
theorem nbA_of {u : mS} {nb : Nat} (h : u.1 4 = nI nb) (hk : nb ≤ 3000) : nbA u = nb := by unfold nbA; rw [h, nI_clamp (by omega)]
theorem REL_lt {S A S' A' : List Nat} {u v u' v' : mS} {st c f st' c' f' ke' l m : Nat} (h : REL u v st c f) (hs : st ≤ st') (hc : c ≤ c') (c30 : c' ≤ 30) (hst : st' + 300 * f' ≤ 3000) (uF : FR S A u u') (vF : FR S' A' v v') (s : ∀ k ∈ [4, 9, 10], k ∉ S) (a : ∀ k ∈ [5, 6, 7, 8], k ∉ A) (s' : ∀ k ∈ [4, 5, 14], k ∉ S') (a' : ∀ k ∈ [7, 8, 9, 10, 11], k ∉ A') (e8 : u'.1 8 = nI c') (e13 : v'.1 13 = nI c') (e11 : u'.1 11 = nI f') (e15 : v'.1 15 = nI f') (e1 : u'.1 1 = nI st') (e2 : v'.1 2 = nI ke') (k1 : keM v ≤ ke') (k2 : ke' ≤ 3000) (hk : ∀ j, j < keM v → v'.2 3 j = v.2 3 j ∧ v'.2 4 j = v.2 4 j) (hw : ∀ x, x < st → u'.2 1 x = u.2 1 x ∧ u'.2 3 x = u.2 3 x ∧ (x < l ∨ l + m ≤ x → u'.2 2 x = u.2 2 x ∧ u'.2 4 x = u.2 4 x)) (hD : DJ u l (l + m)) : REL u' v' st' c' f' := by
  obtain ⟨nv, nb, b0, ke, q1, q2, q3, q4, r1, r2, r3, r4, r5, r6, r7, r8, r9, r10, r11, r12, r13, r14, r15⟩ := h
  rw [keM_of r13 r14] at k1 hk
  refine ⟨nv, nb, b0, ke', c30, q2, q3, q4, e8, e13, (uF.1 10 (s 10 (by decide))).trans r3, (vF.1 14 (s' 14 (by decide))).trans r4, e11, e15, (uF.1 4 (s 4 (by decide))).trans r7, (vF.1 4 (s' 4 (by decide))).trans r8, (vF.1 5 (s' 5 (by decide))).trans r9, (uF.1 9 (s 9 (by decide))).trans r10, e1, hst, e2, k2, fun i hi => ?_⟩
  obtain ⟨b1, b2, b3, b4⟩ := r15 i hi
  have f5 := uF.2 5 (a 5 (by decide))
  have f6 := uF.2 6 (a 6 (by decide))
  have f7 := uF.2 7 (a 7 (by decide))
  have f8 := uF.2 8 (a 8 (by decide))
  refine ⟨by rw [f5, vF.2 7 (a' 7 (by decide))]; exact b1, by rw [f6, vF.2 8 (a' 8 (by decide))]; exact b2, by rw [f6]; exact MB_le b3 hc, KDR_lt b4 hc hs (by omega) k1 e1 (fun x hx => ⟨(hw x hx).1, (hw x hx).2.1⟩) (fun L i7 i8 hL x x1 x2 x3 => ?_) hk (by rw [f5, f7, f8]; exact ⟨rfl, rfl, rfl⟩) (by rw [vF.2 9 (a' 9 (by decide)), vF.2 10 (a' 10 (by decide)), vF.2 11 (a' 11 (by decide))]; exact ⟨rfl, rfl, rfl⟩)⟩
  have := hD i L (by rw [nbA_of r7 (by omega)]; exact hi) i7 i8 hL
  exact (hw x x1).2.2 (by omega)
theorem TX_fr {S A S' A' : List Nat} {u v u' v' : mS} (h : TX u v) (h7 : u.1 7 = 0) (uF : FR S A u u') (vF : FR S' A' v v') (s : 6 ∉ S) (a : 9 ∉ A) (s' : 9 ∉ S') (a' : 19 ∉ A') (u7 : u'.1 7 = 0) (v12 : v'.1 12 = 0) : TX u' v' := by
  rcases h with ⟨-, -, L, l1, l2, l3, l4⟩ | ⟨q, -⟩
  · exact Or.inl ⟨u7, v12, L, l1, (uF.1 6 s).trans l2, (vF.1 9 s').trans l3, fun i hi => by rw [uF.2 9 a, vF.2 19 a']; exact l4 i hi⟩
  · exact absurd h7 q
theorem useX {X : Int32 → Int32 → mS → (mS → Prop) → Prop} {d : Nat} {v u g : mS} {p m N h st c f ar k : Nat} {post : mS → Prop} (hX : XOK X d) (hC : CTX u g p m N h st c f ar) (hd : 12 + f ≤ d + (ar + 1)) (har : ar ≤ 9) (hk : k < nbA u) (hk6 : u.2 7 k = 6) (go : ∀ w, (∀ Q : mS → Prop, Q w → wp_X9_use (nI k) g Q) → MGo v w ∧ MIN w) (fin : ∀ u' v', MGo v v' → RES u g u' v' p m h st c f → post u') : wp_X0_expandByRules X (nI p) (u.2 8 k) (nI ar) u post := by
  have hTX := CTX_tx hC
  obtain ⟨⟨hR, hE, hL, he, h11, -, ⟨⟨a2, b2, A1, A2, A3, A4, A5⟩, h26, hT, n2, hl⟩, hDJ⟩, u7, g10, hLI⟩ := hC
  obtain ⟨nv, nb, b0, ke, q1, q2, q3, q4, r1, r2, r3, r4, r5, r6, r7, r8, r9, r10, r11, r12, r13, r14, r15⟩ := id hR
  rw [nbA_of r7 (by omega)] at hk
  have h1 := hE.1
  obtain ⟨-, hE2, -, f8, ⟨ro, hro⟩, ke', e6, e7, e8, nb', e9, e10, e11⟩ := hE
  have ek : ke' = ke := by rw [r13, nI_eq (by omega) (by omega)] at e6; exact e6.symm
  subst ek
  have enb : nb' = nb := by rw [r8, nI_eq (by omega) (by omega)] at e9; exact e9.symm
  subst enb
  obtain ⟨o1, o2, o3, -⟩ := RO_tree hro hT h26 n2 (by rw [hLI.1]; decide)
  obtain ⟨-, -, -, hkd⟩ := r15 k hk
  have hkd' : g.2 9 k = 3 ∧ ∃ L nL N a b a1 b1, u.2 8 k = nI L ∧ g.2 10 k = nI a ∧ g.2 11 k = nI b ∧ RGN u g L nL N a b a1 b1 ∧ nL ≤ 310 ∧ b1 ≤ st ∧ b ≤ ke' ∧ ∀ j, a ≤ j → j < b → MB (g.2 4 j) c := by
    rcases hkd with ⟨z, -⟩ | ⟨z, -⟩ | ⟨z, -⟩ | ⟨z, -⟩ | ⟨z, -⟩ | ⟨z, -⟩ | ⟨-, z, zz⟩
    · rw [z] at hk6; exact absurd hk6 (by decide)
    · rw [z] at hk6; exact absurd hk6 (by decide)
    · rw [z] at hk6; exact absurd hk6 (by decide)
    · rw [z] at hk6; exact absurd hk6 (by decide)
    · rw [z] at hk6; exact absurd hk6 (by decide)
    · rw [z] at hk6; exact absurd hk6 (by decide)
    · exact ⟨z, zz⟩
  obtain ⟨g9, L, nL, N1, a, b, a1, b1, z1, z2, z3, z4, z5, z6, z7, z8⟩ := hkd'
  obtain ⟨a', b', y1, y2, y3, ⟨y4, ⟨N', y5, y6⟩, y7, y8⟩⟩ := e11 k hk g9
  have hbb := AR_b z4.1
  have hLb := z4.2.2.2.1
  have hnL0 := z4.2.2.2.2.1.2.1.1
  have hab := z4.2.2.2.2.2.2.2.2.2.1
  have tL : tl (ra u) L = nL := tl_eq z4.2.2.2.2.1.2.1
  have ab' : a' ≤ b' := by
    have := SQ_mono y5 (j := 0) (k := N') (by omega) (Nat.le_refl _)
    rw [y5.2] at this
    have n0 : nx (g.2 3) a' 0 = a' := rfl
    omega
  have ea : a' = a := by rw [z2, nI_eq (by omega) (by omega)] at y1; exact y1.symm
  have eb : b' = b := by rw [z3, nI_eq (by omega) (by omega)] at y2; exact y2.symm
  subst ea; subst eb
  have hdj := hDJ k L (by rw [nbA_of r7 (by omega)]; exact hk) hk6 z1 (by omega)
  rw [tL] at hdj
  rw [z1]
  have frx : ∀ (u' y : mS) (S : List Nat), FR S [1, 2, 3, 4, 10, 11, 12] u u' → (∀ k ∈ [4, 5], k ∉ S) → LOWM u u' st p m → (∃ t, u'.1 1 = nI t ∧ st ≤ t ∧ t ≤ 3000) → FR [1, 6, 7, 8, 12, 13, 15] [1, 2, 12, 13, 14, 15, 16, 17, 18] g y → FRX u g u' y p m st := by
    intro u' y S uF hS lo tt yF
    refine ⟨fun x hx => ?_, tt, ⟨Nat.le_of_eq (nbA_fr uF (hS 4 (by decide))).symm, fun i _ => by rw [uF.2 5 (by decide), uF.2 6 (by decide), uF.2 7 (by decide), uF.2 8 (by decide)]; exact ⟨rfl, rfl, rfl, rfl⟩⟩, ⟨Nat.le_of_eq (by unfold keM; rw [yF.1 2 (by decide)]), fun j _ => by rw [yF.2 3 (by decide), yF.2 4 (by decide)]; exact ⟨rfl, rfl⟩⟩, yF.2 6 (by decide), uF.1 5 (hS 5 (by decide))⟩
    obtain ⟨l1, l2, l3, l4⟩ := lo x hx
    exact ⟨l1, l2, fun q => ⟨l4 q, l3⟩⟩
  refine byRules (f := f) (c := c) (bi := k) (h := h) (m := m) (v := g) (N' := N') r5 r6 f8 r1 r2 q1 u7 he A1 A3 A4 (fun j hj => ⟨(hl j hj).1, (hl j hj).2.1⟩) h1 hT h26 o1 o2 o3 z4 z5 (by omega) (by omega) z2 z3 y5 (by omega) y6 y7 y8 hL.2.1 r11 z6 A5 r12 (fun _ => by omega) z8 (fun j hj => by rw [← (hl j hj).2.1]; exact (hl j hj).2.2) (fun u' y uF lo tt yF ue ye c8 c11 yg => ?_) (fun u' y k' f' ef k0 k3 kh c30 uF lo u7' uA uD u1 u8 u11 yF y12 y13 y15 y1' yT yn2 yl yK yDT yrow yg => ?_)
  · have yF' : FR [1, 6, 7, 8, 12, 13, 15] [1, 2, 12, 13, 14, 15, 16, 17, 18] g y := yF.wk (by decide) (by decide)
    obtain ⟨m1, m2⟩ := go y yg
    refine fin u' y m1 (RES_bad (frx u' y _ uF (by decide) lo tt yF') m2 ue ye ⟨c8, ?_, c11, ?_⟩)
    · rw [uF.1 10 (by decide), yF.1 14 (by decide), r3, r4]
    · rw [uF.1 9 (by decide), yF.1 4 (by decide), yF.1 5 (by decide), r10, r8, r9, pk_sub q4]
  · obtain ⟨m1, m2⟩ := go y yg
    subst ef
    have hRn : REL u' y (st + k') (c + 1) f' := REL_lt (l := p) (m := m) (ke' := ke') hR (by omega) (by omega) (by omega) (by omega) uF yF (by decide) (by decide) (by decide) (by decide) u8 y13 u11 y15 u1 ((yF.1 2 (by decide)).trans r13) (by rw [keM_of r13 r14]; exact Nat.le_refl _) r14 (fun j _ => by rw [yF.2 3 (by decide), yF.2 4 (by decide)]; exact ⟨rfl, rfl⟩) (fun x hx => by
      obtain ⟨l1, l2, l3, l4⟩ := lo x hx
      exact ⟨l1, l2, fun q => ⟨l4 q, l3⟩⟩) hDJ
    have nb' : nbA u' = nbA u := nbA_fr uF (by decide)
    have fx := frx u' y _ uF (by decide) lo ⟨st + k', u1, by omega, by omega⟩ yF
    have hpre : PRE u' y st k' (h + m - k') (st + k') (c + 1) f' ar := by
      refine ⟨hRn, MIN_E m2 y12 y1' (by omega) y15 (by omega), m2.1, y12, (yF.1 11 (by decide)).trans h11, Or.inl ⟨(yF.1 10 (by decide)).trans g10, TX_fr hTX u7 uF yF (by decide) (by decide) (by decide) (by decide) u7' y12⟩, ⟨⟨st, st + k', uA, uD, Nat.le_refl _, Nat.le_refl _, Nat.le_refl _⟩, by omega, yT, yn2, yl⟩, fun i L' i1 i7 i8 hL' => ?_⟩
      · rw [nb'] at i1
        rw [uF.2 7 (by decide)] at i7
        rw [uF.2 8 (by decide)] at i8
        obtain ⟨t1, t2⟩ := REL_reg hR i i1 i7 L' i8 hL'
        have : tl (ra u') L' = tl (ra u) L' := tl_eq (TL_copy (r := ra u) (i := L') (fun j hj => by
          show kd (tr (u'.2 1 (L' + j))) = kd (tr (u.2 1 (L' + j)))
          rw [(lo (L' + j) (by omega)).1]) t1)
        rw [this]
        exact Or.inl t2
    refine hX u' y st k' (h + m - k') (st + k') (c + 1) f' ar post (by omega) (by omega) hpre (fun u'' v'' gg hr => fin u'' v'' (m1.tr gg) ?_)
    exact RES_tr fx (by omega) (by omega) (by omega) (fun _ => Nat.le_refl _) (fun _ => Nat.le_refl _) (by omega) (yF.1 11 (by decide)) yrow (fun i i1 i2 => by omega) (REL_reg hRn) hr
