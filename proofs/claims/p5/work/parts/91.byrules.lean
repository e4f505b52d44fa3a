-- 91: the class's use of rules up to its expansion, against the reference's use
/-- of the class's row: below st all is as it was but the marks of [l, l + m) -/
def LOWM (a u : mS) (st l m : Nat) : Prop := ∀ x, x < st → u.2 1 x = a.2 1 x ∧ u.2 3 x = a.2 3 x ∧ u.2 4 x = a.2 4 x ∧ (x < l ∨ l + m ≤ x → u.2 2 x = a.2 2 x)
theorem LOWM_fr {S A : List Nat} {a u : mS} {st l m : Nat} (h : FR S A a u) (h1 : (1 : Nat) ∉ A) (h3 : (3 : Nat) ∉ A) (h4 : (4 : Nat) ∉ A) (h2 : ∀ x, x < l ∨ l + m ≤ x → u.2 2 x = a.2 2 x) : LOWM a u st l m := fun x _ => ⟨by rw [h.2 1 h1], by rw [h.2 3 h3], by rw [h.2 4 h4], fun q => h2 x q⟩
theorem LOWM_low {a u w : mS} {st l m : Nat} (h : LOWM a u st l m) (g : LOW u w st) : LOWM a w st l m := fun x hx => ⟨(g x hx).1.trans (h x hx).1, (g x hx).2.2.1.trans (h x hx).2.1, (g x hx).2.2.2.trans (h x hx).2.2.1, fun q => (g x hx).2.1.trans ((h x hx).2.2.2 q)⟩
theorem byRules {X : Int32 → Int32 → mS → (mS → Prop) → Prop} {u v : mS} {lA m h f c bi a b N N' L nL a1 b1 a2 b2 st : Nat} {x3 : Int32} {post : mS → Prop} (u11 : u.1 11 = nI f) (v15 : v.1 15 = nI f) (f8 : f ≤ 8) (u8 : u.1 8 = nI c) (v13 : v.1 13 = nI c) (c30 : c ≤ 30) (u7 : u.1 7 = 0) (v12 : v.1 12 = 0) (hA2 : AR u a2 b2) (hal : a2 ≤ lA) (hlb : lA + m ≤ b2) (hlist : ∀ j, j < m → ra u (lA + j) = v.2 1 (h + j) ∧ u.2 2 (lA + j) = v.2 2 (h + j)) (hh : v.1 1 = nI h) (hT : TL (v.2 1) h m) (hl : h + m ≤ 2600) (hm : m ≤ 310) (htok : ∀ j, h ≤ j → j < h + m → TOK (v.2 1 j)) (hdt : DTS (v.2 1) h (h + m)) (hR : RGN u v L nL N a b a1 b1) (hnL : nL ≤ 310) (hdis : L + nL ≤ lA ∨ lA + m ≤ L) (hbi : bi < 40) (hfr : v.2 10 bi = nI a) (hto : v.2 11 bi = nI b) (hS : SQ (v.2 3) a b N') (hb : b ≤ 3200) (hRu : ∀ k, k < N' → RUL (v.2 3) (v.2 4) (nx (v.2 3) a k)) (hTk : ∀ j, a ≤ j → j < b → TOK (v.2 3 j)) (hDk : DTS (v.2 3) a b) (hRD : RD3 v) (u1 : u.1 1 = nI st) (hb1 : b1 ≤ st) (hb2 : b2 ≤ st) (hst : st + 300 * f ≤ 3000) (room : 0 < f → 300 ≤ h + m) (hP4 : ∀ j, a ≤ j → j < b → MB (v.2 4 j) c) (hP2 : ∀ j, j < m → MB (v.2 2 (h + j)) c)
    (hE : ∀ u' y, FR [1, 2, 7, 8, 11, 12, 13, 14, 15] [1, 2, 3, 4, 10, 11, 12] u u' → LOWM u u' st lA m → (∃ t, u'.1 1 = nI t ∧ st ≤ t ∧ t ≤ 3000) → FR [6, 7, 8, 12, 13, 15] [2, 12, 13, 14, 15, 16, 17, 18] v y → ¬ u'.1 7 = 0 → ¬ y.1 12 = 0 → u'.1 8 = y.1 13 → u'.1 11 = y.1 15 → (∀ Q : mS → Prop, Q y → wp_X9_use (nI bi) v Q) → post u')
    (hO : ∀ u' y k f', f = f' + 1 → 0 < k → k ≤ 300 → k ≤ h + m → c < 30 → FR [1, 2, 8, 11, 12, 13, 14, 15] [1, 2, 3, 4, 10, 11, 12] u u' → LOWM u u' st lA m → u'.1 7 = 0 → AR u' st (st + k) → DR (ra u') st (st + k) → u'.1 1 = nI (st + k) → u'.1 8 = nI (c + 1) → u'.1 11 = nI f' → FR [1, 6, 7, 8, 12, 13, 15] [1, 2, 12, 13, 14, 15, 16, 17, 18] v y → y.1 12 = 0 → y.1 13 = nI (c + 1) → y.1 15 = nI f' → y.1 1 = nI (h + m - k) → TL (y.2 1) (h + m - k) k → ¬ kd (y.2 1 (h + m - k)) = 2 → (∀ j, j < k → ra u' (st + j) = y.2 1 (h + m - k + j) ∧ u'.2 2 (st + j) = y.2 2 (h + m - k + j) ∧ MB (u'.2 2 (st + j)) (c + 1)) → (∀ j, h + m - k ≤ j → j < h + m → TOK (y.2 1 j)) → DTS (y.2 1) (h + m - k) (h + m) → (∀ l, h + m ≤ l → y.2 1 l = v.2 1 l ∧ y.2 2 l = v.2 2 l) → (∀ Q : mS → Prop, Q y → wp_X9_use (nI bi) v Q) → X (nI st) x3 u' post) : wp_X0_expandByRules X (nI lA) (nI L) x3 u post := by
  have m0 := hT.1
  have hb2' := AR_b hA2
  have hTA : TL (ra u) lA m := TL_copy (r := v.2 1) (i := h) (fun j hj => by rw [(hlist j hj).1]) hT
  intro y1 e1
  rw [u11] at e1; subst e1
  cases f with
  | zero =>
    refine ⟨fun q => (Int32.lt_irrefl q).elim, fun _ => ?_⟩
    obtain ⟨y, yF, ye, go⟩ := useM_fuel (bi := bi) v15
    exact failA (by decide) (fun w wF we => hE w y (wF.wk (by decide) (by decide)) (LOWM_fr wF (by decide) (by decide) (by decide) (fun x _ => by rw [wF.2 2 (by decide)])) ⟨st, (wF.1 1 (by decide)).trans u1, Nat.le_refl _, by omega⟩ (yF.wk (by decide) (by decide)) we ye (by rw [wF.1 8 (by decide), yF.1 13 (by decide), u8, v13]) (by rw [wF.1 11 (by decide), yF.1 15 (by decide), u11, v15]) go)
  | succ f =>
    have e0 : (0 : Int32) < nI (f + 1) := by
      rw [show (0 : Int32) = nI 0 from rfl, nI_ltI (by omega) (by omega)]; omega
    refine ⟨fun _ => ?_, fun q => absurd e0 q⟩
    intro y3 e3
    rw [u11] at e3; subst e3
    rintro _ rfl _ rfl
    rw [nI_pred]
    have uF0 : FR [11] [] u (mSet u 11 (nI f)) := FR_set FR.rf (by decide)
    have u11' : (mSet u 11 (nI f)).1 11 = nI f := mSet_same _ _ _
    refine newScopeA (c := c) ((uF0.1 8 (by decide)).trans u8) c30 (fun lt w wF w8 => ⟨fun _ => ?_, fun q => absurd (nI_pos' (by omega)) q⟩) (fun e30 w wF we => ⟨fun q => absurd q (by decide), fun _ => ?_⟩)
    · have uwF : FR [8, 11] [] u w := (uF0.wk (by decide) (by decide)).tr (wF.wk (by decide) (by decide))
      have w11 : w.1 11 = nI f := (wF.1 11 (by decide)).trans u11'
      have wr : ra w = ra u := ra_fr (uwF.2 1 (by decide))
      refine turnA (AR_fr hA2 (uwF.1 1 (by decide)) (uwF.2 1 (by decide)) (uwF.2 3 (by decide))) hal (by omega) (fun x xF x2 => ?_)
      rw [bit_sc lt, wr, tl_eq hTA, uwF.2 2 (by decide)] at x2
      have uxF : FR [8, 11] [2] u x := (uwF.wk (by decide) (by decide)).tr (xF.wk (by decide) (by decide))
      have hP : ∀ k, k < N' → ∃ n N'' t, PC (v.2 3) (nx (v.2 3) a k + 1) n N'' t ∧ nx (v.2 3) a k + 1 + n ≤ 3200 := by
        intro k hk
        obtain ⟨c2, cT⟩ := hS.1 k hk
        have k2 := SQ_mono hS (j := k + 1) (k := N') (by omega) (Nat.le_refl N')
        have k0 := SQ_mono hS (j := 0) (k := k) (by omega) (by omega)
        have ea : nx (v.2 3) a 0 = a := rfl
        have e1 : nx (v.2 3) a (k + 1) = nx (v.2 3) a k + tl (v.2 3) (nx (v.2 3) a k) := rfl
        have eN := hS.2
        obtain ⟨n1, m1, ⟨N1, t1, hPC⟩, -, -, hlen, -⟩ := RUL_parts (hRu k hk) cT (a := a) (b := b) (by omega) (by omega) hTk hDk
        exact ⟨n1, N1, t1, hPC, by omega⟩
      obtain ⟨k, z, kN, zF, z15, z13, z2, zno, zyes, zgo⟩ := useM_way v15 (by omega) v13 lt v12 hh hT hl hm hbi hfr hto hS hb hP
      have xr : ra x = ra u := ra_fr (uxF.2 1 (by decide))
      have xR : RGN x v L nL N a b a1 b1 := RGN_mk hR (uxF.1 1 (by decide)) (uxF.2 1 (by decide)) (uxF.2 3 (by decide)) (uxF.2 4 (by decide)) (fun y y1 y2 => by rw [x2, tnF_out (by omega)])
      have z1 : z.2 1 = v.2 1 := zF.2 1 (by decide)
      have z3 : z.2 3 = v.2 3 := zF.2 3 (by decide)
      have z4 : z.2 4 = v.2 4 := zF.2 4 (by decide)
      have xlist : ∀ j, j < m → ra x (lA + j) = z.2 1 (h + j) ∧ x.2 2 (lA + j) = z.2 2 (h + j) := by
        intro j hj
        obtain ⟨g1, g2⟩ := hlist j hj
        rw [xr, z1, x2, z2, tnF_in (by omega) (by omega), tnF_in (by omega) (by omega), g1, g2]
        exact ⟨rfl, rfl⟩
      obtain ⟨eN, all⟩ := rgn_sq xR hS
      have hTx : TL (ra x) lA m := by rw [xr]; exact hTA
      have xA2 : AR x a2 b2 := AR_fr hA2 (uxF.1 1 (by decide)) (uxF.2 1 (by decide)) (uxF.2 3 (by decide))
      have mt : ∀ j, j < N' → (MT (ra x) (ra x) (MXX (ra x) (ra x)) 1 (it (ra x) L (j + 1) + 1) lA ↔ MT (v.2 3) (v.2 1) (MXX (v.2 3) (v.2 1)) 1 (nx (v.2 3) a j + 1) h) := fun j hj => rgn_mt xR hS hj hTx (fun i hi => by rw [(xlist i hi).1, z1])
      have xR' := xR
      obtain ⟨g1, gD, g3, g4, gL, g6, gN, gk3, g9, g10, g11⟩ := xR'
      refine ruleA g1 gD xA2 gL g6 gN gk3 g3 g4 hTx hal hlb hm (fun k k0 kN => (g9 k k0 kN).1) (fun kk y kk0 kkN yF yno yyes => ⟨fun _ => ?_, fun q => absurd (nI_pos' ?_) q⟩) (fun y yF yno => ⟨fun q => absurd q (by decide), fun _ => ?_⟩)
      · have ek : kk = k + 1 := by
          obtain ⟨j, rfl⟩ : ∃ j, kk = j + 1 := ⟨kk - 1, by omega⟩
          rcases Nat.lt_trichotomy j k with q | q | q
          · exact absurd ((mt j (by omega)).mp yyes) (zno j q)
          · omega
          · exact absurd ((mt k (by omega)).mpr (zyes (by omega))) (yno (k + 1) (by omega) (by omega))
        subst ek
        have kN' : k < N' := by omega
        obtain ⟨c2, cT⟩ := hS.1 k kN'
        have k2 := SQ_mono hS (j := k + 1) (k := N') (by omega) (Nat.le_refl N')
        have k0 := SQ_mono hS (j := 0) (k := k) (by omega) (by omega)
        have ea : nx (v.2 3) a 0 = a := rfl
        have en1 : nx (v.2 3) a (k + 1) = nx (v.2 3) a k + tl (v.2 3) (nx (v.2 3) a k) := rfl
        have eNb := hS.2
        obtain ⟨n1, m1, hGX, hlen, hn1, hm1⟩ := fgx_of (P := fun s => MB s (c + 1)) (v := v) (z := z) (a := a) (b := b) (hRu k kN') cT (by omega) (by omega) hb hTk hDk z1 z3 z4 hT hl hm htok hdt (zyes kN') (fun j j1 j2 => MB_le (hP4 j j1 j2) (by omega)) (fun j hj => by
          rw [z2, tnF_in (by omega) (by omega)]
          split
          · exact MB_xor (MB_le (hP2 j hj) (by omega))
          · exact MB_le (hP2 j hj) (by omega))
        have hAG := fag_of (z := z) xR hS kN' z3 z4 xA2 hal hlb xlist hn1 hm1
        have ylow : LOW x y st := LOW_fr yF (by decide) (by decide) (by decide) (by decide)
        have uyF : FR [8, 11, 15] [2, 10, 11, 12] u y := (uxF.wk (by decide) (by decide)).tr (yF.wk (by decide) (by decide))
        have y1 : y.1 1 = nI st := (uyF.1 1 (by decide)).trans u1
        have hAGy := FAG_low hGX.1 hAG hb1 hb2 ylow ⟨st, y1, Nat.le_refl _, by omega⟩
        have y8 : y.1 8 = nI (c + 1) := (yF.1 8 (by decide)).trans ((xF.1 8 (by decide)).trans w8)
        have y11 : y.1 11 = nI f := (yF.1 11 (by decide)).trans ((xF.1 11 (by decide)).trans w11)
        have ylm : LOWM u y st lA m := LOWM_fr uyF (by decide) (by decide) (by decide) (fun i hi => by rw [yF.2 2 (by decide), x2, tnF_out hi])
        have zh : z.1 1 = nI h := (zF.1 1 (by decide)).trans hh
        have zto : z.2 11 bi = nI b := by rw [zF.2 11 (by decide)]; exact hto
        refine fillAM hGX (by omega) (RD3_fr hRD zF (by decide)) ((zF.1 12 (by decide)).trans v12) hAGy y1 hb1 hb2 (by omega) ((uyF.1 7 (by decide)).trans u7) (fun p w k' k'0 k'3 pF p7 pL pA p1 pt wF wR we w6 wT wn2 wK wD go => ?_) (fun p w pF pL p7 p1 wF wR we go => ?_)
        · intro y16 e16
          rw [p7] at e16
          refine ⟨fun _ => ?_, fun q => absurd e16 q⟩
          have pT : TL (ra p) st k' := TL_copy (r := w.2 12) (i := 0) (fun j hj => by rw [(pt j hj).1, Nat.zero_add]) wT
          refine turnA pA (Nat.le_refl _) (by omega) (fun t tF t2 => ?_)
          rw [bit_sc lt, tl_eq pT] at t2
          obtain ⟨o, oF, o1, o2, o3, ogo⟩ := useM_fin (bi := bi) (b := b) (i := nx (v.2 3) a k) (h := h) (m := m) (c := k') (bit := nI (2 ^ c)) (z := z) (w := w) hbi zto (by omega) hb zh go we w6 k'3 (by have := room (by omega); omega) hl
          have hk' : k' ≤ h + m := by have := room (by omega); omega
          have rt : ra t = ra p := ra_fr (tF.2 1 (by decide))
          have uF : FR [1, 2, 8, 11, 12, 13, 14, 15] [1, 2, 3, 4, 10, 11, 12] u t := ((uyF.wk (by decide) (by decide)).tr (pF.wk (by decide) (by decide))).tr (tF.wk (by decide) (by decide))
          have tok : ∀ j, j < k' → o.2 1 (h + m - k' + j) = w.2 12 j := fun j hj => (o2 j hj).1
          refine hO t o k' f rfl k'0 k'3 hk' lt uF ?_ ((tF.1 7 (by decide)).trans p7) (AR_fr pA (tF.1 1 (by decide)) (tF.2 1 (by decide)) (tF.2 3 (by decide))) ?_ ((tF.1 1 (by decide)).trans p1) ?_ ?_ ?_ ?_ ?_ ?_ o1 ?_ ?_ ?_ ?_ ?_ ?_ (fun Q q => zgo Q (ogo Q q))
          · refine LOWM_low (LOWM_low ylm pL) (fun i hi => ⟨by rw [tF.2 1 (by decide)], ?_, by rw [tF.2 3 (by decide)], by rw [tF.2 4 (by decide)]⟩)
            rw [t2, tnF_out (by omega)]
          · intro i i1 i2 i6
            rw [rt] at i6 ⊢
            have q1 := (pt (i - st) (by omega)).1
            rw [show st + (i - st) = i from by omega] at q1
            rw [q1] at i6
            obtain ⟨d0, d1, d2⟩ := wD (i - st) (by omega) i6
            have q2 := (pt (i - st - 1) (by omega)).1
            rw [show st + (i - st - 1) = i - 1 from by omega] at q2
            rw [q2]
            exact ⟨by omega, d1, d2⟩
          · exact (tF.1 8 (by decide)).trans ((pF.1 8 (by decide)).trans y8)
          · exact (tF.1 11 (by decide)).trans ((pF.1 11 (by decide)).trans y11)
          · exact ((zF.wk (by decide) (by decide)).tr (wF.wk (by decide) (by decide))).tr (oF.wk (by decide) (by decide))
          · exact (oF.1 12 (by decide)).trans we
          · exact (oF.1 13 (by decide)).trans ((wF.1 13 (by decide)).trans z13)
          · exact (oF.1 15 (by decide)).trans ((wF.1 15 (by decide)).trans z15)
          · exact TL_copy (r := w.2 12) (i := 0) (fun j hj => by rw [tok j hj, Nat.zero_add]) wT
          · have := tok 0 k'0
            rw [Nat.add_zero] at this
            rw [this]; exact wn2
          · intro j hj
            obtain ⟨q1, q2, q3⟩ := pt j hj
            obtain ⟨r1, r2⟩ := o2 j hj
            rw [rt, t2, r1, r2, tnF_in (by omega) (by omega), tnF_in (by omega) (by omega), q1, ← q2]
            refine ⟨rfl, rfl, ?_⟩
            split
            · exact MB_xor q3
            · exact q3
          · intro j j1 j2
            have := tok (j - (h + m - k')) (by omega)
            rw [show h + m - k' + (j - (h + m - k')) = j from by omega] at this
            rw [this]
            exact wK _ (by omega)
          · intro j j1 j2 j6
            have q1 := tok (j - (h + m - k')) (by omega)
            have q2 := tok (j - (h + m - k') - 1) (by omega)
            rw [show h + m - k' + (j - (h + m - k')) = j from by omega] at q1
            rw [show h + m - k' + (j - (h + m - k') - 1) = j - 1 from by omega] at q2
            rw [q1] at j6
            rw [q2]
            exact (wD _ (by omega) j6).2
          · intro l hl'
            obtain ⟨r1, r2⟩ := o3 l (Or.inr hl')
            rw [r1, r2, wF.2 1 (by decide), wF.2 2 (by decide), z1, z2, tnF_out (Or.inr hl')]
            exact ⟨rfl, rfl⟩
        · intro y16 e16
          refine ⟨fun q => absurd (e16.symm.trans q) p7, fun _ => ?_⟩
          refine hE p w ((uyF.wk (by decide) (by decide)).tr (pF.wk (by decide) (by decide))) (LOWM_low ylm pL) p1 ((zF.wk (by decide) (by decide)).tr (wF.wk (by decide) (by decide))) p7 we ?_ ?_ (fun Q q => zgo Q (useM_bad hbi zto (by omega) hb zh go we Q q))
          · rw [pF.1 8 (by decide), y8, wF.1 13 (by decide), z13]
          · rw [pF.1 11 (by decide), y11, wF.1 15 (by decide), z15]
      · have := (LI_at gL (k := kk) (by omega)).2.1
        have := AR_b g1
        omega
      · have ek : k = N' := by
          rcases Nat.lt_or_ge k N' with q | q
          · exact absurd ((mt k q).mpr (zyes q)) (yno (k + 1) (by omega) (by omega))
          · omega
        subst ek
        have zto : z.2 11 bi = nI b := by rw [zF.2 11 (by decide)]; exact hto
        obtain ⟨o, oF, oe, ogo⟩ := useM_none (bi := bi) (b := b) (h := h) (m := m) (bit := nI (2 ^ c)) (z := z) hbi zto
        have uyF : FR [8, 11, 15] [2, 10, 11, 12] u y := (uxF.wk (by decide) (by decide)).tr (yF.wk (by decide) (by decide))
        refine failA (by decide) (fun p pF pe => hE p o ((uyF.wk (by decide) (by decide)).tr (pF.wk (by decide) (by decide))) (LOWM_fr ((uyF.wk (by decide) (by decide)).tr (pF.wk (by decide) (by decide)) : FR [7, 8, 11, 15] [2, 10, 11, 12] u p) (by decide) (by decide) (by decide) (fun i hi => by rw [pF.2 2 (by decide), yF.2 2 (by decide), x2, tnF_out hi])) ⟨st, (pF.1 1 (by decide)).trans ((uyF.1 1 (by decide)).trans u1), Nat.le_refl _, by omega⟩ ((zF.wk (by decide) (by decide)).tr (oF.wk (by decide) (by decide))) pe oe ?_ ?_ (fun Q q => zgo Q ?_))
        · rw [pF.1 8 (by decide), yF.1 8 (by decide), xF.1 8 (by decide), w8, oF.1 13 (by decide), z13]
        · rw [pF.1 11 (by decide), yF.1 11 (by decide), xF.1 11 (by decide), w11, oF.1 15 (by decide), z15]
        · rw [hS.2]; exact ogo Q q
    · subst e30
      obtain ⟨o, oF, o15, oe, ogo⟩ := useM_scope (bi := bi) v15 (by omega) v13
      have uwF : FR [7, 11] [] u w := (uF0.wk (by decide) (by decide)).tr (wF.wk (by decide) (by decide))
      refine hE w o (uwF.wk (by decide) (by decide)) (LOWM_fr uwF (by decide) (by decide) (by decide) (fun i _ => by rw [uwF.2 2 (by decide)])) ⟨st, (uwF.1 1 (by decide)).trans u1, Nat.le_refl _, by omega⟩ (oF.wk (by decide) (by decide)) we oe ?_ ?_ ogo
      · rw [uwF.1 8 (by decide), u8, oF.1 13 (by decide), v13]
      · rw [wF.1 11 (by decide), u11', o15]
