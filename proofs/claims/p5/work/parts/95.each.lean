-- 95: results put together; the end of a list; a list expanded item by item
theorem RES_tr {u g u0 v0 u' v' : mS} {p m h st c f p' m' h' st0 c0 f0 : Nat} (hF : FRX u g u0 v0 p m st) (hs : st ≤ st0) (hc : c ≤ c0) (hf : f0 ≤ f) (h1 : p' < p → st ≤ p') (h2 : p + m < p' + m' → st ≤ p') (hh : h' + m' = h + m) (hd : v0.1 11 = g.1 11) (hr : ∀ l, h + m ≤ l → v0.2 1 l = g.2 1 l ∧ v0.2 2 l = g.2 2 l) (hN : NEWR u u0 p m st) (hreg : ∀ i, i < nbA u0 → u0.2 7 i = 6 → ∀ L, u0.2 8 i = nI L → L < 3000 → TL (ra u0) L (tl (ra u0) L) ∧ L + tl (ra u0) L ≤ st0) (hR : RES u0 v0 u' v' p' m' h' st0 c0 f0) : RES u g u' v' p m h st c f := by
  obtain ⟨r1, r2, r3⟩ := hR
  refine ⟨hF.tr r1 hs h1 h2, r2, ?_⟩
  rcases r3 with r3 | ⟨st', c', f', w1, w2, w3, w4, w5, w6, w7, w8, w9, w10, w11, w12⟩
  · exact Or.inl r3
  · refine Or.inr ⟨st', c', f', w1, w2, w3, by omega, by omega, by omega, w7, by rw [← hh]; exact w8, w9.trans hd, w10, fun l hl => ?_, fun i i1 i2 i7 => ?_⟩
    · obtain ⟨y1, y2⟩ := w11 l (by omega)
      obtain ⟨y3, y4⟩ := hr l hl
      exact ⟨y1.trans y3, y2.trans y4⟩
    · rcases Nat.lt_or_ge i (nbA u0) with q | q
      · obtain ⟨x1, -, ⟨-, r6⟩, -⟩ := id r1
        obtain ⟨-, -, y7, y8⟩ := r6 i q
        rw [y7] at i7
        obtain ⟨L, l1, l2, l3⟩ := hN i i1 q i7
        refine ⟨L, y8.trans l1, l2, ?_⟩
        obtain ⟨t1, t2⟩ := hreg i q i7 L l1 l2
        have : tl (ra u') L = tl (ra u0) L := tl_eq (TL_copy (r := ra u0) (i := L) (fun j hj => by
          show kd (tr (u'.2 1 (L + j))) = kd (tr (u0.2 1 (L + j)))
          rw [(x1 (L + j) (by omega)).1]) t1)
        rw [this]
        exact l3
      · obtain ⟨L, l1, l2, l3⟩ := w12 i q i2 i7
        refine ⟨L, l1, l2, ?_⟩
        have t0 : p' < p ∨ p ≤ p' := by omega
        rcases t0 with z | z
        · have := h1 z; omega
        · rcases Nat.lt_or_ge (p + m) (p' + m') with z2 | z2
          · have := h2 z2; omega
          · omega
theorem FRX_AR {u v u' v' : mS} {a b p n st : Nat} (hA : AR u a b) (hb : b ≤ st) (hF : FRX u v u' v' p n st) : AR u' a b ∧ (∀ i, a ≤ i → i < b → tl (ra u') i = tl (ra u) i) ∧ ∀ x, x < st → ra u' x = ra u x := by
  obtain ⟨a1, ⟨T, t1, t2, t3⟩, -⟩ := hF
  obtain ⟨z1, z2⟩ := AR_lt hA hb t1 t2 t3 (fun x hx => ⟨(a1 x hx).1, (a1 x hx).2.1⟩)
  refine ⟨z1, z2, fun x hx => ?_⟩
  show tr (u'.2 1 x) = tr (u.2 1 x)
  rw [(a1 x hx).1]
theorem REL_top {u v : mS} {st c f : Nat} (h : REL u v st c f) : u.1 1 = nI st ∧ st + 300 * f ≤ 3000 ∧ v.1 15 = nI f ∧ u.1 11 = nI f := by
  obtain ⟨nv, nb, b0, ke, k1, k2, k3, k4, e1, e2, e3, e4, e5, e6, e7, e8, e9, e10, e11, e12, -⟩ := h
  exact ⟨e11, e12, e6, e5⟩
theorem FRX_M {S A : List Nat} {u v w u' v' : mS} {p n st : Nat} (hF : FRX u w u' v' p n st) (h : FR S A v w) (s : 2 ∉ S) (a : ∀ k ∈ [3, 4, 6], k ∉ A) : FRX u v u' v' p n st := by
  obtain ⟨a1, a2, a3, ⟨a4, a5⟩, a6, a7⟩ := hF
  have e2 : keM w = keM v := by unfold keM; rw [h.1 2 s]
  rw [e2] at a4 a5
  rw [h.2 3 (a 3 (by decide)), h.2 4 (a 4 (by decide))] at a5
  exact ⟨a1, a2, a3, ⟨a4, a5⟩, a6.trans (h.2 6 (a 6 (by decide))), a7⟩
/-- the end of a list: the class has put what the reference puts at the list's last token -/
theorem endX {u0 v0 uk vk u' w : mS} {p m h st0 c0 f0 ar : Nat} (hS : STG u0 v0 uk vk p m h st0 c0 f0 (ar + 1) (h + m - 1)) (m0 : 0 < m) (h26 : h + m ≤ 2600) (uF : FR [6, 7] [9] uk u') (hT : TX u' w) (wF : FR [1, 9, 10, 11, 12] [19] vk w) (w1 : w.1 1 = nI (h + m)) (w11 : w.1 11 = nI ar) (w10 : w.1 10 = 1) (go : ∀ Q : mS → Prop, Q w → wp_X9_step vk Q) : MGo vk w ∧ RES u0 (mSet v0 11 (nI ar)) u' w p m h st0 c0 f0 := by
  obtain ⟨st, c, f, g1, g2, g3, g4, g5, g6, g7, g8, g9, g10, g11, g12⟩ := hS
  obtain ⟨x1, x2⟩ := stepGo g6 g5 g7 (by omega) go
  obtain ⟨t1, t2, t3, t4⟩ := REL_top g1
  have hR' : REL u' w st c f := REL_fr g1 uF wF (by decide) (by decide) (by decide) (by decide)
  have f1 : FRX u0 v0 u' w p m st0 := g11.tr (FRX_rf (p := p) (n := m) uF wF (by decide) (by decide) (by decide) (by decide) t1 (by omega)) g2 (fun q => by omega) (fun q => by omega)
  refine ⟨x1, FRX_M (S := [11]) (A := []) (v := mSet v0 11 (nI ar)) f1 ⟨fun k hk => (mSet_other (fun q => hk (by rw [q]; decide))).symm, fun _ _ => rfl⟩ (by decide) (by decide), x2, ?_⟩
  rcases hT with ⟨q1, q2, q3⟩ | ⟨q1, q2⟩
  · refine Or.inr ⟨st, c, f, Or.inl ⟨q1, q2, q3⟩, q1, q2, g2, g3, g4, hR', w1, w11.trans (mSet_same _ _ _).symm, w10, fun l hl => ?_, fun i i1 i2 i7 => ?_⟩
    · rw [wF.2 1 (by decide), wF.2 2 (by decide)]
      exact g9 l (by omega)
    · rw [nbA_fr uF (by decide)] at i2
      rw [uF.2 7 (by decide)] at i7
      obtain ⟨L, l1, l2, l3⟩ := g12 i i1 i2 i7
      rw [uF.2 8 (by decide), ra_fr (uF.2 1 (by decide))]
      exact ⟨L, l1, l2, by omega⟩
  · exact Or.inl ⟨q1, q2, REL_CN hR'⟩
theorem closeX {u0 v0 uk vk : mS} {p m h st0 c0 f0 ar : Nat} (hS : STG u0 v0 uk vk p m h st0 c0 f0 (ar + 1) (h + m - 1)) (m0 : 0 < m) (h26 : h + m ≤ 2600) (hT : TX uk vk) (hk : kd (v0.2 1 (h + m - 1)) = 2) (har : ar ≤ 10) : ∃ w, MGo vk w ∧ RES u0 (mSet v0 11 (nI ar)) (pA 41 uk) w p m h st0 c0 f0 := by
  have hS' := hS
  obtain ⟨st, c, f, g1, g2, g3, g4, g5, g6, g7, g8, g9, g10, g11, g12⟩ := hS'
  have h1 := g6.1
  have kk : kd (vk.2 1 (h + m - 1)) = 2 := by rw [(g9 _ (Nat.le_refl _)).1]; exact hk
  obtain ⟨w, ew⟩ : ∃ w, w = mSet (mSet (mSet (pM 41 vk) 10 1) 11 (nI ar)) 1 (nI (h + m)) := ⟨_, rfl⟩
  have wF : FR [1, 9, 10, 11, 12] [19] vk w := by
    rw [ew]
    exact FR_set (FR_set (FR_set (pM_fr.wk (by decide) (by decide)) (by decide)) (by decide)) (by decide)
  refine ⟨w, endX (w := w) hS m0 h26 pA_fr ?_ wF ?_ ?_ ?_ (fun Q q => stepM6 h1 (by omega) (Or.inl kk) ?_)⟩
  · rw [ew]; exact TX_put hT
  · rw [ew, mSet_same]
  · rw [ew, mSet_other (by decide : (11 : Nat) ≠ 1), mSet_same]
  · rw [ew, mSet_other (by decide : (10 : Nat) ≠ 1), mSet_other (by decide : (10 : Nat) ≠ 11), mSet_same]
  · rw [kk]
    refine s47_2 g7 ⟨fun q => absurd rfl q, fun _ => put_M (TX_M hT) ?_⟩
    rintro _ rfl y34 e34
    rw [mSet_other (by decide : (11 : Nat) ≠ 10), pM_fr.1 11 (by decide), g8] at e34; subst e34
    rintro _ rfl _ rfl
    rw [nI_pred]
    intro y37 e37
    rw [mSet_other (by decide : (1 : Nat) ≠ 11), mSet_other (by decide : (1 : Nat) ≠ 10), pM_fr.1 1 (by decide), h1] at e37; subst e37
    rintro _ rfl _ rfl
    rw [nI_1, show h + m - 1 + 1 = h + m from by omega, ← ew]
    exact q
theorem leaveX {u0 v0 uk vk : mS} {p m h st0 c0 f0 ar : Nat} (hS : STG u0 v0 uk vk p m h st0 c0 f0 (ar + 1) (h + m - 1)) (m0 : 0 < m) (h26 : h + m ≤ 2600) (hT : TX uk vk) (hk : kd (v0.2 1 (h + m - 1)) = 7) (h10 : vk.1 10 = 1) : ∃ w, MGo vk w ∧ RES u0 (mSet v0 11 (nI ar)) uk w p m h st0 c0 f0 := by
  have hS' := hS
  obtain ⟨st, c, f, g1, g2, g3, g4, g5, g6, g7, g8, g9, g10, g11, g12⟩ := hS'
  have h1 := g6.1
  have kk : kd (vk.2 1 (h + m - 1)) = 7 := by rw [(g9 _ (Nat.le_refl _)).1]; exact hk
  obtain ⟨w, ew⟩ : ∃ w, w = mSet (mSet vk 11 (nI ar)) 1 (nI (h + m)) := ⟨_, rfl⟩
  have wF : FR [1, 9, 10, 11, 12] [19] vk w := by
    rw [ew]
    exact FR_set (FR_set FR.rf (by decide)) (by decide)
  refine ⟨w, endX (w := w) hS m0 h26 FR.rf ?_ wF ?_ ?_ ?_ (fun Q q => stepM6 h1 (by omega) (Or.inr (Or.inl kk)) ?_)⟩
  · rw [ew]; exact hT
  · rw [ew, mSet_same]
  · rw [ew, mSet_other (by decide : (11 : Nat) ≠ 1), mSet_same]
  · rw [ew, mSet_other (by decide : (10 : Nat) ≠ 1), mSet_other (by decide : (10 : Nat) ≠ 11)]; exact h10
  · rw [kk]
    refine s47_7 g7 ⟨fun _ => ?_, fun q => absurd q (by decide)⟩
    intro y34 e34
    rw [g8] at e34; subst e34
    rintro _ rfl _ rfl
    rw [nI_pred]
    intro y37 e37
    rw [mSet_other (by decide : (1 : Nat) ≠ 11), h1] at e37; subst e37
    rintro _ rfl _ rfl
    rw [nI_1, show h + m - 1 + 1 = h + m from by omega, ← ew]
    exact q
/-- a list at both sides, nothing owed -/
def CTX (u g : mS) (p m N h st c f ar : Nat) : Prop := PRE u g p m h st c f ar ∧ u.1 7 = 0 ∧ g.1 10 = 0 ∧ LI (g.2 1) h m N
theorem CTX_tx {u g : mS} {p m N h st c f ar : Nat} (h : CTX u g p m N h st c f ar) : TX u g := by
  obtain ⟨⟨-, -, -, -, -, hT, -⟩, -, h10, -⟩ := h
  rcases hT with ⟨-, q⟩ | ⟨q, -⟩
  · exact q
  · exact absurd (h10.symm.trans q) (by decide)
theorem CTX_li {u g : mS} {p m N h st c f ar : Nat} (hC : CTX u g p m N h st c f ar) : LI (ra u) p m N ∧ ∀ k, k ≤ N → it (ra u) p k + h = it (g.2 1) h k + p := by
  obtain ⟨⟨-, -, -, -, -, -, ⟨-, -, -, -, hl⟩, -⟩, -, -, hLI⟩ := hC
  have hA : ∀ j, j < m → ra u (p + j) = g.2 1 (h + j) ∧ u.2 2 (p + j) = g.2 2 (h + j) := fun j hj => ⟨(hl j hj).1, (hl j hj).2.1⟩
  have e1 := sh_LI hA (x := 0) hLI (by omega)
  have e2 := sh_it hA (x := 0) hLI (by omega)
  exact ⟨e1, e2⟩
/-- both sides have failed within a list -/
theorem RES_bad {u v u' v' : mS} {p n h st c f : Nat} (hF : FRX u v u' v' p n st) (hM : MIN v') (h1 : ¬ u'.1 7 = 0) (h2 : ¬ v'.1 12 = 0) (h3 : CN u' v') : RES u v u' v' p n h st c f := ⟨hF, hM, Or.inl ⟨h1, h2, h3⟩⟩
theorem eachX {X : Int32 → Int32 → mS → (mS → Prop) → Prop} {d : Nat} {v u g : mS} {p m N h st c f ar : Nat} {post : mS → Prop} (hX : XOK X d) (hC : CTX u g p m N h st c f ar) (hd : 12 + f ≤ d + (ar + 1)) (har : ar ≤ 9) (go : ∀ w, (∀ Q : mS → Prop, Q w → wj_X9_list_150 Q g) → MGo v w ∧ MIN w) (fin : ∀ u' v', MGo v v' → RES u g u' v' p m h st c f → post u') : wp_X0_expandEach X (nI p) (nI ar) u post := by
  have hTX := CTX_tx hC
  obtain ⟨aLI, ait⟩ := CTX_li hC
  obtain ⟨⟨hR, hE, hL, he, h11, -, ⟨⟨a2, b2, A1, A2, A3, A4, A5⟩, h26, hT, n2, hl⟩, hDJ⟩, u7, g10, hLI⟩ := hC
  obtain ⟨t1, t2, t3, t4⟩ := REL_top hR
  have h1 := hE.1
  have m2 := (TL_open hLI.1 hLI.2.1)
  obtain ⟨w, ew⟩ : ∃ w, w = mSet (mSet (mSet (pM 40 (spM g)) 10 0) 11 (nI (ar + 1))) 1 (nI (h + 1)) := ⟨_, rfl⟩
  have wF : FR [1, 9, 10, 11, 12] [19] g w := by
    rw [ew]
    exact FR_set (FR_set (FR_set ((spM_fr.tr (pM_fr.wk (by decide) (by decide))).wk (by decide) (by decide)) (by decide)) (by decide)) (by decide)
  have hw : ∀ Q : mS → Prop, Q w → wj_X9_list_150 Q g := by
    intro Q q
    refine space_M (TX_M hTX) (put_M (LMo_sp (TX_M hTX)) ?_)
    rintro _ rfl y39 e39
    rw [mSet_other (by decide : (11 : Nat) ≠ 10), pM_fr.1 11 (by decide), spM_fr.1 11 (by decide), h11] at e39; subst e39
    rintro _ rfl _ rfl
    rw [nI_1]
    intro y42 e42
    rw [mSet_other (by decide : (1 : Nat) ≠ 11), mSet_other (by decide : (1 : Nat) ≠ 10), pM_fr.1 1 (by decide), spM_fr.1 1 (by decide), h1] at e42; subst e42
    rintro _ rfl _ rfl
    rw [nI_1, ← ew]
    exact q
  obtain ⟨gw, wM⟩ := go w hw
  have wT : TX (pA 40 u) w := by
    have : TX (pA 40 u) (pM 40 (spM g)) := TX_put (by rw [spM_0 g10]; exact TX_gap hTX)
    rw [ew]; exact this
  have w1 : w.1 1 = nI (h + 1) := by rw [ew, mSet_same]
  have w11 : w.1 11 = nI (ar + 1) := by rw [ew, mSet_other (by decide : (11 : Nat) ≠ 1), mSet_same]
  have w10 : w.1 10 = 0 := by rw [ew, mSet_other (by decide : (10 : Nat) ≠ 1), mSet_other (by decide : (10 : Nat) ≠ 11), mSet_same]
  have wr : w.2 1 = g.2 1 := wF.2 1 (by decide)
  have ws : w.2 2 = g.2 2 := wF.2 2 (by decide)
  have hRw : REL (pA 40 u) w st c f := REL_fr hR pA_fr wF (by decide) (by decide) (by decide) (by decide)
  have fw : FRX u w (pA 40 u) w p m st := FRX_rf (S' := []) (A' := []) pA_fr FR.rf (by decide) (by decide) (by decide) (by decide) t1 (by omega)
  -- with an error nothing more happens
  have errE : ∀ (n : Nat) (x3 x4 x5 : Int32) (u' : mS), ¬ u'.1 7 = 0 → post u' → mL5 (fun K => wj_X0_expandEach_28 X K post) (n + 1) (nI ar) x3 x4 x5 u' := by
    intro n x3 x4 x5 u' ue hp
    have e84 : wj_X0_expandEach_84 X post u' := put_A (fun q => absurd q ue) (by rw [pA_err ue]; exact hp)
    refine ⟨fun _ => e84, fun _ => ?_⟩
    intro y8 e8
    exact ⟨fun _ => e84, fun q => absurd (e8.symm.trans q) ue⟩
  have hB : LB u w p m h st c := ⟨⟨a2, b2, A1, A2, A3, A4, A5⟩, h26, fun j hj => by rw [wr, ws]; exact hl j (by omega), REL_reg hR⟩
  have clk : kd (w.2 1 (h + m - 1)) = 2 := by rw [wr, show h + m - 1 = h + (m - 1) from by omega]; exact m2.2.2
  have toG : ∀ u' v', RES u (mSet w 11 (nI ar)) u' v' p m h st c f → RES u g u' v' p m h st c f := by
    intro u' v' hr
    refine RES_tr (u0 := u) (v0 := mSet w 11 (nI ar)) (FRX_rf (S := []) (A := []) (S' := [1, 9, 10, 11, 12]) (A' := [19]) FR.rf (FR_set wF (by decide)) (by decide) (by decide) (by decide) (by decide) t1 (by omega)) (Nat.le_refl _) (Nat.le_refl _) (Nat.le_refl _) (fun q => by omega) (fun q => by omega) rfl ?_ (fun l _ => ⟨by rw [mSet_arr, wr], by rw [mSet_arr, ws]⟩) (fun i i1 i2 => by omega) (REL_reg hR) hr
    rw [mSet_same, h11]
  have NN : N < 2 ^ 20 := by
    have := (LI_at hLI (Nat.le_refl N)).1
    have := (LI_at hLI (Nat.le_refl N)).2.1
    omega
  have main : ∀ (dd k : Nat) (uk vk : mS), k + dd = N → STG u w uk vk p m h st c f (ar + 1) (it (g.2 1) h k) → TX uk vk → uk.1 7 = 0 → (k = 0 → vk.1 10 = 0) → (0 < k → vk.1 10 = 1) → MGo v vk → mL5 (fun K => wj_X0_expandEach_28 X K post) (dd + 1) (nI ar) (nI N) (nI (p + (it (g.2 1) h k - h))) (nI k) uk := by
    intro dd
    induction dd with
    | zero =>
      intro k uk vk hk hS hTk uk7 k0 k1 gk
      have : k = N := by omega
      subst this
      refine ⟨fun _ => put_A (TX_A hTk) ?_, fun q => absurd (Int32.le_refl _) q⟩
      rw [hLI.2.2.2, show h + (m - 1) = h + m - 1 from by omega] at hS
      obtain ⟨z, z1, z2⟩ := closeX hS (by omega) h26 hTk clk (by omega)
      exact fin _ z (gk.tr z1) (toG _ _ z2)
    | succ dd ih =>
      intro k uk vk hk hS hTk uk7 k0 k1 gk
      obtain ⟨c2, cT⟩ := hLI.2.2.1 k (by omega)
      have at1 := LI_at hLI (k := k) (by omega)
      have at2 := LI_at hLI (k := k + 1) (by omega)
      have e1 : it (g.2 1) h (k + 1) = it (g.2 1) h k + tl (g.2 1) (it (g.2 1) h k) := rfl
      have eN := hLI.2.2.2
      have mo := LI_mono hLI (j := k + 1) (k := N) (by omega) (Nat.le_refl _)
      have c0 := cT.1
      have mo0 := LI_mono hLI (j := 0) (k := k) (by omega) (by omega)
      have i0 : it (g.2 1) h 0 = h + 1 := rfl
      obtain ⟨hk', ehk⟩ : ∃ x, x = it (g.2 1) h k := ⟨_, rfl⟩
      obtain ⟨t, et⟩ : ∃ x, x = tl (g.2 1) hk' := ⟨_, rfl⟩
      rw [← ehk] at hS at1 e1 c2 cT c0 mo0 ⊢
      rw [← et] at e1 cT c0
      refine ⟨fun q => absurd q (by rw [nI_leI (by omega) (by omega)]; omega), fun _ => ?_⟩
      intro y8 e8
      refine ⟨fun q => absurd (e8.trans uk7) q, fun _ => ?_⟩
      have tail : ∀ (ux : mS), STG u w ux vk p m h st c f (ar + 1) hk' → TXP ux vk → wj_X0_expandEach_58 X (mL5 (fun K => wj_X0_expandEach_28 X K post) (dd + 1)) post (nI ar) (nI N) (nI (p + (hk' - h))) (nI k) ux := by
        intro ux hSx hTx
        rintro _ rfl
        rw [nI_1]
        refine stage (t := t) hX hd (by omega) hB hSx (fun i L i1 i7 i8 hL => ?_) (by omega) (by rw [wr]; exact cT) (by rw [wr]; exact c2) (by omega) hTx (fun u' v' g' f' mi e1' e2' e3' => ?_) (fun u' v' g' S' T' u7' v10' => ?_)
        · have := hDJ i L i1 i7 i8 hL
          omega
        · obtain ⟨z1, z2, z3⟩ := FRX_AR A1 A5 f'
          refine after_ok z1 (by omega) (by omega) ?_
          rintro _ rfl
          refine errE _ _ _ _ u' e1' (fin u' v' (gk.tr g') (toG _ _ (RES_bad (FRX_M (S := [11]) (A := []) f' ⟨fun k hk => (mSet_other (fun q => hk (by rw [q]; decide))).symm, fun _ _ => rfl⟩ (by decide) (by decide)) mi e1' e2' e3')))
        · obtain ⟨y1, y2, z1, z2, z3, z4, z5, z6, z7⟩ := stg_reg hB S'
          refine after_ok z1 (by omega) (by omega) ?_
          have tt : tl (ra u') (p + (hk' - h)) = t := by
            refine tl_eq (TL_copy (r := g.2 1) (i := hk') (fun j hj => ?_) cT)
            rw [z7 _ (by omega)]
            have := (hl (hk' - h + j) (by omega)).1
            rw [show p + (hk' - h) + j = p + (hk' - h + j) from by omega, this, show h + (hk' - h + j) = hk' + j from by omega]
          rw [tt]
          rintro _ rfl
          rw [nI_1]
          have := ih (k + 1) u' v' (by omega) (by rw [e1]; exact S') T' u7' (fun q => by omega) (fun _ => v10') (gk.tr g')
          rw [e1, show p + (hk' + t - h) = p + (hk' - h) + t from by omega] at this
          exact this
      refine ⟨fun q => ?_, fun q => put_A (TX_A hTk) ?_⟩
      · have kz : k = 0 := by
          rw [show (0 : Int32) = nI 0 from rfl, nI_leI (by omega) (by omega)] at q
          omega
        exact tail uk hS (Or.inl ⟨k0 kz, hTk⟩)
      · have kz : 0 < k := by
          rw [show (0 : Int32) = nI 0 from rfl, nI_leI (by omega) (by omega)] at q
          omega
        exact tail (pA 32 uk) (STG_fr hS pA_fr (by decide) (by decide)) (Or.inr ⟨k1 kz, TX_put hTk⟩)
  intro y1 e1
  rw [nI_1] at e1; subst e1
  refine itemsFrom_ok (k := 0) A1 aLI A3 A4 (by omega) ?_
  rintro _ rfl
  rw [nI_1, Nat.sub_zero]
  refine put_A (TX_A hTX) ?_
  by_cases ue : (pA 40 u).1 7 = 0
  · have we : w.1 12 = 0 := by
      rcases wT with ⟨-, q, -⟩ | ⟨q, -⟩
      · exact q
      · exact absurd ue q
    have f8 := hE.2.2.2.1
    have E0 : EXI w (h + 1) f := MIN_E wM we w1 (by omega) ((wF.1 15 (by decide)).trans t3) (by omega)
    have := main N 0 (pA 40 u) w (by omega) ⟨st, c, f, hRw, Nat.le_refl _, Nat.le_refl _, Nat.le_refl _, wM.1, E0, we, w11, fun l _ => ⟨rfl, rfl⟩, fun x _ _ => by rw [pA_fr.2 2 (by decide), pA_fr.2 4 (by decide)]; exact ⟨rfl, rfl⟩, fw, fun i i1 i2 => by rw [nbA_fr pA_fr (by decide)] at i2; omega⟩ wT ue (fun _ => w10) (fun q => by omega) gw
    have i0 : it (g.2 1) h 0 = h + 1 := rfl
    rw [i0, show p + (h + 1 - h) = p + 1 from by omega] at this
    exact ⟨_, this⟩
  · have we : ¬ w.1 12 = 0 := by
      rcases wT with ⟨q, -, -⟩ | ⟨-, q⟩
      · exact absurd q ue
      · exact q
    exact ⟨1, errE _ _ _ _ _ ue (fin _ w gw (RES_bad (FRX_rf pA_fr wF (by decide) (by decide) (by decide) (by decide) t1 (by omega)) wM ue we (REL_CN hRw)))⟩
