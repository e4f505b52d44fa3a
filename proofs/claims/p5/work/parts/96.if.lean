-- 96: the form if
theorem after_any {x : Int32} {u : mS} {post : Int32 → mS → Prop} (hp : ∀ r, post r u) : wp_X5_after x u post := by
  have j40 : wj_X5_after_40 post x u := by
    rintro _ rfl; exact hp _
  refine ⟨fun _ => j40, fun x0 => ?_⟩
  intro y2 _
  refine ⟨fun _ => j40, fun _ => ⟨fun _ => j40, fun x3 => ?_⟩⟩
  obtain ⟨j, hj, rfl⟩ := nI_of x0
  rw [show (3000 : Int32) = nI 3000 from rfl, nI_leI (by omega) hj] at x3
  refine ⟨vp_in_nI (by omega) (by omega), ?_⟩
  intro y5 _
  refine ⟨fun _ => j40, fun _ => ⟨vp_in_nI (by omega) (by omega), ?_⟩⟩
  rintro _ rfl _ rfl
  exact hp _
theorem plainX {a b p m N : Nat} {u : mS} {post : Int32 → mS → Prop} (hA : AR u a b) (hap : a ≤ p) (hpb : p < b) (hL : LI (ra u) p m N) (h1 : dn (ra u) p N = 0 → post (nI N) u) (h0 : ¬ dn (ra u) p N = 0 → post (-1) u) : wp_X5_plainLength (nI p) u post := by
  refine plainLength_ok hA hap hpb (fun q => absurd hL.1 q) (fun n' N' hL' _ hd' => ?_) (fun n' N' hL' _ hd' => ?_)
  · obtain ⟨-, e2⟩ := LI_uniq hL' hL
    subst e2
    exact h0 hd'
  · obtain ⟨-, e2⟩ := LI_uniq hL' hL
    subst e2
    exact h1 hd'
theorem isPlainM {h m N t : Nat} {g : mS} {post : Int32 → mS → Prop} (hL : LI (g.2 1) h m N) (hl : h + m ≤ 2600) (ht : t < 2 ^ 31) (h1 : dn (g.2 1) h N = 0 → N = t → post 1 g) (h0 : (¬ dn (g.2 1) h N = 0 ∨ ¬ N = t) → post 0 g) : wp_X9_isPlain_2 (nI h) (nI t) g post := by
  have cd := cn_dn (g.2 1) h N
  refine isPlain_2 hL.2.1 hl ht (fun N' hL' hc hdn => ?_) (fun hno => ?_)
  · obtain ⟨-, e2⟩ := LI_uniq hL' hL
    subst e2
    exact h1 hdn (by omega)
  · refine h0 ?_
    by_cases q : dn (g.2 1) h N = 0
    · exact Or.inr (fun e => hno ⟨N, hL, by omega, q⟩)
    · exact Or.inl q
theorem CTX_dn {u g : mS} {p m N h st c f ar : Nat} (hC : CTX u g p m N h st c f ar) : dn (ra u) p N = dn (g.2 1) h N := by
  obtain ⟨⟨-, -, -, -, -, -, ⟨-, -, -, -, hl⟩, -⟩, -, -, hLI⟩ := hC
  exact (sh_cn (r := g.2 1) (s := g.2 2) (q := ra u) (t := u.2 2) (a := h) (c := p) (L := m) (fun j hj => ⟨(hl j hj).1, (hl j hj).2.1⟩) (x := 0) hLI (by omega) N (Nat.le_refl _)).2
/-- both sides fail at once -/
theorem failX {v u g u' w : mS} {S A S' A' : List Nat} {p m N h st c f ar : Nat} {post : mS → Prop} (hC : CTX u g p m N h st c f ar) (uF : FR S A u u') (wF : FR S' A' g w) (s : ∀ k ∈ [1, 4, 5, 8, 9, 10, 11], k ∉ S) (a : ∀ k ∈ [1, 2, 3, 4, 5, 6, 7, 8], k ∉ A) (s' : ∀ k ∈ [2, 4, 5, 13, 14, 15], k ∉ S') (a' : ∀ k ∈ [3, 4, 6, 7, 8, 9, 10, 11], k ∉ A') (ue : ¬ u'.1 7 = 0) (we : ¬ w.1 12 = 0) (go : MGo v w ∧ MIN w) (fin : ∀ u' v', MGo v v' → RES u g u' v' p m h st c f → post u') : post u' := by
  obtain ⟨⟨hR, -⟩, -⟩ := hC
  obtain ⟨t1, t2, t3, t4⟩ := REL_top hR
  have hR' : REL u' w st c f := REL_fr hR uF wF (fun k hk => s k (by revert hk; revert k; decide)) a s' (fun k hk => a' k (by revert hk; revert k; decide))
  exact fin u' w go.1 (RES_bad (FRX_rf uF wF (fun k hk => s k (by revert hk; revert k; decide)) a (fun k hk => s' k (by revert hk; revert k; decide)) (fun k hk => a' k (by revert hk; revert k; decide)) t1 (by omega)) go.2 ue we (REL_CN hR'))
theorem ifX {X : Int32 → Int32 → mS → (mS → Prop) → Prop} {d : Nat} {v u g : mS} {p m N h st c f ar : Nat} {post : mS → Prop} (hX : XOK X d) (hXE : XER X) (hC : CTX u g p m N h st c f ar) (hd : 12 + f ≤ d + (ar + 1)) (har : ar ≤ 9) (nm : u.2 1 (p + 1) = 92518) (k3 : kd (g.2 1 (h + 1)) = 3) (hm3 : 3 ≤ m) (go : ∀ w, (∀ Q : mS → Prop, Q w → wp_X9_form 1 g Q) → MGo v w ∧ MIN w) (fin : ∀ u' v', MGo v v' → RES u g u' v' p m h st c f → post u') : wp_X0_expandIf X (nI p) (nI ar) u post := by
  have hTX := CTX_tx hC
  have hdn := CTX_dn hC
  have hC' := hC
  obtain ⟨aLI, ait⟩ := CTX_li hC
  obtain ⟨⟨hR, hE, hL, he, h11, -, ⟨⟨a2, b2, A1, A2, A3, A4, A5⟩, h26, hT, n2, hl⟩, hDJ⟩, u7, g10, hLI⟩ := hC
  obtain ⟨t1, t2, t3, t4⟩ := REL_top hR
  have h1 := hE.1
  have m2 := (TL_open hLI.1 hLI.2.1)
  have toF : ∀ Q : mS → Prop, wj_X9_form_41 Q 1 (nI 4) (nI h) g → wp_X9_form 1 g Q := by
    intro Q q
    refine ⟨fun _ => ⟨fun _ => ?_, fun z => absurd z (by decide)⟩, fun z => absurd z (by decide)⟩
    intro y3 e3
    rw [h1] at e3; subst e3
    exact ⟨fun z => absurd rfl z, fun _ => q⟩
  have bad : (¬ dn (g.2 1) h N = 0 ∨ ¬ N = 4) → wp_X2_fail 3 u (fun u10 => post u10) := by
    intro hb
    obtain ⟨y, yF, ye, yg⟩ := failM (c := 3) (v := g) (by decide)
    exact failA (by decide) (fun u' uF ue => failX hC' uF yF (by decide) (by decide) (by decide) (by decide) ue ye (go y (fun Q q => toF Q (isPlainM hLI h26 (by decide) (fun q1 q2 => by rcases hb with z | z; exact absurd q1 z; exact absurd q2 z) (fun _ => ⟨fun z => absurd rfl z, fun _ => yg Q q⟩)))) fin)
  refine plainX A1 A3 (by omega) aLI (fun q => ⟨fun q4 => ?_, fun q4 => bad (Or.inr (fun z => q4 (by rw [z]; rfl)))⟩) (fun q => ⟨fun q4 => absurd q4 (by decide), fun _ => bad (Or.inl (by rw [← hdn]; exact q))⟩)
  have NN : N < 2 ^ 20 := by
    have := (LI_at hLI (Nat.le_refl N)).1
    have := (LI_at hLI (Nat.le_refl N)).2.1
    omega
  rw [show (4 : Int32) = nI 4 from rfl, nI_eq (by omega) (by omega)] at q4
  subst q4
  rw [hdn] at q
  obtain ⟨z1, z2, z3⟩ := hl 1 (by omega)
  have hAW : AW (u.2 1 (p + 1)) (g.2 1 (h + 1)) := by rw [← z1]; exact (A1.2 (p + 1) (by omega) (by omega)).1
  obtain ⟨x, y, hNM, ewx, ec⟩ := NM_of3 hAW k3
  have hby := NM_bd hNM
  obtain ⟨cs, hcs⟩ := NCH_ex hNM
  obtain ⟨w0, ew0⟩ : ∃ w0, w0 = spM (mSet (pM 40 (spM g)) 10 0) := ⟨_, rfl⟩
  have w0F : FR [9, 10, 12] [19] g w0 := by
    rw [ew0]
    exact (FR_set (spM_fr.tr (pM_fr.wk (by decide) (by decide))) (by decide)).tr spM_fr
  obtain ⟨w, ew⟩ : ∃ w, w = mSet (mSet (pMs cs w0) 11 (nI (ar + 1))) 1 (nI (h + 2)) := ⟨_, rfl⟩
  have wF : FR [1, 9, 10, 11, 12] [19] g w := by
    rw [ew]
    exact FR_set (FR_set ((w0F.wk (by decide) (by decide)).tr ((pMs_fr cs).wk (by decide) (by decide))) (by decide)) (by decide)
  have T0 : TX (pA 40 u) w0 := by
    have : TX (pA 40 u) (pM 40 (spM g)) := TX_put (by rw [spM_0 g10]; exact TX_gap hTX)
    rw [ew0, spM_0 (mSet_same _ _ _)]
    exact this
  have wT : TX (pAs cs (pA 40 u)) w := by
    rw [ew]; exact TX_puts cs T0
  have hw : ∀ Q : mS → Prop, Q w → wp_X9_form 1 g Q := by
    intro Q hq
    refine toF Q (isPlainM hLI h26 (by decide) (fun _ _ => ⟨fun _ => ⟨fun z => absurd rfl z, fun _ => ?_⟩, fun z => absurd z (by decide)⟩) (fun z => by rcases z with z | z; exact absurd q z; exact absurd rfl z))
    refine space_M (TX_M hTX) (put_M (LMo_sp (TX_M hTX)) ?_)
    rintro _ rfl
    refine space_M (LMo_gap (LMo_put (LMo_sp (TX_M hTX)))) ?_
    rw [← ew0]
    intro y21 e21
    rw [w0F.1 1 (by decide), h1] at e21; subst e21
    rintro _ rfl
    rw [nI_1]
    refine what_2x (by omega) (by rw [w0F.2 1 (by decide)]; exact ec) (by decide) (by omega) ?_
    refine putName_M hcs (TX_M T0) ?_
    intro y27 e27
    rw [(pMs_fr cs).1 11 (by decide), w0F.1 11 (by decide), h11] at e27; subst e27
    rintro _ rfl _ rfl
    rw [nI_1]
    intro y30 e30
    rw [mSet_other (by decide : (1 : Nat) ≠ 11), (pMs_fr cs).1 1 (by decide), w0F.1 1 (by decide), h1] at e30; subst e30
    rintro _ rfl _ rfl
    rw [show (2 : Int32) = nI 2 from rfl, nI_add, ← ew]
    exact hq
  obtain ⟨gw, wM⟩ := go w hw
  have w1 : w.1 1 = nI (h + 2) := by rw [ew, mSet_same]
  have w11 : w.1 11 = nI (ar + 1) := by rw [ew, mSet_other (by decide : (11 : Nat) ≠ 1), mSet_same]
  have w10 : w.1 10 = 1 := by
    rw [ew, mSet_other (by decide : (10 : Nat) ≠ 1), mSet_other (by decide : (10 : Nat) ≠ 11), (pMs_fr cs).1 10 (by decide), ew0]
    unfold spM
    rw [mSet_same]
  have wr : w.2 1 = g.2 1 := wF.2 1 (by decide)
  have ws : w.2 2 = g.2 2 := wF.2 2 (by decide)
  have uF : FR [6, 7] [9] u (pAs cs (pA 40 u)) := pA_fr.tr (pAs_fr cs)
  obtain ⟨ua, eua⟩ : ∃ ua, ua = pAs cs (pA 40 u) := ⟨_, rfl⟩
  rw [← eua] at uF wT
  have hRw : REL ua w st c f := REL_fr hR uF wF (by decide) (by decide) (by decide) (by decide)
  have errI : ∀ (n k : Nat) (x3 : Int32) (u' : mS), k + n = 3 → ¬ u'.1 7 = 0 → post u' → mL4 (fun K => wj_X0_expandIf_46 X K post) (n + 1) (nI ar) x3 (nI k) u' := by
    intro n
    induction n with
    | zero =>
      intro k x3 u' hk ue hp
      have : k = 3 := by omega
      subst this
      exact ⟨fun _ => put_A (fun q => absurd q ue) (by rw [pA_err ue]; exact hp), fun z => absurd (by decide) z⟩
    | succ n ih =>
      intro k x3 u' hk ue hp
      refine ⟨fun z => absurd z (by rw [show (3 : Int32) = nI 3 from rfl, nI_leI (by omega) (by omega)]; omega), fun _ => put_A (fun q => absurd q ue) ?_⟩
      rw [pA_err ue]
      rintro _ rfl
      refine hXE _ _ u' _ ue (after_any (fun r => ?_))
      rintro _ rfl
      rw [nI_1]
      exact ih (k + 1) r u' (by omega) ue hp
  have hB : LB u w p m h st c := ⟨⟨a2, b2, A1, A2, A3, A4, A5⟩, h26, fun j hj => by rw [wr, ws]; exact hl j (by omega), REL_reg hR⟩
  have clk : kd (w.2 1 (h + m - 1)) = 2 := by rw [wr, show h + m - 1 = h + (m - 1) from by omega]; exact m2.2.2
  have toG : ∀ u' v', RES u (mSet w 11 (nI ar)) u' v' p m h st c f → RES u g u' v' p m h st c f := by
    intro u' v' hr
    refine RES_tr (u0 := u) (v0 := mSet w 11 (nI ar)) (FRX_rf (S := []) (A := []) (S' := [1, 9, 10, 11, 12]) (A' := [19]) FR.rf (FR_set wF (by decide)) (by decide) (by decide) (by decide) (by decide) t1 (by omega)) (Nat.le_refl _) (Nat.le_refl _) (Nat.le_refl _) (fun q => by omega) (fun q => by omega) rfl ?_ (fun l _ => ⟨by rw [mSet_arr, wr], by rw [mSet_arr, ws]⟩) (fun i i1 i2 => by omega) (REL_reg hR) hr
    rw [mSet_same, h11]
  have t1n : tl (g.2 1) (h + 1) = 1 := tl_eq (TL_atom (by rw [k3]; decide))
  have i1e : it (g.2 1) h 1 = h + 2 := by
    show h + 1 + tl (g.2 1) (h + 1) = h + 2
    rw [t1n]
  have main : ∀ (dd k : Nat) (uk vk : mS), k + dd = 3 → STG u w uk vk p m h st c f (ar + 1) (it (g.2 1) h (k + 1)) → TX uk vk → uk.1 7 = 0 → vk.1 10 = 1 → MGo v vk → mL4 (fun K => wj_X0_expandIf_46 X K post) (dd + 1) (nI ar) (nI (p + (it (g.2 1) h (k + 1) - h))) (nI k) uk := by
    intro dd
    induction dd with
    | zero =>
      intro k uk vk hk hS hTk uk7 k10 gk
      have : k = 3 := by omega
      subst this
      refine ⟨fun _ => put_A (TX_A hTk) ?_, fun z => absurd (by decide) z⟩
      rw [hLI.2.2.2, show h + (m - 1) = h + m - 1 from by omega] at hS
      obtain ⟨z, z1, z2⟩ := closeX hS (by omega) h26 hTk clk (by omega)
      exact fin _ z (gk.tr z1) (toG _ _ z2)
    | succ dd ih =>
      intro k uk vk hk hS hTk uk7 k10 gk
      obtain ⟨c2, cT⟩ := hLI.2.2.1 (k + 1) (by omega)
      have at1 := LI_at hLI (k := k + 1) (by omega)
      have at2 := LI_at hLI (k := k + 2) (by omega)
      have e1 : it (g.2 1) h (k + 2) = it (g.2 1) h (k + 1) + tl (g.2 1) (it (g.2 1) h (k + 1)) := rfl
      have eN := hLI.2.2.2
      have mo := LI_mono hLI (j := k + 2) (k := 4) (by omega) (Nat.le_refl _)
      have c0 := cT.1
      have mo0 := LI_mono hLI (j := 0) (k := k + 1) (by omega) (by omega)
      have i0 : it (g.2 1) h 0 = h + 1 := rfl
      obtain ⟨hk', ehk⟩ : ∃ x, x = it (g.2 1) h (k + 1) := ⟨_, rfl⟩
      obtain ⟨t, et⟩ : ∃ x, x = tl (g.2 1) hk' := ⟨_, rfl⟩
      rw [← ehk] at hS at1 e1 c2 cT c0 mo0 ⊢
      rw [← et] at e1 cT c0
      refine ⟨fun z => absurd z (by rw [show (3 : Int32) = nI 3 from rfl, nI_leI (by omega) (by omega)]; omega), fun _ => put_A (TX_A hTk) ?_⟩
      rintro _ rfl
      rw [nI_1]
      refine stage (t := t) hX hd (by omega) hB (STG_fr hS (pA_fr (c := 32)) (by decide) (by decide)) (fun i L i1 i7 i8 hL => ?_) (by omega) (by rw [wr]; exact cT) (by rw [wr]; exact c2) (by omega) (Or.inr ⟨k10, TX_put hTk⟩) (fun u' v' g' f' mi e1' e2' e3' => ?_) (fun u' v' g' S' T' u7' v10' => ?_)
      · have := hDJ i L i1 i7 i8 hL
        omega
      · refine after_any (fun r => ?_)
        rintro _ rfl
        rw [nI_1]
        exact errI dd (k + 1) _ u' (by omega) e1' (fin u' v' (gk.tr g') (toG _ _ (RES_bad (FRX_M (S := [11]) (A := []) f' ⟨fun k hk => (mSet_other (fun q => hk (by rw [q]; decide))).symm, fun _ _ => rfl⟩ (by decide) (by decide)) mi e1' e2' e3')))
      · obtain ⟨y1, y2, z1, z2, z3, z4, z5, z6, z7⟩ := stg_reg hB S'
        refine after_ok z1 (by omega) (by omega) ?_
        have tt : tl (ra u') (p + (hk' - h)) = t := by
          refine tl_eq (TL_copy (r := g.2 1) (i := hk') (fun j hj => ?_) cT)
          rw [z7 _ (by omega)]
          have := (hl (hk' - h + j) (by omega)).1
          rw [show p + (hk' - h) + j = p + (hk' - h + j) from by omega, this, show h + (hk' - h + j) = hk' + j from by omega]
        rw [tt]
        rintro _ rfl
        rw [nI_1]
        have := ih (k + 1) u' v' (by omega) (by rw [e1]; exact S') T' u7' v10' (gk.tr g')
        rw [e1, show p + (hk' + t - h) = p + (hk' - h) + t from by omega] at this
        exact this
  refine put_A (TX_A hTX) ?_
  rw [show (92518 : Int32) = nI x from nm.symm.trans ewx]
  refine putName_A hcs (LAo_put (TX_A hTX)) ?_
  rw [← eua]
  rintro _ rfl
  rw [show (2 : Int32) = nI 2 from rfl, nI_add]
  by_cases ue : ua.1 7 = 0
  · have we : w.1 12 = 0 := by
      rcases wT with ⟨-, q, -⟩ | ⟨q, -⟩
      · exact q
      · exact absurd ue q
    have f8 := hE.2.2.2.1
    have E0 : EXI w (h + 2) f := MIN_E wM we w1 (by omega) ((wF.1 15 (by decide)).trans t3) (by omega)
    have S0 : STG u w ua w p m h st c f (ar + 1) (h + 2) := ⟨st, c, f, hRw, Nat.le_refl _, Nat.le_refl _, Nat.le_refl _, wM.1, E0, we, w11, fun l _ => ⟨rfl, rfl⟩, fun x _ _ => by rw [uF.2 2 (by decide), uF.2 4 (by decide)]; exact ⟨rfl, rfl⟩, FRX_rf (S' := []) (A' := []) uF FR.rf (by decide) (by decide) (by decide) (by decide) t1 (by omega), fun i i1 i2 => by rw [nbA_fr uF (by decide)] at i2; omega⟩
    have := main 3 0 ua w (by omega) (by rw [i1e]; exact S0) wT ue w10 gw
    rw [i1e, show p + (h + 2 - h) = p + 2 from by omega] at this
    exact ⟨_, this⟩
  · have we : ¬ w.1 12 = 0 := by
      rcases wT with ⟨q, -, -⟩ | ⟨-, q⟩
      · exact absurd q ue
      · exact q
    exact ⟨_, errI 3 0 _ ua (by omega) ue (failX hC' uF wF (by decide) (by decide) (by decide) (by decide) ue we ⟨gw, wM⟩ fin)⟩
