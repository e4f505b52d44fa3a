-- 96a: the form q
noncomputable def tkM (t : Int32) (cs : List Int32) (v : mS) : mS := if kd t = 2 then mSet (pMs cs v) 10 1 else if kd t = 1 then mSet (pMs cs (spM v)) 10 0 else pMs cs (spM v)
theorem tkM_fr {t : Int32} {cs : List Int32} {v : mS} : FR [9, 10, 12] [19] v (tkM t cs v) := by
  unfold tkM
  split
  · exact FR_set ((pMs_fr cs).wk (by decide) (by decide)) (by decide)
  · split
    · exact FR_set (spM_fr.tr ((pMs_fr cs).wk (by decide) (by decide))) (by decide)
    · exact spM_fr.tr ((pMs_fr cs).wk (by decide) (by decide))
theorem tkM_gap {t : Int32} {cs : List Int32} {v : mS} : (tkM t cs v).1 10 = if kd t = 1 then 0 else 1 := by
  unfold tkM
  split
  · rename_i q
    rw [mSet_same, if_neg (by rw [q]; decide)]
  · split
    · exact mSet_same _ _ _
    · rw [(pMs_fr cs).1 10 (by decide)]
      unfold spM
      exact mSet_same _ _ _
theorem LAo_puts : ∀ (cs : List Int32) {u : mS}, LAo u → LAo (pAs cs u)
  | [], _, h => h
  | c :: cs, _, h => LAo_puts cs (LAo_put h)
/-- a token as text on both sides -/
theorem tokT {w t : Int32} (hA : AW w t) : ∃ cs, (∀ (u : mS) (post : mS → Prop), LAo u → post (pAs cs u) → wp_X2_putWord w u post) ∧ ∀ (v : mS) (h : Nat) (post : mS → Prop), v.2 1 h = t → h < 2600 → LMo v → post (tkM t cs v) → wp_X9_putToken (nI h) v post := by
  have other : ∀ (c : Int32), ¬ kd t = 1 → ¬ kd t = 2 → ¬ kd t = 3 → ¬ kd t = 4 → ¬ kd t = 6 → kd t = 5 → c = 95 → ∀ (v : mS) (h : Nat) (post : mS → Prop), v.2 1 h = t → h < 2600 → LMo v → post (tkM t [c] v) → wp_X9_putToken (nI h) v post := by
    intro c n1 n2 n3 n4 n6 k5 ec v h post e hh hL hp
    subst ec
    unfold tkM at hp
    rw [if_neg n2, if_neg n1] at hp
    refine kind_2 hh ?_
    rw [e]
    exact ⟨fun _ => ⟨fun _ => space_M hL ⟨fun _ => ⟨fun _ => ⟨fun z => absurd k5 z, fun _ => put_M (LMo_sp hL) ⟨fun _ => hp, fun z => absurd z n6⟩⟩, fun z => absurd z n4⟩, fun z => absurd z n3⟩, fun z => absurd z n2⟩, fun z => absurd z n1⟩
  rcases AW_k hA with ⟨rfl, k⟩ | ⟨rfl, k⟩ | ⟨rfl, k⟩ | ⟨rfl, k⟩ | ⟨n, hn, rfl, k⟩ | ⟨x, hx, hx2, ew, k⟩
  · refine ⟨[40], fun u post hL hp => ?_, fun v h post e hh hL hp => ?_⟩
    · refine isName_ok hA (fun k3 => absurd (k.symm.trans k3) (by decide)) (fun _ => ⟨fun _ => isNum_ok hA (fun k4 => absurd (k.symm.trans k4) (by decide)) (fun _ => ⟨fun _ => ?_, fun z => absurd rfl z⟩), fun z => absurd rfl z⟩)
      exact ⟨fun _ => ⟨fun z => absurd rfl z, fun _ => put_A hL hp⟩, fun z => absurd z (by decide)⟩
    · unfold tkM at hp
      rw [if_neg (by rw [k]; decide), if_pos k] at hp
      refine kind_2 hh ?_
      rw [e]
      refine ⟨fun z => absurd k z, fun _ => space_M hL (put_M (LMo_sp hL) ?_)⟩
      rintro _ rfl; exact hp
  · refine ⟨[41], fun u post hL hp => ?_, fun v h post e hh hL hp => ?_⟩
    · refine isName_ok hA (fun k3 => absurd (k.symm.trans k3) (by decide)) (fun _ => ⟨fun _ => isNum_ok hA (fun k4 => absurd (k.symm.trans k4) (by decide)) (fun _ => ⟨fun _ => ?_, fun z => absurd rfl z⟩), fun z => absurd rfl z⟩)
      exact ⟨fun _ => ⟨fun _ => ⟨fun z => absurd rfl z, fun _ => put_A hL hp⟩, fun z => absurd z (by decide)⟩, fun z => absurd z (by decide)⟩
    · unfold tkM at hp
      rw [if_pos k] at hp
      refine kind_2 hh ?_
      rw [e]
      refine ⟨fun _ => ⟨fun z => absurd k z, fun _ => put_M hL ?_⟩, fun z => absurd (k.symm.trans z) (by decide)⟩
      rintro _ rfl; exact hp
  · refine ⟨[46, 46], fun u post hL hp => ?_, fun v h post e hh hL hp => ?_⟩
    · refine isName_ok hA (fun k3 => absurd (k.symm.trans k3) (by decide)) (fun _ => ⟨fun _ => isNum_ok hA (fun k4 => absurd (k.symm.trans k4) (by decide)) (fun _ => ⟨fun _ => ?_, fun z => absurd rfl z⟩), fun z => absurd rfl z⟩)
      exact ⟨fun z => absurd rfl z, fun _ => put_A hL (put_A (LAo_put hL) hp)⟩
    · unfold tkM at hp
      rw [if_neg (by rw [k]; decide), if_neg (by rw [k]; decide)] at hp
      refine kind_2 hh ?_
      rw [e, k]
      exact ⟨fun _ => ⟨fun _ => space_M hL ⟨fun _ => ⟨fun _ => ⟨fun _ => ⟨fun z => absurd rfl z, fun _ => put_M (LMo_sp hL) (put_M (LMo_put (LMo_sp hL)) hp)⟩, fun z => absurd z (by decide)⟩, fun z => absurd z (by decide)⟩, fun z => absurd z (by decide)⟩, fun z => absurd z (by decide)⟩, fun z => absurd z (by decide)⟩
  · refine ⟨[95], fun u post hL hp => ?_, other 95 (by rw [k]; decide) (by rw [k]; decide) (by rw [k]; decide) (by rw [k]; decide) (by rw [k]; decide) k rfl⟩
    refine isName_ok hA (fun k3 => absurd (k.symm.trans k3) (by decide)) (fun _ => ⟨fun _ => isNum_ok hA (fun k4 => absurd (k.symm.trans k4) (by decide)) (fun _ => ⟨fun _ => ?_, fun z => absurd rfl z⟩), fun z => absurd rfl z⟩)
    exact ⟨fun _ => ⟨fun _ => ⟨fun _ => put_A hL hp, fun z => absurd z (by decide)⟩, fun z => absurd z (by decide)⟩, fun z => absurd z (by decide)⟩
  · obtain ⟨n', hn', ew', ec⟩ := NU_of4 hA k
    rw [nI_eq (by omega) (by omega)] at ew'
    subst ew'
    refine ⟨NUC n, fun u post hL hp => isName_ok hA (fun k3 => absurd (k.symm.trans k3) (by decide)) (fun _ => ⟨fun _ => isNum_ok hA (fun _ => ⟨fun z => absurd z (by decide), fun _ => putNum_A (by omega) hL hp⟩) (fun k4 => absurd k k4), fun z => absurd rfl z⟩), fun v h post e hh hL hp => ?_⟩
    unfold tkM at hp
    rw [if_neg (by rw [k]; decide), if_neg (by rw [k]; decide)] at hp
    refine kind_2 hh ?_
    rw [e, k]
    exact ⟨fun _ => ⟨fun _ => space_M hL ⟨fun _ => ⟨fun z => absurd rfl z, fun _ => what_2x hh (by rw [spM_fr.2 1 (by decide), e]; exact ec) (by decide) (by omega) (putNum_M (by omega) (LMo_sp hL) ⟨fun _ => ⟨fun _ => hp, fun z => absurd z (by decide)⟩, fun z => absurd z (by decide)⟩)⟩, fun z => absurd z (by decide)⟩, fun z => absurd z (by decide)⟩, fun z => absurd z (by decide)⟩
  · obtain ⟨x', y, hNM, ew', ec⟩ := NM_of3 hA k
    obtain ⟨cs, hcs⟩ := NCH_ex hNM
    have hb := NM_bd hNM
    refine ⟨cs, fun u post hL hp => isName_ok hA (fun _ => ⟨fun z => absurd z (by decide), fun _ => by rw [ew']; exact putName_A hcs hL hp⟩) (fun k3 => absurd k k3), fun v h post e hh hL hp => ?_⟩
    unfold tkM at hp
    rw [if_neg (by rw [k]; decide), if_neg (by rw [k]; decide)] at hp
    refine kind_2 hh ?_
    rw [e, k]
    exact ⟨fun _ => ⟨fun _ => space_M hL ⟨fun z => absurd rfl z, fun _ => what_2x hh (by rw [spM_fr.2 1 (by decide), e]; exact ec) (by decide) (by omega) (putName_M hcs (LMo_sp hL) ⟨fun _ => ⟨fun _ => ⟨fun _ => hp, fun z => absurd z (by decide)⟩, fun z => absurd z (by decide)⟩, fun z => absurd z (by decide)⟩)⟩, fun z => absurd z (by decide)⟩, fun z => absurd z (by decide)⟩
theorem qX {v u g : mS} {p m N h st c f ar : Nat} {post : mS → Prop} (hC : CTX u g p m N h st c f ar) (go : ∀ w, (∀ Q : mS → Prop, Q w → wp_X9_form 2 g Q) → MGo v w ∧ MIN w) (fin : ∀ u' v', MGo v v' → RES u g u' v' p m h st c f → post u') : wp_X0_expandQ (nI p) u post := by
  have hTX := CTX_tx hC
  have hdn := CTX_dn hC
  have hC' := hC
  obtain ⟨aLI, ait⟩ := CTX_li hC
  obtain ⟨⟨hR, hE, hL, he, h11, -, ⟨⟨a2, b2, A1, A2, A3, A4, A5⟩, h26, hT, n2, hl⟩, hDJ⟩, u7, g10, hLI⟩ := hC
  have h1 := hE.1
  have m2 := (TL_open hLI.1 hLI.2.1)
  have hb2 := AR_b A1
  have toF : ∀ Q : mS → Prop, wj_X9_form_41 Q 2 (nI 2) (nI h) g → wp_X9_form 2 g Q := by
    intro Q q
    refine ⟨fun _ => ⟨fun _ => ?_, fun z => absurd z (by decide)⟩, fun z => absurd z (by decide)⟩
    intro y3 e3
    rw [h1] at e3; subst e3
    exact ⟨fun _ => q, fun z => absurd z (by decide)⟩
  have bad : (¬ dn (g.2 1) h N = 0 ∨ ¬ N = 2) → wp_X2_fail 3 u (fun u10 => post u10) := by
    intro hb
    obtain ⟨y, yF, ye, yg⟩ := failM (c := 3) (v := g) (by decide)
    exact failA (by decide) (fun u' uF ue => failX hC' uF yF (by decide) (by decide) (by decide) (by decide) ue ye (go y (fun Q q => toF Q (isPlainM hLI h26 (by decide) (fun q1 q2 => by rcases hb with z | z; exact absurd q1 z; exact absurd q2 z) (fun _ => ⟨fun z => absurd rfl z, fun _ => yg Q q⟩)))) fin)
  have NN : N < 2 ^ 20 := by
    have := (LI_at hLI (Nat.le_refl N)).1
    have := (LI_at hLI (Nat.le_refl N)).2.1
    omega
  refine plainX A1 A3 (by omega) aLI (fun q => ⟨fun q4 => ?_, fun q4 => bad (Or.inr (fun z => q4 (by rw [z]; rfl)))⟩) (fun q => ⟨fun q4 => absurd q4 (by decide), fun _ => bad (Or.inl (by rw [← hdn]; exact q))⟩)
  rw [show (2 : Int32) = nI 2 from rfl, nI_eq (by omega) (by omega)] at q4
  subst q4
  rw [hdn] at q
  have tlp : tl (ra u) p = m := tl_eq aLI.2.1
  -- the reference's loop, as a way
  have goL : ∀ w, (∀ Q : mS → Prop, Q w → ∃ n, mL3 (fun K => wj_X9_form_125 K Q) n (nI (h + m)) (nI h) g) → MGo v w ∧ MIN w := by
    intro w hw
    refine go w (fun Q hq => toF Q (isPlainM hLI h26 (by decide) (fun _ _ => ⟨fun _ => ⟨fun _ => ?_, fun z => absurd z (by decide)⟩, fun z => absurd z (by decide)⟩) (fun z => by rcases z with z | z; exact absurd q z; exact absurd rfl z)))
    intro y13 e13
    rw [h1] at e13; subst e13
    refine end_2 hLI.2.1 h26 ?_
    intro y16 e16
    rw [h1] at e16; subst e16
    exact hw Q hq
  have errQ : ∀ (n j : Nat) (u' : mS), j + n = m → FR [6, 7] [9] u u' → ¬ u'.1 7 = 0 → post u' → mL4 (fun K => wj_X2_putTree_9 K post) (n + 1) (nI p) (nI (p + m)) (nI (p + j)) u' := by
    intro n
    induction n with
    | zero =>
      intro j u' hj uF ue hp
      have : j = m := by omega
      subst this
      exact ⟨fun _ => hp, fun z => absurd (Int32.le_refl _) z⟩
    | succ n ih =>
      intro j u' hj uF ue hp
      have A1' := AR_fr A1 (uF.1 1 (by decide)) (uF.2 1 (by decide)) (uF.2 3 (by decide))
      have nx50 : wj_X2_putTree_50 (mL4 (fun K => wj_X2_putTree_9 K post) (n + 1)) post (nI p) (nI (p + m)) (nI (p + j)) u' := by
        refine wordAR A1' (by omega) ?_
        obtain ⟨cs, c1, -⟩ := tokT (A1'.2 (p + j) (by omega) (by omega)).1
        refine c1 u' _ (fun z => absurd z ue) ?_
        have : ∀ cs : List Int32, pAs cs u' = u' := by
          intro cs
          induction cs with
          | nil => rfl
          | cons x xs ihx => show pAs xs (pA x u') = u'; rw [pA_err ue]; exact ihx
        rw [this]
        rintro _ rfl
        rw [nI_1]
        exact ih (j + 1) u' (by omega) uF ue hp
      refine ⟨fun z => absurd z (by rw [nI_leI (by omega) (by omega)]; omega), fun _ => ⟨fun _ => nx50, fun z => ?_⟩⟩
      rw [nI_leI (by omega) (by omega)] at z
      refine wordAR A1' (by omega) ⟨fun _ => nx50, fun _ => ?_⟩
      rintro _ rfl
      rw [show (1 : Int32) = nI 1 from rfl, pk_sub (by omega)]
      refine wordAR A1' (by omega) ⟨fun _ => nx50, fun _ => put_A (fun z => absurd z ue) ?_⟩
      rw [pA_err ue]; exact nx50
  have main : ∀ (dd j : Nat) (uk vk : mS), j + dd = m → FR [6, 7] [9] u uk → FR [9, 10, 12] [19] g vk → TX uk vk → uk.1 7 = 0 → vk.1 10 = (if j = 0 then 0 else if kd (g.2 1 (h + (j - 1))) = 1 then 0 else 1) → (∀ w, (∀ Q : mS → Prop, Q w → ∃ n, mL3 (fun K => wj_X9_form_125 K Q) n (nI (h + m)) (nI (h + j)) vk) → MGo v w ∧ MIN w) → mL4 (fun K => wj_X2_putTree_9 K post) (dd + 1) (nI p) (nI (p + m)) (nI (p + j)) uk := by
    intro dd
    induction dd with
    | zero =>
      intro j uk vk hj uF vF hTk uk7 vg gk
      have : j = m := by omega
      subst this
      obtain ⟨z1, z2⟩ := gk (mSet vk 1 (nI (h + j))) (fun Q hq => ⟨1, fun _ => by rintro _ rfl; exact hq, fun z => absurd (Int32.le_refl _) z⟩)
      refine ⟨fun _ => fin uk _ z1 (RES_txt hR uF (FR_set (vF.wk (by decide) (by decide)) (by decide)) z2 hTk (fun _ => mSet_same _ _ _) (fun _ => ?_)), fun z => absurd (Int32.le_refl _) z⟩
      rw [mSet_other (by decide : (10 : Nat) ≠ 1), vg, if_neg (by omega), if_neg (by rw [m2.2.2]; decide)]
    | succ dd ih =>
      intro j uk vk hj uF vF hTk uk7 vg gk
      have A1' := AR_fr A1 (uF.1 1 (by decide)) (uF.2 1 (by decide)) (uF.2 3 (by decide))
      have vk12 : vk.1 12 = 0 := by
        rcases hTk with ⟨-, z, -⟩ | ⟨z, -⟩
        · exact z
        · exact absurd uk7 z
      have rj : ∀ i, i < m → AW (uk.2 1 (p + i)) (g.2 1 (h + i)) := by
        intro i hi
        rw [uF.2 1 (by decide), ← (hl i hi).1]
        exact (A1.2 (p + i) (by omega) (by omega)).1
      obtain ⟨cs, c1, c2⟩ := tokT (rj j (by omega))
      have vr : vk.2 1 = g.2 1 := vF.2 1 (by decide)
      -- a token on, from ux with its space put
      have next : ∀ (ux : mS), FR [6, 7] [9] u ux → LAo ux → TX (pAs cs ux) (tkM (g.2 1 (h + j)) cs vk) → wj_X2_putTree_50 (mL4 (fun K => wj_X2_putTree_9 K post) (dd + 1)) post (nI p) (nI (p + m)) (nI (p + j)) ux := by
        intro ux xF xL xT
        have A1x := AR_fr A1 (xF.1 1 (by decide)) (xF.2 1 (by decide)) (xF.2 3 (by decide))
        refine wordAR A1x (by omega) ?_
        rw [xF.2 1 (by decide), ← uF.2 1 (by decide)]
        refine c1 ux _ xL ?_
        rintro _ rfl
        rw [nI_1]
        have uF' : FR [6, 7] [9] u (pAs cs ux) := xF.tr (pAs_fr cs)
        have vF' : FR [9, 10, 12] [19] g (tkM (g.2 1 (h + j)) cs vk) := vF.tr tkM_fr
        have way : ∀ w, (∀ Q : mS → Prop, Q w → ∃ n, mL3 (fun K => wj_X9_form_125 K Q) n (nI (h + m)) (nI (h + j + 1)) (tkM (g.2 1 (h + j)) cs vk)) → MGo v w ∧ MIN w := by
          intro w hw
          refine gk w (fun Q hq => ?_)
          obtain ⟨n, hn⟩ := hw Q hq
          refine ⟨n + 1, fun z => absurd z (by rw [nI_leI (by omega) (by omega)]; omega), fun _ => ?_⟩
          intro y36 e36
          refine ⟨fun z => absurd (e36.trans vk12) z, fun _ => c2 vk (h + j) _ (by rw [vr]) (by omega) (TX_M hTk) ?_⟩
          rintro _ rfl
          rw [nI_1]
          exact hn
        by_cases ue : (pAs cs ux).1 7 = 0
        · exact ih (j + 1) (pAs cs ux) _ (by omega) uF' vF' xT ue (by rw [tkM_gap, if_neg (show ¬ j + 1 = 0 by omega), show j + 1 - 1 = j from by omega]) way
        · have we : ¬ (tkM (g.2 1 (h + j)) cs vk).1 12 = 0 := by
            rcases xT with ⟨z, -, -⟩ | ⟨-, z⟩
            · exact absurd z ue
            · exact z
          obtain ⟨z1, z2⟩ := way (mSet (tkM (g.2 1 (h + j)) cs vk) 1 (nI (h + m))) (fun Q hq => ⟨1, fun _ => by rintro _ rfl; exact hq, fun _ => by
            intro y36 e36
            exact ⟨fun _ => by rintro _ rfl; exact hq, fun z => absurd (e36.symm.trans z) we⟩⟩)
          exact errQ dd (j + 1) _ (by omega) uF' ue (fin _ _ z1 (RES_txt hR uF' (FR_set (vF'.wk (by decide) (by decide)) (by decide)) z2 (Or.inr ⟨ue, we⟩) (fun z => absurd z we) (fun z => absurd z we)))
      have plain : (kd (g.2 1 (h + j)) = 2 ∨ vk.1 10 = 0) → wj_X2_putTree_50 (mL4 (fun K => wj_X2_putTree_9 K post) (dd + 1)) post (nI p) (nI (p + m)) (nI (p + j)) uk := by
        intro hc
        refine next uk uF (TX_A hTk) ?_
        unfold tkM
        split
        · exact TX_puts cs hTk
        · rename_i n2'
          have g0 : vk.1 10 = 0 := hc.resolve_left n2'
          have : TX uk (spM vk) := by rw [spM_0 g0]; exact TX_gap hTk
          split
          · exact TX_puts cs this
          · exact TX_puts cs this
      refine ⟨fun z => absurd z (by rw [nI_leI (by omega) (by omega)]; omega), fun _ => ⟨fun z => ?_, fun z => ?_⟩⟩
      · rw [nI_leI (by omega) (by omega)] at z
        have j0 : j = 0 := by omega
        rw [if_pos j0] at vg
        exact plain (Or.inr vg)
      · rw [nI_leI (by omega) (by omega)] at z
        have j0 : ¬ j = 0 := by omega
        rw [if_neg j0] at vg
        refine wordAR A1' (by omega) ⟨fun z2 => plain (Or.inl ((AW_2 (rj j (by omega))).mp z2)), fun z2 => ?_⟩
        rintro _ rfl
        rw [show (1 : Int32) = nI 1 from rfl, pk_sub (by omega), show p + j - 1 = p + (j - 1) from by omega]
        refine wordAR A1' (by omega) ⟨fun z3 => ?_, fun z3 => put_A (TX_A hTk) ?_⟩
        · have := (AW_1 (rj (j - 1) (by omega))).mp z3
          rw [if_pos this] at vg
          exact plain (Or.inr vg)
        · have z3' : ¬ kd (g.2 1 (h + (j - 1))) = 1 := fun q => z3 ((AW_1 (rj (j - 1) (by omega))).mpr q)
          have z2' : ¬ kd (g.2 1 (h + j)) = 2 := fun q => z2 ((AW_2 (rj j (by omega))).mpr q)
          rw [if_neg z3'] at vg
          refine next (pA 32 uk) (uF.tr pA_fr) (LAo_put (TX_A hTk)) ?_
          have T1 : TX (pA 32 uk) (spM vk) := by
            unfold spM
            rw [if_neg (by rw [vg]; decide)]
            exact TX_gap (TX_put hTk)
          unfold tkM
          rw [if_neg z2']
          split
          · exact TX_puts cs T1
          · exact TX_puts cs T1
  refine after_ok A1 A3 (by omega) ?_
  rw [tlp]
  have := main m 0 u g (by omega) FR.rf FR.rf hTX u7 (by rw [if_pos rfl]; exact g10) goL
  exact ⟨_, this⟩
