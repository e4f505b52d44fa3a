-- 96d: the head of a function as text
theorem varsX {uk vk : mS} {nv N1 h ar hb x y : Nat} {cs : List Int32} {post : mS → Prop} (hTk : TX uk vk) (ve : vk.1 12 = 0) (v14 : vk.1 14 = nI (nv + N1)) (hnv : nv + N1 ≤ 100) (g10 : vk.1 10 = 0) (h1 : vk.1 1 = nI h) (h11 : vk.1 11 = nI ar) (hcs : NCH x y cs) (ex : (91758 : Int32) = nI x) (hy : y < 65536) (ec : vk.2 1 (h + 1) = nI (65536 * 3 + y)) (hh : h + 1 < 2600)
    (fin : ∀ ux w, FR [6, 7] [9] uk ux → FR [1, 9, 10, 11, 12] [19] vk w → TX ux w → w.1 1 = nI hb → w.1 11 = nI (ar + 1) → w.1 10 = 1 → (∀ Q : mS → Prop, Q w → wj_X9_function_292 Q (nI hb) (nI nv) vk) → post (pA 32 ux)) : wp_X0_putVariables (nI nv) (nI N1) uk post := by
  have hL := TX_M hTk
  obtain ⟨m1, em1⟩ : ∃ x, x = spM (mSet (pM 40 (spM vk)) 10 0) := ⟨_, rfl⟩
  have m1F : FR [9, 10, 12] [19] vk m1 := by
    rw [em1]
    exact (FR_set (spM_fr.tr (pM_fr.wk (by decide) (by decide))) (by decide)).tr spM_fr
  have T1 : TX (pA 40 uk) m1 := by
    have : TX (pA 40 uk) (pM 40 (spM vk)) := TX_put (by rw [spM_0 g10]; exact TX_gap hTk)
    rw [em1, spM_0 (mSet_same _ _ _)]
    exact this
  have g1 : m1.1 10 = 1 := by rw [em1]; unfold spM; exact mSet_same _ _ _
  have T2 : TX (pAs cs (pA 40 uk)) (pMs cs m1) := TX_puts cs T1
  have g2 : (pMs cs m1).1 10 = 1 := ((pMs_fr cs).1 10 (by decide)).trans g1
  obtain ⟨m3, em3⟩ : ∃ x, x = mSet (pM 40 (spM (pMs cs m1))) 10 0 := ⟨_, rfl⟩
  have m3F : FR [9, 10, 12] [19] vk m3 := by
    rw [em3]
    exact FR_set ((m1F.tr ((pMs_fr cs).wk (by decide) (by decide))).tr (spM_fr.tr (pM_fr.wk (by decide) (by decide)))) (by decide)
  have T3 : TX (pA 40 (pA 32 (pAs cs (pA 40 uk)))) m3 := by
    have : TX (pA 32 (pAs cs (pA 40 uk))) (spM (pMs cs m1)) := by
      unfold spM
      rw [if_neg (by rw [g2]; decide)]
      exact TX_gap (TX_put T2)
    rw [em3]
    exact TX_put this
  have g3 : m3.1 10 = 0 := by rw [em3, mSet_same]
  have to3 : ∀ Q : mS → Prop, (∃ n, mL3 (fun K => wj_X9_function_333 K Q) n (nI hb) (nI nv) m3) → wj_X9_function_292 Q (nI hb) (nI nv) vk := by
    intro Q q
    intro y65 e65
    refine ⟨fun _ => ?_, fun z => absurd (e65.trans ve) z⟩
    refine space_M hL (put_M (LMo_sp hL) ?_)
    rintro _ rfl
    refine space_M (LMo_gap (LMo_put (LMo_sp hL))) ?_
    rw [← em1]
    intro y71 e71
    rw [m1F.1 1 (by decide), h1] at e71; subst e71
    rintro _ rfl
    rw [nI_1]
    refine what_2x hh (by rw [m1F.2 1 (by decide)]; exact ec) (by decide) hy ?_
    refine putName_M hcs (TX_M T1) ?_
    refine space_M (TX_M T2) (put_M (LMo_sp (TX_M T2)) ?_)
    rintro _ rfl
    rw [← em3]
    exact q
  have main : ∀ (dd k : Nat) (ux vx : mS), k + dd = N1 → FR [6, 7] [9] uk ux → FR [9, 10, 12] [19] vk vx → TX ux vx → vx.1 10 = (if k = 0 then 0 else 1) → (∀ Q : mS → Prop, (∃ n, mL3 (fun K => wj_X9_function_333 K Q) n (nI hb) (nI (nv + k)) vx) → wj_X9_function_292 Q (nI hb) (nI nv) vk) → mL4 (fun K => wj_X0_putVariables_38 K post) (dd + 1) (nI nv) (nI N1) (nI k) ux := by
    intro dd
    induction dd with
    | zero =>
      intro k ux vx hk uF vF hTx hg to
      have : k = N1 := by omega
      subst this
      refine ⟨fun _ => put_A (TX_A hTx) (put_A (LAo_put (TX_A hTx)) ?_), fun z => absurd (Int32.le_refl _) z⟩
      refine fin (pA 41 ux) (mSet (mSet (mSet (pM 41 vx) 10 1) 11 (nI (ar + 1))) 1 (nI hb)) (uF.tr pA_fr) (FR_set (FR_set (FR_set ((vF.wk (by decide) (by decide)).tr (pM_fr.wk (by decide) (by decide))) (by decide)) (by decide)) (by decide)) (TX_put hTx) (mSet_same _ _ _) ?_ ?_ (fun Q q => to Q ⟨1, ?_⟩)
      · rw [mSet_other (by decide : (11 : Nat) ≠ 1), mSet_same]
      · rw [mSet_other (by decide : (10 : Nat) ≠ 1), mSet_other (by decide : (10 : Nat) ≠ 11), mSet_same]
      · intro y79 e79
        rw [vF.1 14 (by decide), v14] at e79; subst e79
        refine ⟨fun _ => put_M (TX_M hTx) ?_, fun z => absurd (Int32.le_refl _) z⟩
        rintro _ rfl y83 e83
        rw [mSet_other (by decide : (11 : Nat) ≠ 10), pM_fr.1 11 (by decide), vF.1 11 (by decide), h11] at e83; subst e83
        rintro _ rfl _ rfl
        rw [nI_1]
        rintro _ rfl
        exact q
    | succ dd ih =>
      intro k ux vx hk uF vF hTx hg to
      have fin' : ∀ uy : mS, FR [6, 7] [9] uk uy → TX uy (spM vx) → wj_X0_putVariables_56 (mL4 (fun K => wj_X0_putVariables_38 K post) (dd + 1)) post (nI nv) (nI N1) (nI k) uy := by
        intro uy yF yT
        rintro _ rfl
        rw [nI_add]
        refine putVar_A (by omega) (TX_A yT) ?_
        rintro _ rfl
        rw [nI_1]
        refine ih (k + 1) _ (pMs (118 :: NUC (nv + k)) (spM vx)) (by omega) (yF.tr (pAs_fr _)) (vF.tr (spM_fr.tr ((pMs_fr _).wk (by decide) (by decide)))) (TX_puts _ yT) ?_ (fun Q q => to Q ?_)
        · rw [(pMs_fr _).1 10 (by decide), if_neg (by omega)]
          unfold spM
          exact mSet_same _ _ _
        · obtain ⟨n, hn⟩ := q
          refine ⟨n + 1, ?_⟩
          intro y79 e79
          rw [vF.1 14 (by decide), v14] at e79; subst e79
          refine ⟨fun z => absurd z (by rw [nI_leI (by omega) (by omega)]; omega), fun _ => ?_⟩
          refine space_M (TX_M hTx) (put_M (LMo_sp (TX_M hTx)) (putNum_M (by omega) (LMo_put (LMo_sp (TX_M hTx))) ?_))
          rintro _ rfl
          rw [nI_1]
          exact hn
      refine ⟨fun z => absurd z (by rw [nI_leI (by omega) (by omega)]; omega), fun _ => ⟨fun z => ?_, fun z => put_A (TX_A hTx) ?_⟩⟩
      · have k0 : k = 0 := by
          rw [show (0 : Int32) = nI 0 from rfl, nI_leI (by omega) (by omega)] at z
          omega
        rw [if_pos k0] at hg
        exact fin' ux uF (by rw [spM_0 hg]; exact TX_gap hTx)
      · have k0 : ¬ k = 0 := by
          rw [show (0 : Int32) = nI 0 from rfl, nI_leI (by omega) (by omega)] at z
          omega
        rw [if_neg k0] at hg
        refine fin' (pA 32 ux) (uF.tr pA_fr) ?_
        unfold spM
        rw [if_neg (by rw [hg]; decide)]
        exact TX_gap (TX_put hTx)
  refine put_A (TX_A hTk) ?_
  rw [ex]
  refine putName_A hcs (LAo_put (TX_A hTk)) (put_A (TX_A T2) (put_A (LAo_put (TX_A T2)) ?_))
  exact ⟨_, main N1 0 _ m3 (by omega) ((pA_fr.tr (pAs_fr cs)).tr (pA_fr.tr pA_fr)) m3F T3 (by rw [if_pos rfl]; exact g3) to3⟩
theorem vrF_none {r s : Nat → Int32} {v w : Int32} : ∀ (n i : Nat), i + n < 2 ^ 31 → vrF r s v w n i = -1 → ∀ j, j < n → ¬ (r (i + j) = v ∧ s (i + j) = w) := by
  intro n
  induction n with
  | zero => intro i _ _ j hj; omega
  | succ n ih =>
    intro i hi h j hj
    have h' : (if r i = v ∧ s i = w then nI i else vrF r s v w n (i + 1)) = -1 := h
    by_cases c : r i = v ∧ s i = w
    · rw [if_pos c] at h'
      exact absurd h' (nI_ng (by omega) (by decide))
    · rw [if_neg c] at h'
      rcases Nat.eq_zero_or_pos j with z | z
      · subst z; rw [Nat.add_zero]; exact c
      · have := ih (i + 1) (by omega) h' (j - 1) (by omega)
        rw [show i + 1 + (j - 1) = i + j from by omega] at this
        exact this
/-- the reference's binding of a name of a function, behind the check -/
def BDM (l k : Nat) (x4 x6 : Int32) (w : mS) (K : Int32 → Int32 → Int32 → Int32 → mS → Prop) (Q : mS → Prop) : Prop := wp_X9_what_2 (nI (l + 1 + k)) w (fun r43 u44 => vp_in (nI (l + 1 + k)) 2600 ∧ ∀ y45 : Int32, y45 = u44.2 2 (nI (l + 1 + k)).toNatClampNeg → ∀ y46 : Int32, y46 = (u44.1 14) → wp_X9_bind r43 y45 (2 : Int32) y46 (0 : Int32) u44 (fun u48 => wj_X9_function_262 K Q (nI l) x4 x6 (nI (l + 1 + k)) u48))
theorem bindM {l k nv nb y : Nat} {w : mS} (hk : l + 1 + k < 2600) (we : w.1 12 = 0) (ec : w.2 1 (l + 1 + k) = nI (65536 * 3 + y)) (hy : y < 65536) (h14 : w.1 14 = nI nv) (e4 : w.1 4 = nI nb) (nb40 : nb < 40) : ∃ v, FR [4, 14] [7, 8, 9, 10, 11] w v ∧ v.1 4 = nI (nb + 1) ∧ v.1 14 = nI (nv + 1) ∧ v.2 7 = upd (w.2 7) nb (nI y) ∧ v.2 8 = upd (w.2 8) nb (w.2 2 (l + 1 + k)) ∧ v.2 9 = upd (w.2 9) nb 2 ∧ v.2 10 = upd (w.2 10) nb (nI nv) ∧ v.2 11 = upd (w.2 11) nb 0 ∧ ∀ (x4 x6 : Int32) (K : Int32 → Int32 → Int32 → Int32 → mS → Prop) (Q : mS → Prop), K (nI l) x4 x6 (nI (l + 1 + k + 1)) v → BDM l k x4 x6 w K Q := by
  have base : wp_X9_bind (nI y) (w.2 2 (l + 1 + k)) 2 (nI nv) 0 w (fun v => FR [4] [7, 8, 9, 10, 11] w v ∧ v.1 4 = nI (nb + 1) ∧ v.2 7 = upd (w.2 7) nb (nI y) ∧ v.2 8 = upd (w.2 8) nb (w.2 2 (l + 1 + k)) ∧ v.2 9 = upd (w.2 9) nb 2 ∧ v.2 10 = upd (w.2 10) nb (nI nv) ∧ v.2 11 = upd (w.2 11) nb 0) := bindX e4 (by omega) (fun lt v vF v4 v7 v8 v9 v10 v11 => ⟨vF, v4, v7, v8, v9, v10, v11⟩) (fun e => by omega)
  refine d_wp_X9_bind base (fun v hv reb => ?_)
  obtain ⟨vF, v4, v7, v8, v9, v10, v11⟩ := hv
  refine ⟨mSet v 14 (nI (nv + 1)), FR_set (vF.wk (by decide) (by decide)) (by decide), by rw [mSet_other (by decide : (4 : Nat) ≠ 14)]; exact v4, mSet_same _ _ _, v7, v8, v9, v10, v11, fun x4 x6 K Q hK => ?_⟩
  refine what_2x hk ec (by decide) hy ⟨vp_in_nI hk (by omega), ?_⟩
  rintro _ rfl y46 e46
  rw [h14] at e46; subst e46
  rw [nI_clamp (by omega)]
  refine reb _ ?_
  intro y58 e58
  rw [vF.1 12 (by decide), we] at e58
  refine ⟨fun z => absurd e58 z, fun _ => ?_⟩
  intro y61 e61
  rw [vF.1 14 (by decide), h14] at e61; subst e61
  rintro _ rfl _ rfl _ rfl
  rw [nI_1, nI_1]
  exact hK
theorem bindM0 {l k nv y : Nat} {w : mS} (hk : l + 1 + k < 2600) (ec : w.2 1 (l + 1 + k) = nI (65536 * 3 + y)) (hy : y < 65536) (h14 : w.1 14 = nI nv) (e4 : w.1 4 = nI 40) : ∃ v, FR [12, 14] [] w v ∧ ¬ v.1 12 = 0 ∧ v.1 14 = nI nv ∧ ∀ (x4 x6 : Int32) (K : Int32 → Int32 → Int32 → Int32 → mS → Prop) (Q : mS → Prop), K (nI l) x4 x6 (nI (l + 1 + k + 1)) v → BDM l k x4 x6 w K Q := by
  have base : wp_X9_bind (nI y) (w.2 2 (l + 1 + k)) 2 (nI nv) 0 w (fun v => FR [12] [] w v ∧ ¬ v.1 12 = 0) := bindX (nb := 40) e4 (by omega) (fun lt => by omega) (fun e v vF ve => ⟨vF, ve⟩)
  refine d_wp_X9_bind base (fun v hv reb => ?_)
  obtain ⟨vF, ve⟩ := hv
  refine ⟨mSet v 14 (nI nv), FR_set (vF.wk (by decide) (by decide)) (by decide), by rw [mSet_other (by decide : (12 : Nat) ≠ 14)]; exact ve, mSet_same _ _ _, fun x4 x6 K Q hK => ?_⟩
  refine what_2x hk ec (by decide) hy ⟨vp_in_nI hk (by omega), ?_⟩
  rintro _ rfl y46 e46
  rw [h14] at e46; subst e46
  rw [nI_clamp (by omega)]
  refine reb _ ?_
  intro y58 e58
  refine ⟨fun _ => ?_, fun z => absurd (e58.symm.trans z) ve⟩
  intro y60 e60
  rw [vF.1 14 (by decide), h14] at e60; subst e60
  rintro _ rfl _ rfl
  rw [nI_1]
  exact hK
theorem f262e {l k nv : Nat} {x4 x6 : Int32} {y : mS} {K : Int32 → Int32 → Int32 → Int32 → mS → Prop} {Q : mS → Prop} (ye : ¬ y.1 12 = 0) (h14 : y.1 14 = nI nv) (hK : K (nI l) x4 x6 (nI (l + 1 + k + 1)) (mSet y 14 (nI nv))) : wj_X9_function_262 K Q (nI l) x4 x6 (nI (l + 1 + k)) y := by
  intro y58 e58
  refine ⟨fun _ => ?_, fun z => absurd (e58.symm.trans z) ye⟩
  intro y60 e60
  rw [h14] at e60; subst e60
  rintro _ rfl _ rfl
  rw [nI_1]
  exact hK
theorem f156e {x2 x4 x6 x7 : Int32} {y : mS} {K : Int32 → Int32 → Int32 → Int32 → mS → Prop} {Q : mS → Prop} (ye : ¬ y.1 12 = 0) (hQ : Q y) : wj_X9_function_156 K Q x2 x4 x6 x7 y := by
  have e292 : wj_X9_function_292 Q x4 x6 y := fun _ e => ⟨fun z => absurd (e.symm.trans z) ye, fun _ => hQ⟩
  intro y35 _
  refine ⟨fun _ => e292, fun _ => ?_⟩
  intro y37 e37
  exact ⟨fun _ => e292, fun z => absurd (e37.symm.trans z) ye⟩
