-- 86: the reference's use of a rule, exactly
theorem copyX {c H : Nat} {w : mS} (h1 : w.1 1 = nI H) (h6 : w.1 6 = nI c) (hc : c ≤ 310) (hH : H + c ≤ 2600) : ∃ z, FR [] [1, 2] w z ∧ (∀ l, l < c → z.2 1 (H + l) = w.2 12 l ∧ z.2 2 (H + l) = w.2 13 l) ∧ (∀ l, (l < H ∨ H + c ≤ l) → z.2 1 l = w.2 1 l ∧ z.2 2 l = w.2 2 l) ∧ ∀ post : mS → Prop, post z → ∃ n, mL2 (fun K => wj_X9_use_182 K post) n (nI 0) w := by
  have main : ∀ (d j : Nat) (y : mS), j + d = c → FR [] [1, 2] w y → (∀ l, l < j → y.2 1 (H + l) = w.2 12 l ∧ y.2 2 (H + l) = w.2 13 l) → (∀ l, (l < H ∨ H + c ≤ l) → y.2 1 l = w.2 1 l ∧ y.2 2 l = w.2 2 l) → ∃ z, FR [] [1, 2] w z ∧ (∀ l, l < c → z.2 1 (H + l) = w.2 12 l ∧ z.2 2 (H + l) = w.2 13 l) ∧ (∀ l, (l < H ∨ H + c ≤ l) → z.2 1 l = w.2 1 l ∧ z.2 2 l = w.2 2 l) ∧ ∀ post : mS → Prop, post z → mL2 (fun K => wj_X9_use_182 K post) (d + 1) (nI j) y := by
    intro d
    induction d with
    | zero =>
      intro j y hj yF y1 y2
      have : j = c := by omega
      subst this
      refine ⟨y, yF, y1, y2, fun post hp => ?_⟩
      intro y44 e44
      have e44 : y44 = nI j := e44.trans ((yF.1 6 (by decide)).trans h6)
      subst e44
      exact ⟨fun _ => hp, fun q => absurd (Int32.le_refl _) q⟩
    | succ d ih =>
      intro j y hj yF y1 y2
      have q12 : y.2 12 = w.2 12 := yF.2 12 (by decide)
      have q13 : y.2 13 = w.2 13 := yF.2 13 (by decide)
      obtain ⟨z, z1, z2, z3, z4⟩ := ih (j + 1) (mPut (mPut y 1 (H + j) (y.2 12 j)) 2 (H + j) (y.2 13 j)) (by omega) (FR_put (FR_put yF (by decide)) (by decide)) (fun l hl => by
        rw [mPut_row, mPut_other (by decide : (1 : Nat) ≠ 2), mPut_row, mPut_other (by decide : (2 : Nat) ≠ 1)]
        by_cases e : l = j
        · subst e
          rw [pk_us, pk_us, q12, q13]
          exact ⟨rfl, rfl⟩
        · rw [pk_un (by omega), pk_un (by omega)]
          exact y1 l (by omega)) (fun l hl => by
        rw [mPut_row, mPut_other (by decide : (1 : Nat) ≠ 2), mPut_row, mPut_other (by decide : (2 : Nat) ≠ 1), pk_un (by omega), pk_un (by omega)]
        exact y2 l hl)
      refine ⟨z, z1, z2, z3, fun post hp => ?_⟩
      intro y44 e44
      have e44 : y44 = nI c := e44.trans ((yF.1 6 (by decide)).trans h6)
      subst e44
      have yh : y.1 1 = nI H := (yF.1 1 (by decide)).trans h1
      refine ⟨fun q => absurd q (by rw [nI_leI (by omega) (by omega)]; omega), fun _ => ?_⟩
      intro y46 e46
      have e46 : y46 = nI H := e46.trans yh
      subst e46
      rintro _ rfl
      rw [nI_add]
      refine ⟨vp_in_nI (by omega) (by omega), ?_⟩
      rintro _ rfl
      refine ⟨vp_in_nI (by omega) (by omega), ?_⟩
      rintro _ rfl y50 e50
      have e50 : y50 = nI H := e50.trans yh
      subst e50
      rintro _ rfl
      rw [nI_add]
      refine ⟨vp_in_nI (by omega) (by omega), ?_⟩
      rintro _ rfl
      refine ⟨vp_in_nI (by omega) (by omega), ?_⟩
      rintro _ rfl _ rfl
      rw [nI_1, nI_clamp (show H + j < 2 ^ 31 by omega), nI_clamp (show j < 2 ^ 31 by omega), mPut_other (by decide : (13 : Nat) ≠ 1)]
      exact z4 post hp
  obtain ⟨z, z1, z2, z3, z4⟩ := main c 0 w (by omega) FR.rf (fun l hl => by omega) (fun l _ => ⟨rfl, rfl⟩)
  exact ⟨z, z1, z2, z3, fun post hp => ⟨_, z4 post hp⟩⟩
/-- the way to the rule -/
theorem useM_way {bi f c h m a b N : Nat} {v : mS} (hf : v.1 15 = nI (f + 1)) (f8 : f < 100) (h13 : v.1 13 = nI c) (hc : c < 30) (he : v.1 12 = 0) (hh : v.1 1 = nI h) (hT : TL (v.2 1) h m) (hl : h + m ≤ 2600) (hm : m ≤ 310) (hbi : bi < 40) (hfr : v.2 10 bi = nI a) (hto : v.2 11 bi = nI b) (hS : SQ (v.2 3) a b N) (hb : b ≤ 3200) (hP : ∀ k, k < N → ∃ n N' t, PC (v.2 3) (nx (v.2 3) a k + 1) n N' t ∧ nx (v.2 3) a k + 1 + n ≤ 3200) : ∃ k z, k ≤ N ∧ FR [13, 15] [2, 14, 15] v z ∧ z.1 15 = nI f ∧ z.1 13 = nI (c + 1) ∧ z.2 2 = tnF (fun s x => s ^^^ x) (v.2 1) (v.2 2) (nI (2 ^ c)) h (h + m) ∧ (∀ j, j < k → ¬ MT (v.2 3) (v.2 1) (MXX (v.2 3) (v.2 1)) 1 (nx (v.2 3) a j + 1) h) ∧ (k < N → MT (v.2 3) (v.2 1) (MXX (v.2 3) (v.2 1)) 1 (nx (v.2 3) a k + 1) h) ∧ ∀ Q : mS → Prop, wj_X9_use_114 Q (nI bi) (nI (2 ^ c)) (nI (h + m)) (nI (nx (v.2 3) a k)) z → wp_X9_use (nI bi) v Q := by
  have mid : wp_X9_scope (mSet v 15 (nI f)) (fun r w => r = nI (2 ^ c) ∧ FR [13, 15] [2] v w ∧ w.1 15 = nI f ∧ w.1 13 = nI (c + 1) ∧ w.2 2 = v.2 2) := by
    refine scopeX (c := c) ((mSet_other (by decide : (13 : Nat) ≠ 15)).trans h13) (by omega) (fun _ w wF w13 => ⟨bit_sc hc, (FR_set FR.rf (by decide)).tr (wF.wk (by decide) (by decide)), (wF.1 15 (by decide)).trans (mSet_same _ _ _), w13, by rw [wF.2 2 (by decide)]; rfl⟩) (fun q => by omega)
  refine d_wp_X9_scope mid (fun r w hw reb => ?_)
  obtain ⟨rfl, wF, w15, w13, w2⟩ := hw
  have w1 : w.2 1 = v.2 1 := wF.2 1 (by decide)
  have mid2 : wp_X9_turn_2_3 (nI h) (nI (h + m)) (nI (2 ^ c)) w (fun y => FR [] [2] w y ∧ y.2 2 = tnF (fun s x => s ^^^ x) (v.2 1) (v.2 2) (nI (2 ^ c)) h (h + m)) := turn2X (by omega) hl (fun y yF y2 => ⟨yF, by rw [y2, w1, w2]⟩)
  refine d_wp_X9_turn_2_3 mid2 (fun y hy reb2 => ?_)
  obtain ⟨yF, y2⟩ := hy
  have vyF : FR [13, 15] [2, 14, 15] v y := (wF.wk (by decide) (by decide)).tr (yF.wk (by decide) (by decide))
  have e1 : y.2 1 = v.2 1 := vyF.2 1 (by decide)
  have e3 : y.2 3 = v.2 3 := vyF.2 3 (by decide)
  obtain ⟨k, z, q1, q2, zF, q4, q5, q6⟩ := ruleM (u := y) (x2 := nI (2 ^ c)) (x3 := nI (h + m)) (lst := h) (m := m) (by rw [e3]; exact hS) hb hbi (by rw [vyF.2 11 (by decide)]; exact hto) ((vyF.1 1 (by decide)).trans hh) (by rw [e1]; exact hT) hl hm (by rw [e3]; exact hP) N 0 y (by omega) FR.rf
  rw [e1, e3] at q4 q5
  refine ⟨k, z, q2, vyF.tr (zF.wk (by decide) (by decide)), (zF.1 15 (by decide)).trans ((yF.1 15 (by decide)).trans w15), (zF.1 13 (by decide)).trans ((yF.1 13 (by decide)).trans w13), (zF.2 2 (by decide)).trans y2, fun j hj => q4 j (by omega) hj, q5, fun Q hQ => ?_⟩
  intro y1 e1'
  rw [hf] at e1'; subst e1'
  refine ⟨fun _ => ?_, fun q => absurd q (by
    intro q
    have q : nI (f + 1) = nI 0 := q
    rw [nI_eq (by omega) (by omega)] at q
    omega)⟩
  intro y3 e3'
  rw [hf] at e3'; subst e3'
  rintro _ rfl _ rfl
  rw [nI_pred]
  refine reb _ ?_
  intro y8 e8
  have e8 : y8 = 0 := e8.trans ((wF.1 12 (by decide)).trans he)
  refine ⟨fun _ => ?_, fun q => absurd e8 q⟩
  have wh : w.1 1 = nI h := (wF.1 1 (by decide)).trans hh
  intro y10 e10
  rw [wh] at e10; subst e10
  refine end_2 (by rw [w1]; exact hT) hl ?_
  intro y13 e13
  rw [wh] at e13; subst e13
  refine reb2 _ ?_
  refine ⟨vp_in_nI hbi (by omega), ?_⟩
  rintro _ rfl
  rw [nI_clamp (by omega), vyF.2 10 (by decide), hfr]
  have := q6 Q (by rw [e3]; exact hQ)
  rw [e3] at this
  exact this
