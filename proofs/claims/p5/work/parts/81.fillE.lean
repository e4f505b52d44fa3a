-- 81: the two fills, whole
theorem RB_zero {u : mS} {st : Nat} (h1 : u.1 1 = nI st) (h2 : u.1 2 = -1) (h3 : st ≤ 3000) : RB u st st := by
  have no : ∀ k, ¬ OPN (ra u) st st k := fun k q => by
    have q1 := q.1
    have q2 := q.2.1
    omega
  exact ⟨h1, Nat.le_refl _, h3, fun k k1 k2 => by omega, fun k k1 k2 => by omega, Or.inl ⟨h2, fun k _ => no k⟩, fun k q => absurd q (no k)⟩
theorem fillAM {P : Int32 → Prop} {b a0 : mS} {pat n m0 lst m R lA a1 b1 a2 b2 st : Nat} {D : Nat → Nat → Prop} {post : Int32 → mS → Prop} (hGX : FGX P b pat n (pat + n) m0 lst m D) (hm0 : m0 ≤ 310) (hR : RD3 b) (he : b.1 12 = 0) (hA : FAG b a0 pat n (pat + n) m0 lst m (R + 1) lA a1 b1 a2 b2) (h1 : a0.1 1 = nI st) (hb1 : b1 ≤ st) (hb2 : b2 ≤ st) (hst : st ≤ 2700) (h7 : a0.1 7 = 0)
    (hend : ∀ u w k, 0 < k → k ≤ 300 → FR [1, 2, 12, 13, 14, 15] [1, 2, 3, 4, 10, 11, 12] a0 u → u.1 7 = 0 → LOW a0 u st → AR u st (st + k) → u.1 1 = nI (st + k) → (∀ j, j < k → ra u (st + j) = w.2 12 j ∧ u.2 2 (st + j) = w.2 13 j ∧ P (u.2 2 (st + j))) → FR [6, 7, 8, 12] [12, 13, 16, 17, 18] b w → RD3 w → w.1 12 = 0 → w.1 6 = nI k → TL (w.2 12) 0 k → ¬ kd (w.2 12 0) = 2 → (∀ j, j < k → TOK (w.2 12 j)) → (∀ j, j < k → kd (w.2 12 j) = 6 → 0 < j ∧ ¬ kd (w.2 12 (j - 1)) = 1 ∧ ¬ kd (w.2 12 (j - 1)) = 6) → (∀ Q : mS → Prop, Q w → wp_X9_fill (nI pat) (nI lst) b Q) → post (nI st) u)
    (herr : ∀ u w, FR [1, 2, 7, 12, 13, 14, 15] [1, 2, 3, 4, 10, 11, 12] a0 u → LOW a0 u st → ¬ u.1 7 = 0 → (∃ t, u.1 1 = nI t ∧ st ≤ t ∧ t ≤ 3000) → FR [6, 7, 8, 12] [12, 13, 16, 17, 18] b w → RD3 w → ¬ w.1 12 = 0 → (∀ Q : mS → Prop, Q w → wp_X9_fill (nI pat) (nI lst) b Q) → post (nI st) u) : wp_X1_fill (nI R) (nI lA) a0 post := by
  obtain ⟨hFC, hDT, hT2, hT6, htok, hrtok, hrdt⟩ := hGX.1
  obtain ⟨⟨N, t, hPC⟩, hPAT, hpT, hTT, hTl, hTEM, hLl, hl2, hm, hTop, hD⟩ := hFC
  have ett := tl_eq hTT
  have m00 := hTT.1
  intro y1 e1 u2 e2 u3 e3 u4 e4 u6 e6 a e8 r7 e7 y9 e9
  rw [nI_1] at e1
  have aF : FR [2, 12, 13, 14, 15] [] a0 a := by
    rw [e8, e6, e4, e3, e2]
    exact FR_set (FR_set (FR_set (FR_set (FR_set FR.rf (by decide)) (by decide)) (by decide)) (by decide)) (by decide)
  have f12 : a.1 12 = nI (R + 1) := by rw [e8, mSet_other (by decide : (12 : Nat) ≠ 2), e6, mSet_other (by decide : (12 : Nat) ≠ 15), e4, mSet_other (by decide : (12 : Nat) ≠ 14), e3, mSet_other (by decide : (12 : Nat) ≠ 13), e2, mSet_same, e1]
  have f13 : a.1 13 = nI lA := by rw [e8, mSet_other (by decide : (13 : Nat) ≠ 2), e6, mSet_other (by decide : (13 : Nat) ≠ 15), e4, mSet_other (by decide : (13 : Nat) ≠ 14), e3, mSet_same]
  have f14 : a.1 14 = nI 0 := by
    rw [e8, mSet_other (by decide : (14 : Nat) ≠ 2), e6, mSet_other (by decide : (14 : Nat) ≠ 15), e4, mSet_same]; rfl
  have f15 : a.1 15 = nI 0 := by
    rw [e8, mSet_other (by decide : (15 : Nat) ≠ 2), e6, mSet_same]; rfl
  have f2 : a.1 2 = -1 := by rw [e8, mSet_same]
  have f1 : a.1 1 = nI st := (aF.1 1 (by decide)).trans h1
  have f7 : a.1 7 = 0 := (aF.1 7 (by decide)).trans h7
  have aL : LOW a0 a st := LOW_fr aF (by decide) (by decide) (by decide) (by decide)
  have hA' := FAG_low hGX.1 hA hb1 hb2 aL ⟨st, f1, Nat.le_refl _, by omega⟩
  clear e1 e2 e3 e4 e6 e8
  rw [f1] at e7; subst e7
  rw [f12] at e9; subst e9
  have tn : tl (ra a) (R + 1) = n := tl_eq (FAG_li hA' hPC.1.1).2.1
  have tm : tl (ra a) (R + 1 + n) = m0 := by
    have := (FAG_tl hGX hA' (Nat.le_refl _) (by omega)).1
    rw [Nat.sub_self, Nat.add_zero, ett] at this
    exact this
  obtain ⟨c1, c2, c3, c4, -⟩ := id hA'
  refine after_ok c1 c3 (by omega) ?_
  rw [tn]
  refine after_ok c1 (by omega) (by omega) ?_
  rw [tm]
  obtain ⟨w0, ew0⟩ : ∃ w0, w0 = mSet (mSet (mSet b 6 0) 7 0) 8 0 := ⟨_, rfl⟩
  have toF : ∀ (w : mS), (∀ Q : mS → Prop, Q w → LF Q pat lst (pat + n + m0) (pat + n) w0) → ∀ Q : mS → Prop, Q w → wp_X9_fill (nI pat) (nI lst) b Q := by
    intro w hw Q q
    refine end_4 hPC.1.1.2.1 (by omega) ?_
    refine end_4 hTT (by omega) ?_
    rintro _ rfl _ rfl _ rfl
    rw [← ew0]
    exact hw Q q
  have P0 : PHI b (pat + n) m0 (pat + n) 0 < 999999 := by
    unfold PHI
    split <;> omega
  have hFIX : FIX b w0 pat (pat + n) m0 lst (pat + n) 0 0 0 (fun l => (b.2 18 l).toNatClampNeg) (fun _ => 0) (fun _ => 0) := by
    rw [ew0]
    refine ⟨FR_set (FR_set (FR_set FR.rf (by decide)) (by decide)) (by decide), hR, he, ?_, ?_, by omega, ?_, by omega, fun l hl => ?_, fun l hl => by omega, ⟨fun l hl => by omega, fun l l' _ hl => by omega, fun c hc h _ => ?_⟩, ⟨fun j hj => by omega, fun j hj => by omega, rfl, ?_, fun j _ hj => by omega, fun h => by omega, fun _ => rfl⟩⟩
    · rw [mSet_other (by decide : (6 : Nat) ≠ 8), mSet_other (by decide : (6 : Nat) ≠ 7), mSet_same]; rfl
    · rw [mSet_other (by decide : (7 : Nat) ≠ 8), mSet_same]; rfl
    · rw [mSet_same]; rfl
    · obtain ⟨c, e, hc⟩ := hR l hl
      show b.2 18 l = nI (b.2 18 l).toNatClampNeg ∧ (b.2 18 l).toNatClampNeg < 2 ^ 20
      rw [e, nI_clamp (by omega)]
      exact ⟨rfl, hc⟩
    · have := hc.1; omega
    · rw [Nat.sub_self]; rfl
  have hFAX : FAX P b a a w0 pat n (pat + n) m0 lst m (R + 1) lA a1 b1 a2 b2 st 0 0 0 (fun l => (b.2 18 l).toNatClampNeg) (fun _ => 0) (fun _ => 0) := ⟨FR.rf, f7, hA', fun x _ => ⟨rfl, rfl, rfl, rfl⟩, RB_zero f1 f2 (by omega), f14, f15, fun l hl => by omega, f12, f13, hb1, hb2, hst, fun j hj => by omega⟩
  have L := fillL (a := a) (post := post) (w0 := w0) (st := st) hGX hm0 (fun u w k ty h rd be ro hF hX go => ?_) (fun u w hE go => ?_) (PHI b (pat + n) m0 (pat + n) 0) 0 (pat + n) 0 0 0 _ _ _ a w0 (Nat.le_refl _) (by omega) (Nat.le_refl _) (by omega) hFIX hFAX (fun Q q => q)
  · rw [Nat.sub_self, Nat.add_zero] at L
    exact ⟨_, L⟩
  · obtain ⟨x1, x2, x3, x4, x5, x6, x7, x8, x9, x10, x11, x12, x13, x14⟩ := hX
    obtain ⟨wF, wR, we, wk, wty, ty100, wh, hh2, wrd, wbe, hSK, hMD⟩ := hF
    obtain ⟨d1, d2, d3, d4, d5, d6, d7⟩ := hMD
    have k0 := d6 (by omega)
    have d0 : dep (w.2 12) 0 k = 0 := by rw [d4, show pat + n + m0 - (pat + n) = m0 from by omega]; exact TL_0 hTT hT2
    have kb := row_room d2 (by omega)
    have hn2 : ¬ kd (w.2 12 0) = 2 := by
      intro q
      have e1 : dep (w.2 12) 0 1 = -1 := by
        rw [show (1 : Nat) = 0 + 1 from rfl, dep_s, Nat.zero_add, sg_close q]; rfl
      rcases Nat.lt_or_ge 1 k with z | z
      · have := d5 1 (by omega) z; omega
      · have : k = 1 := by omega
        rw [this, e1] at d0
        exact absurd d0 (by decide)
    have dc : ∀ j, j ≤ k → dep (ra u) st j = dep (w.2 12) 0 j := fun j hj => dep_copy _ (fun x hx => by rw [(x14 x (by omega)).1, Nat.zero_add])
    refine hend u w k k0 (by rw [← d3] at kb; omega) ((aF.wk (by decide) (by decide)).tr (x1.wk (by decide) (by decide))) x2 (aL.tr x4) (RB_done x5 (fun j hj => ?_) ?_) x5.1 x14 wF wR we wk ⟨k0, by omega, d5⟩ hn2 d1 d2 (toF w go)
    · rw [dc j (by omega)]
      rcases Nat.eq_zero_or_pos j with z | z
      · subst z; exact Int.le_refl _
      · rcases Nat.lt_or_ge j k with y | y
        · have := d5 j z y; omega
        · have : j = k := by omega
          subst this; omega
    · rw [show st + k - st = k from by omega, dc k (Nat.le_refl _)]; omega
  · obtain ⟨q1, q2, q3, q4, q5, q6, q7⟩ := hE
    exact herr u w ((aF.wk (by decide) (by decide)).tr (q1.wk (by decide) (by decide))) (aL.tr q2) q3 q4 q5 q6 q7 (toF w go)
