-- 29: the text of the reference
def SZ (w : mS) : Prop := ∃ s, w.1 9 = nI s ∧ s ≤ 200
def PQ (u v : mS) : Prop := FR [9, 10, 12] [19] u v ∧ SZ v
theorem PQ.tr {u v w : mS} (h : PQ u v) (g : PQ v w) : PQ u w := ⟨h.1.tr g.1, g.2⟩
theorem PQ.set {u v : mS} {x : Int32} (h : PQ u v) : PQ u (mSet v 10 x) := ⟨FR_set h.1 (by decide), by
  obtain ⟨s, e, hs⟩ := h.2
  exact ⟨s, (mSet_other (by decide : (9 : Nat) ≠ 10)).trans e, hs⟩⟩
theorem PQ.rf {u : mS} (h : SZ u) : PQ u u := ⟨FR.rf, h⟩
theorem put_ok {c : Int32} {u : mS} {post : mS → Prop} (h : SZ u) (hp : ∀ v, PQ u v → post v) : wp_X9_put c u post := by
  have h' := h
  obtain ⟨s, e, hs⟩ := h
  rintro _ rfl
  refine ⟨fun _ => ?_, fun _ => hp u (PQ.rf h')⟩
  intro y3 e3
  have e3 : y3 = nI s := e3.trans e
  subst e3
  refine ⟨fun h2 => ?_, fun _ => fails_ok (by decide) (fun v hv _ _ => hp v ⟨hv.wk (by decide) (by decide), s, (hv.1 9 (by decide)).trans e, hs⟩)⟩
  have s2 : s < 200 := by
    rcases Nat.lt_or_ge s 200 with a | a
    · exact a
    · exact absurd (by rw [show s = 200 from by omega]; rfl) h2
  intro y5 e5
  have e5 : y5 = nI s := e5.trans e
  subst e5
  refine ⟨vp_in_nI s2 (by omega), ?_⟩
  rintro _ rfl y7 e7
  have e7 : y7 = nI s := e7.trans e
  subst e7
  rintro _ rfl _ rfl
  rw [nI_1]
  exact hp _ ⟨FR_set (FR_put FR.rf (by decide)) (by decide), s + 1, mSet_same _ _ _, by omega⟩
theorem space_ok {u : mS} {post : mS → Prop} (h : SZ u) (hp : ∀ v, PQ u v → post v) : wp_X9_space u post := by
  rintro _ rfl
  refine ⟨fun _ => ?_, fun _ => put_ok h (fun v hv => ?_)⟩
  · rintro _ rfl; exact hp _ (PQ.rf h).set
  · rintro _ rfl; exact hp _ hv.set
theorem putName_ok {x : Int32} {u : mS} {post : mS → Prop} (h : SZ u) (hp : ∀ v, PQ u v → post v) : wp_X9_putName x u post := by
  have k54 : ∀ w, PQ u w → wj_X9_putName_54 post x w := by
    intro w hw
    rintro _ rfl _ rfl
    exact put_ok hw.2 (fun v hv => hp v (hw.tr hv))
  have k34 : ∀ w, PQ u w → wj_X9_putName_34 post x w := by
    intro w hw
    refine ⟨fun _ => k54 w hw, fun _ => ?_⟩
    rintro _ rfl _ rfl _ rfl
    exact put_ok hw.2 (fun v hv => k54 v (hw.tr hv))
  refine ⟨fun _ => ⟨fun _ => k34 u (PQ.rf h), fun _ => ?_⟩, fun _ => ?_⟩
  · rintro _ rfl _ rfl
    exact put_ok h (fun v hv => k34 v hv)
  · rintro _ rfl
    exact put_ok h hp
theorem putNumber_ok {x : Int32} {u : mS} {post : mS → Prop} (h : SZ u) (hp : ∀ v, PQ u v → post v) : wp_X9_putNumber x u post := by
  have k17 : ∀ w, PQ u w → wj_X9_putNumber_17 post x w := by
    intro w hw
    rintro _ rfl _ rfl
    exact put_ok hw.2 (fun v hv => hp v (hw.tr hv))
  refine ⟨fun _ => k17 u (PQ.rf h), fun _ => ?_⟩
  rintro _ rfl _ rfl
  exact put_ok h (fun v hv => k17 v hv)
theorem putClose_ok {u : mS} {post : mS → Prop} (h : SZ u) (hp : ∀ v, PQ u v → post v) : wp_X9_putClose u post := by
  refine put_ok h (fun v hv => ?_)
  rintro _ rfl
  exact hp _ hv.set
theorem putOpen_ok {u : mS} {post : mS → Prop} (h : SZ u) (hp : ∀ v, PQ u v → post v) : wp_X9_putOpen u post := by
  refine space_ok h (fun v hv => put_ok hv.2 (fun z hz => ?_))
  rintro _ rfl
  exact hp _ (hv.tr hz).set
theorem putVariable_ok {x : Int32} {u : mS} {post : mS → Prop} (h : SZ u) (hp : ∀ v, PQ u v → post v) : wp_X9_putVariable x u post := by
  refine space_ok h (fun v hv => put_ok hv.2 (fun z hz => putNumber_ok hz.2 (fun y hy => ?_)))
  exact hp _ ((hv.tr hz).tr hy)
theorem putToken_ok {i : Nat} {u : mS} {post : mS → Prop} (hi : i < 2600) (h : SZ u) (hp : ∀ v, PQ u v → post v) : wp_X9_putToken (nI i) u post := by
  have k82 : ∀ x w, PQ u w → wj_X9_putToken_82 post x w := by
    intro x w hw
    refine ⟨fun _ => hp w hw, fun _ => put_ok hw.2 (fun v hv => put_ok hv.2 (fun z hz => hp z ((hw.tr hv).tr hz)))⟩
  have k71 : ∀ x w, PQ u w → wj_X9_putToken_71 post x w := by
    intro x w hw
    exact ⟨fun _ => k82 x w hw, fun _ => put_ok hw.2 (fun v hv => k82 x v (hw.tr hv))⟩
  have k54 : ∀ x w, PQ u w → wj_X9_putToken_54 post (nI i) x w := by
    intro x w hw
    exact ⟨fun _ => k71 x w hw, fun _ => what_2 hi (fun r => putNumber_ok hw.2 (fun v hv => k71 x v (hw.tr hv)))⟩
  refine kind_2 hi ⟨fun _ => ⟨fun _ => space_ok h (fun v hv => ⟨fun _ => k54 _ v hv, fun _ => what_2 hi (fun r => putName_ok hv.2 (fun z hz => k54 _ z (hv.tr hz)))⟩), fun _ => putClose_ok h hp⟩, fun _ => putOpen_ok h hp⟩
/-- the binding table as a run of expand begins -/
theorem beginning_ok {P : Int32 → Int32 → Int32 → Prop} {ow : Nat} {u : mS} {post : mS → Prop} (h0 : ∀ f t, P 0 f t) (h1 : ∀ f t, P 1 f t) (ho : u.1 3 = nI ow) (how : ow ≤ 4) (hP : ∀ k, k < ow → P 3 (nI (120 * k)) (u.2 6 k)) (hp : ∀ v, FR [4, 5, 12] [7, 8, 9, 10, 11] u v → BNS P v → post v) : wp_X9_beginning u post := by
  rintro _ rfl
  have f0 : FR [4, 5, 12] [7, 8, 9, 10, 11] u (mSet u 4 0) := FR_set FR.rf (by decide)
  have b0 : BNS P (mSet u 4 0) := ⟨0, mSet_same _ _ _, by omega, fun k hk => by omega⟩
  have nx1 : ∀ {x1 x2 x3 x4 x5 : Int32} {w : mS} {q : mS → Prop}, FR [4, 5, 12] [7, 8, 9, 10, 11] u w → BNS P w → P x3 x4 x5 → (∀ v, FR [4, 5, 12] [7, 8, 9, 10, 11] u v → BNS P v → q v) → wp_X9_bind x1 x2 x3 x4 x5 w q := by
    intro x1 x2 x3 x4 x5 w q hF hB hx hq
    exact bind_ok hB hx (fun v hv hb => hq v (hF.tr (hv.wk (by decide) (by decide))) hb)
  refine nx1 f0 b0 (h0 _ _) (fun w1 f1 b1 => nx1 f1 b1 (h0 _ _) (fun w2 f2 b2 => nx1 f2 b2 (h0 _ _) (fun w3 f3 b3 => nx1 f3 b3 (h0 _ _) (fun w4 f4 b4 => nx1 f4 b4 (h1 _ _) (fun w5 f5 b5 => nx1 f5 b5 (h1 _ _) (fun w6 f6 b6 => nx1 f6 b6 (h1 _ _) (fun w7 f7 b7 => nx1 f7 b7 (h1 _ _) (fun w8 f8 b8 => ?_))))))))
  refine mL2_in (fun x w => ∃ k, x = nI k ∧ k ≤ ow ∧ FR [4, 5, 12] [7, 8, 9, 10, 11] u w ∧ BNS P w) (fun x _ => ow - x.toNatClampNeg) ?_ _ _ ⟨0, rfl, by omega, f8, b8⟩
  rintro K x w ⟨k, rfl, hk, hF, hB⟩ ih
  intro y e
  have e : y = nI ow := e.trans ((hF.1 3 (by decide)).trans ho)
  subst e
  refine ⟨fun h => ?_, fun h => ?_⟩
  · rintro _ rfl _ rfl
    refine hp _ (FR_set hF (by decide)) ?_
    obtain ⟨nb, q1, q2, q3⟩ := hB
    exact ⟨nb, (mSet_other (by decide : (4 : Nat) ≠ 5)).trans q1, q2, q3⟩
  · rw [nI_leI (by omega) (by omega)] at h
    refine ⟨vp_in_nI (by omega) (by omega), ?_⟩
    rintro _ rfl _ rfl
    refine ⟨vp_in_nI (by omega) (by omega), ?_⟩
    rintro _ rfl
    rw [nI_clamp (by omega), show (120 : Int32) = nI 120 from rfl, pk_mul, hF.2 6 (by decide)]
    refine nx1 hF hB (hP k (by omega)) (fun v fv bv => ?_)
    rintro _ rfl
    rw [nI_1]
    refine ih _ _ ⟨k + 1, rfl, by omega, fv, bv⟩ ?_
    rw [nI_clamp (by omega), nI_clamp (by omega)]; omega
