-- 78: the class's fill: a token, and the rounds of a held tree
theorem row_room3 {q : Nat → Int32} {k : Nat} (h : ∀ j, j < k → kd (q j) = 6 → 0 < j ∧ ¬ kd (q (j - 1)) = 1 ∧ ¬ kd (q (j - 1)) = 6) : (k : Int) + 2 * dep q 0 k ≤ 3 * (trS q 0 k : Int) := by
  obtain ⟨a1, a2, a3, a4, -⟩ := row_counts k h
  omega
theorem md_room3 {kp q : Nat → Int32} {T m0 i k ty : Nat} (hT : TL kp T m0) (h : MD kp q T i k ty) (h1 : T ≤ i) (h2 : i < T + m0) (h3 : ty ≤ 100) : k < 300 := by
  have hd := md_dep hT h h1 h2
  have := row_room3 h.2.1
  rw [← h.2.2.1] at this
  rcases Nat.eq_or_lt_of_le h1 with c | c
  · have := h.2.2.2.2.2.2 c.symm
    omega
  · have := hd.2 (h.2.2.2.2.2.1 c)
    omega
theorem md_room4 {kp q rw : Nat → Int32} {T m0 i k ty U z : Nat} (hT : TL kp T m0) (h : MD kp q T i k ty) (h1 : T ≤ i) (h2 : i < T + m0) (hU : TL rw U z) (hU6 : ¬ kd (rw U) = 6) (hdt : ∀ j, 0 < j → j < z → kd (rw (U + j)) = 6 → ¬ kd (rw (U + (j - 1))) = 1 ∧ ¬ kd (rw (U + (j - 1))) = 6) : ∀ j, j < z → ty + trS rw U j ≤ 100 → k + j < 300 := by
  intro j hj hty
  have hd := md_dep hT h h1 h2
  obtain ⟨a1, a2, a3, a4, a5, a6, a7⟩ := h
  have e1 : ∀ x, x < k → (fun x => if x < k then q x else rw (U + (x - k))) x = q x := fun x hx => by
    show (if x < k then q x else _) = _
    rw [if_pos hx]
  have e2 : ∀ x, (fun x => if x < k then q x else rw (U + (x - k))) (k + x) = rw (U + x) := fun x => by
    show (if k + x < k then _ else rw (U + (k + x - k))) = _
    rw [if_neg (by omega), show k + x - k = x from by omega]
  generalize (fun x => if x < k then q x else rw (U + (x - k))) = g at e1 e2
  have dr : ∀ x, x < k + j → kd (g x) = 6 → 0 < x ∧ ¬ kd (g (x - 1)) = 1 ∧ ¬ kd (g (x - 1)) = 6 := by
    intro x hx hx6
    rcases Nat.lt_or_ge x k with c | c
    · rw [e1 x c] at hx6
      obtain ⟨b1, b2, b3⟩ := a2 x c hx6
      rw [e1 (x - 1) (by omega)]
      exact ⟨b1, b2, b3⟩
    · obtain ⟨y, rfl⟩ : ∃ y, x = k + y := ⟨x - k, by omega⟩
      rw [e2] at hx6
      have y0 : 0 < y := by
        rcases Nat.eq_zero_or_pos y with c | c
        · subst c; exact absurd hx6 hU6
        · exact c
      obtain ⟨b1, b2⟩ := hdt y y0 (by omega) hx6
      rw [show k + y - 1 = k + (y - 1) from by omega, e2]
      exact ⟨by omega, b1, b2⟩
  have dd : dep g 0 (k + j) = dep q 0 k + dep rw U j := by
    rw [dep_add, Nat.zero_add, dep_copy (r := q) (i := 0) k (fun x hx => by rw [Nat.zero_add, e1 x hx]), dep_copy (r := rw) (i := U) j (fun x hx => by rw [e2])]
  have tt : trS g 0 (k + j) = ty + trS rw U j := by
    rw [trS_add, Nat.zero_add, trS_copy (q := g) (r := q) (a := 0) (b := 0) k (fun x hx => by rw [Nat.zero_add, e1 x hx]), trS_copy (q := g) (r := rw) (a := k) (b := U) j (fun x hx => by rw [e2]), a3]
  have rr := row_room3 dr
  rw [tt, dd] at rr
  have d1 := hd.1
  rcases Nat.eq_zero_or_pos j with c | c
  · subst c
    have z0 : dep rw U 0 = 0 := rfl
    rcases Nat.eq_or_lt_of_le h1 with c | c
    · have := a7 c.symm
      omega
    · have := hd.2 (a6 c)
      omega
  · have := hU.2.2 j c hj
    omega
section
variable {P : Int32 → Prop} {b a u w : mS} {pat n T m0 lst m pA lA a1 b1 a2 b2 st i k ty h : Nat} {rd be ro : Nat → Nat} {D : Nat → Nat → Prop}
/-- what both sides know of the rule and of the list -/
def FGX (P : Int32 → Prop) (b : mS) (pat n T m0 lst m : Nat) (D : Nat → Nat → Prop) : Prop := FG b pat n T m0 lst m D ∧ DTS (b.2 3) pat (pat + n) ∧ MT (b.2 3) (b.2 1) (MXX (b.2 3) (b.2 1)) 1 pat lst ∧ (∀ j, j < m0 → P (b.2 4 (T + j))) ∧ ∀ j, j < m → P (b.2 2 (lst + j))
/-- the class's state u and the reference's state w within a fill -/
def FAX (P : Int32 → Prop) (b a u w : mS) (pat n T m0 lst m pA lA a1 b1 a2 b2 st k ty h : Nat) (rd be ro : Nat → Nat) : Prop := FR [1, 2, 14, 15] [1, 2, 3, 4, 10, 11, 12] a u ∧ u.1 7 = 0 ∧ FAG b u pat n T m0 lst m pA lA a1 b1 a2 b2 ∧ LOW a u st ∧ RB u st (st + k) ∧ u.1 14 = nI ty ∧ u.1 15 = nI h ∧ (∀ l, l < h → u.2 10 l = nI (pA + n + (be l - T)) ∧ u.2 11 l = nI (rd l) ∧ u.2 12 l = nI (ro l)) ∧ u.1 12 = nI pA ∧ u.1 13 = nI lA ∧ b1 ≤ st ∧ b2 ≤ st ∧ st ≤ 2700 ∧ ∀ j, j < k → ra u (st + j) = w.2 12 j ∧ u.2 2 (st + j) = w.2 13 j ∧ P (u.2 2 (st + j))
theorem FAX_dep (hX : FAX P b a u w pat n T m0 lst m pA lA a1 b1 a2 b2 st k ty h rd be ro) (hM : MD (b.2 3) (w.2 12) T i k ty) : dep (ra u) st k = dep (b.2 3) T (i - T) := by
  obtain ⟨-, -, -, -, -, -, -, -, -, -, -, -, -, hq⟩ := hX
  rw [← hM.2.2.2.1]
  exact dep_copy _ (fun j hj => by rw [(hq j hj).1, Nat.zero_add])
theorem FAX_cpy {u' w' : mS} {f z : Nat} (hG : FGX P b pat n T m0 lst m D) (hX : FAX P b a u w pat n T m0 lst m pA lA a1 b1 a2 b2 st k ty h rd be ro) (hC : CPY u u' st (st + k) f z ty) (hlow : ∀ x, x < k → w'.2 12 x = w.2 12 x ∧ w'.2 13 x = w.2 13 x) (hnew : ∀ x, x < z → w'.2 12 (k + x) = ra u (f + x) ∧ w'.2 13 (k + x) = u.2 2 (f + x)) (hP : ∀ x, x < z → P (u.2 2 (f + x))) : FAX P b a u' w' pat n T m0 lst m pA lA a1 b1 a2 b2 st (k + z) (ty + trS (ra u) f z) h rd be ro := by
  obtain ⟨x1, x2, x3, x4, x5, x6, x7, x8, x9, x10, x11, x12, x13, x14⟩ := hX
  obtain ⟨c1, c2, c3, c4, c5, c6⟩ := hC
  rw [Nat.add_assoc] at c2
  refine ⟨x1.tr (c1.wk (by decide) (by decide)), (c1.1 7 (by decide)).trans x2, FAG_low hG.1 x3 x11 x12 c4 ⟨st + (k + z), c2.1, by omega, c2.2.2.1⟩, x4.tr c4, c2, c3, (c1.1 15 (by decide)).trans x7, fun l hl => ?_, (c1.1 12 (by decide)).trans x9, (c1.1 13 (by decide)).trans x10, x11, x12, x13, fun j hj => ?_⟩
  · rw [c1.2 10 (by decide), c1.2 11 (by decide), c1.2 12 (by decide)]
    exact x8 l hl
  · rcases Nat.lt_or_ge j k with q | q
    · rw [(hlow j q).1, (hlow j q).2, ← (x14 j q).1, ← (x14 j q).2.1]
      refine ⟨?_, (c5 (st + j) (by omega)).2, by rw [(c5 (st + j) (by omega)).2]; exact (x14 j q).2.2⟩
      show tr (u'.2 1 (st + j)) = tr (u.2 1 (st + j))
      rw [(c5 (st + j) (by omega)).1]
    · obtain ⟨g1, g2⟩ := hnew (j - k) (by omega)
      obtain ⟨g3, g4⟩ := c6 (j - k) (by omega)
      rw [show k + (j - k) = j from by omega] at g1 g2
      rw [show st + k + (j - k) = st + j from by omega] at g3 g4
      rw [g1, g2]
      refine ⟨?_, g4, by rw [g4]; exact hP (j - k) (by omega)⟩
      show tr (u'.2 1 (st + j)) = tr (u.2 1 (f + (j - k)))
      rw [g3]
/-- both sides have failed within a fill -/
def FERR (b a u w : mS) (st : Nat) : Prop := FR [1, 2, 7, 14, 15] [1, 2, 3, 4, 10, 11, 12] a u ∧ LOW a u st ∧ ¬ u.1 7 = 0 ∧ (∃ t, u.1 1 = nI t ∧ st ≤ t ∧ t ≤ 3000) ∧ FR [6, 7, 8, 12] [12, 13, 16, 17, 18] b w ∧ RD3 w ∧ ¬ w.1 12 = 0
theorem USE_uq {kp ks : Nat → Int32} {i j j' : Nat} (h : USE kp ks pat i j) (g : USE kp ks pat i j') : j = j' := by
  have := h.2.1.symm.trans g.2.1
  rw [nI_eq (by have := h.2.2; omega) (by have := g.2.2; omega)] at this
  exact this
theorem tokFA {w' : mS} {post : mS → Prop} (hGX : FGX P b pat n T m0 lst m D) (hTi : T ≤ i) (hlt : i < T + m0) (hX : FAX P b a u w pat n T m0 lst m pA lA a1 b1 a2 b2 st k ty h rd be ro) (hM : MD (b.2 3) (w.2 12) T i k ty) (ty100 : ty ≤ 100) (hh2 : h ≤ 2) (hSK : SK (b.2 3) (b.2 4) (b.2 1) pat T (T + m0) lst rd be ro i h) (n6 : ¬ kd (b.2 3 i) = 6) (ent : HL (b.2 3) T (T + m0) i → ∃ l, l < h ∧ be l = i) (hT : TKO b w w' pat T m0 lst i k ty h rd be ro) (h1 : ∀ u' k' ty', k < k' → FIX b w' pat T m0 lst (i + 1) k' ty' h rd be ro → FAX P b a u' w' pat n T m0 lst m pA lA a1 b1 a2 b2 st k' ty' h rd be ro → post u') (h0 : ∀ u', FERR b a u' w' st → post u') : wp_X1_fillToken (nI (pA + n + (i - T))) u post := by
  have hdep := FAX_dep hX hM
  have hX' := hX
  obtain ⟨x1, x2, x3, x4, x5, x6, x7, x8, x9, x10, x11, x12, x13, x14⟩ := hX
  have hFAG := x3
  obtain ⟨c1, c2, c3, c4, c5, c6, c7, c8, c9, c10, c11⟩ := x3
  have hG := hGX.1
  obtain ⟨hFC, hDT, hT2, hT6, htok, hrtok, hrdt⟩ := hG
  have hFC' := hFC
  obtain ⟨⟨N, t, hPC⟩, hPAT, hpT, hTT, hTl, hTEM, hLl, hl2, hm, hTop, hD⟩ := hFC
  have ett := tl_eq hTT
  have hb1 := AR_b c1
  have hb2 := AR_b c2
  have dpi := dep_pos hTT (j := i - T) (by omega)
  have mkE : ∀ u', FR [1, 2, 7, 14] [1, 2, 3, 4] u u' → LOW u u' st → ¬ u'.1 7 = 0 → (∃ t', u'.1 1 = nI t' ∧ st ≤ t' ∧ t' ≤ 3000) → FR [6, 7, 8, 12] [12, 13, 16, 17, 18] b w' → RD3 w' → ¬ w'.1 12 = 0 → post u' := fun u' f1 f2 f3 f4 f5 f6 f7 => h0 u' ⟨(x1.wk (by decide) (by decide)).tr (f1.wk (by decide) (by decide)), x4.tr f2, f3, f4, f5, f6, f7⟩
  refine varA hGX.1 hFAG hTi hlt (fun j hu j1 j2 => ⟨fun _ => ?_, fun q => absurd (nI_pos' (by omega)) q⟩) (fun hno => ⟨fun q => absurd q (by decide), fun _ => ?_⟩)
  · obtain ⟨f1, f2, hcc, hws, hVU⟩ := use_at hGX.1 hTi hlt hSK n6 ent hu
    have hrd : ∀ l, l < h → u.2 11 l = nI (rd l) ∧ rd l < 2 ^ 20 := fun l hl => ⟨(x8 l hl).2.1, by
      obtain ⟨-, -, -, s4, s5, -⟩ := hSK.1 l hl
      omega⟩
    have hnx : ¬ kd (ra u (pA + n)) = 6 := by
      have := (c9 0 (by omega)).1
      rw [Nat.add_zero, Nat.add_zero] at this
      rw [this]; exact hT6
    have eU : mtV (b.2 3) (b.2 1) rd j 2 (j - pat + 1) pat lst 0 = CNT (b.2 3) (b.2 1) rd pat lst j 9 := mtV_all _ _ _ 0 (by omega) (by omega)
    refine moR (stop := 2) (l := h) (rd := rd) hPC hPAT hGX.2.1 hLl hTop hD hGX.2.2.1 c1 c2 c3 (by omega) hnx c6 c7 c8 (fun j hj => (c10 j hj).1) (by omega) f1 x9 x10 x7 hh2 hrd (by omega) (fun l _ hl => by omega) (hws 2) ?_
    rw [eU]
    generalize hU : CNT (b.2 3) (b.2 1) rd pat lst j 9 = U at hVU
    obtain ⟨u1, u2, u3, u4, u5⟩ := hVU
    have uz := u1.1
    obtain ⟨f, ef⟩ : ∃ f, f = U + lA - lst := ⟨_, rfl⟩
    rw [← ef]
    have cp : ∀ x, x < tl (b.2 1) U → ra u (f + x) = b.2 1 (U + x) ∧ u.2 2 (f + x) = b.2 2 (U + x) := by
      intro x hx
      have := c10 (U + x - lst) (by omega)
      rw [show lA + (U + x - lst) = f + x from by omega, show lst + (U + x - lst) = U + x from by omega] at this
      exact this
    have Tf : TL (ra u) f (tl (b.2 1) U) := TL_copy (r := b.2 1) (i := U) (fun x hx => by rw [(cp x hx).1]) u1
    have tf := tl_eq Tf
    have ts : ∀ x, x ≤ tl (b.2 1) U → trS (ra u) f x = trS (b.2 1) U x := fun x hx => trS_copy _ (fun y hy => by rw [(cp y (by omega)).1])
    have dtU : ∀ x, 0 < x → x < tl (b.2 1) U → kd (b.2 1 (U + x)) = 6 → ¬ kd (b.2 1 (U + (x - 1))) = 1 ∧ ¬ kd (b.2 1 (U + (x - 1))) = 6 := by
      intro x x0 xz xk
      have := hrdt (U + x) (by omega) (by omega) xk
      rw [show U + x - 1 = U + (x - 1) from by omega] at this
      exact this
    have room2 := md_room4 hTT hM hTi hlt u1 u5 dtU
    refine ⟨fun _ => ?_, fun q => absurd (nI_pos' (by omega)) q⟩
    refine after_ok c2 (by omega) (by omega) ?_
    rw [tf]
    refine copyA c2 (by omega) (by omega) x12 x5 x6 ty100 x2 (fun x hx hle => ?_) (fun x hx k2 => ?_) (fun hle u' hC => ?_) (fun big u' e1 e2 _ e3 e4 => ?_)
    · rw [ts x (by omega)] at hle
      have := room2 x hx hle
      omega
    · have x0 : 0 < x := by
        rcases Nat.eq_zero_or_pos x with z | z
        · subst z
          rw [(cp 0 hx).1] at k2
          exact absurd k2 u4
        · exact z
      have dx := dep_pos Tf hx
      rw [show st + k - st = k from by omega, hdep]
      have : dep (ra u) f x ≠ 0 := fun z => by have := dx.2.mp z; omega
      omega
    · rw [ts _ (Nat.le_refl _)] at hle
      rcases hT with ⟨t1, -⟩ | ⟨j', U', t1, t2, t3, t4, t5, t6⟩ | ⟨⟨t1, -⟩ | ⟨j', U', t1, t2, t3⟩, -⟩
      · exact absurd hu (t1 j)
      · have ej := USE_uq t1 hu
        subst ej
        rw [hU] at t2; subst t2
        refine h1 u' _ _ (by omega) t4 ?_
        have := FAX_cpy (w' := w') hGX hX' hC t5 (fun x hx => by rw [(cp x hx).1, (cp x hx).2]; exact t6 x hx) (fun x hx => by
          have := hGX.2.2.2.2 (U' + x - lst) (by omega)
          rw [show lst + (U' + x - lst) = U' + x from by omega] at this
          rw [(cp x hx).2]; exact this)
        rw [ts _ (Nat.le_refl _)] at this
        exact this
      · exact absurd hu (t1 j)
      · have ej := USE_uq t1 hu
        subst ej
        rw [hU] at t2; subst t2
        omega
    · rw [ts _ (Nat.le_refl _)] at big
      rcases hT with ⟨t1, -⟩ | ⟨j', U', t1, t2, t3, -⟩ | ⟨-, t2, t3, t4⟩
      · exact absurd hu (t1 j)
      · have ej := USE_uq t1 hu
        subst ej
        rw [hU] at t2; subst t2
        omega
      · exact mkE u' e1 e2 e3 e4 t2 t3 t4
  · refine ⟨fun q => absurd q (by decide), fun _ => ?_⟩
    rintro _ rfl
    rw [nI_1]
    obtain ⟨g1, g2⟩ := c9 (i - T) (by omega)
    rw [show T + (i - T) = i from by omega] at g1 g2
    have e1 : trS (ra u) (pA + n + (i - T)) 1 = tr1 (b.2 3 i) := by
      show 0 + tr1 (ra u (pA + n + (i - T) + 0)) = _
      rw [Nat.add_zero, g1, Nat.zero_add]
    have kb := md_room3 hTT hM hTi hlt ty100
    refine copyA (z := 1) c1 (by omega) (by omega) x11 x5 x6 ty100 x2 (fun x hx hle => by omega) (fun x hx k2 => ?_) (fun hle u' hC => ?_) (fun big u' q1 q2 _ q3 q4 => ?_)
    · have x0 : x = 0 := by omega
      subst x0
      rw [Nat.add_zero, g1] at k2
      rw [show st + k - st = k from by omega, hdep]
      have : dep (b.2 3) T (i - T) ≠ 0 := by
        intro z
        have := dpi.2.mp z
        have : i = T := by omega
        subst this
        exact hT2 k2
      show 0 < dep (b.2 3) T (i - T) + 0
      omega
    · rw [e1] at hle
      rcases hT with ⟨t1, t2, t3, t4, t5⟩ | ⟨j', U', t1, -⟩ | ⟨⟨-, t1⟩ | ⟨j', U', t1, -⟩, -⟩
      · refine h1 u' _ _ (by omega) t3 ?_
        have := FAX_cpy (w' := w') hGX hX' hC (fun x hx => by rw [t4, t5, pk_un (by omega), pk_un (by omega)]; exact ⟨rfl, rfl⟩) (fun x hx => by
          have x0 : x = 0 := by omega
          subst x0
          rw [t4, t5, Nat.add_zero, Nat.add_zero, pk_us, pk_us, g1, g2]
          exact ⟨rfl, rfl⟩) (fun x hx => by
          have x0 : x = 0 := by omega
          subst x0
          have := hGX.2.2.2.1 (i - T) (by omega)
          rw [show T + (i - T) = i from by omega] at this
          rw [Nat.add_zero, g2]; exact this)
        rw [e1] at this
        exact this
      · exact absurd t1 (hno j')
      · omega
      · exact absurd t1 (hno j')
    · rw [e1] at big
      rcases hT with ⟨t1, t2, -⟩ | ⟨j', U', t1, -⟩ | ⟨-, t2, t3, t4⟩
      · omega
      · exact absurd t1 (hno j')
      · exact mkE u' q1 q2 q3 q4 t2 t3 t4
end
