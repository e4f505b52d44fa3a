-- 71: a pattern's trees against trees, on the class's side
def RQ (l : Nat) (u w : mS) : Prop := FR [15] [10, 11, 12] u w ∧ w.1 15 = u.1 15 ∧ ∀ i, i < l → w.2 10 i = u.2 10 i ∧ w.2 11 i = u.2 11 i ∧ w.2 12 i = u.2 12 i
theorem RQ.rf {l : Nat} {u : mS} : RQ l u u := ⟨FR.rf, rfl, fun _ _ => ⟨rfl, rfl, rfl⟩⟩
theorem RQ.tr {l : Nat} {u v w : mS} (h : RQ l u v) (g : RQ l v w) : RQ l u w := ⟨h.1.tr g.1, g.2.1.trans h.2.1, fun i hi => by
  obtain ⟨a, b, c⟩ := h.2.2 i hi
  obtain ⟨d, e, f⟩ := g.2.2 i hi
  exact ⟨d.trans a, e.trans b, f.trans c⟩⟩
theorem HB_item {r : Nat → Int32} {p n N k b x : Nat} (hL : LI r p n N) (hk : k < N) (h1 : it r p k ≤ x) (h2 : x < it r p k + tl r (it r p k)) : HB r (p + 1) b x = hb1 r b x (it r p k) + HB r (it r p k + 1) b x := by
  have at1 := LI_at hL (k := k) (by omega)
  have at2 := LI_at hL (k := k + 1) (by omega)
  have e1 : it r p (k + 1) = it r p k + tl r (it r p k) := rfl
  have ad := hbS_add r b x (p + 1) (it r p k - (p + 1)) (x + 1 - it r p k)
  have z : hbS r b x (p + 1) (it r p k - (p + 1)) = 0 := by
    refine hbS_zero _ (fun i i1 i2 => ?_)
    unfold hb1
    rw [if_neg]
    rintro ⟨q2, -, -, q4, -⟩
    obtain ⟨j1, j2, j3⟩ := chj_ok hL (v := i) (by omega) (by omega)
    have jk : chj r p i + 1 ≤ k := by
      rcases Nat.lt_or_ge (chj r p i) k with c | c
      · omega
      · have := LI_mono hL c (by omega)
        omega
    have m := LI_mono hL jk (by omega)
    have e2 : it r p (chj r p i + 1) = it r p (chj r p i) + tl r (it r p (chj r p i)) := rfl
    have := (inTree0 (hL.2.2.1 _ j1).2 j2 (by omega) q2).2
    omega
  unfold HB
  rw [show x + 1 - (p + 1) = it r p k - (p + 1) + (x + 1 - it r p k) from by omega, ad, z, show p + 1 + (it r p k - (p + 1)) = it r p k from by omega, show x + 1 - it r p k = x - it r p k + 1 from by omega, hbS_cons, show x + 1 - (it r p k + 1) = x - it r p k from by omega]
  omega
/-- nothing in the tree at p is held by more than 2, l of them around it -/
def NST (r : Nat → Int32) (b l p z : Nat) : Prop := ∀ x, p ≤ x → x < p + z → ¬ kd (r x) = 2 → ¬ kd (r x) = 6 → l + HB r (p + 1) b x ≤ 2
/-- the tree of the innermost rounds begins at p at the latest -/
def TOPS (u : mS) (l p : Nat) : Prop := l = 0 ∨ ∃ q, q ≤ p ∧ u.2 10 (l - 1) = nI q
/-- what is shown of a pattern's tree -/
def TWS (b0 : mS) (post : Int32 → mS → Prop) (B a2 b2 p z : Nat) : Prop := ∀ (l t s : Nat) (u : mS), FR [15] [10, 11, 12] b0 u → u.1 15 = nI l → l ≤ 2 → NST (ra b0) B l p z → TOPS u l p → a2 ≤ t → t < b2 → ¬ kd (ra b0 t) = 2 → s + 2 * tl (ra b0) t < 1000000 → (MXX (ra b0) (ra b0) p t → ∀ s' w, RQ l u w → s' + 1 ≤ s + 2 * tl (ra b0) t → LA post (B + 1) (p + z) (t + tl (ra b0) t) s' w) → (¬ MXX (ra b0) (ra b0) p t → ∀ w, FR [15] [10, 11, 12] b0 w → post 0 w) → LW post (B + 1) p t s u
theorem itemsW {b0 : mS} {post : Int32 → mS → Prop} {a1 b1 a2 b2 B p z N t x m M sx l S : Nat} {ub : mS} (hA1 : AR b0 a1 b1) (hD : DR (ra b0) a1 b1) (hA2 : AR b0 a2 b2) (hB1 : B + 1 ≤ b1) (hP : PL (ra b0) p z N t) (hap : a1 ≤ p) (hpB : p + z ≤ B + 1) (hM : LI (ra b0) x m M) (hax : a2 ≤ x) (hxb : x + m ≤ b2) (c0 : ∀ k, k < M → ¬ kd (ra b0 (it (ra b0) x k)) = 6) (c1 : N = t → M = t) (c2 : N = t + 1 → t ≤ M + 1) (hsx : sx ≤ M) (hsx2 : N = t + 1 → sx + 1 ≤ t) (hN : ∀ y, it (ra b0) p sx ≤ y → y < p + z - 1 → ¬ kd (ra b0 y) = 2 → ¬ kd (ra b0 y) = 6 → l + HB (ra b0) (p + 1) B y ≤ 2) (ih : ∀ k, sx ≤ k → k < t → TWS b0 post B a2 b2 (it (ra b0) p k) (tl (ra b0) (it (ra b0) p k))) (hF : FR [15] [10, 11, 12] b0 ub) (hl : ub.1 15 = nI l) (hl2 : l ≤ 2) (htop : TOPS ub l p) (hS : S + 2 * m ≤ 1000000) (succ : (∀ k, sx ≤ k → k < M → MXX (ra b0) (ra b0) (it (ra b0) p (min k (t - 1))) (it (ra b0) x k)) → ∀ s' w, RQ l ub w → s' ≤ S + 2 * (m - 2) + 1 → LA post (B + 1) (p + z - 1) (x + m - 1) s' w) (fail : ¬ (∀ k, sx ≤ k → k < M → MXX (ra b0) (ra b0) (it (ra b0) p (min k (t - 1))) (it (ra b0) x k)) → ∀ w, FR [15] [10, 11, 12] b0 w → post 0 w) : ∀ s u, s ≤ S + 2 * (it (ra b0) x sx - (x + 1)) → RQ l ub u → LA post (B + 1) (it (ra b0) p sx) (it (ra b0) x sx) s u := by
  have hbA := AR_b hA1
  have hbB := AR_b hA2
  have tN := PL_t hP
  have zend := hP.1.2.2.2
  have mend := hM.2.2.2
  have z2 := (TL_open hP.1.1 hP.1.2.1).1
  have m2 := (TL_open hM.1 hM.2.1).1
  have itx : ∀ k, k ≤ M → x + 1 + k ≤ it (ra b0) x k ∧ it (ra b0) x k ≤ x + m - 1 := by
    intro k hk
    have a := LI_at hM hk
    have b := LI_mono hM hk (Nat.le_refl M)
    omega
  have MM : M ≤ 3000 := by
    have := itx M (Nat.le_refl M)
    omega
  have itS : ∀ k, it (ra b0) x (k + 1) = it (ra b0) x k + tl (ra b0) (it (ra b0) x k) := fun k => rfl
  have ipS : ∀ k, it (ra b0) p (k + 1) = it (ra b0) p k + tl (ra b0) (it (ra b0) p k) := fun k => rfl
  have arU : ∀ {u : mS}, FR [15] [10, 11, 12] b0 u → AR u a1 b1 ∧ AR u a2 b2 ∧ ra u = ra b0 := by
    intro u hu
    exact ⟨AR_fr hA1 (hu.1 1 (by decide)) (hu.2 1 (by decide)) (hu.2 3 (by decide)), AR_fr hA2 (hu.1 1 (by decide)) (hu.2 1 (by decide)) (hu.2 3 (by decide)), ra_fr (hu.2 1 (by decide))⟩
  -- the last tree, held: its rounds
  have rounds : N = t + 1 → l < 2 → (∀ j, sx ≤ j → j < t - 1 → MXX (ra b0) (ra b0) (it (ra b0) p j) (it (ra b0) x j)) → ∀ (d k s : Nat) (w : mS), k + d = M → 0 < d → t - 1 ≤ k → (∀ j, t - 1 ≤ j → j < k → MXX (ra b0) (ra b0) (it (ra b0) p (t - 1)) (it (ra b0) x j)) → s ≤ S + 2 * (it (ra b0) x k - (x + 1)) → FR [15] [10, 11, 12] b0 w → w.1 15 = nI (l + 1) → (∀ i, i < l → w.2 10 i = ub.2 10 i ∧ w.2 11 i = ub.2 11 i ∧ w.2 12 i = ub.2 12 i) → w.2 10 l = nI (it (ra b0) p (t - 1)) → w.2 11 l = nI (k - (t - 1)) → w.2 12 l = nI (M - (t - 1)) → LW post (B + 1) (it (ra b0) p (t - 1)) (it (ra b0) x k) s w := by
    intro eN l2 hpre d
    have t1 := hsx2 eN
    obtain ⟨hc, hT⟩ := hP.1.2.2.1 (t - 1) (by omega)
    have h6 : kd (ra b0 (it (ra b0) p t)) = 6 := by
      rcases hP.2.2 with q | ⟨_, _, q⟩
      · omega
      · exact q
    have et : it (ra b0) p t = it (ra b0) p (t - 1) + tl (ra b0) (it (ra b0) p (t - 1)) := by
      have := ipS (t - 1)
      rw [show t - 1 + 1 = t from by omega] at this
      exact this
    have edots : it (ra b0) p N = it (ra b0) p t + 1 := by
      rw [eN, ipS t, tl_eq (TL_atom (r := ra b0) (i := it (ra b0) p t) (by rw [h6]; decide))]
    have ath := LI_at hP.1 (k := t - 1) (by omega)
    have att := LI_at hP.1 (k := t) (by omega)
    have hn6 : ¬ kd (ra b0 (it (ra b0) p (t - 1))) = 6 := hP.2.1 (t - 1) (by omega)
    have hml := LI_mono hP.1 (j := sx) (k := t - 1) (by omega) (by omega)
    have nst : NST (ra b0) B (l + 1) (it (ra b0) p (t - 1)) (tl (ra b0) (it (ra b0) p (t - 1))) := by
      intro y y1 y2 y3 y4
      have a := hN y (by omega) (by omega) y3 y4
      rw [HB_item hP.1 (k := t - 1) (by omega) y1 y2] at a
      have b : hb1 (ra b0) B y (it (ra b0) p (t - 1)) = 1 := by
        unfold hb1
        rw [if_pos ⟨hc, hn6, by omega, y2, by rw [← et]; exact h6⟩]
      omega
    induction d with
    | zero => intro k s w hk hd; omega
    | succ d ihd =>
      intro k s w hk _ htk hdone hs wF wl wst w10 w11 w12
      obtain ⟨xc, xT⟩ := hM.2.2.1 k (by omega)
      have ik := itx k (by omega)
      have ik1 := itx (k + 1) (by omega)
      have eks := itS k
      have h0T := xT.1
      refine ih (t - 1) (by omega) (by omega) (l + 1) (it (ra b0) x k) s w wF wl (by omega) nst (Or.inr ⟨_, Nat.le_refl _, by rw [show l + 1 - 1 = l from by omega]; exact w10⟩) (by omega) (by omega) xc (by omega) (fun hx s' w' hq hs' => ?_) (fun hx w' hw' => fail (fun q => hx ?_) w' hw')
      · -- behind the tree stands ..
        have wF' : FR [15] [10, 11, 12] b0 w' := wF.tr hq.1
        obtain ⟨ar1, ar2, er⟩ := arU wF'
        obtain ⟨e10, e11, e12⟩ := hq.2.2 l (by omega)
        have wl' : w'.1 15 = nI (l + 1) := hq.2.1.trans wl
        rw [← et, ← eks]
        have s1 : s' + 1 ≤ S + 2 * (it (ra b0) x (k + 1) - (x + 1)) := by omega
        have nd : ¬ kd (ra b0 (it (ra b0) p t + tl (ra b0) (it (ra b0) p t))) = 6 := by
          rw [tl_eq (TL_atom (r := ra b0) (i := it (ra b0) p t) (by rw [h6]; decide))]
          intro q
          have := (hD (it (ra b0) p t + 1) (by omega) (by omega) q).2.2
          rw [show it (ra b0) p t + 1 - 1 = it (ra b0) p t from by omega] at this
          exact this h6
        have tl1 : tl (ra b0) (it (ra b0) p t) = 1 := tl_eq (TL_atom (r := ra b0) (i := it (ra b0) p t) (by rw [h6]; decide))
        refine LA_in0 (p := it (ra b0) p t) ar1 (by omega) (by rw [er, tl1]; omega) (by omega) (by omega) (by omega) (Or.inr (by rw [er]; exact nd)) ?_
        refine LW_dots (l := l) (p := it (ra b0) p (t - 1)) (rd := k - (t - 1)) (R := M - (t - 1)) ar1 (by omega) (by omega) (by rw [er]; exact h6) wl' l2 (e10.trans w10) (e11.trans w11) (e12.trans w12) (by omega) (by omega) (fun w2 f1 f2 hlt => ?_) (fun w2 f1 f2 f3 hge => ?_)
        · have wF2 : FR [15] [10, 11, 12] b0 w2 := wF'.tr (f1.wk (by decide) (by decide))
          obtain ⟨br1, br2, er2⟩ := arU wF2
          have g10 : w2.2 10 = w'.2 10 := f1.2 10 (by decide)
          have g12 : w2.2 12 = w'.2 12 := f1.2 12 (by decide)
          have wl2 : w2.1 15 = nI (l + 1) := (f1.1 15 (by decide)).trans wl'
          refine LA_in1 (p := it (ra b0) p (t - 1)) (l := l + 1) br1 (by omega) (by rw [er2, ← et]; omega) (by omega) (by omega) (by omega) wl2 (by omega) (by omega) (by rw [show l + 1 - 1 = l from by omega, g10, e10]; exact w10) ?_
          refine ihd (k + 1) (s' + 1) w2 (by omega) (by omega) (by omega) (fun j j1 j2 => ?_) s1 wF2 wl2 (fun i hi => ?_) (by rw [g10, e10]; exact w10) (by rw [f2, pk_us, show k - (t - 1) + 1 = k + 1 - (t - 1) from by omega]) (by rw [g12, e12]; exact w12)
          · rcases Nat.lt_or_ge j k with c | c
            · exact hdone j j1 c
            · have : j = k := by omega
              subst this; exact hx
          · obtain ⟨q1, q2, q3⟩ := hq.2.2 i (by omega)
            obtain ⟨q4, q5, q6⟩ := wst i hi
            rw [g10, f2, g12, pk_un (by omega), q1, q2, q3]
            exact ⟨q4, q5, q6⟩
        · have kM : k + 1 = M := by omega
          have wF2 : FR [15] [10, 11, 12] b0 w2 := wF'.tr (f1.wk (by decide) (by decide))
          have g10 : w2.2 10 = w'.2 10 := f1.2 10 (by decide)
          have g12 : w2.2 12 = w'.2 12 := f1.2 12 (by decide)
          have all : ∀ j, sx ≤ j → j < M → MXX (ra b0) (ra b0) (it (ra b0) p (min j (t - 1))) (it (ra b0) x j) := by
            intro j j1 j2
            rcases Nat.lt_or_ge j (t - 1) with c | c
            · rw [show min j (t - 1) = j from by omega]; exact hpre j j1 c
            · rw [show min j (t - 1) = t - 1 from by omega]
              rcases Nat.lt_or_ge j k with c' | c'
              · exact hdone j c c'
              · have : j = k := by omega
                subst this; exact hx
          have rq : RQ l ub w2 := by
            refine ⟨?_, f3.trans hl.symm, fun i hi => ?_⟩
            · refine ⟨fun j hj => (wF2.1 j hj).trans (hF.1 j hj).symm, fun j hj => (wF2.2 j hj).trans (hF.2 j hj).symm⟩
            · obtain ⟨q1, q2, q3⟩ := hq.2.2 i (by omega)
              obtain ⟨q4, q5, q6⟩ := wst i hi
              rw [g10, f2, g12, pk_un (by omega), q1, q2, q3]
              exact ⟨q4, q5, q6⟩
          rw [kM, mend] at s1 ⊢
          have := succ all (s' + 1) w2 rq (by omega)
          rw [show p + z - 1 = it (ra b0) p t + 1 from by omega, show x + m - 1 = x + (m - 1) from by omega] at this
          exact this
      · have := q k (by omega) (by omega)
        rw [show min k (t - 1) = t - 1 from by omega] at this
        exact this
  -- the trees that nothing holds
  have plain : ∀ (d k s : Nat) (u : mS), k + d = (if N = t then t else t - 1) → sx ≤ k → (∀ j, sx ≤ j → j < k → MXX (ra b0) (ra b0) (it (ra b0) p j) (it (ra b0) x j)) → s ≤ S + 2 * (it (ra b0) x k - (x + 1)) → RQ l ub u → LA post (B + 1) (it (ra b0) p k) (it (ra b0) x k) s u := by
    intro d
    induction d with
    | zero =>
      intro k s u hk hsk hdone hs hq
      have uF : FR [15] [10, 11, 12] b0 u := hF.tr hq.1
      obtain ⟨ar1, ar2, er⟩ := arU uF
      by_cases eN : N = t
      · rw [if_pos eN] at hk
        have kM : k = M := by have := c1 eN; omega
        have kN : k = N := by omega
        have all : ∀ j, sx ≤ j → j < M → MXX (ra b0) (ra b0) (it (ra b0) p (min j (t - 1))) (it (ra b0) x j) := by
          intro j j1 j2
          rw [show min j (t - 1) = j from by omega]
          exact hdone j j1 (by omega)
        rw [kM, mend] at hs ⊢
        rw [← kM, kN, zend]
        have := succ all s u hq (by omega)
        rw [show p + z - 1 = p + (z - 1) from by omega, show x + m - 1 = x + (m - 1) from by omega] at this
        exact this
      · rw [if_neg eN] at hk
        have eN1 : N = t + 1 := by
          rcases hP.2.2 with q | ⟨q, _⟩
          · exact absurd q eN
          · exact q
        have t1 := hsx2 eN1
        have tM := c2 eN1
        have kt : k = t - 1 := by omega
        subst kt
        obtain ⟨hc, hT⟩ := hP.1.2.2.1 (t - 1) (by omega)
        have h6 : kd (ra b0 (it (ra b0) p t)) = 6 := by
          rcases hP.2.2 with q | ⟨_, _, q⟩
          · omega
          · exact q
        have et : it (ra b0) p t = it (ra b0) p (t - 1) + tl (ra b0) (it (ra b0) p (t - 1)) := by
          have := ipS (t - 1)
          rw [show t - 1 + 1 = t from by omega] at this
          exact this
        have edots : it (ra b0) p N = it (ra b0) p t + 1 := by
          rw [eN1, ipS t, tl_eq (TL_atom (r := ra b0) (i := it (ra b0) p t) (by rw [h6]; decide))]
        have ath := LI_at hP.1 (k := t - 1) (by omega)
        have att := LI_at hP.1 (k := t) (by omega)
        have hn6 : ¬ kd (ra b0 (it (ra b0) p (t - 1))) = 6 := hP.2.1 (t - 1) (by omega)
        have hml := LI_mono hP.1 (j := sx) (k := t - 1) (by omega) (by omega)
        have l2 : l < 2 := by
          have a := hN (it (ra b0) p (t - 1)) (by omega) (by omega) hc hn6
          rw [HB_item hP.1 (k := t - 1) (by omega) (Nat.le_refl _) (by have := hT.1; omega)] at a
          have b : hb1 (ra b0) B (it (ra b0) p (t - 1)) (it (ra b0) p (t - 1)) = 1 := by
            unfold hb1
            rw [if_pos ⟨hc, hn6, by omega, by have := hT.1; omega, by rw [← et]; exact h6⟩]
          omega
        have ul : u.1 15 = nI l := hq.2.1.trans hl
        have ntop : l = 0 ∨ ¬ u.2 10 (l - 1) = nI (it (ra b0) p (t - 1)) := by
          rcases Nat.eq_zero_or_pos l with q | q
          · exact Or.inl q
          · refine Or.inr (fun y => ?_)
            rcases htop with y2 | ⟨q', y2, y3⟩
            · omega
            · rw [(hq.2.2 (l - 1) (by omega)).1, y3, nI_eq (by omega) (by omega)] at y
              omega
        refine LA_held (k := t - 1) (l := l) (x := x) (m := m) (M := M) ar1 ar2 (by omega) (by rw [er, ← et]; omega) (by omega) (by omega) (by have := itx (t - 1) (by omega); omega) (by rw [er]; exact hc) (by rw [er, ← et]; exact h6) ul l2 ntop (by rw [er]; exact hM) hax hxb (by omega) (by rw [er]) (fun kM => ?_) (fun kM w f1 f2 f3 f4 f5 => ?_)
        · have all : ∀ j, sx ≤ j → j < M → MXX (ra b0) (ra b0) (it (ra b0) p (min j (t - 1))) (it (ra b0) x j) := by
            intro j j1 j2
            rw [show min j (t - 1) = j from by omega]
            exact hdone j j1 (by omega)
          rw [er, ← et]
          rw [kM, mend] at hs ⊢
          have := succ all (s + 1) u hq (by omega)
          rw [show p + z - 1 = it (ra b0) p t + 1 from by omega, show x + m - 1 = x + (m - 1) from by omega] at this
          exact this
        · refine rounds eN1 l2 hdone (M - (t - 1)) (t - 1) s w (by omega) (by omega) (Nat.le_refl _) (fun j j1 j2 => by omega) hs (uF.tr f1) f2 (fun i hi => ?_) (by rw [f3, pk_us]) (by rw [f4, pk_us, show t - 1 - (t - 1) = 0 from by omega]; rfl) (by rw [f5, pk_us])
          obtain ⟨q1, q2, q3⟩ := hq.2.2 i hi
          rw [f3, f4, f5, pk_un (by omega), pk_un (by omega), pk_un (by omega)]
          exact ⟨q1, q2, q3⟩
    | succ d ihd =>
      intro k s u hk hsk hdone hs hq
      have uF : FR [15] [10, 11, 12] b0 u := hF.tr hq.1
      obtain ⟨ar1, ar2, er⟩ := arU uF
      have ktp : k < t ∧ (N = t ∨ (N = t + 1 ∧ k + 1 < t)) := by
        by_cases eN : N = t
        · rw [if_pos eN] at hk; exact ⟨by omega, Or.inl eN⟩
        · rw [if_neg eN] at hk
          have eN1 : N = t + 1 := by
            rcases hP.2.2 with q | ⟨q, _⟩
            · exact absurd q eN
            · exact q
          have := hsx2 eN1
          exact ⟨by omega, Or.inr ⟨eN1, by omega⟩⟩
      have kM : k < M := by
        rcases ktp.2 with q | ⟨q1, q2⟩
        · have := c1 q; omega
        · have := c2 q1; omega
      obtain ⟨hc, hT⟩ := hP.1.2.2.1 k (by omega)
      obtain ⟨xc, xT⟩ := hM.2.2.1 k kM
      have nh : ¬ kd (ra b0 (it (ra b0) p (k + 1))) = 6 := by
        rcases Nat.lt_or_ge (k + 1) t with q | q
        · exact hP.2.1 (k + 1) q
        · rcases ktp.2 with y | ⟨y1, y2⟩
          · have e : k + 1 = N := by omega
            rw [e, LI_end hP.1]; decide
          · omega
      have atk := LI_at hP.1 (k := k) (by omega)
      have atk1 := LI_at hP.1 (k := k + 1) (by omega)
      have eps := ipS k
      have ik := itx k (by omega)
      have ik1 := itx (k + 1) (by omega)
      have eks := itS k
      have h0T := xT.1
      have hml := LI_mono hP.1 (j := sx) (k := k) hsk (by omega)
      have nst : NST (ra b0) B l (it (ra b0) p k) (tl (ra b0) (it (ra b0) p k)) := by
        intro y y1 y2 y3 y4
        have a := hN y (by omega) (by omega) y3 y4
        rw [HB_item hP.1 (k := k) (by omega) y1 y2] at a
        omega
      refine LA_in0 (p := it (ra b0) p k) ar1 (by omega) (by rw [er]; omega) (by omega) (by omega) (by omega) (Or.inr (by rw [er, ← eps]; exact nh)) ?_
      have ut : TOPS u l (it (ra b0) p k) := by
        rcases Nat.eq_zero_or_pos l with q | q
        · exact Or.inl q
        · rcases htop with y2 | ⟨q', y2, y3⟩
          · omega
          · exact Or.inr ⟨q', by omega, by rw [(hq.2.2 (l - 1) (by omega)).1]; exact y3⟩
      refine ih k hsk ktp.1 l (it (ra b0) x k) s u uF (hq.2.1.trans hl) hl2 nst ut (by omega) (by omega) xc (by omega) (fun hx s' w' hq' hs' => ?_) (fun hx w' hw' => fail (fun q => hx ?_) w' hw')
      · rw [← eps, ← eks]
        refine ihd (k + 1) s' w' (by omega) (by omega) (fun j j1 j2 => ?_) (by omega) (hq.tr hq')
        rcases Nat.lt_or_ge j k with c | c
        · exact hdone j j1 c
        · have : j = k := by omega
          subst this; exact hx
      · have := q k hsk kM
        rw [show min k (t - 1) = k from by omega] at this
        exact this
  intro s u hs hq
  have sxt : sx ≤ (if N = t then t else t - 1) := by
    by_cases eN : N = t
    · rw [if_pos eN]; have := c1 eN; omega
    · rw [if_neg eN]
      have eN1 : N = t + 1 := by
        rcases hP.2.2 with q | ⟨q, _⟩
        · exact absurd q eN
        · exact q
      have := hsx2 eN1
      omega
  exact plain ((if N = t then t else t - 1) - sx) sx s u (by omega) (Nat.le_refl _) (fun j j1 j2 => by omega) hs hq
theorem treeW {b0 : mS} {post : Int32 → mS → Prop} {a1 b1 a2 b2 pat n N0 t0 : Nat} (hA1 : AR b0 a1 b1) (hD : DR (ra b0) a1 b1) (hA2 : AR b0 a2 b2) (hPC : PC (ra b0) pat n N0 t0) (hap : a1 ≤ pat) (hpb : pat + n ≤ b1) : ∀ (z p : Nat), TL (ra b0) p z → VP (ra b0) pat n p → TWS b0 post (pat + n - 1) a2 b2 p z := by
  have hbA := AR_b hA1
  have hbB := AR_b hA2
  have kpat := hPC.1.1.1
  have Tpat := hPC.1.1.2.1
  have n2 := (TL_open kpat Tpat).1
  intro z
  induction z using Nat.strongRecOn with
  | ind z ihz =>
    intro p hT hV
    obtain ⟨v1, v2, v3, v4⟩ := id hV
    have ez := tl_eq hT
    have pin : p + z ≤ pat + n - 1 := by
      have := (inTree kpat Tpat (j := p) (by omega) (by omega) v3).2
      rw [ez] at this
      omega
    intro l t s u uF ul ul2 nst utop at1 tb2 tc hs succ fail
    have hz0 := hT.1
    obtain ⟨ar1, ar2, er⟩ : AR u a1 b1 ∧ AR u a2 b2 ∧ ra u = ra b0 := ⟨AR_fr hA1 (uF.1 1 (by decide)) (uF.2 1 (by decide)) (uF.2 3 (by decide)), AR_fr hA2 (uF.1 1 (by decide)) (uF.2 1 (by decide)) (uF.2 3 (by decide)), ra_fr (uF.2 1 (by decide))⟩
    obtain ⟨tw, tT, tle, -⟩ := hA2.2 t at1 tb2
    have tT0 := tT.1
    by_cases k1 : kd (ra b0 p) = 1
    · obtain ⟨n', N', t', hL', hb', hit'⟩ := hPC.2.2.2.2 p hV k1
      have en := TL_uniq hT hL'.1.2.1
      subst en
      have ml := MXX_list (rw := ra b0) (u := t) hT k1
      refine LW_open (n := z) (N := N') (t0 := t') ar1 ar2 (by rw [er]; exact hL') (by omega) (by omega) at1 tb2 (fun hf => ?_) (fun hf => ?_)
      · rw [er] at hf
        obtain ⟨m, M, f1, f2, f3, f4⟩ := hf
        have em := tl_eq f1.2.1
        rw [em] at tle hs succ
        have fL := LI_at f1 (Nat.le_refl M)
        have m2 := (TL_open f1.1 f1.2.1).1
        have iff := MT_iff (D := MXX (ra b0) (ra b0)) (s := 0) hL' f1 f2 f3 f4
        have i0 : it (ra b0) p 0 = p + 1 := rfl
        have x0 : it (ra b0) t 0 = t + 1 := rfl
        have := itemsW (post := post) (B := pat + n - 1) (sx := 0) (l := l) (S := s + 1) (ub := u) hA1 hD hA2 (by omega) hL' (by omega) (by omega) f1 at1 tle f2 f3 f4 (by omega) (fun q => by
          rcases hL'.2.2 with y | ⟨_, y, _⟩
          · omega
          · omega) (fun y y1 y2 y3 y4 => nst y (by omega) (by omega) y3 y4) (fun k _ hk => by
            obtain ⟨a, b, c, d⟩ := PL_item hL' hk
            exact ihz _ d _ a (hit' k hk)) uF ul ul2 utop (by omega) (fun hall s' w hq hs' => ?_) (fun hn w hw => fail (fun q => hn (iff.mp (ml.mp q))) w hw) (s + 1) u (by omega) RQ.rf
        · exact this
        · -- the closing brackets
          have wF : FR [15] [10, 11, 12] b0 w := uF.tr hq.1
          obtain ⟨br1, br2, er2⟩ : AR w a1 b1 ∧ AR w a2 b2 ∧ ra w = ra b0 := ⟨AR_fr hA1 (wF.1 1 (by decide)) (wF.2 1 (by decide)) (wF.2 3 (by decide)), AR_fr hA2 (wF.1 1 (by decide)) (wF.2 1 (by decide)) (wF.2 3 (by decide)), ra_fr (wF.2 1 (by decide))⟩
          have z2 := TL_open k1 hT
          have kc : kd (ra b0 (p + z - 1)) = 2 := by rw [show p + z - 1 = p + (z - 1) from by omega]; exact z2.2.2
          have kc2 : kd (ra b0 (t + m - 1)) = 2 := by rw [show t + m - 1 = t + (m - 1) from by omega]; exact (TL_open f1.1 f1.2.1).2.2
          have tc1 : tl (ra b0) (p + z - 1) = 1 := tl_eq (TL_atom (by rw [kc]; decide))
          obtain ⟨pw, -⟩ := hA1.2 (p + z - 1) (by omega) (by omega)
          obtain ⟨xw, -⟩ := hA2.2 (t + m - 1) (by omega) (by omega)
          have same : ra b0 (p + z - 1) = ra b0 (t + m - 1) := (AW_inj pw xw).mp (((AW_2 pw).mpr kc).trans ((AW_2 xw).mpr kc2).symm)
          refine LA_in0 (p := p + z - 1) br1 (by omega) (by rw [er2, tc1]; omega) (by omega) (by omega) (by omega) (Or.inl (by rw [er2]; exact kc)) ?_
          refine LW_eq br1 br2 (by omega) (by omega) (by omega) (by omega) (Or.inr (by rw [er2]; exact kc)) (fun _ => ?_) (fun q => absurd (by rw [er2]; exact same) q)
          have fin := succ (ml.mpr (iff.mpr hall)) (s' + 1) w hq (by omega)
          rw [show p + z - 1 + 1 = p + z from by omega, show t + m - 1 + 1 = t + m from by omega]
          exact fin
      · rw [er] at hf
        exact fail (fun q => hf (MT_fts hL' (ml.mp q))) u uF
    · have e1 : z = 1 := TL_uniq hT (TL_atom k1)
      subst e1
      by_cases k4 : kd (ra b0 p) = 4
      · refine LW_eq ar1 ar2 (by omega) (by omega) at1 tb2 (Or.inl (by rw [er]; exact k4)) (fun q => ?_) (fun q => ?_)
        · rw [er] at q
          have t1 : tl (ra b0) t = 1 := tl_eq (TL_atom (by rw [← q, k4]; decide))
          have := succ ((MXX_num k4).mpr q) (s + 1) u RQ.rf (by omega)
          rw [t1] at this
          exact this
        · rw [er] at q
          exact fail (fun y => q ((MXX_num k4).mp y)) u uF
      · have k35 : kd (ra u p) = 3 ∨ kd (ra u p) = 5 := by
          rw [er]
          obtain ⟨pw, -⟩ := hA1.2 p (by omega) (by omega)
          rcases AW_k pw with ⟨_, y⟩ | ⟨_, y⟩ | ⟨_, y⟩ | ⟨_, y⟩ | ⟨_, _, _, y⟩ | ⟨_, _, _, _, y⟩
          · exact absurd y k1
          · exact absurd y v3
          · exact absurd y v4
          · exact Or.inr y
          · exact absurd y k4
          · exact Or.inl y
        refine LW_any ar1 ar2 (by omega) (by omega) at1 tb2 k35 ?_
        rw [er]
        exact succ (MXX_any k1 k4) (s + 1) u RQ.rf (by omega)
theorem matchesA {b0 : mS} {post : Int32 → mS → Prop} {a1 b1 a2 b2 pat n N t lst m : Nat} (hA1 : AR b0 a1 b1) (hD : DR (ra b0) a1 b1) (hA2 : AR b0 a2 b2) (hPC : PC (ra b0) pat n N t) (hPAT : PAT (ra b0) (b0.2 2) pat) (hap : a1 ≤ pat) (hpb : pat + n < b1) (hT : TL (ra b0) lst m) (hal : a2 ≤ lst) (hlb : lst + m ≤ b2) (hm : m ≤ 310) (h0 : ∀ w, FR [15] [10, 11, 12] b0 w → ¬ MT (ra b0) (ra b0) (MXX (ra b0) (ra b0)) 1 pat lst → post 0 w) (h1 : ∀ w, FR [15] [10, 11, 12] b0 w → MT (ra b0) (ra b0) (MXX (ra b0) (ra b0)) 1 pat lst → post 1 w) : wp_X1_matches (nI pat) (nI lst) b0 post := by
  have hbA := AR_b hA1
  have hbB := AR_b hA2
  obtain ⟨hPL, t1, tt2, hit, hnest⟩ := id hPC
  have kpat := hPL.1.1
  have Tpat := hPL.1.2.1
  have en := tl_eq Tpat
  have em := tl_eq hT
  have m0 := hT.1
  have n2 := TL_open kpat Tpat
  have tN := PL_t hPL
  refine hasRoom_ok hA1 hA2 hPL hap (by omega) hal (by omega) (fun hf => ⟨fun _ => ?_, fun q => absurd q (by decide)⟩) (fun hf => ⟨fun q => absurd rfl q, fun _ => h0 b0 FR.rf (fun q => hf (MT_fts hPL q))⟩)
  obtain ⟨m', M, f1, f2, f3, f4⟩ := hf
  have em2 := TL_uniq hT f1.2.1
  subst em2
  have m2 := TL_open f1.1 f1.2.1
  have M1 : 1 ≤ M := by
    rcases hPL.2.2 with q | ⟨q, _⟩
    · have := f3 q; omega
    · have := f4 q
      have := tt2 q
      omega
  have iff := MT_iff (D := MXX (ra b0) (ra b0)) (s := 1) hPL f1 f2 f3 f4
  rintro u5 rfl
  have F5 : FR [15] [10, 11, 12] b0 (mSet b0 15 0) := FR_set FR.rf (by decide)
  have u15 : (mSet b0 15 0).1 15 = nI 0 := mSet_same _ _ _
  generalize mSet b0 15 0 = u at F5 u15 ⊢
  obtain ⟨ar1, ar2, er⟩ : AR u a1 b1 ∧ AR u a2 b2 ∧ ra u = ra b0 := ⟨AR_fr hA1 (F5.1 1 (by decide)) (F5.2 1 (by decide)) (F5.2 3 (by decide)), AR_fr hA2 (F5.1 1 (by decide)) (F5.2 1 (by decide)) (F5.2 3 (by decide)), ra_fr (F5.2 1 (by decide))⟩
  refine after_ok ar1 hap (by omega) ?_
  rintro _ rfl
  rw [nI_1]
  refine after_ok ar1 (by omega) (by omega) ?_
  rintro _ rfl
  rw [nI_1]
  refine after_ok ar2 (by omega) (by omega) ?_
  rw [er, en]
  have ip1 : it (ra b0) pat 1 = pat + 1 + tl (ra b0) (pat + 1) := rfl
  have ix1 : it (ra b0) lst 1 = lst + 1 + tl (ra b0) (lst + 1) := rfl
  have bM := LI_at f1 (Nat.le_refl M)
  have b1' := LI_at f1 (k := 1) M1
  have eB : pat + n - 1 + 1 = pat + n := by omega
  have main := itemsW (post := post) (B := pat + n - 1) (sx := 1) (l := 0) (S := 2 * m) (ub := u) hA1 hD hA2 (by omega) hPL hap (by omega) f1 hal hlb f2 f3 f4 M1 (fun q => tt2 q) (fun y y1 y2 y3 y4 => by
    have := (hPAT.2.2 y (by omega) (by rw [en]; omega)).2.1 y3 y4
    rw [en] at this
    omega) (fun k k1 hk => by
      obtain ⟨a, b, c, d⟩ := PL_item hPL hk
      exact treeW hA1 hD hA2 hPC hap (by omega) _ _ a (hit k k1 hk)) F5 u15 (by omega) (Or.inl rfl) (by omega) (fun hall s' w hq hs' => ?_) (fun hn w hw => h0 w hw (fun q => hn (iff.mp q))) 0 u (by omega) RQ.rf
  · rw [eB] at main
    exact main
  · have wF : FR [15] [10, 11, 12] b0 w := F5.tr hq.1
    obtain ⟨br1, br2, er2⟩ : AR w a1 b1 ∧ AR w a2 b2 ∧ ra w = ra b0 := ⟨AR_fr hA1 (wF.1 1 (by decide)) (wF.2 1 (by decide)) (wF.2 3 (by decide)), AR_fr hA2 (wF.1 1 (by decide)) (wF.2 1 (by decide)) (wF.2 3 (by decide)), ra_fr (wF.2 1 (by decide))⟩
    have kc : kd (ra b0 (pat + n - 1)) = 2 := by rw [show pat + n - 1 = pat + (n - 1) from by omega]; exact n2.2.2
    have kc2 : kd (ra b0 (lst + m - 1)) = 2 := by rw [show lst + m - 1 = lst + (m - 1) from by omega]; exact m2.2.2
    have tc1 : tl (ra b0) (pat + n - 1) = 1 := tl_eq (TL_atom (by rw [kc]; decide))
    obtain ⟨pw, -⟩ := hA1.2 (pat + n - 1) (by omega) (by omega)
    obtain ⟨xw, -⟩ := hA2.2 (lst + m - 1) (by omega) (by omega)
    have same : ra b0 (pat + n - 1) = ra b0 (lst + m - 1) := (AW_inj pw xw).mp (((AW_2 pw).mpr kc).trans ((AW_2 xw).mpr kc2).symm)
    refine LA_in0 (p := pat + n - 1) br1 (by omega) (by rw [er2, tc1]; omega) (by omega) (by omega) (by omega) (Or.inl (by rw [er2]; exact kc)) ?_
    refine LW_eq br1 br2 (by omega) (by omega) (by omega) (by omega) (Or.inr (by rw [er2]; exact kc)) (fun _ => ?_) (fun q => absurd (by rw [er2]; exact same) q)
    exact LA_end (by omega) (by omega) (h1 w wF (iff.mpr hall))
