-- 77: the class's fill: where it stands, its variables, the copying of tokens
/-- nothing of the row below st has changed -/
def LOW (a u : mS) (st : Nat) : Prop := ∀ x, x < st → u.2 1 x = a.2 1 x ∧ u.2 2 x = a.2 2 x ∧ u.2 3 x = a.2 3 x ∧ u.2 4 x = a.2 4 x
theorem LOW_ra {a u : mS} {st : Nat} (h : LOW a u st) {i : Nat} (hi : i < st) : ra u i = ra a i := by
  show tr (u.2 1 i) = tr (a.2 1 i)
  rw [(h i hi).1]
theorem LOW.tr {a u w : mS} {st : Nat} (h : LOW a u st) (g : LOW u w st) : LOW a w st := fun x hx => ⟨(g x hx).1.trans (h x hx).1, (g x hx).2.1.trans (h x hx).2.1, (g x hx).2.2.1.trans (h x hx).2.2.1, (g x hx).2.2.2.trans (h x hx).2.2.2⟩
theorem LOW_fr {S A : List Nat} {a u : mS} {st : Nat} (h : FR S A a u) (h1 : (1 : Nat) ∉ A) (h2 : (2 : Nat) ∉ A) (h3 : (3 : Nat) ∉ A) (h4 : (4 : Nat) ∉ A) : LOW a u st := fun x _ => ⟨by rw [h.2 1 h1], by rw [h.2 2 h2], by rw [h.2 3 h3], by rw [h.2 4 h4]⟩
theorem AR_low {a u : mS} {st x y : Nat} (h : AR a x y) (hy : y ≤ st) (hL : LOW a u st) (hT : ∃ T, u.1 1 = nI T ∧ st ≤ T ∧ T ≤ 3000) : AR u x y ∧ ∀ i, x ≤ i → i < y → tl (ra u) i = tl (ra a) i := by
  obtain ⟨-, h⟩ := h
  have tt : ∀ i, x ≤ i → i < y → TL (ra u) i (tl (ra a) i) ∧ tl (ra u) i = tl (ra a) i := by
    intro i i1 i2
    obtain ⟨-, h2, h3, -⟩ := h i i1 i2
    have := TL_copy (r := ra a) (q := ra u) (i := i) (j := i) (fun k hk => by rw [LOW_ra hL (show i + k < st by omega)]) h2
    exact ⟨this, tl_eq this⟩
  obtain ⟨T, t1, t2, t3⟩ := hT
  refine ⟨⟨⟨T, t1, by omega, t3⟩, fun i i1 i2 => ?_⟩, fun i i1 i2 => (tt i i1 i2).2⟩
  obtain ⟨h1, h2, h3, h4⟩ := h i i1 i2
  rw [(tt i i1 i2).2, LOW_ra hL (show i < st by omega), (hL i (by omega)).1, (hL i (by omega)).2.2.1]
  exact ⟨h1, (tt i i1 i2).1, h3, h4⟩
theorem US_low {a u : mS} {st p i n N : Nat} (h : US a p i) (hL : LOW a u st) (hLI : LI (ra a) p n N) (hN : 0 < N) (hp : p + n ≤ st) (hi : i < st) : US u p i := by
  have e1 : tl (ra u) p = tl (ra a) p := by
    have := TL_copy (r := ra a) (q := ra u) (i := p) (j := p) (fun k hk => by rw [LOW_ra hL (show p + k < st by omega)]) hLI.2.1
    rw [tl_eq this, tl_eq hLI.2.1]
  have hiT : TL (ra a) (p + 1) (tl (ra a) (p + 1)) := (hLI.2.2.1 0 hN).2
  have hb1 : p + 1 + tl (ra a) (p + 1) < p + n := (LI_at hLI (k := 1) (by omega)).2.1
  have e2 : tl (ra u) (p + 1) = tl (ra a) (p + 1) := tl_eq (TL_copy (r := ra a) (q := ra u) (i := p + 1) (j := p + 1) (fun k hk => by rw [LOW_ra hL (show p + 1 + k < st by omega)]) hiT)
  have e3 : ∀ v w, VR (ra u) (u.2 2) p v w = VR (ra a) (a.2 2) p v w := by
    intro v w
    have g := sh_VR (r := ra a) (s := a.2 2) (q := ra u) (t := u.2 2) (a := 0) (c := 0) (L := st) (p := p) (n := n) (N := N) (fun j hj => by rw [Nat.zero_add]; exact ⟨LOW_ra hL hj, (hL j hj).2.1⟩) (by rw [Nat.zero_add]; exact hLI) hN hp v w
    rw [Nat.zero_add] at g
    rcases g with ⟨x, y⟩ | ⟨j, -, -, x, y⟩
    · rw [x, y]
    · rw [x, y]
  unfold US at h ⊢
  rw [e3, e1, e2, LOW_ra hL hi, (hL i hi).2.1, (hL i hi).2.2.2]
  exact h
/-- where a fill of the class stands, told by the reference's base b -/
def FAG (b u : mS) (pat n T m0 lst m pA lA a1 b1 a2 b2 : Nat) : Prop := AR u a1 b1 ∧ AR u a2 b2 ∧ a1 ≤ pA ∧ pA + n + m0 < b1 ∧ kd (ra u (pA + n + m0)) = 2 ∧ a2 ≤ lA ∧ lA + m ≤ b2 ∧ (∀ j, j < n → ra u (pA + j) = b.2 3 (pat + j) ∧ u.2 2 (pA + j) = b.2 4 (pat + j)) ∧ (∀ j, j < m0 → ra u (pA + n + j) = b.2 3 (T + j) ∧ u.2 2 (pA + n + j) = b.2 4 (T + j)) ∧ (∀ j, j < m → ra u (lA + j) = b.2 1 (lst + j) ∧ u.2 2 (lA + j) = b.2 2 (lst + j)) ∧ ∀ k, pA + n ≤ k → k < pA + n + m0 → US u pA k
theorem FAG_li {b u : mS} {pat n T m0 lst m pA lA a1 b1 a2 b2 N : Nat} (h : FAG b u pat n T m0 lst m pA lA a1 b1 a2 b2) (hL : LI (b.2 3) pat n N) : LI (ra u) pA n N := by
  obtain ⟨-, -, -, -, -, -, -, h1, -⟩ := h
  exact sh_LI (r := b.2 3) (s := b.2 4) (q := ra u) (t := u.2 2) (a := pat) (c := pA) (L := n) (x := 0) h1 hL (by omega)
theorem FAG_low {b a u : mS} {pat n T m0 lst m pA lA a1 b1 a2 b2 st : Nat} {D : Nat → Nat → Prop} (hG : FG b pat n T m0 lst m D) (h : FAG b a pat n T m0 lst m pA lA a1 b1 a2 b2) (s1 : b1 ≤ st) (s2 : b2 ≤ st) (hL : LOW a u st) (hT : ∃ t, u.1 1 = nI t ∧ st ≤ t ∧ t ≤ 3000) : FAG b u pat n T m0 lst m pA lA a1 b1 a2 b2 := by
  obtain ⟨⟨N, t, hPC⟩, -⟩ := hG.1
  have hLI := FAG_li h hPC.1.1
  have hN : 0 < N := by have := PL_t hPC.1; have := hPC.2.1; omega
  obtain ⟨c1, c2, c3, c4, c5, c6, c7, c8, c9, c10, c11⟩ := h
  refine ⟨(AR_low c1 s1 hL hT).1, (AR_low c2 s2 hL hT).1, c3, c4, ?_, c6, c7, fun j hj => ?_, fun j hj => ?_, fun j hj => ?_, fun k k1 k2 => US_low (c11 k k1 k2) hL hLI hN (by omega) (by omega)⟩
  · rw [LOW_ra hL (by omega)]; exact c5
  · rw [LOW_ra hL (by omega), (hL _ (by omega)).2.1]; exact c8 j hj
  · rw [LOW_ra hL (by omega), (hL _ (by omega)).2.1]; exact c9 j hj
  · rw [LOW_ra hL (by omega), (hL _ (by omega)).2.1]; exact c10 j hj
/-- the class's variableAt finds the reference's use -/
theorem varA {b u : mS} {pat n T m0 lst m pA lA a1 b1 a2 b2 i : Nat} {D : Nat → Nat → Prop} {post : Int32 → mS → Prop} (hG : FG b pat n T m0 lst m D) (h : FAG b u pat n T m0 lst m pA lA a1 b1 a2 b2) (hTi : T ≤ i) (hlt : i < T + m0) (h1 : ∀ j, USE (b.2 3) (b.2 4) pat i j → pat ≤ j → j < pat + n → post (nI (pA + (j - pat))) u) (h0 : (∀ j, ¬ USE (b.2 3) (b.2 4) pat i j) → post (-1) u) : wp_X5_variableAt (nI (pA + n + (i - T))) u post := by
  obtain ⟨⟨N, t, hPC⟩, -, hpT, -, hTl, -⟩ := hG.1
  have hN : 0 < N := by have := PL_t hPC.1; have := hPC.2.1; omega
  obtain ⟨c1, c2, c3, c4, c5, c6, c7, c8, c9, c10, c11⟩ := h
  have hb1 := AR_b c1
  obtain ⟨e1, e2⟩ := c9 (i - T) (by omega)
  rw [show T + (i - T) = i from by omega] at e1 e2
  have g := sh_VR (r := b.2 3) (s := b.2 4) (q := ra u) (t := u.2 2) (a := pat) (c := pA) (L := n) (p := 0) (n := n) (N := N) c8 hPC.1.1 hN (by omega) (b.2 3 i) (b.2 4 i)
  rw [Nat.add_zero, Nat.add_zero] at g
  refine variableAt_ok c1 (by omega) (c11 _ (by omega) (by omega)) (fun j k3 j1 j2 j3 jv => ?_) (fun hno => ?_)
  · rw [e1, e2] at jv
    rw [e1] at k3
    rcases g with ⟨x, y⟩ | ⟨j', y1, y2, x, y⟩
    · rw [y] at jv
      exact absurd jv.symm (nI_ng (by omega) (by decide))
    · rw [y, nI_eq (by omega) (by omega)] at jv
      have := h1 (pat + j') ⟨k3, x, by omega⟩ (by omega) (by omega)
      rw [show pA + (pat + j' - pat) = j from by omega] at this
      exact this
  · refine h0 (fun j hu => hno ⟨by rw [e1]; exact hu.1, ?_⟩)
    rw [e1, e2]
    rcases g with ⟨x, y⟩ | ⟨j', y1, y2, x, y⟩
    · have := hu.2.1
      rw [x] at this
      exact absurd this.symm (nI_ng (by have := hu.2.2; omega) (by decide))
    · rw [y]; exact nI_pos (by omega)
/-- what stands after some tokens were copied to the top -/
def CPY (u w : mS) (st t f x ty : Nat) : Prop := FR [1, 2, 14] [1, 2, 3, 4] u w ∧ RB w st (t + x) ∧ w.1 14 = nI (ty + trS (ra u) f x) ∧ LOW u w st ∧ (∀ y, y < t → w.2 1 y = u.2 1 y ∧ w.2 2 y = u.2 2 y) ∧ ∀ y, y < x → w.2 1 (t + y) = u.2 1 (f + y) ∧ w.2 2 (t + y) = u.2 2 (f + y)
theorem CPY_dep {u w : mS} {st t f x ty : Nat} (h : CPY u w st t f x ty) (hst : st ≤ t) : dep (ra w) st (t - st + x) = dep (ra u) st (t - st) + dep (ra u) f x := by
  obtain ⟨-, -, -, -, h1, h2⟩ := h
  rw [dep_add, show st + (t - st) = t from by omega]
  have a1 : dep (ra w) st (t - st) = dep (ra u) st (t - st) := dep_copy _ (fun k hk => by
    show kd (tr (w.2 1 (st + k))) = kd (tr (u.2 1 (st + k)))
    rw [(h1 (st + k) (by omega)).1])
  have a2 : dep (ra w) t x = dep (ra u) f x := dep_copy _ (fun k hk => by
    show kd (tr (w.2 1 (t + k))) = kd (tr (u.2 1 (f + k)))
    rw [(h2 k hk).1])
  rw [a1, a2]
theorem copyA {u : mS} {a b st t f z ty : Nat} {post : mS → Prop} (hA : AR u a b) (haf : a ≤ f) (hfb : f + z ≤ b) (hbs : b ≤ st) (hR : RB u st t) (h14 : u.1 14 = nI ty) (hty : ty ≤ 100) (h7 : u.1 7 = 0) (hroom : ∀ x, x < z → ty + trS (ra u) f x ≤ 100 → t + x < 3000) (hcl : ∀ x, x < z → kd (ra u (f + x)) = 2 → 0 < dep (ra u) st (t - st) + dep (ra u) f x) (h1 : ty + trS (ra u) f z ≤ 100 → ∀ w, CPY u w st t f z ty → post w) (h0 : 100 < ty + trS (ra u) f z → ∀ w, FR [1, 2, 7, 14] [1, 2, 3, 4] u w → LOW u w st → w.1 1 = w.1 1 → ¬ w.1 7 = 0 → (∃ t', w.1 1 = nI t' ∧ st ≤ t' ∧ t' ≤ 3000) → post w) : ∃ k, mL3 (fun K => wj_X1_fillToken_47 K post) k (nI (f + z)) (nI f) u := by
  have hst := hR.2.1
  have hb3 := AR_b hA
  have main : ∀ (d x : Nat) (w : mS), x + d = z → CPY u w st t f x ty → ty + trS (ra u) f x ≤ 100 → mL3 (fun K => wj_X1_fillToken_47 K post) (d + 1) (nI (f + z)) (nI (f + x)) w := by
    intro d
    induction d with
    | zero =>
      intro x w hx hw hle
      have : x = z := by omega
      subst this
      exact ⟨fun _ => h1 hle w hw, fun q => absurd (Int32.le_refl _) q⟩
    | succ d ih =>
      intro x w hx hw hle
      have hw' := hw
      obtain ⟨wF, wR, w14, wL, wo, wn⟩ := hw
      have rm := hroom x (by omega) hle
      obtain ⟨wA, -⟩ := AR_low hA hbs wL ⟨t + x, wR.1, by omega, wR.2.2.1⟩
      have ew : w.2 1 (f + x) = u.2 1 (f + x) := (wL (f + x) (by omega)).1
      have em : w.2 2 (f + x) = u.2 2 (f + x) := (wL (f + x) (by omega)).2.1
      have aw : AW (u.2 1 (f + x)) (ra u (f + x)) := (hA.2 (f + x) (by omega) (by omega)).1
      refine ⟨fun q => absurd q (by rw [nI_leI (by omega) (by omega)]; omega), fun _ => ?_⟩
      intro y11 e11
      rw [w14] at e11; subst e11
      have core : wj_X1_fillToken_79 (mL3 (fun K => wj_X1_fillToken_47 K post) (d + 1)) post (nI (f + z)) (nI (f + x)) (nI (tr1 (ra u (f + x)))) (nI (ty + trS (ra u) f x)) w := by
        have es : ty + trS (ra u) f x + tr1 (ra u (f + x)) = ty + trS (ra u) f (x + 1) := by
          show _ = ty + (trS (ra u) f x + tr1 (ra u (f + x)))
          omega
        have l1 : tr1 (ra u (f + x)) ≤ 1 := by unfold tr1; split <;> omega
        rintro _ rfl _ rfl _ rfl
        rw [nI_add, es, mSet_same]
        refine ⟨fun q => ?_, fun q => ?_⟩
        · rw [show (100 : Int32) = nI 100 from rfl, nI_leI (by omega) (by omega)] at q
          have vF : FR [14] [] w (mSet w 14 (nI (ty + trS (ra u) f (x + 1)))) := FR_set FR.rf (by decide)
          generalize hv : mSet w 14 (nI (ty + trS (ra u) f (x + 1))) = v at vF
          have v14 : v.1 14 = nI (ty + trS (ra u) f (x + 1)) := by rw [← hv, mSet_same]
          have v1 : v.2 1 = w.2 1 := vF.2 1 (by decide)
          have v2 : v.2 2 = w.2 2 := vF.2 2 (by decide)
          have v3 : v.2 3 = w.2 3 := vF.2 3 (by decide)
          have v4 : v.2 4 = w.2 4 := vF.2 4 (by decide)
          have vA := AR_fr wA (vF.1 1 (by decide)) v1 v3
          have vR := RB_fr wR (vF.1 1 (by decide)) (vF.1 2 (by decide)) v1 v3
          refine wordAR vA (by omega) (marksAR vA (by omega) ?_)
          rw [v1, v2, ew, em]
          refine addA (c := ra u (f + x)) vR rm aw (fun k2 => ?_) (fun y yR yF y1 y2 y4 y3 => ?_)
          · have hd := CPY_dep hw' hst
            have hc := hcl x (by omega) k2
            have L0 : 0 < t - st + x := by
              rcases Nat.eq_zero_or_pos (t - st + x) with z0 | z0
              · have z1 : t - st = 0 := by omega
                have z2 : x = 0 := by omega
                rw [z1, z2] at hc
                have hc : (0 : Int) < 0 + 0 := hc
                exact absurd hc (by decide)
              · exact z0
            obtain ⟨k, k1, k2, k3, k4⟩ := open_ex (r := ra v) (e := st) (L := t - st + x) (t - st + x) 0 (by omega) L0 (by show (0 : Int) < _; rw [ra_fr v1, hd]; exact hc)
            exact ⟨k, by omega, by omega, k3, fun j j1 j2 => k4 j j1 (by omega)⟩
          · rintro _ rfl
            rw [nI_1]
            refine ih (x + 1) y (by omega) ⟨wF.tr ((vF.wk (by decide) (by decide)).tr (yF.wk (by decide) (by decide))), yR, (yF.1 14 (by decide)).trans v14, fun k hk => ⟨?_, ?_, ?_, ?_⟩, fun k hk => ⟨?_, ?_⟩, fun k hk => ⟨?_, ?_⟩⟩ q
            · rw [y1, pk_un (by omega), v1]; exact (wL k hk).1
            · rw [y2, pk_un (by omega), v2]; exact (wL k hk).2.1
            · rw [y3 k (Or.inl hk), v3]; exact (wL k hk).2.2.1
            · rw [y4, pk_un (by omega), v4]; exact (wL k hk).2.2.2
            · rw [y1, pk_un (by omega), v1]; exact (wo k hk).1
            · rw [y2, pk_un (by omega), v2]; exact (wo k hk).2
            · rw [y1]
              rcases Nat.lt_or_ge k x with c | c
              · rw [pk_un (by omega), v1]; exact (wn k c).1
              · have : k = x := by omega
                subst this; rw [pk_us]
            · rw [y2]
              rcases Nat.lt_or_ge k x with c | c
              · rw [pk_un (by omega), v2]; exact (wn k c).2
              · have : k = x := by omega
                subst this; rw [pk_us]
        · rw [show (100 : Int32) = nI 100 from rfl, nI_leI (by omega) (by omega)] at q
          have big : 100 < ty + trS (ra u) f z := by
            have := trS_le (ra u) f (x + 1) d
            rw [show x + 1 + d = z from by omega] at this
            omega
          intro y9 e9
          have e9 : y9 = 0 := e9.trans ((wF.1 7 (by decide)).trans h7)
          refine ⟨fun c => absurd e9 c, fun _ => ?_⟩
          rintro _ rfl
          refine h0 big _ (FR_set (FR_set (wF.wk (by decide) (by decide)) (by decide)) (by decide)) (fun k hk => wL k hk) rfl ?_ ⟨t + x, wR.1, by omega, wR.2.2.1⟩
          rw [mSet_same]; decide
      refine wordAR wA (by omega) ?_
      rw [ew]
      refine isTree_ok aw (fun n2 n6 => ⟨fun q => absurd q (by decide), fun _ => ?_⟩) (fun n => ⟨fun _ => ?_, fun q => absurd rfl q⟩)
      · have e : tr1 (ra u (f + x)) = 1 := if_neg (fun q => q.elim n2 n6)
        rw [e] at core; exact core
      · have e : tr1 (ra u (f + x)) = 0 := if_pos n
        rw [e] at core; exact core
  refine ⟨z + 1, ?_⟩
  have := main z 0 u (by omega) ⟨FR.rf, hR, by rw [h14]; rfl, fun k _ => ⟨rfl, rfl, rfl, rfl⟩, fun k _ => ⟨rfl, rfl⟩, fun k hk => by omega⟩ (by show ty + 0 ≤ 100; omega)
  rw [Nat.add_zero] at this
  exact this
