-- 76: turns of the reference's fill, as ways from state to state
theorem fm_dots {pat n T m0 lst m i k ty h : Nat} {rd be ro : Nat → Nat} {D : Nat → Nat → Prop} {b w : mS} {K : Int32 → Int32 → Int32 → Int32 → mS → Prop} {post : mS → Prop} (hG : FG b pat n T m0 lst m D) (hTi : T ≤ i) (hlt : i < T + m0) (hX : FIX b w pat T m0 lst i k ty h rd be ro) (c6 : kd (b.2 3 i) = 6)
    (h1 : ∀ g v, h = g + 1 → be g + tl (b.2 3) (be g) = i → be g < i → T < be g → rd g + 1 < ro g → ro g ≤ 310 → v.2 12 = w.2 12 → v.2 13 = w.2 13 → FIX b v pat T m0 lst (be g) k ty h (fun l => if l = g then rd g + 1 else rd l) be ro → K (nI pat) (nI lst) (nI (T + m0)) (nI (be g)) v)
    (h0 : ∀ g v, h = g + 1 → be g + tl (b.2 3) (be g) = i → be g < i → T < be g → ro g ≤ rd g + 1 → ro g ≤ 310 → rd g < ro g → v.2 12 = w.2 12 → v.2 13 = w.2 13 → FIX b v pat T m0 lst (i + 1) k ty g (fun l => if l = g then rd g + 1 else rd l) be ro → K (nI pat) (nI lst) (nI (T + m0)) (nI (i + 1)) v) : wj_X9_fill_37 K post (nI pat) (nI lst) (nI (T + m0)) (nI i) w := by
  obtain ⟨hF, hR, he, ek, ety, ty100, eh, hh2, hrd, hbe, hSK, hMD⟩ := hX
  obtain ⟨hFC, hDT, hT2, hT6, htok, hrtok, hrdt⟩ := hG
  obtain ⟨⟨N, t, hPC⟩, hPAT, hpT, hT, hTl, hTEM, hLl, hl2, hm, hTop, hD⟩ := hFC
  have ett := tl_eq hT
  have r3 : w.2 3 = b.2 3 := hF.2 3 (by decide)
  have iT : T < i := by
    rcases Nat.lt_or_ge T i with c | c
    · exact c
    · have : i = T := by omega
      subst this
      exact absurd c6 hT6
  obtain ⟨g, rfl, ge1, ge2⟩ := sk_top hT hSK iT hlt hDT c6
  obtain ⟨s1, s2, s3, s4, s5, -⟩ := hSK.1 g (by omega)
  obtain ⟨Tg, -⟩ := inTree0 hT s1.1 (by omega) s1.2.1
  have bT : T < be g := by
    rcases Nat.lt_or_ge T (be g) with c | c
    · exact c
    · have e : be g = T := by have := s1.1; omega
      have := s1.2.2.2.1
      rw [e, ett] at this; omega
  obtain ⟨a1, a2, a3, a4, a5, a6, a7⟩ := id hMD
  refine ⟨fun q => absurd q (by rw [nI_leI (by omega) (by omega)]; omega), fun _ => ?_⟩
  intro y9 e9
  refine ⟨fun q => absurd (e9.trans he) q, fun _ => ?_⟩
  refine kind_4 (by omega) ?_
  rw [r3]
  refine ⟨fun q => absurd c6 q, fun _ => ?_⟩
  refine again_ok eh (by omega) (hrd g (by omega)).1 (hbe g (by omega)).2 (hbe g (by omega)).1 (hrd g (by omega)).2 (by omega) (fun v vF v18 hr => ?_) (fun v vF v18 vh hr => ?_)
  · refine h1 g v rfl ge1 ge2 bT hr s5 (vF.2 12 (by decide)) (vF.2 13 (by decide)) ⟨hF.tr (vF.wk (by decide) (by decide)), fun l hl => ?_, (vF.1 12 (by decide)).trans he, (vF.1 6 (by decide)).trans ek, (vF.1 7 (by decide)).trans ety, ty100, (vF.1 8 (by decide)).trans eh, hh2, fun l hl => ?_, fun l hl => ?_, sk_back hT hSK ge1 ge2 hr, ?_⟩
    · rw [v18]
      by_cases y : l = g
      · rw [y, pk_us]; exact ⟨rd g + 1, rfl, by omega⟩
      · rw [pk_un y]; exact hR l hl
    · rw [v18]
      show upd (w.2 18) g (nI (rd g + 1)) l = nI (if l = g then rd g + 1 else rd l) ∧ (if l = g then rd g + 1 else rd l) < 2 ^ 20
      by_cases y : l = g
      · rw [y, pk_us, if_pos rfl]; exact ⟨rfl, by omega⟩
      · rw [pk_un y, if_neg y]; exact hrd l hl
    · rw [vF.2 16 (by decide), vF.2 17 (by decide)]; exact hbe l hl
    · rw [vF.2 12 (by decide)]
      refine ⟨a1, a2, a3, ?_, a5, fun _ => a6 iT, fun y => by omega⟩
      rw [a4, ← ge1, show be g + tl (b.2 3) (be g) - T = (be g - T) + tl (b.2 3) (be g) from by omega, dep_add, show T + (be g - T) = be g from by omega, TL_0 Tg s1.2.1]
      omega
  · refine h0 g v rfl ge1 ge2 bT hr s5 s4 (vF.2 12 (by decide)) (vF.2 13 (by decide)) ⟨hF.tr (vF.wk (by decide) (by decide)), fun l hl => ?_, (vF.1 12 (by decide)).trans he, (vF.1 6 (by decide)).trans ek, (vF.1 7 (by decide)).trans ety, ty100, vh, by omega, fun l hl => ?_, fun l hl => ?_, sk_leave hT hSK ge1 ge2 c6 (fun l hl => by rw [if_neg (by omega)]), ?_⟩
    · rw [v18]
      by_cases y : l = g
      · rw [y, pk_us]; exact ⟨rd g + 1, rfl, by omega⟩
      · rw [pk_un y]; exact hR l hl
    · rw [v18]
      show upd (w.2 18) g (nI (rd g + 1)) l = nI (if l = g then rd g + 1 else rd l) ∧ (if l = g then rd g + 1 else rd l) < 2 ^ 20
      by_cases y : l = g
      · rw [y, pk_us, if_pos rfl]; exact ⟨rfl, by omega⟩
      · rw [pk_un y, if_neg y]; exact hrd l hl
    · rw [vF.2 16 (by decide), vF.2 17 (by decide)]; exact hbe l (by omega)
    · rw [vF.2 12 (by decide)]
      refine ⟨a1, a2, a3, ?_, a5, fun _ => a6 iT, fun y => by omega⟩
      rw [a4, show i + 1 - T = (i - T) + 1 from by omega, dep_s, show T + (i - T) = i from by omega, sg_else (by rw [c6]; decide) (by rw [c6]; decide)]
      omega
/-- the loop of fill from a place on -/
def LF (Q : mS → Prop) (pat lst te i : Nat) (w : mS) : Prop := ∃ k, mL5 (fun K => wj_X9_fill_37 K Q) k (nI pat) (nI lst) (nI te) (nI i) w
theorem LF_step {pat lst te i : Nat} {w : mS} {P : Nat → mS → Prop} (h : wj_X9_fill_37 (fun x1 x2 x4 x5 w' => x1 = nI pat ∧ x2 = nI lst ∧ x4 = nI te ∧ ∃ i', x5 = nI i' ∧ P i' w') (fun _ => False) (nI pat) (nI lst) (nI te) (nI i) w) : ∃ i' w', P i' w' ∧ ∀ Q, LF Q pat lst te i' w' → LF Q pat lst te i w := by
  refine d_wj_X9_fill_37 h (fun b0 b1 b2 b3 b4 hk reb => ?_) (fun b0 hf _ => hf.elim)
  obtain ⟨rfl, rfl, rfl, i', rfl, hP⟩ := hk
  refine ⟨i', b4, hP, fun Q hQ => ?_⟩
  obtain ⟨k, hk⟩ := hQ
  exact ⟨k + 1, reb _ _ hk⟩
theorem LF_end {Q : mS → Prop} {pat lst te : Nat} {w : mS} (h : Q w) : LF Q pat lst te te w := ⟨1, fun _ => h, fun q => absurd (Int32.le_refl _) q⟩
theorem LF_err {Q : mS → Prop} {pat lst te i : Nat} {w : mS} (he : ¬ w.1 12 = 0) (h : Q w) : LF Q pat lst te i w := ⟨1, fun _ => h, fun _ y e => ⟨fun _ => h, fun q => absurd (e.symm.trans q) he⟩⟩
/-- what a token becomes: itself; what its variable matched; or there are too many -/
def TKO (b v w' : mS) (pat T m0 lst i k ty h : Nat) (rd be ro : Nat → Nat) : Prop := ((∀ j, ¬ USE (b.2 3) (b.2 4) pat i j) ∧ ty + tr1 (b.2 3 i) ≤ 100 ∧ FIX b w' pat T m0 lst (i + 1) (k + 1) (ty + tr1 (b.2 3 i)) h rd be ro ∧ w'.2 12 = upd (v.2 12) k (b.2 3 i) ∧ w'.2 13 = upd (v.2 13) k (b.2 4 i)) ∨ (∃ j U, USE (b.2 3) (b.2 4) pat i j ∧ U = CNT (b.2 3) (b.2 1) rd pat lst j 9 ∧ ty + trS (b.2 1) U (tl (b.2 1) U) ≤ 100 ∧ FIX b w' pat T m0 lst (i + 1) (k + tl (b.2 1) U) (ty + trS (b.2 1) U (tl (b.2 1) U)) h rd be ro ∧ (∀ x, x < k → w'.2 12 x = v.2 12 x ∧ w'.2 13 x = v.2 13 x) ∧ (∀ x, x < tl (b.2 1) U → w'.2 12 (k + x) = b.2 1 (U + x) ∧ w'.2 13 (k + x) = b.2 2 (U + x))) ∨ ((((∀ j, ¬ USE (b.2 3) (b.2 4) pat i j) ∧ 100 < ty + tr1 (b.2 3 i)) ∨ ∃ j U, USE (b.2 3) (b.2 4) pat i j ∧ U = CNT (b.2 3) (b.2 1) rd pat lst j 9 ∧ 100 < ty + trS (b.2 1) U (tl (b.2 1) U)) ∧ FR [6, 7, 8, 12] [12, 13, 16, 17, 18] b w' ∧ RD3 w' ∧ ¬ w'.1 12 = 0)
theorem gm_tok {pat n T m0 lst m i k ty h : Nat} {rd be ro : Nat → Nat} {D : Nat → Nat → Prop} {b w : mS} (hG : FG b pat n T m0 lst m D) (hTi : T ≤ i) (hlt : i < T + m0) (hX : FIX b w pat T m0 lst i k ty h rd be ro) (n6 : ¬ kd (b.2 3 i) = 6) (hin : kd (b.2 3 i) = 2 ∨ (0 < h ∧ be (h - 1) = i) ∨ ¬ HL (b.2 3) T (T + m0) i) : ∃ w', TKO b w w' pat T m0 lst i k ty h rd be ro ∧ ∀ Q, LF Q pat lst (T + m0) (i + 1) w' → LF Q pat lst (T + m0) i w := by
  have ent : HL (b.2 3) T (T + m0) i → ∃ l, l < h ∧ be l = i := by
    intro q
    rcases hin with y | ⟨y1, y2⟩ | y
    · exact absurd y q.2.1
    · exact ⟨h - 1, by omega, y2⟩
    · exact absurd q y
  obtain ⟨i', w', ⟨rfl, hP⟩, go⟩ := LF_step (P := fun i' w' => i' = i + 1 ∧ TKO b w w' pat T m0 lst i k ty h rd be ro) (fm_in hG hTi hlt hX n6 hin (fm_tok hG hTi hlt hX n6 ent (fun q1 q2 u q3 q4 q5 => ⟨rfl, rfl, rfl, i + 1, rfl, rfl, Or.inl ⟨q1, q2, q3, q4, q5⟩⟩) (fun j U q1 q2 q3 u q4 q5 q6 => ⟨rfl, rfl, rfl, i + 1, rfl, rfl, Or.inr (Or.inl ⟨j, U, q1, q2, q3, q4, q5, q6⟩)⟩) (fun q1 u q2 q3 q4 => ⟨rfl, rfl, rfl, i + 1, rfl, rfl, Or.inr (Or.inr ⟨q1, q2, q3, q4⟩)⟩)))
  exact ⟨w', hP, go⟩
theorem gm_hold {pat n T m0 lst m i k ty h : Nat} {rd be ro : Nat → Nat} {D : Nat → Nat → Prop} {b w : mS} (hG : FG b pat n T m0 lst m D) (hlt : i < T + m0) (hX : FIX b w pat T m0 lst i k ty h rd be ro) (hHL : HL (b.2 3) T (T + m0) i) (notin : ∀ l, l < h → be l ≠ i) : (∀ j v, i ≤ j → j < i + tl (b.2 3) i → USE (b.2 3) (b.2 4) pat j v → h < HB (b.2 3) T (T + m0) j ∧ ∀ l, l < h → rd l < CNT (b.2 3) (b.2 1) rd pat lst v l) ∧ ((∃ c w', 0 < c ∧ c ≤ 310 ∧ (∀ j v, i ≤ j → j < i + tl (b.2 3) i → USE (b.2 3) (b.2 4) pat j v → CNT (b.2 3) (b.2 1) rd pat lst v h = c) ∧ (∃ j v, i ≤ j ∧ j < i + tl (b.2 3) i ∧ USE (b.2 3) (b.2 4) pat j v) ∧ h < 2 ∧ SK (b.2 3) (b.2 4) (b.2 1) pat T (T + m0) lst (fun l => if l = h then 0 else rd l) (fun l => if l = h then i else be l) (fun l => if l = h then c else ro l) i (h + 1) ∧ TKO b w w' pat T m0 lst i k ty (h + 1) (fun l => if l = h then 0 else rd l) (fun l => if l = h then i else be l) (fun l => if l = h then c else ro l) ∧ ∀ Q, LF Q pat lst (T + m0) (i + 1) w' → LF Q pat lst (T + m0) i w) ∨ ((∀ j v, i ≤ j → j < i + tl (b.2 3) i → USE (b.2 3) (b.2 4) pat j v → CNT (b.2 3) (b.2 1) rd pat lst v h = 0) ∧ (∃ j v, i ≤ j ∧ j < i + tl (b.2 3) i ∧ USE (b.2 3) (b.2 4) pat j v) ∧ FIX b w pat T m0 lst (i + tl (b.2 3) i + 1) k ty h rd be ro ∧ ∀ Q, LF Q pat lst (T + m0) (i + tl (b.2 3) i + 1) w → LF Q pat lst (T + m0) i w) ∨ ((∃ j v j2 v2, i ≤ j ∧ j < i + tl (b.2 3) i ∧ i ≤ j2 ∧ j2 < i + tl (b.2 3) i ∧ USE (b.2 3) (b.2 4) pat j v ∧ USE (b.2 3) (b.2 4) pat j2 v2 ∧ CNT (b.2 3) (b.2 1) rd pat lst v h ≠ CNT (b.2 3) (b.2 1) rd pat lst v2 h) ∧ ∃ w', FR [6, 7, 8, 12] [12, 13, 16, 17, 18] b w' ∧ RD3 w' ∧ ¬ w'.1 12 = 0 ∧ ∀ Q, LF Q pat lst (T + m0) (i + tl (b.2 3) i + 1) w' → LF Q pat lst (T + m0) i w)) := by
  have H := fm_hold (K := fun x1 x2 x4 x5 w' => x1 = nI pat ∧ x2 = nI lst ∧ x4 = nI (T + m0) ∧ ∃ i', x5 = nI i' ∧ ((i' = i + 1 ∧ ∃ c, 0 < c ∧ c ≤ 310 ∧ (∀ j v, i ≤ j → j < i + tl (b.2 3) i → USE (b.2 3) (b.2 4) pat j v → CNT (b.2 3) (b.2 1) rd pat lst v h = c) ∧ (∃ j v, i ≤ j ∧ j < i + tl (b.2 3) i ∧ USE (b.2 3) (b.2 4) pat j v) ∧ h < 2 ∧ SK (b.2 3) (b.2 4) (b.2 1) pat T (T + m0) lst (fun l => if l = h then 0 else rd l) (fun l => if l = h then i else be l) (fun l => if l = h then c else ro l) i (h + 1) ∧ TKO b w w' pat T m0 lst i k ty (h + 1) (fun l => if l = h then 0 else rd l) (fun l => if l = h then i else be l) (fun l => if l = h then c else ro l)) ∨ (i' = i + tl (b.2 3) i + 1 ∧ w' = w ∧ (∀ j v, i ≤ j → j < i + tl (b.2 3) i → USE (b.2 3) (b.2 4) pat j v → CNT (b.2 3) (b.2 1) rd pat lst v h = 0) ∧ (∃ j v, i ≤ j ∧ j < i + tl (b.2 3) i ∧ USE (b.2 3) (b.2 4) pat j v) ∧ FIX b w pat T m0 lst (i + tl (b.2 3) i + 1) k ty h rd be ro) ∨ (i' = i + tl (b.2 3) i + 1 ∧ (∃ j v j2 v2, i ≤ j ∧ j < i + tl (b.2 3) i ∧ i ≤ j2 ∧ j2 < i + tl (b.2 3) i ∧ USE (b.2 3) (b.2 4) pat j v ∧ USE (b.2 3) (b.2 4) pat j2 v2 ∧ CNT (b.2 3) (b.2 1) rd pat lst v h ≠ CNT (b.2 3) (b.2 1) rd pat lst v2 h) ∧ FR [6, 7, 8, 12] [12, 13, 16, 17, 18] b w' ∧ RD3 w' ∧ ¬ w'.1 12 = 0))) (post := fun _ => False) hG hlt hX hHL notin (fun c v c0 c1 c2 c3 h2 v12 v13 vX => ?_) (fun c2 c3 vX => ⟨rfl, rfl, rfl, _, rfl, Or.inr (Or.inl ⟨rfl, rfl, c2, c3, vX⟩)⟩) (fun q u q1 q2 q3 => ⟨rfl, rfl, rfl, _, rfl, Or.inr (Or.inr ⟨rfl, q, q1, q2, q3⟩)⟩)
  · obtain ⟨hcond, H⟩ := H
    refine ⟨hcond, ?_⟩
    obtain ⟨i', w', hP, go⟩ := LF_step H
    rcases hP with ⟨rfl, c, q1, q2, q3, q4, q5, q6, q7⟩ | ⟨rfl, rfl, q1, q2, q3⟩ | ⟨rfl, q1, q2, q3, q4⟩
    · exact Or.inl ⟨c, w', q1, q2, q3, q4, q5, q6, q7, go⟩
    · exact Or.inr (Or.inl ⟨q1, q2, q3, go⟩)
    · exact Or.inr (Or.inr ⟨q1, w', q2, q3, q4, go⟩)
  · have vSK := vX.2.2.2.2.2.2.2.2.2.2.1
    have ent : HL (b.2 3) T (T + m0) i → ∃ l, l < h + 1 ∧ (fun l => if l = h then i else be l) l = i := fun _ => ⟨h, by omega, by show (if h = h then i else be h) = i; rw [if_pos rfl]⟩
    refine fm_tok hG hHL.1 hlt vX hHL.2.2.1 ent (fun q1 q2 u q3 q4 q5 => ⟨rfl, rfl, rfl, i + 1, rfl, Or.inl ⟨rfl, c, c0, c1, c2, c3, h2, vSK, Or.inl ⟨q1, q2, q3, by rw [← v12]; exact q4, by rw [← v13]; exact q5⟩⟩⟩) (fun j U q1 q2 q3 u q4 q5 q6 => ⟨rfl, rfl, rfl, i + 1, rfl, Or.inl ⟨rfl, c, c0, c1, c2, c3, h2, vSK, Or.inr (Or.inl ⟨j, U, q1, q2, q3, q4, fun x hx => by rw [← v12, ← v13]; exact q5 x hx, q6⟩)⟩⟩) (fun q1 u q2 q3 q4 => ⟨rfl, rfl, rfl, i + 1, rfl, Or.inl ⟨rfl, c, c0, c1, c2, c3, h2, vSK, Or.inr (Or.inr ⟨q1, q2, q3, q4⟩)⟩⟩)
theorem gm_dots {pat n T m0 lst m i k ty h : Nat} {rd be ro : Nat → Nat} {D : Nat → Nat → Prop} {b w : mS} (hG : FG b pat n T m0 lst m D) (hTi : T ≤ i) (hlt : i < T + m0) (hX : FIX b w pat T m0 lst i k ty h rd be ro) (c6 : kd (b.2 3 i) = 6) : ∃ g w', h = g + 1 ∧ be g + tl (b.2 3) (be g) = i ∧ be g < i ∧ T < be g ∧ ro g ≤ 310 ∧ rd g < ro g ∧ w'.2 12 = w.2 12 ∧ w'.2 13 = w.2 13 ∧ ((rd g + 1 < ro g ∧ FIX b w' pat T m0 lst (be g) k ty h (fun l => if l = g then rd g + 1 else rd l) be ro ∧ ∀ Q, LF Q pat lst (T + m0) (be g) w' → LF Q pat lst (T + m0) i w) ∨ (ro g ≤ rd g + 1 ∧ FIX b w' pat T m0 lst (i + 1) k ty g (fun l => if l = g then rd g + 1 else rd l) be ro ∧ ∀ Q, LF Q pat lst (T + m0) (i + 1) w' → LF Q pat lst (T + m0) i w)) := by
  have H := fm_dots (K := fun x1 x2 x4 x5 w' => x1 = nI pat ∧ x2 = nI lst ∧ x4 = nI (T + m0) ∧ ∃ i', x5 = nI i' ∧ ∃ g, h = g + 1 ∧ be g + tl (b.2 3) (be g) = i ∧ be g < i ∧ T < be g ∧ ro g ≤ 310 ∧ rd g < ro g ∧ w'.2 12 = w.2 12 ∧ w'.2 13 = w.2 13 ∧ ((i' = be g ∧ rd g + 1 < ro g ∧ FIX b w' pat T m0 lst (be g) k ty h (fun l => if l = g then rd g + 1 else rd l) be ro) ∨ (i' = i + 1 ∧ ro g ≤ rd g + 1 ∧ FIX b w' pat T m0 lst (i + 1) k ty g (fun l => if l = g then rd g + 1 else rd l) be ro))) (post := fun _ => False) hG hTi hlt hX c6 (fun g v q1 q2 q3 q4 q5 q6 q7 q8 q9 => ⟨rfl, rfl, rfl, _, rfl, g, q1, q2, q3, q4, q6, by omega, q7, q8, Or.inl ⟨rfl, q5, q9⟩⟩) (fun g v q1 q2 q3 q4 q5 q6 q6' q7 q8 q9 => ⟨rfl, rfl, rfl, _, rfl, g, q1, q2, q3, q4, q6, q6', q7, q8, Or.inr ⟨rfl, q5, q9⟩⟩)
  obtain ⟨i', w', ⟨g, q1, q2, q3, q4, q5, q6, q7, q8, q9⟩, go⟩ := LF_step H
  refine ⟨g, w', q1, q2, q3, q4, q5, q6, q7, q8, ?_⟩
  rcases q9 with ⟨rfl, y1, y2⟩ | ⟨rfl, y1, y2⟩
  · exact Or.inl ⟨y1, y2, go⟩
  · exact Or.inr ⟨y1, y2, go⟩
/-- the class's way to what a variable matched, told in the reference's places -/
theorem moR {b u : mS} {pat n N t lst m pA lA a1 b1 a2 b2 v stop l : Nat} {rd : Nat → Nat} {D : Nat → Nat → Prop} {post : Int32 → mS → Prop} (hPC : PC (b.2 3) pat n N t) (hPAT : PAT (b.2 3) (b.2 4) pat) (hDT : DTS (b.2 3) pat (pat + n)) (hT : TL (b.2 1) lst m) (hTop : MT (b.2 3) (b.2 1) D 1 pat lst) (hD : ∀ p x, D p x → VP (b.2 3) pat n p ∧ VU (b.2 1) lst m x ∧ (kd (b.2 3 p) = 1 → MT (b.2 3) (b.2 1) D 0 p x)) (hMX : MT (b.2 3) (b.2 1) (MXX (b.2 3) (b.2 1)) 1 pat lst) (hA1 : AR u a1 b1) (hA2 : AR u a2 b2) (hap : a1 ≤ pA) (hpb : pA + n < b1) (hnext : ¬ kd (ra u (pA + n)) = 6) (hal : a2 ≤ lA) (hlb : lA + m ≤ b2) (h1 : ∀ j, j < n → ra u (pA + j) = b.2 3 (pat + j) ∧ u.2 2 (pA + j) = b.2 4 (pat + j)) (h2 : ∀ j, j < m → ra u (lA + j) = b.2 1 (lst + j)) (hb : pat + n < 2 ^ 31) (hv : VP (b.2 3) pat n v) (h12 : u.1 12 = nI pA) (h13 : u.1 13 = nI lA) (h15 : u.1 15 = nI l) (hl : l ≤ 2) (hrd : ∀ i, i < l → u.2 11 i = nI (rd i) ∧ rd i < 2 ^ 20) (hst : stop ≤ 2) (hlv : ∀ i, i < stop → i < lvF (b.2 3) v (v - pat + 1) pat → i < l) (hS : wkS (b.2 3) (b.2 1) rd v stop (v - pat + 1) pat lst 0) (hp : post (nI (mtV (b.2 3) (b.2 1) rd v stop (v - pat + 1) pat lst 0 + lA - lst)) u) : wp_X1_matchOf (nI (pA + (v - pat))) (nI stop) u post := by
  have hb1 := AR_b hA1
  have hb2 := AR_b hA2
  have hTP := hPC.1.1.2.1
  have hkP := hPC.1.1.1
  have en := tl_eq hTP
  have n2 := (TL_open hkP hTP).1
  have m0 := hT.1
  have g1 : ∀ j, j < n → ra u (pA + j) = b.2 3 (pat + j) := fun j hj => (h1 j hj).1
  have vb := hv.1
  have ve := hv.2.1
  have ev : pat + (v - pat) = v := by omega
  -- the pattern over the class's row
  have hPAT' : PAT (ra u) (u.2 2) pA := sh_PAT (a := pat) (c := pA) (L := n) (p := 0) h1 hPAT hTP (by omega) (by omega) (by omega)
  have hTP' : TL (ra u) pA n := TL_copy (r := b.2 3) (i := pat) (fun k hk => by rw [g1 k hk]) hTP
  have hDT' : DTS (ra u) pA (pA + n) := by
    intro k k1 k2 k6
    have e1 := g1 (k - pA) (by omega)
    rw [show pA + (k - pA) = k from by omega] at e1
    have e2 := g1 (k - 1 - pA) (by omega)
    rw [show pA + (k - 1 - pA) = k - 1 from by omega] at e2
    rw [e1] at k6
    have := hDT (pat + (k - pA)) (by omega) (by omega) k6
    rw [show pat + (k - pA) - 1 = pat + (k - 1 - pA) from by omega] at this
    rw [e2]; exact this
  obtain ⟨N', t', hPC'⟩ := PC_of hPAT' hTP' hDT'
  have hT' : TL (ra u) lA m := TL_copy (r := b.2 1) (i := lst) (fun k hk => by rw [h2 k hk]) hT
  have hMX' : MT (ra u) (ra u) (MXX (ra u) (ra u)) 1 pA lA := MT_mv (kp := b.2 3) (rw := b.2 1) (a1 := pat) (c1 := pA) (a2 := lst) (c2 := lA) (p := 0) (u := 0) (n := n) (m := m) g1 h2 hTP (by omega) hT (by omega) (fun x y z w q1 q2 q3 q4 q5 q6 q7 d => MXX_mv g1 h2 z x y w q1 (by omega) q5 (by omega) d) hMX
  obtain ⟨hTop', hD'⟩ := DX_of hPC' hT' hMX'
  have tl1 : tl (ra u) (pA + 1) = tl (b.2 3) (pat + 1) := by
    have c1 : TL (b.2 3) (pat + 1) (tl (b.2 3) (pat + 1)) := (hPC.1.1.2.2.1 0 (by have := PL_t hPC.1; have := hPC.2.1; omega)).2
    refine tl_eq (TL_copy (r := b.2 3) (i := pat + 1) (fun k hk => ?_) c1)
    have := g1 (1 + k) (by omega)
    rw [show pA + 1 + k = pA + (1 + k) from by omega, show pat + 1 + k = pat + (1 + k) from by omega, this]
  have hv' : VP (ra u) pA n (pA + (v - pat)) := by
    have e := g1 (v - pat) (by omega)
    rw [ev] at e
    refine ⟨by rw [tl1]; omega, by omega, by rw [e]; exact hv.2.2.1, by rw [e]; exact hv.2.2.2⟩
  have W := wk_mv (kp := b.2 3) (rw := b.2 1) (kp' := ra u) (rw' := ra u) (a1 := pat) (c1 := pA) (L1 := n) (a2 := lst) (c2 := lA) (L2 := m) (rd := rd) (D := D) (p0 := 0) (n := n) (u0 := 0) (m := m) (v := v - pat) (stop := stop) g1 h2 hTP hkP (by omega) hT (by omega) hTop hD (by rw [ev]; exact hv) (v - pat + 1) 0 0 0 (Or.inl ⟨rfl, rfl⟩) (by omega) (fun _ => ⟨by show v - pat < 0 + tl (b.2 3) pat - 1; rw [en]; omega, hkP⟩) (by omega) (by rw [ev]; exact hS)
  have LV := lvF_mv (kp := b.2 3) (kp' := ra u) (a1 := pat) (c1 := pA) (L1 := n) (p0 := 0) (v := v - pat) g1 hPC (by omega) (by rw [ev]; exact hv) (v - pat + 1) 0 (Or.inl rfl) (by omega) (fun _ => ⟨by show v - pat < 0 + tl (b.2 3) pat - 1; rw [en]; omega, hkP⟩)
  rw [ev] at W LV
  obtain ⟨w1, w2⟩ := W
  have w1 : wkS (ra u) (ra u) rd (pA + (v - pat)) stop (v - pat + 1) pA lA 0 := w1
  have w2 : mtV (ra u) (ra u) rd (pA + (v - pat)) stop (v - pat + 1) pA lA 0 + lst = mtV (b.2 3) (b.2 1) rd v stop (v - pat + 1) pat lst 0 + lA := w2
  have LV : lvF (ra u) (pA + (v - pat)) (v - pat + 1) pA = lvF (b.2 3) v (v - pat + 1) pat := LV
  refine matchOf_ok hA1 hA2 hPC' hap hpb hnext hT' hal hlb hTop' hD' hv' h12 h13 h15 hl hrd hst ?_ ?_ ?_
  · rw [show pA + (v - pat) - pA + 1 = v - pat + 1 from by omega, LV]; exact hlv
  · rw [show pA + (v - pat) - pA + 1 = v - pat + 1 from by omega]; exact w1
  · rw [show pA + (v - pat) - pA + 1 = v - pat + 1 from by omega, show mtV (ra u) (ra u) rd (pA + (v - pat)) stop (v - pat + 1) pA lA 0 = mtV (b.2 3) (b.2 1) rd v stop (v - pat + 1) pat lst 0 + lA - lst from by omega]
    exact hp
