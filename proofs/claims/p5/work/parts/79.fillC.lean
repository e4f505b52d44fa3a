-- 79: the class's fill: the rounds of a held tree
section
variable {P : Int32 → Prop} {b a u w : mS} {pat n T m0 lst m pA lA a1 b1 a2 b2 st i k ty h : Nat} {rd be ro : Nat → Nat} {D : Nat → Nat → Prop}
def RIV (b : mS) (pat lst i h q : Nat) (rd : Nat → Nat) (x : Int32) : Prop := (x = -1 ∧ ∀ j v, i ≤ j → j < i + q → ¬ USE (b.2 3) (b.2 4) pat j v) ∨ ∃ c, x = nI c ∧ c ≤ 310 ∧ (∀ j v, i ≤ j → j < i + q → USE (b.2 3) (b.2 4) pat j v → CNT (b.2 3) (b.2 1) rd pat lst v h = c) ∧ ∃ j v, i ≤ j ∧ j < i + q ∧ USE (b.2 3) (b.2 4) pat j v
/-- the places of the template -/
theorem FAG_tl (hGX : FGX P b pat n T m0 lst m D) (h : FAG b u pat n T m0 lst m pA lA a1 b1 a2 b2) (hTi : T ≤ i) (hlt : i < T + m0) : tl (ra u) (pA + n + (i - T)) = tl (b.2 3) i ∧ i + tl (b.2 3) i ≤ T + m0 ∧ TL (b.2 3) i (tl (b.2 3) i) := by
  obtain ⟨-, -, -, hTT, -⟩ := hGX.1.1
  obtain ⟨c1, c2, c3, c4, c5, c6, c7, c8, c9, c10, c11⟩ := h
  have key : TL (b.2 3) i (tl (b.2 3) i) ∧ i + tl (b.2 3) i ≤ T + m0 := by
    by_cases k2 : kd (b.2 3 i) = 2
    · have : TL (b.2 3) i 1 := TL_atom (by rw [k2]; decide)
      rw [tl_eq this]; exact ⟨this, by omega⟩
    · exact inTree0 hTT hTi hlt k2
  refine ⟨tl_eq (TL_copy (r := b.2 3) (i := i) (fun x hx => ?_) key.1), key.2, key.1⟩
  have := (c9 (i - T + x) (by omega)).1
  rw [show pA + n + (i - T + x) = pA + n + (i - T) + x from by omega, show T + (i - T + x) = i + x from by omega] at this
  rw [this]
/-- how many rounds a variable has at the next level -/
theorem cntA {v : Nat} {post : Int32 → mS → Prop} (hGX : FGX P b pat n T m0 lst m D) (hTi : T ≤ i) (hlt : i < T + m0) (hX : FAX P b a u w pat n T m0 lst m pA lA a1 b1 a2 b2 st k ty h rd be ro) (hh2 : h ≤ 2) (hrb : ∀ l, l < h → rd l < 2 ^ 20) (hu : USE (b.2 3) (b.2 4) pat i v) (hc : h < HB (b.2 3) T (T + m0) i ∧ ∀ l, l < h → rd l < CNT (b.2 3) (b.2 1) rd pat lst v l) (hp : CNT (b.2 3) (b.2 1) rd pat lst v h ≤ 310 → post (nI (CNT (b.2 3) (b.2 1) rd pat lst v h)) u) : wp_X1_matchOf (nI (pA + (v - pat))) (nI h) u (fun r9 u10 => wp_X5_itemsFrom r9 u10 post) := by
  obtain ⟨x1, x2, x3, x4, x5, x6, x7, x8, x9, x10, x11, x12, x13, x14⟩ := hX
  obtain ⟨c1, c2, c3, c4, c5, c6, c7, c8, c9, c10, c11⟩ := x3
  have hG := hGX.1
  obtain ⟨hFC, hDT, hT2, hT6, htok, hrtok, hrdt⟩ := hG
  have hFC' := hFC
  obtain ⟨⟨N, t, hPC⟩, hPAT, hpT, hTT, hTl, hTEM, hLl, hl2, hm, hTop, hD⟩ := hFC
  have etp := tl_eq hPC.1.1.2.1
  obtain ⟨f1, f2, f3⟩ := FC_use hFC' hTi hlt hu
  have hws : wkS (b.2 3) (b.2 1) rd v h (v - pat + 1) pat lst 0 := wkS_of _ _ _ 0 (by omega) (by omega) (fun l _ hl _ => hc.2 l hl)
  have hle := CNT_le hFC' hTi hlt hu hc.1 hc.2
  have hnx : ¬ kd (ra u (pA + n)) = 6 := by
    have := (c9 0 (by omega)).1
    rw [Nat.add_zero, Nat.add_zero] at this
    rw [this]; exact hT6
  obtain ⟨x, m', M, kk, q1, q2, q3, q4, q5, q6⟩ := mtV_cnt (stop := h) (rd := rd) hLl hTop hD f1 (v - pat + 1) pat lst 0 (Or.inl ⟨rfl, rfl⟩) (by have := f1.1; omega) (fun _ => ⟨by rw [etp]; exact f1.2.1, hPC.1.1.1⟩) (Nat.le_refl _) (by omega) (by omega) hws
  have q6 : CNT (b.2 3) (b.2 1) rd pat lst v h = M - kk := q6
  refine moR (stop := h) (l := h) (rd := rd) hPC hPAT hGX.2.1 hLl hTop hD hGX.2.2.1 c1 c2 c3 (by omega) hnx c6 c7 c8 (fun j hj => (c10 j hj).1) (by omega) f1 x9 x10 x7 hh2 (fun l hl => ⟨(x8 l hl).2.1, hrb l hl⟩) hh2 (fun l hl _ => hl) hws ?_
  rw [q5]
  obtain ⟨y, ey⟩ : ∃ y, x = lst + y := ⟨x - lst, by omega⟩
  subst ey
  have hq : LI (ra u) (lA + y) m' M := sh_LI (r := b.2 1) (s := b.2 2) (q := ra u) (t := u.2 2) (a := lst) (c := lA) (L := m) c10 q1 (by omega)
  obtain ⟨X, e1, e2, e3, e4⟩ := it_mv (r := b.2 1) (q := ra u) (a := lst) (c := lA) (L := m) (fun j hj => (c10 j hj).1) q1 (by omega) q4
  rw [e1, show lst + X + lA - lst = lA + X from by omega, ← e2]
  refine itemsFrom_ok c2 hq (by omega) (by omega) q4 ?_
  rw [← q6]
  exact hp hle
theorem roundsA {post : Int32 → mS → Prop} (hGX : FGX P b pat n T m0 lst m D) (hlt : i < T + m0) (hX : FAX P b a u w pat n T m0 lst m pA lA a1 b1 a2 b2 st k ty h rd be ro) (hh2 : h ≤ 2) (hrb : ∀ l, l < h → rd l < 2 ^ 20) (hTi : T ≤ i) (hcond : ∀ j v, i ≤ j → j < i + tl (b.2 3) i → USE (b.2 3) (b.2 4) pat j v → h < HB (b.2 3) T (T + m0) j ∧ ∀ l, l < h → rd l < CNT (b.2 3) (b.2 1) rd pat lst v l) (hE : ∃ j v, i ≤ j ∧ j < i + tl (b.2 3) i ∧ USE (b.2 3) (b.2 4) pat j v) (h1 : ∀ c, c ≤ 310 → (∀ j v, i ≤ j → j < i + tl (b.2 3) i → USE (b.2 3) (b.2 4) pat j v → CNT (b.2 3) (b.2 1) rd pat lst v h = c) → post (nI c) u) (h0 : ∀ j v j2 v2, i ≤ j → j < i + tl (b.2 3) i → i ≤ j2 → j2 < i + tl (b.2 3) i → USE (b.2 3) (b.2 4) pat j v → USE (b.2 3) (b.2 4) pat j2 v2 → CNT (b.2 3) (b.2 1) rd pat lst v h ≠ CNT (b.2 3) (b.2 1) rd pat lst v2 h → post 0 (mSet u 7 4)) : wp_X1_roundsFor (nI (pA + n + (i - T))) u post := by
  have hX' := hX
  obtain ⟨x1, x2, x3, x4, x5, x6, x7, x8, x9, x10, x11, x12, x13, x14⟩ := hX
  have hFAG := x3
  obtain ⟨t1, t2, t3⟩ := FAG_tl hGX x3 hTi hlt
  obtain ⟨c1, c2, c3, c4, c5, c6, c7, c8, c9, c10, c11⟩ := x3
  have hb1 := AR_b c1
  obtain ⟨-, -, hpT, -, hTl, -⟩ := hGX.1.1
  obtain ⟨P, eP⟩ : ∃ P, P = pA + n + (i - T) := ⟨_, rfl⟩
  obtain ⟨Z, eZ⟩ : ∃ Z, Z = tl (b.2 3) i := ⟨_, rfl⟩
  rw [← eZ] at t1 t2 hcond hE h1 h0
  rw [← eP] at t1 ⊢
  refine after_ok c1 (by omega) (by omega) ?_
  rw [t1]
  have main : ∀ (d q : Nat) (x : Int32), q + d = Z → RIV b pat lst i h q rd x → mL4 (fun K => wj_X1_roundsFor_14 K post) (d + 1) x (nI (P + Z)) (nI (P + q)) u := by
    intro d
    induction d with
    | zero =>
      intro q x hq hR
      have : q = Z := by omega
      subst this
      refine ⟨fun _ => ?_, fun q => absurd (Int32.le_refl _) q⟩
      rintro _ rfl
      rcases hR with ⟨-, hn⟩ | ⟨c, rfl, c3, call, -⟩
      · obtain ⟨j, v, j1, j2, ju⟩ := hE
        exact absurd ju (hn j v j1 j2)
      · rw [if_neg (nI_pos (by omega))]
        exact h1 c c3 call
    | succ d ih =>
      intro q x hq hR
      refine ⟨fun z => absurd z (by rw [nI_leI (by omega) (by omega)]; omega), fun _ => ?_⟩
      have va := varA (post := fun r5 u6 => ((r5 < 0) → wj_X1_roundsFor_81 (mL4 (fun K => wj_X1_roundsFor_14 K post) (d + 1)) post x (nI (P + Z)) (nI (P + q)) u6) ∧ ((¬ r5 < 0) → ∀ y8 : Int32, y8 = (u6.1 15) → wp_X1_matchOf r5 y8 u6 (fun r9 u10 => wp_X5_itemsFrom r9 u10 (fun r11 u12 => ((x < 0) → wj_X1_roundsFor_78 (mL4 (fun K => wj_X1_roundsFor_14 K post) (d + 1)) post (nI (P + Z)) (nI (P + q)) r11 u12) ∧ ((¬ x < 0) → ((x = r11) → wj_X1_roundsFor_78 (mL4 (fun K => wj_X1_roundsFor_14 K post) (d + 1)) post (nI (P + Z)) (nI (P + q)) r11 u12) ∧ ((¬ x = r11) → wp_X2_fail (4 : Int32) u12 (fun u16 => post (0 : Int32) u16))))))) (i := i + q) hGX.1 hFAG (by omega) (by omega) (fun v hu v1 v2 => ⟨fun z => absurd z (nI_pos (by omega)), fun _ => ?_⟩) (fun hno => ⟨fun _ => ?_, fun z => absurd (by decide : (-1 : Int32) < 0) z⟩)
      · rw [show pA + n + (i + q - T) = P + q from by omega] at va
        exact va
      · intro y8 e8
        rw [x7] at e8; subst e8
        refine cntA hGX (by omega) (by omega) hX' hh2 hrb hu (hcond (i + q) v (by omega) (by omega) hu) (fun hle => ?_)
        have uq : ∀ v', USE (b.2 3) (b.2 4) pat (i + q) v' → CNT (b.2 3) (b.2 1) rd pat lst v' h = CNT (b.2 3) (b.2 1) rd pat lst v h := fun v' h' => by rw [USE_uq h' hu]
        rcases hR with ⟨rfl, hn⟩ | ⟨c, rfl, c3, call, cex⟩
        · refine ⟨fun _ => ?_, fun z => absurd (by decide : (-1 : Int32) < 0) z⟩
          rintro _ rfl
          rw [nI_1]
          refine ih (q + 1) _ (by omega) (Or.inr ⟨_, rfl, hle, fun j v' j1 j2 ju => ?_, i + q, v, by omega, by omega, hu⟩)
          rcases Nat.lt_or_ge j (i + q) with z | z
          · exact absurd ju (hn j v' j1 z)
          · have : j = i + q := by omega
            subst this
            exact uq v' ju
        · refine ⟨fun z => absurd z (nI_pos (by omega)), fun _ => ⟨fun z => ?_, fun z => ?_⟩⟩
          · rw [nI_eq (by omega) (by omega)] at z
            rintro _ rfl
            rw [nI_1]
            refine ih (q + 1) _ (by omega) (Or.inr ⟨_, rfl, hle, fun j v' j1 j2 ju => ?_, i + q, v, by omega, by omega, hu⟩)
            rcases Nat.lt_or_ge j (i + q) with y | y
            · exact (call j v' j1 y ju).trans z
            · have : j = i + q := by omega
              subst this
              exact uq v' ju
          · rw [nI_eq (by omega) (by omega)] at z
            intro y1 e1
            rw [x2] at e1
            refine ⟨fun y => absurd e1 y, fun _ => ?_⟩
            rintro _ rfl
            obtain ⟨j, v', j1, j2, ju⟩ := cex
            refine h0 j v' (i + q) v j1 (by omega) (by omega) (by omega) ju hu ?_
            rw [call j v' j1 j2 ju]
            exact z
      · rintro _ rfl
        rw [nI_1]
        refine ih (q + 1) _ (by omega) ?_
        have ex : ∀ j v', i ≤ j → j < i + (q + 1) → USE (b.2 3) (b.2 4) pat j v' → j < i + q := by
          intro j v' j1 j2 ju
          rcases Nat.lt_or_ge j (i + q) with y | y
          · exact y
          · have : j = i + q := by omega
            subst this
            exact absurd ju (hno v')
        rcases hR with ⟨rfl, hn⟩ | ⟨c, rfl, c3, call, j, v', j1, j2, ju⟩
        · exact Or.inl ⟨rfl, fun j v' j1 j2 ju => hn j v' j1 (ex j v' j1 j2 ju) ju⟩
        · exact Or.inr ⟨c, rfl, c3, fun j v' j1 j2 ju => call j v' j1 (ex j v' j1 j2 ju) ju, j, v', j1, by omega, ju⟩
  refine ⟨Z + 1, ?_⟩
  have := main Z 0 (-1) (by omega) (Or.inl ⟨rfl, fun j v j1 j2 => by omega⟩)
  rw [Nat.add_zero] at this
  exact this
end
