-- 25: the stack of a fill: how it goes from place to place
/-- a closing bracket inside a list closes a tree of that list -/
theorem close_open {r : Nat → Int32} {T m x : Nat} (hk : kd (r T) = 1) (hT : TL r T m) (h1 : T < x) (h2 : x + 1 < T + m) (hc : kd (r x) = 2) : ∃ c, T < c ∧ c < x ∧ kd (r c) = 1 ∧ TL r c (x + 1 - c) := by
  have dx : dep r T (x + 1 - T) = dep r T (x - T) - 1 := by
    rw [show x + 1 - T = (x - T) + 1 from by omega, dep_s, show T + (x - T) = x from by omega, sg_close hc]; omega
  have pos : 0 < dep r T (x + 1 - T) := hT.2.2 (x + 1 - T) (by omega) (by omega)
  -- the last place before x whose depth is that behind x
  have down : ∀ d, d ≤ x - T → (∀ y, x - T - d ≤ y → y ≤ x - T → dep r T (x + 1 - T) < dep r T y) ∨ ∃ c, c ≤ x - T ∧ dep r T c = dep r T (x + 1 - T) ∧ ∀ y, c < y → y ≤ x - T → dep r T (x + 1 - T) < dep r T y := by
    intro d
    induction d with
    | zero =>
      intro _
      refine Or.inl (fun y h3 h4 => ?_)
      have : y = x - T := by omega
      subst this; omega
    | succ d ih =>
      intro hd
      rcases ih (by omega) with g | g
      · have e : dep r T (x - T - d) = dep r T (x - T - (d + 1)) + sg (r (T + (x - T - (d + 1)))) := by
          rw [show x - T - d = (x - T - (d + 1)) + 1 from by omega, dep_s]
        have s := sg_rng (r (T + (x - T - (d + 1))))
        have g0 := g (x - T - d) (Nat.le_refl _) (by omega)
        by_cases c : dep r T (x - T - (d + 1)) = dep r T (x + 1 - T)
        · exact Or.inr ⟨x - T - (d + 1), by omega, c, fun y h3 h4 => g y (by omega) h4⟩
        · refine Or.inl (fun y h3 h4 => ?_)
          rcases Nat.lt_or_ge y (x - T - d) with q | q
          · have : y = x - T - (d + 1) := by omega
            subst this; omega
          · exact g y q h4
      · exact Or.inr g
  rcases down (x - T) (Nat.le_refl _) with g | ⟨c, g1, g2, g3⟩
  · have := g 0 (by omega) (by omega)
    have e0 : dep r T 0 = 0 := rfl
    omega
  · have cT : c ≠ 0 := by
      intro q
      subst q
      have e0 : dep r T 0 = 0 := rfl
      omega
    have cx : c < x - T := by
      rcases Nat.lt_or_ge c (x - T) with q | q
      · exact q
      · have : c = x - T := by omega
        subst this; omega
    have dd : ∀ y, dep r T (c + y) = dep r T c + dep r (T + c) y := dep_add r T c
    have TLc : TL r (T + c) (x + 1 - (T + c)) := by
      refine ⟨by omega, ?_, fun y hy1 hy2 => ?_⟩
      · have := dd (x + 1 - (T + c))
        rw [show c + (x + 1 - (T + c)) = x + 1 - T from by omega] at this
        omega
      · have := dd y
        have g4 := g3 (c + y) (by omega) (by omega)
        omega
    refine ⟨T + c, by omega, by omega, ?_, TLc⟩
    apply Classical.byContradiction
    intro hn
    have := TL_uniq TLc (TL_atom hn)
    omega
/-- ahead of .. stands a tree that it holds -/
theorem dots_tree {r : Nat → Int32} {T m i : Nat} (hT : TL r T m) (h1 : T < i) (h2 : i < T + m) (hD : DTS r T (T + m)) (h6 : kd (r i) = 6) : ∃ c, T < c ∧ c < i ∧ HL r T (T + m) c ∧ c + tl r c = i := by
  have hk : kd (r T) = 1 := by
    apply Classical.byContradiction
    intro hn
    have := TL_uniq hT (TL_atom hn)
    omega
  obtain ⟨d1, d6⟩ := hD i h1 h2 h6
  have iT : i - 1 ≠ T := by
    intro q
    rw [q] at d1
    exact d1 hk
  by_cases c2 : kd (r (i - 1)) = 2
  · obtain ⟨c, a1, a2, a3, a4⟩ := close_open hk hT (x := i - 1) (by omega) (by omega) c2
    have e : tl r c = i - c := by
      rw [tl_eq a4]; omega
    refine ⟨c, a1, by omega, ⟨by omega, by rw [a3]; decide, by rw [a3]; decide, by omega, ?_⟩, by omega⟩
    rw [show c + tl r c = i from by omega]; exact h6
  · have e : tl r (i - 1) = 1 := tl_eq (TL_atom d1)
    refine ⟨i - 1, by omega, by omega, ⟨by omega, c2, d6, by omega, ?_⟩, by omega⟩
    rw [show i - 1 + tl r (i - 1) = i from by omega]; exact h6
/-- what is inside a held tree ends inside it -/
theorem HL_in {r : Nat → Int32} {T m c i : Nat} (hT : TL r T m) (hc : HL r T (T + m) c) (h1 : c < i) (h2 : i < c + tl r c) (h3 : ¬ kd (r i) = 2) : i + tl r i < c + tl r c := by
  obtain ⟨a1, a2, a3, a4, a5⟩ := hc
  obtain ⟨Tc, -⟩ := inTree0 hT a1 (by omega) a2
  have kc : kd (r c) = 1 := by
    apply Classical.byContradiction
    intro hn
    have := tl_eq (TL_atom hn)
    omega
  exact (inTree kc Tc h1 h2 h3).2
def SK (kp ks rw : Nat → Int32) (pat T te lst : Nat) (rd be ro : Nat → Nat) (i h : Nat) : Prop := (∀ l, l < h → HL kp T te (be l) ∧ be l ≤ i ∧ i ≤ be l + tl kp (be l) ∧ rd l < ro l ∧ ro l ≤ 310 ∧ ∀ j v, be l ≤ j → j < be l + tl kp (be l) → USE kp ks pat j v → CNT kp rw rd pat lst v l = ro l) ∧ (∀ l l', l < l' → l' < h → be l < be l') ∧ ∀ c, HL kp T te c → c < i → i ≤ c + tl kp c → ∃ l, l < h ∧ be l = c
section SKS
variable {kp ks rw : Nat → Int32} {pat T m0 lst : Nat} {rd be ro : Nat → Nat} {i h : Nat}
theorem sk_next (hS : SK kp ks rw pat T (T + m0) lst rd be ro i h) (h6 : ¬ kd (kp i) = 6) (hi : HL kp T (T + m0) i → ∃ l, l < h ∧ be l = i) : SK kp ks rw pat T (T + m0) lst rd be ro (i + 1) h := by
  obtain ⟨s1, s2, s3⟩ := hS
  refine ⟨fun l hl => ?_, s2, fun c hc h1 h2 => ?_⟩
  · obtain ⟨a1, a2, a3, a4⟩ := s1 l hl
    refine ⟨a1, by omega, ?_, a4⟩
    have : i ≠ be l + tl kp (be l) := by
      intro q
      rw [q] at h6
      exact h6 a1.2.2.2.2
    omega
  · rcases Nat.lt_or_ge c i with q | q
    · exact s3 c hc q (by omega)
    · have : c = i := by omega
      subst this
      exact hi hc
theorem sk_skip (hT : TL kp T m0) (hS : SK kp ks rw pat T (T + m0) lst rd be ro i h) (hi : HL kp T (T + m0) i) (hn : ∀ l, l < h → be l ≠ i) : SK kp ks rw pat T (T + m0) lst rd be ro (i + tl kp i + 1) h := by
  obtain ⟨s1, s2, s3⟩ := hS
  refine ⟨fun l hl => ?_, s2, fun c hc h1 h2 => ?_⟩
  · obtain ⟨a1, a2, a3, a4⟩ := s1 l hl
    refine ⟨a1, by omega, ?_, a4⟩
    have b1 := hn l hl
    have b2 : i ≠ be l + tl kp (be l) := by
      intro q
      have := a1.2.2.2.2
      rw [← q] at this
      exact hi.2.2.1 this
    have := HL_in hT a1 (i := i) (by omega) (by omega) hi.2.1
    omega
  · have b1 : c ≠ i + tl kp i := by
      intro q
      have := hi.2.2.2.2
      rw [← q] at this
      exact hc.2.2.1 this
    have b2 : c ≠ i := by
      intro q
      subst q; omega
    rcases Nat.lt_or_ge c i with q | q
    · exact s3 c hc q (by omega)
    · have := HL_in hT hi (i := c) (by omega) (by omega) hc.2.1
      omega
theorem CNT_rd {rd' : Nat → Nat} {v l : Nat} (hr : ∀ k, k < l → rd' k = rd k) : CNT kp rw rd' pat lst v l = CNT kp rw rd pat lst v l := wkV_rd _ _ _ 0 (by omega) (fun k _ hk => hr k hk)
theorem sk_enter {c : Nat} (hS : SK kp ks rw pat T (T + m0) lst rd be ro i h) (hi : HL kp T (T + m0) i) (hn : ∀ l, l < h → be l ≠ i) (hc0 : 0 < c) (hc : c ≤ 310) (hcnt : ∀ j v, i ≤ j → j < i + tl kp i → USE kp ks pat j v → CNT kp rw rd pat lst v h = c) : SK kp ks rw pat T (T + m0) lst (fun l => if l = h then 0 else rd l) (fun l => if l = h then i else be l) (fun l => if l = h then c else ro l) i (h + 1) := by
  obtain ⟨s1, s2, s3⟩ := hS
  refine ⟨fun l hl => ?_, fun l l' hl hl' => ?_, fun d hd h1 h2 => ?_⟩
  · by_cases e : l = h
    · subst e
      simp only [if_pos]
      refine ⟨hi, Nat.le_refl _, by omega, hc0, hc, fun j v h1 h2 hu => ?_⟩
      rw [CNT_rd (rd := rd) (fun k hk => by rw [if_neg (by omega)])]
      exact hcnt j v h1 h2 hu
    · simp only [if_neg e]
      obtain ⟨a1, a2, a3, a4, a5, a6⟩ := s1 l (by omega)
      refine ⟨a1, a2, a3, a4, a5, fun j v h1 h2 hu => ?_⟩
      rw [CNT_rd (rd := rd) (fun k hk => by rw [if_neg (by omega)])]
      exact a6 j v h1 h2 hu
  · show (if l = h then i else be l) < (if l' = h then i else be l')
    by_cases e : l' = h
    · subst e
      rw [if_neg (by omega), if_pos rfl]
      have a := (s1 l (by omega)).2.1
      have b := hn l (by omega)
      omega
    · rw [if_neg (by omega), if_neg e]
      exact s2 l l' hl (by omega)
  · obtain ⟨l, hl, e⟩ := s3 d hd h1 h2
    exact ⟨l, by omega, by show (if l = h then i else be l) = d; rw [if_neg (by omega)]; exact e⟩
theorem sk_top (hT : TL kp T m0) (hS : SK kp ks rw pat T (T + m0) lst rd be ro i h) (h1 : T < i) (h2 : i < T + m0) (hD : DTS kp T (T + m0)) (h6 : kd (kp i) = 6) : ∃ g, h = g + 1 ∧ be g + tl kp (be g) = i ∧ be g < i := by
  obtain ⟨s1, s2, s3⟩ := hS
  obtain ⟨c, c1, c2, c3, c4⟩ := dots_tree hT h1 h2 hD h6
  obtain ⟨l, hl, e⟩ := s3 c c3 c2 (by omega)
  obtain ⟨g, rfl⟩ : ∃ g, h = g + 1 := ⟨h - 1, by omega⟩
  refine ⟨g, rfl, ?_⟩
  rcases Nat.lt_or_ge l g with q | q
  · have a := s2 l g q (by omega)
    obtain ⟨b1, b2, b3, -⟩ := s1 g (by omega)
    rw [e] at a
    have b4 : be g ≠ i := by
      intro z
      have := b1.2.2.1
      rw [z] at this
      exact this h6
    have := HL_in hT c3 (i := be g) a (by omega) b1.2.1
    omega
  · have : l = g := by omega
    subst this
    rw [e]; exact ⟨c4, c2⟩
theorem sk_back (hT : TL kp T m0) (hS : SK kp ks rw pat T (T + m0) lst rd be ro i (h + 1)) (he : be h + tl kp (be h) = i) (hb : be h < i) (hr : rd h + 1 < ro h) : SK kp ks rw pat T (T + m0) lst (fun l => if l = h then rd h + 1 else rd l) be ro (be h) (h + 1) := by
  obtain ⟨s1, s2, s3⟩ := hS
  refine ⟨fun l hl => ?_, s2, fun c hc h1 h2 => ?_⟩
  · obtain ⟨a1, a2, a3, a4, a5, a6⟩ := s1 l hl
    by_cases e : l = h
    · subst e
      simp only [if_pos]
      refine ⟨a1, Nat.le_refl _, by omega, hr, a5, fun j v g1 g2 hu => ?_⟩
      rw [CNT_rd (rd := rd) (fun k hk => by rw [if_neg (by omega)])]
      exact a6 j v g1 g2 hu
    · simp only [if_neg e]
      have b := s2 l h (by omega) (by omega)
      refine ⟨a1, by omega, by omega, a4, a5, fun j v g1 g2 hu => ?_⟩
      rw [CNT_rd (rd := rd) (fun k hk => by rw [if_neg (by omega)])]
      exact a6 j v g1 g2 hu
  · have b0 := (s1 h (by omega)).1
    have b1 : be h ≠ c + tl kp c := by
      intro q
      have := hc.2.2.2.2
      rw [← q] at this
      exact b0.2.2.1 this
    have := HL_in hT hc (i := be h) h1 (by omega) b0.2.1
    exact s3 c hc (by omega) (by omega)
theorem sk_leave {rd' : Nat → Nat} (hT : TL kp T m0) (hS : SK kp ks rw pat T (T + m0) lst rd be ro i (h + 1)) (he : be h + tl kp (be h) = i) (hb : be h < i) (h6 : kd (kp i) = 6) (hr : ∀ l, l < h → rd' l = rd l) : SK kp ks rw pat T (T + m0) lst rd' be ro (i + 1) h := by
  obtain ⟨s1, s2, s3⟩ := hS
  have b0 := (s1 h (by omega)).1
  refine ⟨fun l hl => ?_, fun l l' hl hl' => s2 l l' hl (by omega), fun c hc h1 h2 => ?_⟩
  · obtain ⟨a1, a2, a3, a4, a5, a6⟩ := s1 l (by omega)
    have b := s2 l h hl (by omega)
    have := HL_in hT a1 (i := be h) b (by omega) b0.2.1
    refine ⟨a1, by omega, by omega, by rw [hr l hl]; exact a4, a5, fun j v g1 g2 hu => ?_⟩
    rw [CNT_rd (rd := rd) (fun k hk => hr k (by omega))]
    exact a6 j v g1 g2 hu
  · have b1 : c ≠ i := by
      intro q
      have := hc.2.2.1
      rw [q] at this
      exact this h6
    obtain ⟨l, hl, e⟩ := s3 c hc (by omega) (by omega)
    refine ⟨l, ?_, e⟩
    rcases Nat.lt_or_ge l h with q | q
    · exact q
    · have : l = h := by omega
      subst this
      rw [e] at he
      omega
/-- at a place that is no .., the stack is all that holds it -/
theorem sk_HB (hS : SK kp ks rw pat T (T + m0) lst rd be ro i h) (hTi : T ≤ i) (h6 : ¬ kd (kp i) = 6) (hi : HL kp T (T + m0) i → ∃ l, l < h ∧ be l = i) : HB kp T (T + m0) i = h := by
  obtain ⟨s1, s2, s3⟩ := hS
  refine HB_enum (be := be) hTi (fun l hl => ?_) (fun l l' hl hl' e => ?_) (fun c hc h1 h2 => ?_)
  · obtain ⟨a1, a2, a3, -⟩ := s1 l hl
    refine ⟨a1, a2, ?_⟩
    have : i ≠ be l + tl kp (be l) := by
      intro q
      rw [q] at h6
      exact h6 a1.2.2.2.2
    omega
  · rcases Nat.lt_trichotomy l l' with q | q | q
    · have := s2 l l' q hl'; omega
    · exact q
    · have := s2 l' l q hl; omega
  · rcases Nat.lt_or_ge c i with q | q
    · exact s3 c hc q (by omega)
    · have : c = i := by omega
      subst this
      exact hi hc
end SKS
