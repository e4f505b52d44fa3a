-- 24: counting: the .. that hold a place, and the room of a row that is made
/-- a tree of the template that .. holds -/
def HL (kp : Nat → Int32) (T te c : Nat) : Prop := T ≤ c ∧ ¬ kd (kp c) = 2 ∧ ¬ kd (kp c) = 6 ∧ c + tl kp c < te ∧ kd (kp (c + tl kp c)) = 6
def cl1 (be : Nat → Nat) (x : Nat) : Nat → Nat
  | 0 => 0
  | h + 1 => cl1 be x h + (if be h < x then 1 else 0)
theorem cl1_all {be : Nat → Nat} {x : Nat} : ∀ h, (∀ l, l < h → be l < x) → cl1 be x h = h := by
  intro h
  induction h with
  | zero => intro _; rfl
  | succ h ih =>
    intro hb
    show cl1 be x h + (if be h < x then 1 else 0) = h + 1
    rw [ih (fun l hl => hb l (by omega)), if_pos (hb h (by omega))]
theorem cl1_none {be : Nat → Nat} {x : Nat} : ∀ h, (∀ l, l < h → ¬ be l < x) → cl1 be x h = 0 := by
  intro h
  induction h with
  | zero => intro _; rfl
  | succ h ih =>
    intro hb
    show cl1 be x h + (if be h < x then 1 else 0) = 0
    rw [ih (fun l hl => hb l (by omega)), if_neg (hb h (by omega))]
theorem cl1_no {be : Nat → Nat} {x : Nat} : ∀ h, (∀ l, l < h → be l ≠ x) → cl1 be (x + 1) h = cl1 be x h := by
  intro h
  induction h with
  | zero => intro _; rfl
  | succ h ih =>
    intro hb
    show cl1 be (x + 1) h + (if be h < x + 1 then 1 else 0) = cl1 be x h + (if be h < x then 1 else 0)
    rw [ih (fun l hl => hb l (by omega))]
    have := hb h (by omega)
    by_cases c : be h < x
    · rw [if_pos c, if_pos (by omega)]
    · rw [if_neg c, if_neg (by omega)]
theorem cl1_yes {be : Nat → Nat} {x : Nat} : ∀ h, (∀ l l', l < h → l' < h → be l = be l' → l = l') → (∃ l, l < h ∧ be l = x) → cl1 be (x + 1) h = cl1 be x h + 1 := by
  intro h
  induction h with
  | zero => rintro _ ⟨l, hl, _⟩; omega
  | succ h ih =>
    rintro hi ⟨l, hl, e⟩
    show cl1 be (x + 1) h + (if be h < x + 1 then 1 else 0) = cl1 be x h + (if be h < x then 1 else 0) + 1
    by_cases c : l = h
    · subst c
      rw [cl1_no l (fun l' hl' q => by
        have := hi l' l (by omega) (by omega) (q.trans e.symm)
        omega), if_pos (by omega), if_neg (by omega)]
    · rw [ih (fun a b ha hb => hi a b (by omega) (by omega)) ⟨l, by omega, e⟩]
      have ne : be h ≠ x := fun q => by
        have := hi l h (by omega) (by omega) (e.trans q.symm)
        exact c this
      by_cases g : be h < x
      · rw [if_pos g, if_pos (by omega)]
      · rw [if_neg g, if_neg (by omega)]
/-- the trees that hold i, one by one: so many .. hold it -/
theorem HB_enum {kp : Nat → Int32} {T te i h : Nat} {be : Nat → Nat} (hTi : T ≤ i) (h1 : ∀ l, l < h → HL kp T te (be l) ∧ be l ≤ i ∧ i < be l + tl kp (be l)) (h2 : ∀ l l', l < h → l' < h → be l = be l' → l = l') (h3 : ∀ c, HL kp T te c → c ≤ i → i < c + tl kp c → ∃ l, l < h ∧ be l = c) : HB kp T te i = h := by
  have key : ∀ k, T + k ≤ i + 1 → hbS kp te i T k = cl1 be (T + k) h := by
    intro k
    induction k with
    | zero =>
      intro _
      show 0 = cl1 be (T + 0) h
      rw [cl1_none h (fun l hl => by have := (h1 l hl).1.1; omega)]
    | succ k ih =>
      intro hk
      show hbS kp te i T k + hb1 kp te i (T + k) = cl1 be (T + k + 1) h
      rw [ih (by omega)]
      by_cases c : ∃ l, l < h ∧ be l = T + k
      · rw [cl1_yes h h2 c]
        obtain ⟨l, hl, e⟩ := c
        obtain ⟨⟨a1, a2, a3, a4, a5⟩, b1, b2⟩ := h1 l hl
        rw [e] at a2 a3 a4 a5 b2
        unfold hb1
        rw [if_pos ⟨a2, a3, a4, b2, a5⟩]
      · rw [cl1_no h (fun l hl q => c ⟨l, hl, q⟩)]
        unfold hb1
        rw [if_neg]
        · rfl
        · rintro ⟨a2, a3, a4, a5, a6⟩
          exact c (h3 (T + k) ⟨by omega, a2, a3, a4, a6⟩ (by omega) a5)
  unfold HB
  rw [key (i + 1 - T) (by omega), show T + (i + 1 - T) = i + 1 from by omega]
  exact cl1_all h (fun l hl => by have := (h1 l hl).2.1; omega)
def opS (q : Nat → Int32) : Nat → Nat
  | 0 => 0
  | k + 1 => opS q k + (if kd (q k) = 1 then 1 else 0)
def clS (q : Nat → Int32) : Nat → Nat
  | 0 => 0
  | k + 1 => clS q k + (if kd (q k) = 2 then 1 else 0)
def dtS (q : Nat → Int32) : Nat → Nat
  | 0 => 0
  | k + 1 => dtS q k + (if kd (q k) = 6 then 1 else 0)
theorem row_counts {q : Nat → Int32} : ∀ k, (∀ j, j < k → kd (q j) = 6 → 0 < j ∧ ¬ kd (q (j - 1)) = 1 ∧ ¬ kd (q (j - 1)) = 6) → k = trS q 0 k + clS q k + dtS q k ∧ dep q 0 k = (opS q k : Int) - clS q k ∧ opS q k ≤ trS q 0 k ∧ dtS q k + opS q k ≤ trS q 0 k + clS q k ∧ (0 < k → ¬ kd (q (k - 1)) = 1 → ¬ kd (q (k - 1)) = 6 → dtS q k + opS q k + 1 ≤ trS q 0 k + clS q k) := by
  intro k
  induction k with
  | zero => intro _; exact ⟨rfl, rfl, Nat.le_refl 0, Nat.le_refl 0, fun h => by omega⟩
  | succ k ih =>
    intro h
    obtain ⟨a1, a2, a3, a4, a5⟩ := ih (fun j hj => h j (by omega))
    have e1 : trS q 0 (k + 1) = trS q 0 k + tr1 (q k) := by show trS q 0 k + tr1 (q (0 + k)) = _; rw [Nat.zero_add]
    have e2 : opS q (k + 1) = opS q k + (if kd (q k) = 1 then 1 else 0) := rfl
    have e3 : clS q (k + 1) = clS q k + (if kd (q k) = 2 then 1 else 0) := rfl
    have e4 : dtS q (k + 1) = dtS q k + (if kd (q k) = 6 then 1 else 0) := rfl
    have e5 : dep q 0 (k + 1) = dep q 0 k + sg (q k) := by rw [dep_s, Nat.zero_add]
    rw [e1, e2, e3, e4, e5, show k + 1 - 1 = k from by omega]
    by_cases c1 : kd (q k) = 1
    · have n2 : ¬ kd (q k) = 2 := by rw [c1]; decide
      have n6 : ¬ kd (q k) = 6 := by rw [c1]; decide
      have t1 : tr1 (q k) = 1 := by unfold tr1; rw [if_neg (fun z => z.elim n2 n6)]
      rw [t1, if_pos c1, if_neg n2, if_neg n6, sg_open c1]
      exact ⟨by omega, by omega, by omega, by omega, fun _ z => absurd c1 z⟩
    · by_cases c2 : kd (q k) = 2
      · have n6 : ¬ kd (q k) = 6 := by rw [c2]; decide
        have t1 : tr1 (q k) = 0 := by unfold tr1; rw [if_pos (Or.inl c2)]
        rw [t1, if_neg c1, if_pos c2, if_neg n6, sg_close c2]
        exact ⟨by omega, by omega, by omega, by omega, fun _ _ _ => by omega⟩
      · by_cases c6 : kd (q k) = 6
        · have t1 : tr1 (q k) = 0 := by unfold tr1; rw [if_pos (Or.inr c6)]
          obtain ⟨b1, b2, b3⟩ := h k (by omega) c6
          have := a5 b1 b2 b3
          rw [t1, if_neg c1, if_neg c2, if_pos c6, sg_else c1 c2]
          exact ⟨by omega, by omega, by omega, by omega, fun _ _ z => absurd c6 z⟩
        · have t1 : tr1 (q k) = 1 := by unfold tr1; rw [if_neg (fun z => z.elim c2 c6)]
          rw [t1, if_neg c1, if_neg c2, if_neg c6, sg_else c1 c2]
          exact ⟨by omega, by omega, by omega, by omega, fun _ _ _ => by omega⟩
/-- a row in which .. is as it must be, and that closes no more than it opens, has at most three tokens a tree -/
theorem row_room {q : Nat → Int32} {k : Nat} (h : ∀ j, j < k → kd (q j) = 6 → 0 < j ∧ ¬ kd (q (j - 1)) = 1 ∧ ¬ kd (q (j - 1)) = 6) (hd : 0 ≤ dep q 0 k) : k ≤ 3 * trS q 0 k := by
  obtain ⟨a1, a2, a3, a4, -⟩ := row_counts k h
  omega
theorem trS_copy {q r : Nat → Int32} {a b : Nat} : ∀ n, (∀ j, j < n → kd (q (a + j)) = kd (r (b + j))) → trS q a n = trS r b n := by
  intro n
  induction n with
  | zero => intro _; rfl
  | succ n ih =>
    intro h
    show trS q a n + tr1 (q (a + n)) = trS r b n + tr1 (r (b + n))
    rw [ih (fun j hj => h j (by omega))]
    unfold tr1
    rw [h n (by omega)]
theorem trS_add (q : Nat → Int32) (a k : Nat) : ∀ n, trS q a (k + n) = trS q a k + trS q (a + k) n := by
  intro n
  induction n with
  | zero => rfl
  | succ n ih =>
    show trS q a (k + n) + tr1 (q (a + (k + n))) = trS q a k + (trS q (a + k) n + tr1 (q (a + k + n)))
    rw [ih, Nat.add_assoc a k n]; omega
