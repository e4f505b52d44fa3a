-- 10: rows of tokens of the reference: depth, the length of a tree, the items of a list
def kd (x : Int32) : Int32 := x / 65536
def sg (x : Int32) : Int := if kd x = 1 then 1 else if kd x = 2 then -1 else 0
def dep (r : Nat → Int32) (i : Nat) : Nat → Int
  | 0 => 0
  | n + 1 => dep r i n + sg (r (i + n))
/-- the tree (or the token) at i has n tokens -/
def TL (r : Nat → Int32) (i n : Nat) : Prop := 0 < n ∧ dep r i n ≤ 0 ∧ ∀ k, 0 < k → k < n → 0 < dep r i k
theorem sg_open {x : Int32} (h : kd x = 1) : sg x = 1 := by unfold sg; rw [if_pos h]
theorem sg_close {x : Int32} (h : kd x = 2) : sg x = -1 := by unfold sg; rw [if_neg (by rw [h]; decide), if_pos h]
theorem sg_else {x : Int32} (h1 : ¬ kd x = 1) (h2 : ¬ kd x = 2) : sg x = 0 := by unfold sg; rw [if_neg h1, if_neg h2]
theorem sg_rng (x : Int32) : -1 ≤ sg x ∧ sg x ≤ 1 := by
  unfold sg
  split
  · omega
  · split <;> omega
theorem sg_nopen {x : Int32} (h1 : ¬ kd x = 1) : sg x ≤ 0 := by
  unfold sg
  rw [if_neg h1]
  split <;> omega
theorem dep_s (r : Nat → Int32) (i n : Nat) : dep r i (n + 1) = dep r i n + sg (r (i + n)) := rfl
theorem dep_add (r : Nat → Int32) (i a : Nat) : ∀ b, dep r i (a + b) = dep r i a + dep r (i + a) b := by
  intro b
  induction b with
  | zero => simp [dep]
  | succ b ih => rw [show a + (b + 1) = (a + b) + 1 from rfl, dep_s, dep_s, ih, Nat.add_assoc]; omega
theorem dep_1 (r : Nat → Int32) (i : Nat) : dep r i 1 = sg (r i) := by
  show (0 : Int) + sg (r (i + 0)) = _
  rw [Nat.add_zero]; omega
theorem dep_copy {r q : Nat → Int32} {i j : Nat} : ∀ n, (∀ k, k < n → kd (q (j + k)) = kd (r (i + k))) → dep q j n = dep r i n := by
  intro n
  induction n with
  | zero => intro _; rfl
  | succ n ih =>
    intro h
    rw [dep_s, dep_s, ih (fun k hk => h k (by omega))]
    have := h n (by omega)
    unfold sg
    rw [this]
theorem TL_copy {r q : Nat → Int32} {i j n : Nat} (h : ∀ k, k < n → kd (q (j + k)) = kd (r (i + k))) (ht : TL r i n) : TL q j n := by
  obtain ⟨h0, h1, h2⟩ := ht
  refine ⟨h0, ?_, fun k hk hkn => ?_⟩
  · rw [dep_copy n h]; exact h1
  · rw [dep_copy k (fun m hm => h m (by omega))]; exact h2 k hk hkn
theorem TL_uniq {r : Nat → Int32} {i n m : Nat} (h : TL r i n) (g : TL r i m) : n = m := by
  obtain ⟨h0, h1, h2⟩ := h
  obtain ⟨g0, g1, g2⟩ := g
  rcases Nat.lt_trichotomy n m with c | c | c
  · have := g2 n h0 c; omega
  · exact c
  · have := h2 m g0 c; omega
theorem TL_atom {r : Nat → Int32} {i : Nat} (h : ¬ kd (r i) = 1) : TL r i 1 := by
  refine ⟨by omega, ?_, fun k h1 h2 => by omega⟩
  rw [dep_1]; exact sg_nopen h
theorem TL_open {r : Nat → Int32} {i n : Nat} (h : kd (r i) = 1) (ht : TL r i n) : 2 ≤ n ∧ dep r i n = 0 ∧ kd (r (i + (n - 1))) = 2 := by
  obtain ⟨h0, h1, h2⟩ := ht
  have h3 : dep r i 1 = 1 := by rw [dep_1]; exact sg_open h
  have hn : 2 ≤ n := by
    rcases Nat.lt_or_ge n 2 with c | c
    · have : n = 1 := by omega
      subst this; omega
    · exact c
  have h4 := h2 (n - 1) (by omega) (by omega)
  have h5 : dep r i n = dep r i (n - 1) + sg (r (i + (n - 1))) := by
    have : n = (n - 1) + 1 := by omega
    rw [this, dep_s]; rfl
  have h6 := sg_rng (r (i + (n - 1)))
  refine ⟨hn, by omega, ?_⟩
  have h7 : sg (r (i + (n - 1))) = -1 := by omega
  by_cases a : kd (r (i + (n - 1))) = 1
  · rw [sg_open a] at h7; omega
  · by_cases b : kd (r (i + (n - 1))) = 2
    · exact b
    · rw [sg_else a b] at h7; omega
theorem TL_least {r : Nat → Int32} {i n : Nat} (h0 : 0 < n) (h : dep r i n ≤ 0) : ∃ m, m ≤ n ∧ TL r i m := by
  obtain ⟨m, ⟨hm0, hm⟩, hmin⟩ := pk_least (fun m => 0 < m ∧ dep r i m ≤ 0) ⟨n, h0, h⟩
  refine ⟨m, ?_, hm0, hm, fun k hk hkm => ?_⟩
  · rcases Nat.lt_or_ge n m with c | c
    · exact absurd ⟨h0, h⟩ (hmin n c)
    · exact c
  · rcases Int.lt_or_le 0 (dep r i k) with c | c
    · exact c
    · exact absurd ⟨hk, c⟩ (hmin k hkm)
/-- what begins inside a list ends inside it -/
theorem TL_in {r : Nat → Int32} {i n k : Nat} (h : kd (r i) = 1) (ht : TL r i n) (h0 : 0 < k) (hk : k < n) (hc : ¬ kd (r (i + k)) = 2) : ∃ m, TL r (i + k) m ∧ k + m < n ∧ dep r i (k + m) = dep r i k := by
  obtain ⟨hn2, hz, -⟩ := TL_open h ht
  have hD := ht.2.2 k h0 hk
  by_cases ho : kd (r (i + k)) = 1
  · have e : dep r i n = dep r i k + dep r (i + k) (n - k) := by
      have := dep_add r i k (n - k)
      rwa [show k + (n - k) = n from by omega] at this
    obtain ⟨m, hm, hT⟩ := TL_least (r := r) (i := i + k) (n := n - k) (by omega) (by omega)
    obtain ⟨hm2, hm0, -⟩ := TL_open ho hT
    have e2 : dep r i (k + m) = dep r i k := by rw [dep_add, hm0]; omega
    refine ⟨m, hT, ?_, e2⟩
    rcases Nat.lt_or_ge (k + m) n with c | c
    · exact c
    · have : k + m = n := by omega
      rw [this] at e2; omega
  · have hs := sg_else ho hc
    have e2 : dep r i (k + 1) = dep r i k := by rw [dep_s, hs]; omega
    refine ⟨1, TL_atom ho, ?_, e2⟩
    rcases Nat.lt_or_ge (k + 1) n with c | c
    · exact c
    · have : k + 1 = n := by omega
      rw [this] at e2; omega
noncomputable def tl (r : Nat → Int32) (i : Nat) : Nat := Classical.epsilon (fun n => TL r i n)
theorem tl_eq {r : Nat → Int32} {i n : Nat} (h : TL r i n) : tl r i = n := TL_uniq (Classical.epsilon_spec (p := fun n => TL r i n) ⟨n, h⟩) h
/-- the place of item k of the list at i -/
noncomputable def it (r : Nat → Int32) (i : Nat) : Nat → Nat
  | 0 => i + 1
  | k + 1 => it r i k + tl r (it r i k)
/-- the list at i has n tokens and N items -/
def LI (r : Nat → Int32) (i n N : Nat) : Prop := kd (r i) = 1 ∧ TL r i n ∧ (∀ k, k < N → ¬ kd (r (it r i k)) = 2 ∧ TL r (it r i k) (tl r (it r i k))) ∧ it r i N = i + (n - 1)
theorem it_step {r : Nat → Int32} {i n k : Nat} (h : kd (r i) = 1) (ht : TL r i n) (h1 : i + 1 + k ≤ it r i k) (h2 : it r i k < i + n) (h3 : dep r i (it r i k - i) = 1) (hc : ¬ kd (r (it r i k)) = 2) : TL r (it r i k) (tl r (it r i k)) ∧ i + 1 + (k + 1) ≤ it r i (k + 1) ∧ it r i (k + 1) < i + n ∧ dep r i (it r i (k + 1) - i) = 1 := by
  have e : i + (it r i k - i) = it r i k := by omega
  obtain ⟨m, hm, hlt, hd⟩ := TL_in (k := it r i k - i) h ht (by omega) (by omega) (by rw [e]; exact hc)
  rw [e] at hm
  have em := tl_eq hm
  have hs : it r i (k + 1) = it r i k + m := by show it r i k + tl r (it r i k) = _; rw [em]
  have hm0 := hm.1
  refine ⟨by rw [em]; exact hm, by omega, by omega, ?_⟩
  rw [hs, show it r i k + m - i = it r i k - i + m from by omega, hd]; exact h3
theorem it_all {r : Nat → Int32} {i n : Nat} (h : kd (r i) = 1) (ht : TL r i n) : ∀ k, (∀ j, j < k → ¬ kd (r (it r i j)) = 2) → (∀ j, j < k → TL r (it r i j) (tl r (it r i j))) ∧ i + 1 + k ≤ it r i k ∧ it r i k < i + n ∧ dep r i (it r i k - i) = 1 := by
  intro k
  induction k with
  | zero =>
    intro _
    obtain ⟨hn2, -, -⟩ := TL_open h ht
    refine ⟨fun j hj => by omega, by show i + 1 + 0 ≤ i + 1; omega, by show i + 1 < i + n; omega, ?_⟩
    show dep r i (i + 1 - i) = 1
    rw [show i + 1 - i = 1 from by omega, dep_1]; exact sg_open h
  | succ k ih =>
    intro hc
    obtain ⟨a, b, c, d⟩ := ih (fun j hj => hc j (by omega))
    obtain ⟨e, f⟩ := it_step h ht b c d (hc k (by omega))
    refine ⟨fun j hj => ?_, f⟩
    rcases Nat.lt_or_ge j k with g | g
    · exact a j g
    · have : j = k := by omega
      subst this; exact e
theorem LI_ex {r : Nat → Int32} {i n : Nat} (h : kd (r i) = 1) (ht : TL r i n) : ∃ N, LI r i n N := by
  have ex : ∃ k, kd (r (it r i k)) = 2 := by
    apply Classical.byContradiction
    intro hn
    obtain ⟨-, b, c, -⟩ := it_all h ht n (fun j _ hj => hn ⟨j, hj⟩)
    omega
  obtain ⟨N, hN, hmin⟩ := pk_least (fun k => kd (r (it r i k)) = 2) ex
  obtain ⟨a, b, c, d⟩ := it_all h ht N hmin
  refine ⟨N, h, ht, fun k hk => ⟨hmin k hk, a k hk⟩, ?_⟩
  have e : dep r i (it r i N - i + 1) = 0 := by
    rw [dep_s, show i + (it r i N - i) = it r i N from by omega, sg_close hN, d]; rfl
  rcases Nat.lt_or_ge (it r i N - i + 1) n with g | g
  · have := ht.2.2 _ (by omega) g; omega
  · omega
theorem LI_at {r : Nat → Int32} {i n N : Nat} (h : LI r i n N) {k : Nat} (hk : k ≤ N) : i + 1 + k ≤ it r i k ∧ it r i k < i + n ∧ dep r i (it r i k - i) = 1 := by
  obtain ⟨h1, ht, hi, -⟩ := h
  exact (it_all h1 ht k (fun j hj => (hi j (by omega)).1)).2
theorem LI_end {r : Nat → Int32} {i n N : Nat} (h : LI r i n N) : kd (r (it r i N)) = 2 := by
  rw [h.2.2.2]; exact (TL_open h.1 h.2.1).2.2
theorem LI_uniq {r : Nat → Int32} {i n m N M : Nat} (h : LI r i n N) (g : LI r i m M) : n = m ∧ N = M := by
  have e := TL_uniq h.2.1 g.2.1
  subst e
  refine ⟨rfl, ?_⟩
  rcases Nat.lt_trichotomy N M with c | c | c
  · exact absurd (LI_end h) (g.2.2.1 N c).1
  · exact c
  · exact absurd (LI_end g) (h.2.2.1 M c).1
theorem LI_mono {r : Nat → Int32} {i n N : Nat} (h : LI r i n N) {j k : Nat} (hj : j ≤ k) (hk : k ≤ N) : it r i j + (k - j) ≤ it r i k := by
  induction k with
  | zero => have : j = 0 := by omega
            subst this; omega
  | succ k ih =>
    rcases Nat.lt_or_ge k j with c | c
    · have : j = k + 1 := by omega
      subst this; omega
    · have a := ih c (by omega)
      have b := (h.2.2.1 k (by omega)).2.1
      show it r i j + (k + 1 - j) ≤ it r i k + tl r (it r i k)
      omega
