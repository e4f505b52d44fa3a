-- 11: kind, end, count, dots, isPlain of the reference, over row (array 1) and kept (array 3)
theorem dep_bd (r : Nat → Int32) (i : Nat) : ∀ n : Nat, -(n : Int) ≤ dep r i n ∧ dep r i n ≤ n := by
  intro n
  induction n with
  | zero => exact ⟨by show -((0 : Nat) : Int) ≤ 0; omega, by show (0 : Int) ≤ _; omega⟩
  | succ n ih =>
    rw [dep_s]
    have := sg_rng (r (i + n))
    omega
theorem toInt_p1 {x : Int32} (h0 : -(2 ^ 30) < x.toInt) (h1 : x.toInt < 2 ^ 30) : (x + 1).toInt = x.toInt + 1 := by
  rw [Int32.toInt_add, show (1 : Int32).toInt = 1 from by decide]
  exact Int.bmod_eq_of_le (by omega) (by omega)
theorem toInt_m1 {x : Int32} (h0 : -(2 ^ 30) < x.toInt) (h1 : x.toInt < 2 ^ 30) : (x - 1).toInt = x.toInt - 1 := by
  rw [Int32.toInt_sub, show (1 : Int32).toInt = 1 from by decide]
  exact Int.bmod_eq_of_le (by omega) (by omega)
/-- how many of the first k items are trees, and how many are .. -/
noncomputable def cn (r : Nat → Int32) (i : Nat) : Nat → Nat
  | 0 => 0
  | k + 1 => cn r i k + (if kd (r (it r i k)) = 6 then 0 else 1)
noncomputable def dn (r : Nat → Int32) (i : Nat) : Nat → Nat
  | 0 => 0
  | k + 1 => dn r i k + (if kd (r (it r i k)) = 6 then 1 else 0)
theorem cn_dn (r : Nat → Int32) (i : Nat) : ∀ k, cn r i k + dn r i k = k := by
  intro k
  induction k with
  | zero => rfl
  | succ k ih =>
    show cn r i k + (if kd (r (it r i k)) = 6 then 0 else 1) + (dn r i k + (if kd (r (it r i k)) = 6 then 1 else 0)) = k + 1
    split <;> omega
theorem cn_le (r : Nat → Int32) (i k : Nat) : cn r i k ≤ k := by have := cn_dn r i k; omega
theorem dn_le (r : Nat → Int32) (i k : Nat) : dn r i k ≤ k := by have := cn_dn r i k; omega
theorem dn_0 {r : Nat → Int32} {i : Nat} : ∀ {k : Nat}, dn r i k = 0 → ∀ j, j < k → ¬ kd (r (it r i j)) = 6 := by
  intro k
  induction k with
  | zero => intro _ j hj; omega
  | succ k ih =>
    intro h j hj hc
    have h' : dn r i k + (if kd (r (it r i k)) = 6 then 1 else 0) = 0 := h
    rcases Nat.lt_or_ge j k with g | g
    · exact ih (by omega) j g hc
    · have : j = k := by omega
      subst this
      rw [if_pos hc] at h'; omega
theorem kind_2 {i : Nat} {u : mS} {post : Int32 → mS → Prop} (hi : i < 2600) (hp : post (kd (u.2 1 i)) u) : wp_X9_kind_2 (nI i) u post := by
  refine ⟨vp_in_nI hi (by omega), ?_⟩
  rintro _ rfl _ rfl
  rw [nI_clamp (by omega)]
  exact hp
theorem end_2 {i n : Nat} {u : mS} {post : Int32 → mS → Prop} (ht : TL (u.2 1) i n) (hl : i + n ≤ 2600) (hp : post (nI (i + n)) u) : wp_X9_end_2 (nI i) u post := by
  have key : ∀ (d j : Nat) (x2 x4 : Int32), j + d = n → x2.toInt = dep (u.2 1) i j → (d = 0 → x4 = 0) → (d ≠ 0 → ¬ x4 = 0) → mL4 (fun K => wj_X9_end_2_7 K post) (d + 1) x2 (nI (i + j)) x4 u := by
    intro d
    induction d with
    | zero =>
      intro j x2 x4 hj hx h0 h1
      show wj_X9_end_2_7 _ post x2 (nI (i + j)) x4 u
      refine ⟨fun _ => ?_, fun h => absurd (h0 rfl) h⟩
      have : j = n := by omega
      subst this; exact hp
    | succ d ih =>
      intro j x2 x4 hj hx h0 h1
      have hb := dep_bd (u.2 1) i j
      have fin : ∀ z0 : Int32, z0.toInt = dep (u.2 1) i (j + 1) → wj_X9_end_2_43 (mL4 (fun K => wj_X9_end_2_7 K post) (d + 1)) post (nI (i + j)) z0 u := by
        intro z0 hz
        rintro _ rfl
        rw [nI_1]
        have e : (z0 ≤ 0) ↔ dep (u.2 1) i (j + 1) ≤ 0 := by
          rw [Int32.le_iff_toInt_le, hz, show (0 : Int32).toInt = 0 from by decide]
        refine ⟨fun h => ih (j + 1) z0 0 (by omega) hz (fun _ => rfl) (fun hd => ?_), fun h => ih (j + 1) z0 1 (by omega) hz (fun hd => ?_) (fun _ => by decide)⟩
        · have a := e.mp h
          have b := ht.2.2 (j + 1) (by omega) (by omega)
          omega
        · have a := ht.2.1
          have : j + 1 = n := by omega
          rw [this] at e
          exact absurd (e.mpr a) h
      show wj_X9_end_2_7 _ post x2 (nI (i + j)) x4 u
      refine ⟨fun h => absurd h (h1 (by omega)), fun _ => kind_2 (by omega) ⟨fun hk1 => kind_2 (by omega) ⟨fun hk2 => fin x2 ?_, fun hk2 => ?_⟩, fun hk1 => ?_⟩⟩
      · rw [dep_s, sg_else hk1 hk2, hx]; omega
      · rintro _ rfl
        refine fin _ ?_
        rw [dep_s, sg_close hk2, toInt_m1 (by omega) (by omega), hx]; rfl
      · rintro _ rfl
        refine fin _ ?_
        rw [dep_s, sg_open hk1, toInt_p1 (by omega) (by omega), hx]
  refine ⟨n + 1, ?_⟩
  have h0 := ht.1
  exact key n 0 0 1 (by omega) rfl (fun h => by omega) (fun _ => by decide)
theorem count_2 {i n N : Nat} {u : mS} {post : Int32 → mS → Prop} (h : LI (u.2 1) i n N) (hl : i + n ≤ 2600) (hp : post (nI (cn (u.2 1) i N)) u) : wp_X9_count_2 (nI i) u post := by
  have key : ∀ (d k : Nat), k + d = N → mL3 (fun K => wj_X9_count_2_6 K post) (d + 1) (nI (cn (u.2 1) i k)) (nI (it (u.2 1) i k)) u := by
    intro d
    induction d with
    | zero =>
      intro k hk
      have hk : k = N := by omega
      subst hk
      have a := LI_at h (Nat.le_refl k)
      show wj_X9_count_2_6 _ post _ _ u
      exact kind_2 (by omega) ⟨fun _ => hp, fun hn => absurd (LI_end h) hn⟩
    | succ d ih =>
      intro k hk
      have a := LI_at h (k := k) (by omega)
      obtain ⟨b, c⟩ := h.2.2.1 k (by omega)
      have a2 := LI_at h (k := k + 1) (by omega)
      show wj_X9_count_2_6 _ post _ _ u
      refine kind_2 (by omega) ⟨fun h2 => absurd h2 b, fun _ => kind_2 (by omega) ⟨fun h6 => ?_, fun h6 => ?_⟩⟩
      · refine ⟨fun _ => ?_, fun hh => absurd rfl hh⟩
        rintro _ rfl
        refine ⟨fun _ => end_2 c ?_ ?_, fun hh => absurd rfl hh⟩
        · show it (u.2 1) i (k + 1) ≤ _; omega
        · have e := ih (k + 1) (by omega)
          have e2 : nI (cn (u.2 1) i (k + 1)) = nI (cn (u.2 1) i k) + 1 := by
            show nI (cn (u.2 1) i k + (if kd (u.2 1 (it (u.2 1) i k)) = 6 then 0 else 1)) = _
            rw [if_neg h6, nI_1]
          rw [e2] at e
          exact e
      · refine ⟨fun hh => absurd hh (by decide), fun _ => ⟨fun hh => absurd hh (by decide), fun _ => ?_⟩⟩
        rintro _ rfl
        have e := ih (k + 1) (by omega)
        have e2 : nI (cn (u.2 1) i (k + 1)) = nI (cn (u.2 1) i k) := by
          show nI (cn (u.2 1) i k + (if kd (u.2 1 (it (u.2 1) i k)) = 6 then 0 else 1)) = _
          rw [if_pos h6, Nat.add_zero]
        have e3 : it (u.2 1) i (k + 1) = it (u.2 1) i k + 1 := by
          show it (u.2 1) i k + tl (u.2 1) (it (u.2 1) i k) = _
          rw [tl_eq (TL_atom (by rw [h6]; decide))]
        rw [e2, e3, ← nI_1] at e
        exact e
  rintro _ rfl
  rw [nI_1]
  exact ⟨N + 1, key N 0 (by omega)⟩
theorem dots_2 {i n N : Nat} {u : mS} {post : Int32 → mS → Prop} (h : LI (u.2 1) i n N) (hl : i + n ≤ 2600) (hp : post (nI (dn (u.2 1) i N)) u) : wp_X9_dots_2 (nI i) u post := by
  have key : ∀ (d k : Nat), k + d = N → mL3 (fun K => wj_X9_dots_2_6 K post) (d + 1) (nI (dn (u.2 1) i k)) (nI (it (u.2 1) i k)) u := by
    intro d
    induction d with
    | zero =>
      intro k hk
      have hk : k = N := by omega
      subst hk
      have a := LI_at h (Nat.le_refl k)
      show wj_X9_dots_2_6 _ post _ _ u
      exact kind_2 (by omega) ⟨fun _ => hp, fun hn => absurd (LI_end h) hn⟩
    | succ d ih =>
      intro k hk
      have a := LI_at h (k := k) (by omega)
      obtain ⟨b, c⟩ := h.2.2.1 k (by omega)
      have a2 := LI_at h (k := k + 1) (by omega)
      show wj_X9_dots_2_6 _ post _ _ u
      refine kind_2 (by omega) ⟨fun h2 => absurd h2 b, fun _ => kind_2 (by omega) ⟨fun h6 => ?_, fun h6 => ?_⟩⟩
      · refine ⟨fun _ => ⟨fun _ => end_2 c ?_ ?_, fun hh => absurd rfl hh⟩, fun hh => absurd rfl hh⟩
        · show it (u.2 1) i (k + 1) ≤ _; omega
        · have e := ih (k + 1) (by omega)
          have e2 : nI (dn (u.2 1) i (k + 1)) = nI (dn (u.2 1) i k) := by
            show nI (dn (u.2 1) i k + (if kd (u.2 1 (it (u.2 1) i k)) = 6 then 1 else 0)) = _
            rw [if_neg h6, Nat.add_zero]
          rw [e2] at e
          exact e
      · refine ⟨fun hh => absurd hh (by decide), fun _ => ?_⟩
        rintro _ rfl
        refine ⟨fun hh => absurd hh (by decide), fun _ => ?_⟩
        rintro _ rfl
        have e := ih (k + 1) (by omega)
        have e2 : nI (dn (u.2 1) i (k + 1)) = nI (dn (u.2 1) i k) + 1 := by
          show nI (dn (u.2 1) i k + (if kd (u.2 1 (it (u.2 1) i k)) = 6 then 1 else 0)) = _
          rw [if_pos h6, nI_1]
        have e3 : it (u.2 1) i (k + 1) = it (u.2 1) i k + 1 := by
          show it (u.2 1) i k + tl (u.2 1) (it (u.2 1) i k) = _
          rw [tl_eq (TL_atom (by rw [h6]; decide))]
        rw [e2, e3, ← nI_1] at e
        exact e
  rintro _ rfl
  rw [nI_1]
  exact ⟨N + 1, key N 0 (by omega)⟩
/-- isPlain: a list, with so many trees, without .. -/
theorem isPlain_2 {i n t : Nat} {u : mS} {post : Int32 → mS → Prop} (ht : TL (u.2 1) i n) (hl : i + n ≤ 2600) (htb : t < 2 ^ 31) (h1 : ∀ N, LI (u.2 1) i n N → cn (u.2 1) i N = t → dn (u.2 1) i N = 0 → post 1 u) (h0 : (¬ ∃ N, LI (u.2 1) i n N ∧ cn (u.2 1) i N = t ∧ dn (u.2 1) i N = 0) → post 0 u) : wp_X9_isPlain_2 (nI i) (nI t) u post := by
  have hn0 := ht.1
  refine kind_2 (by omega) ⟨fun hk => h0 (fun ⟨N, q, _⟩ => hk q.1), fun hk => ?_⟩
  obtain ⟨N, hN⟩ := LI_ex hk ht
  have hb := LI_at hN (Nat.le_refl N)
  have hc := cn_le (u.2 1) i N
  have hd := dn_le (u.2 1) i N
  refine count_2 hN hl ⟨fun hct => h0 ?_, fun hct => dots_2 hN hl ⟨fun hdt => h0 ?_, fun hdt => ?_⟩⟩
  · rintro ⟨M, q1, q2, -⟩
    have e := (LI_uniq hN q1).2
    subst e
    exact hct (by rw [q2])
  · rintro ⟨M, q1, -, q3⟩
    have e := (LI_uniq hN q1).2
    subst e
    exact hdt (by rw [q3]; rfl)
  · refine h1 N hN ((nI_eq (by omega) (by omega)).mp hct) ?_
    exact (nI_eq (a := dn (u.2 1) i N) (b := 0) (by omega) (by omega)).mp hdt
theorem kind_4 {i : Nat} {u : mS} {post : Int32 → mS → Prop} (hi : i < 3200) (hp : post (kd (u.2 3 i)) u) : wp_X9_kind_4 (nI i) u post := by
  refine ⟨vp_in_nI hi (by omega), ?_⟩
  rintro _ rfl _ rfl
  rw [nI_clamp (by omega)]
  exact hp
theorem end_4 {i n : Nat} {u : mS} {post : Int32 → mS → Prop} (ht : TL (u.2 3) i n) (hl : i + n ≤ 3200) (hp : post (nI (i + n)) u) : wp_X9_end_4 (nI i) u post := by
  have key : ∀ (d j : Nat) (x2 x4 : Int32), j + d = n → x2.toInt = dep (u.2 3) i j → (d = 0 → x4 = 0) → (d ≠ 0 → ¬ x4 = 0) → mL4 (fun K => wj_X9_end_4_7 K post) (d + 1) x2 (nI (i + j)) x4 u := by
    intro d
    induction d with
    | zero =>
      intro j x2 x4 hj hx h0 h1
      show wj_X9_end_4_7 _ post x2 (nI (i + j)) x4 u
      refine ⟨fun _ => ?_, fun h => absurd (h0 rfl) h⟩
      have : j = n := by omega
      subst this; exact hp
    | succ d ih =>
      intro j x2 x4 hj hx h0 h1
      have hb := dep_bd (u.2 3) i j
      have fin : ∀ z0 : Int32, z0.toInt = dep (u.2 3) i (j + 1) → wj_X9_end_4_43 (mL4 (fun K => wj_X9_end_4_7 K post) (d + 1)) post (nI (i + j)) z0 u := by
        intro z0 hz
        rintro _ rfl
        rw [nI_1]
        have e : (z0 ≤ 0) ↔ dep (u.2 3) i (j + 1) ≤ 0 := by
          rw [Int32.le_iff_toInt_le, hz, show (0 : Int32).toInt = 0 from by decide]
        refine ⟨fun h => ih (j + 1) z0 0 (by omega) hz (fun _ => rfl) (fun hd => ?_), fun h => ih (j + 1) z0 1 (by omega) hz (fun hd => ?_) (fun _ => by decide)⟩
        · have a := e.mp h
          have b := ht.2.2 (j + 1) (by omega) (by omega)
          omega
        · have a := ht.2.1
          have : j + 1 = n := by omega
          rw [this] at e
          exact absurd (e.mpr a) h
      show wj_X9_end_4_7 _ post x2 (nI (i + j)) x4 u
      refine ⟨fun h => absurd h (h1 (by omega)), fun _ => kind_4 (by omega) ⟨fun hk1 => kind_4 (by omega) ⟨fun hk2 => fin x2 ?_, fun hk2 => ?_⟩, fun hk1 => ?_⟩⟩
      · rw [dep_s, sg_else hk1 hk2, hx]; omega
      · rintro _ rfl
        refine fin _ ?_
        rw [dep_s, sg_close hk2, toInt_m1 (by omega) (by omega), hx]; rfl
      · rintro _ rfl
        refine fin _ ?_
        rw [dep_s, sg_open hk1, toInt_p1 (by omega) (by omega), hx]
  refine ⟨n + 1, ?_⟩
  have h0 := ht.1
  exact key n 0 0 1 (by omega) rfl (fun h => by omega) (fun _ => by decide)
theorem count_4 {i n N : Nat} {u : mS} {post : Int32 → mS → Prop} (h : LI (u.2 3) i n N) (hl : i + n ≤ 3200) (hp : post (nI (cn (u.2 3) i N)) u) : wp_X9_count_4 (nI i) u post := by
  have key : ∀ (d k : Nat), k + d = N → mL3 (fun K => wj_X9_count_4_6 K post) (d + 1) (nI (cn (u.2 3) i k)) (nI (it (u.2 3) i k)) u := by
    intro d
    induction d with
    | zero =>
      intro k hk
      have hk : k = N := by omega
      subst hk
      have a := LI_at h (Nat.le_refl k)
      show wj_X9_count_4_6 _ post _ _ u
      exact kind_4 (by omega) ⟨fun _ => hp, fun hn => absurd (LI_end h) hn⟩
    | succ d ih =>
      intro k hk
      have a := LI_at h (k := k) (by omega)
      obtain ⟨b, c⟩ := h.2.2.1 k (by omega)
      have a2 := LI_at h (k := k + 1) (by omega)
      show wj_X9_count_4_6 _ post _ _ u
      refine kind_4 (by omega) ⟨fun h2 => absurd h2 b, fun _ => kind_4 (by omega) ⟨fun h6 => ?_, fun h6 => ?_⟩⟩
      · refine ⟨fun _ => ?_, fun hh => absurd rfl hh⟩
        rintro _ rfl
        refine ⟨fun _ => end_4 c ?_ ?_, fun hh => absurd rfl hh⟩
        · show it (u.2 3) i (k + 1) ≤ _; omega
        · have e := ih (k + 1) (by omega)
          have e2 : nI (cn (u.2 3) i (k + 1)) = nI (cn (u.2 3) i k) + 1 := by
            show nI (cn (u.2 3) i k + (if kd (u.2 3 (it (u.2 3) i k)) = 6 then 0 else 1)) = _
            rw [if_neg h6, nI_1]
          rw [e2] at e
          exact e
      · refine ⟨fun hh => absurd hh (by decide), fun _ => ⟨fun hh => absurd hh (by decide), fun _ => ?_⟩⟩
        rintro _ rfl
        have e := ih (k + 1) (by omega)
        have e2 : nI (cn (u.2 3) i (k + 1)) = nI (cn (u.2 3) i k) := by
          show nI (cn (u.2 3) i k + (if kd (u.2 3 (it (u.2 3) i k)) = 6 then 0 else 1)) = _
          rw [if_pos h6, Nat.add_zero]
        have e3 : it (u.2 3) i (k + 1) = it (u.2 3) i k + 1 := by
          show it (u.2 3) i k + tl (u.2 3) (it (u.2 3) i k) = _
          rw [tl_eq (TL_atom (by rw [h6]; decide))]
        rw [e2, e3, ← nI_1] at e
        exact e
  rintro _ rfl
  rw [nI_1]
  exact ⟨N + 1, key N 0 (by omega)⟩
theorem dots_4 {i n N : Nat} {u : mS} {post : Int32 → mS → Prop} (h : LI (u.2 3) i n N) (hl : i + n ≤ 3200) (hp : post (nI (dn (u.2 3) i N)) u) : wp_X9_dots_4 (nI i) u post := by
  have key : ∀ (d k : Nat), k + d = N → mL3 (fun K => wj_X9_dots_4_6 K post) (d + 1) (nI (dn (u.2 3) i k)) (nI (it (u.2 3) i k)) u := by
    intro d
    induction d with
    | zero =>
      intro k hk
      have hk : k = N := by omega
      subst hk
      have a := LI_at h (Nat.le_refl k)
      show wj_X9_dots_4_6 _ post _ _ u
      exact kind_4 (by omega) ⟨fun _ => hp, fun hn => absurd (LI_end h) hn⟩
    | succ d ih =>
      intro k hk
      have a := LI_at h (k := k) (by omega)
      obtain ⟨b, c⟩ := h.2.2.1 k (by omega)
      have a2 := LI_at h (k := k + 1) (by omega)
      show wj_X9_dots_4_6 _ post _ _ u
      refine kind_4 (by omega) ⟨fun h2 => absurd h2 b, fun _ => kind_4 (by omega) ⟨fun h6 => ?_, fun h6 => ?_⟩⟩
      · refine ⟨fun _ => ⟨fun _ => end_4 c ?_ ?_, fun hh => absurd rfl hh⟩, fun hh => absurd rfl hh⟩
        · show it (u.2 3) i (k + 1) ≤ _; omega
        · have e := ih (k + 1) (by omega)
          have e2 : nI (dn (u.2 3) i (k + 1)) = nI (dn (u.2 3) i k) := by
            show nI (dn (u.2 3) i k + (if kd (u.2 3 (it (u.2 3) i k)) = 6 then 1 else 0)) = _
            rw [if_neg h6, Nat.add_zero]
          rw [e2] at e
          exact e
      · refine ⟨fun hh => absurd hh (by decide), fun _ => ?_⟩
        rintro _ rfl
        refine ⟨fun hh => absurd hh (by decide), fun _ => ?_⟩
        rintro _ rfl
        have e := ih (k + 1) (by omega)
        have e2 : nI (dn (u.2 3) i (k + 1)) = nI (dn (u.2 3) i k) + 1 := by
          show nI (dn (u.2 3) i k + (if kd (u.2 3 (it (u.2 3) i k)) = 6 then 1 else 0)) = _
          rw [if_pos h6, nI_1]
        have e3 : it (u.2 3) i (k + 1) = it (u.2 3) i k + 1 := by
          show it (u.2 3) i k + tl (u.2 3) (it (u.2 3) i k) = _
          rw [tl_eq (TL_atom (by rw [h6]; decide))]
        rw [e2, e3, ← nI_1] at e
        exact e
  rintro _ rfl
  rw [nI_1]
  exact ⟨N + 1, key N 0 (by omega)⟩
/-- isPlain: a list, with so many trees, without .. -/
theorem isPlain_4 {i n t : Nat} {u : mS} {post : Int32 → mS → Prop} (ht : TL (u.2 3) i n) (hl : i + n ≤ 3200) (htb : t < 2 ^ 31) (h1 : ∀ N, LI (u.2 3) i n N → cn (u.2 3) i N = t → dn (u.2 3) i N = 0 → post 1 u) (h0 : (¬ ∃ N, LI (u.2 3) i n N ∧ cn (u.2 3) i N = t ∧ dn (u.2 3) i N = 0) → post 0 u) : wp_X9_isPlain_4 (nI i) (nI t) u post := by
  have hn0 := ht.1
  refine kind_4 (by omega) ⟨fun hk => h0 (fun ⟨N, q, _⟩ => hk q.1), fun hk => ?_⟩
  obtain ⟨N, hN⟩ := LI_ex hk ht
  have hb := LI_at hN (Nat.le_refl N)
  have hc := cn_le (u.2 3) i N
  have hd := dn_le (u.2 3) i N
  refine count_4 hN hl ⟨fun hct => h0 ?_, fun hct => dots_4 hN hl ⟨fun hdt => h0 ?_, fun hdt => ?_⟩⟩
  · rintro ⟨M, q1, q2, -⟩
    have e := (LI_uniq hN q1).2
    subst e
    exact hct (by rw [q2])
  · rintro ⟨M, q1, -, q3⟩
    have e := (LI_uniq hN q1).2
    subst e
    exact hdt (by rw [q3]; rfl)
  · refine h1 N hN ((nI_eq (by omega) (by omega)).mp hct) ?_
    exact (nI_eq (a := dn (u.2 3) i N) (b := 0) (by omega) (by omega)).mp hdt
