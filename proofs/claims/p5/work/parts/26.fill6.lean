-- 26: the row that a fill makes; the fill
def MD (kp q : Nat → Int32) (T i k ty : Nat) : Prop := (∀ j, j < k → TOK (q j)) ∧ (∀ j, j < k → kd (q j) = 6 → 0 < j ∧ ¬ kd (q (j - 1)) = 1 ∧ ¬ kd (q (j - 1)) = 6) ∧ ty = trS q 0 k ∧ dep q 0 k = dep kp T (i - T) ∧ (∀ j, 0 < j → j < k → 0 < dep q 0 j) ∧ (T < i → 0 < k) ∧ (i = T → k = 0)
theorem md_add {kp q : Nat → Int32} {T m0 i k ty : Nat} (hT : TL kp T m0) (h : MD kp q T i k ty) (h1 : T ≤ i) (h2 : i < T + m0) (h6 : ¬ kd (kp i) = 6) (ht : TOK (kp i)) : MD kp (upd q k (kp i)) T (i + 1) (k + 1) (ty + tr1 (kp i)) := by
  obtain ⟨a1, a2, a3, a4, a5, a6, a7⟩ := h
  have ag : ∀ j, j < k → upd q k (kp i) j = q j := fun j hj => pk_un (by omega)
  have ek : upd q k (kp i) k = kp i := pk_us
  have dc : ∀ j, j ≤ k → dep (upd q k (kp i)) 0 j = dep q 0 j := fun j hj => dep_copy j (fun x hx => by rw [Nat.zero_add, ag x (by omega)])
  refine ⟨fun j hj => ?_, fun j hj hj6 => ?_, ?_, ?_, fun j hj hjk => ?_, fun _ => by omega, fun e => by omega⟩
  · rcases Nat.lt_or_ge j k with c | c
    · rw [ag j c]; exact a1 j c
    · have : j = k := by omega
      subst this
      rw [ek]; exact ht
  · rcases Nat.lt_or_ge j k with c | c
    · rw [ag j c] at hj6
      obtain ⟨b1, b2, b3⟩ := a2 j c hj6
      rw [ag (j - 1) (by omega)]
      exact ⟨b1, b2, b3⟩
    · have : j = k := by omega
      subst this
      rw [ek] at hj6; exact absurd hj6 h6
  · show ty + tr1 (kp i) = trS (upd q k (kp i)) 0 k + tr1 (upd q k (kp i) (0 + k))
    rw [trS_copy (r := q) (b := 0) k (fun j hj => by rw [Nat.zero_add, ag j hj]), Nat.zero_add, ek, a3]
  · rw [dep_s, dc k (Nat.le_refl k), Nat.zero_add, ek, a4, show i + 1 - T = (i - T) + 1 from by omega, dep_s, show T + (i - T) = i from by omega]
  · rw [dc j (by omega)]
    rcases Nat.lt_or_ge j k with c | c
    · exact a5 j hj c
    · have : j = k := by omega
      subst this
      rw [a4]
      have : T < i := by
        rcases Nat.lt_or_ge T i with q | q
        · exact q
        · have := a7 (by omega); omega
      exact hT.2.2 (i - T) (by omega) (by omega)
theorem md_dep {kp q : Nat → Int32} {T m0 i k ty : Nat} (hT : TL kp T m0) (h : MD kp q T i k ty) (h1 : T ≤ i) (h2 : i < T + m0) : 0 ≤ dep q 0 k ∧ (0 < k → 0 < dep q 0 k) := by
  obtain ⟨a1, a2, a3, a4, a5, a6, a7⟩ := h
  rw [a4]
  rcases Nat.lt_or_ge T i with q | q
  · have := hT.2.2 (i - T) (by omega) (by omega)
    exact ⟨by omega, fun _ => this⟩
  · have e : i = T := by omega
    rw [e, Nat.sub_self]
    exact ⟨Int.le_refl 0, fun z => by have := a7 e; omega⟩
theorem TL_0 {r : Nat → Int32} {i n : Nat} (h : TL r i n) (h2 : ¬ kd (r i) = 2) : dep r i n = 0 := by
  by_cases k1 : kd (r i) = 1
  · exact (TL_open k1 h).2.1
  · have e := TL_uniq h (TL_atom k1)
    subst e
    rw [dep_1, sg_else k1 h2]
theorem md_bring {kp q q' rw : Nat → Int32} {T m0 i k ty U z : Nat} (hT : TL kp T m0) (h : MD kp q T i k ty) (h1 : T ≤ i) (h2 : i < T + m0) (h3 : kd (kp i) = 3) (hU : TL rw U z) (hU2 : ¬ kd (rw U) = 2) (hU6 : ¬ kd (rw U) = 6) (htok : ∀ j, j < z → TOK (rw (U + j))) (hdt : ∀ j, 0 < j → j < z → kd (rw (U + j)) = 6 → ¬ kd (rw (U + (j - 1))) = 1 ∧ ¬ kd (rw (U + (j - 1))) = 6) (hlow : ∀ j, j < k → q' j = q j) (hnew : ∀ j, j < z → q' (k + j) = rw (U + j)) : MD kp q' T (i + 1) (k + z) (ty + trS rw U z) := by
  have hd := md_dep hT h h1 h2
  obtain ⟨a1, a2, a3, a4, a5, a6, a7⟩ := h
  have z0 := hU.1
  have dc : ∀ j, j ≤ k → dep q' 0 j = dep q 0 j := fun j hj => dep_copy j (fun x hx => by rw [Nat.zero_add, hlow x (by omega)])
  have dn' : ∀ j, j ≤ z → dep q' 0 (k + j) = dep q 0 k + dep rw U j := fun j hj => by
    rw [dep_add, dc k (Nat.le_refl k), Nat.zero_add, dep_copy (r := rw) (i := U) j (fun x hx => by rw [hnew x (by omega)])]
  refine ⟨fun j hj => ?_, fun j hj hj6 => ?_, ?_, ?_, fun j hj hjk => ?_, fun _ => by omega, fun e => by omega⟩
  · rcases Nat.lt_or_ge j k with c | c
    · rw [hlow j c]; exact a1 j c
    · obtain ⟨x, rfl⟩ : ∃ x, j = k + x := ⟨j - k, by omega⟩
      rw [hnew x (by omega)]; exact htok x (by omega)
  · rcases Nat.lt_or_ge j k with c | c
    · rw [hlow j c] at hj6
      obtain ⟨b1, b2, b3⟩ := a2 j c hj6
      rw [hlow (j - 1) (by omega)]
      exact ⟨b1, b2, b3⟩
    · obtain ⟨x, rfl⟩ : ∃ x, j = k + x := ⟨j - k, by omega⟩
      rw [hnew x (by omega)] at hj6
      have x0 : 0 < x := by
        rcases Nat.eq_zero_or_pos x with c | c
        · subst c; exact absurd hj6 hU6
        · exact c
      obtain ⟨b1, b2⟩ := hdt x x0 (by omega) hj6
      rw [show k + x - 1 = k + (x - 1) from by omega, hnew (x - 1) (by omega)]
      exact ⟨by omega, b1, b2⟩
  · rw [trS_add, trS_copy (r := q) (b := 0) k (fun j hj => by rw [Nat.zero_add, hlow j hj]), Nat.zero_add, trS_copy (q := q') (r := rw) (a := k) (b := U) z (fun j hj => by rw [hnew j hj]), a3]
  · rw [dn' z (Nat.le_refl z), TL_0 hU hU2, a4, show i + 1 - T = (i - T) + 1 from by omega, dep_s, show T + (i - T) = i from by omega, sg_else (by rw [h3]; decide) (by rw [h3]; decide)]
  · rcases Nat.lt_or_ge j k with c | c
    · rw [dc j (by omega)]; exact a5 j hj c
    · obtain ⟨x, rfl⟩ : ∃ x, j = k + x := ⟨j - k, by omega⟩
      rw [dn' x (by omega)]
      rcases Nat.eq_zero_or_pos x with c | c
      · subst c
        have := hd.2 (by omega)
        show 0 < dep q 0 k + 0
        omega
      · have := hU.2.2 x c (by omega)
        omega
theorem md_room {kp q : Nat → Int32} {T m0 i k ty : Nat} (hT : TL kp T m0) (h : MD kp q T i k ty) (h1 : T ≤ i) (h2 : i < T + m0) : k ≤ 3 * ty := by
  have hd := md_dep hT h h1 h2
  have := row_room h.2.1 hd.1
  rw [← h.2.2.1] at this
  exact this
theorem md_room2 {kp q rw : Nat → Int32} {T m0 i k ty U z : Nat} (hT : TL kp T m0) (h : MD kp q T i k ty) (h1 : T ≤ i) (h2 : i < T + m0) (hU : TL rw U z) (hU6 : ¬ kd (rw U) = 6) (hdt : ∀ j, 0 < j → j < z → kd (rw (U + j)) = 6 → ¬ kd (rw (U + (j - 1))) = 1 ∧ ¬ kd (rw (U + (j - 1))) = 6) : ∀ j, j < z → ty + trS rw U j ≤ 100 → k + j < 310 := by
  intro j hj hty
  have hd := md_dep hT h h1 h2
  obtain ⟨a1, a2, a3, a4, a5, a6, a7⟩ := h
  have e1 : ∀ x, x < k → (fun x => if x < k then q x else rw (U + (x - k))) x = q x := fun x hx => by
    show (if x < k then q x else _) = _
    rw [if_pos hx]
  have e2 : ∀ x, (fun x => if x < k then q x else rw (U + (x - k))) (k + x) = rw (U + x) := fun x => by
    show (if k + x < k then _ else rw (U + (k + x - k))) = _
    rw [if_neg (by omega), show k + x - k = x from by omega]
  generalize (fun x => if x < k then q x else rw (U + (x - k))) = g at e1 e2
  have dr : ∀ x, x < k + j → kd (g x) = 6 → 0 < x ∧ ¬ kd (g (x - 1)) = 1 ∧ ¬ kd (g (x - 1)) = 6 := by
    intro x hx hx6
    rcases Nat.lt_or_ge x k with c | c
    · rw [e1 x c] at hx6
      obtain ⟨b1, b2, b3⟩ := a2 x c hx6
      rw [e1 (x - 1) (by omega)]
      exact ⟨b1, b2, b3⟩
    · obtain ⟨y, rfl⟩ : ∃ y, x = k + y := ⟨x - k, by omega⟩
      rw [e2] at hx6
      have y0 : 0 < y := by
        rcases Nat.eq_zero_or_pos y with c | c
        · subst c; exact absurd hx6 hU6
        · exact c
      obtain ⟨b1, b2⟩ := hdt y y0 (by omega) hx6
      rw [show k + y - 1 = k + (y - 1) from by omega, e2]
      exact ⟨by omega, b1, b2⟩
  have dd : dep g 0 (k + j) = dep q 0 k + dep rw U j := by
    rw [dep_add, Nat.zero_add, dep_copy (r := q) (i := 0) k (fun x hx => by rw [Nat.zero_add, e1 x hx]), dep_copy (r := rw) (i := U) j (fun x hx => by rw [e2])]
  have dj : 0 ≤ dep rw U j := by
    rcases Nat.eq_zero_or_pos j with c | c
    · subst c; exact Int.le_refl 0
    · have := hU.2.2 j c hj; omega
  have tt : trS g 0 (k + j) = ty + trS rw U j := by
    rw [trS_add, Nat.zero_add, trS_copy (q := g) (r := q) (a := 0) (b := 0) k (fun x hx => by rw [Nat.zero_add, e1 x hx]), trS_copy (q := g) (r := rw) (a := k) (b := U) j (fun x hx => by rw [e2]), a3]
  have := row_room dr (by omega)
  rw [tt] at this
  omega
/-- at least so many .. hold a place -/
theorem HB_ge {kp : Nat → Int32} {T te i h : Nat} {be : Nat → Nat} (h1 : ∀ l, l < h → HL kp T te (be l) ∧ be l ≤ i ∧ i < be l + tl kp (be l)) (h2 : ∀ l l', l < h → l' < h → be l = be l' → l = l') (hTi : T ≤ i) : h ≤ HB kp T te i := by
  have key : ∀ k, T + k ≤ i + 1 → cl1 be (T + k) h ≤ hbS kp te i T k := by
    intro k
    induction k with
    | zero =>
      intro _
      rw [cl1_none h (fun l hl => by have := (h1 l hl).1.1; omega)]
      exact Nat.zero_le _
    | succ k ih =>
      intro hk
      show cl1 be (T + k + 1) h ≤ hbS kp te i T k + hb1 kp te i (T + k)
      have := ih (by omega)
      by_cases c : ∃ l, l < h ∧ be l = T + k
      · rw [cl1_yes h h2 c]
        obtain ⟨l, hl, e⟩ := c
        obtain ⟨⟨a1, a2, a3, a4, a5⟩, b1, b2⟩ := h1 l hl
        rw [e] at a2 a3 a4 a5 b2
        unfold hb1
        rw [if_pos ⟨a2, a3, a4, b2, a5⟩]
        omega
      · rw [cl1_no h (fun l hl q => c ⟨l, hl, q⟩)]
        omega
  unfold HB
  have := key (i + 1 - T) (by omega)
  rw [show T + (i + 1 - T) = i + 1 from by omega, cl1_all h (fun l hl => by have := (h1 l hl).2.1; omega)] at this
  exact this
