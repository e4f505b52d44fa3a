-- 69: a pattern matches a list: exactly, on the reference's side
/-- the pattern's tree at p matches the tree at u; F: how deep it is looked at -/
def MX (kp rw : Nat → Int32) : Nat → Nat → Nat → Prop
  | 0, _, _ => False
  | F + 1, p, u => (kd (kp p) = 4 → kp p = rw u) ∧ (kd (kp p) = 1 → MT kp rw (MX kp rw F) 0 p u)
def MXX (kp rw : Nat → Int32) (p u : Nat) : Prop := MX kp rw (tl kp p) p u
/-- the list at u0 has as many items as a pattern's list of t trees can match -/
def FTS (rw : Nat → Int32) (N t u0 : Nat) : Prop := ∃ m M, LI rw u0 m M ∧ (∀ k, k < M → ¬ kd (rw (it rw u0 k)) = 6) ∧ (N = t → M = t) ∧ (N = t + 1 → t ≤ M + 1)
theorem PL_t {r : Nat → Int32} {p n N t : Nat} (h : PL r p n N t) : t ≤ N := by rcases h.2.2 with a | ⟨a, _⟩ <;> omega
theorem PL_uniq {r : Nat → Int32} {p n N t n' N' t' : Nat} (h : PL r p n N t) (g : PL r p n' N' t') : n = n' ∧ N = N' ∧ t = t' := by
  obtain ⟨a, b⟩ := LI_uniq h.1 g.1
  subst a b
  refine ⟨rfl, rfl, ?_⟩
  rcases h.2.2 with x | ⟨x1, x2, x3⟩
  · rcases g.2.2 with y | ⟨y1, y2, y3⟩
    · omega
    · exact absurd y3 (h.2.1 t' (by omega))
  · rcases g.2.2 with y | ⟨y1, y2, y3⟩
    · exact absurd x3 (g.2.1 t (by omega))
    · omega
/-- an item of a pattern's list is shorter than the list -/
theorem PL_item {r : Nat → Int32} {p n N t k : Nat} (h : PL r p n N t) (hk : k < t) : TL r (it r p k) (tl r (it r p k)) ∧ p < it r p k ∧ it r p k + tl r (it r p k) < p + n ∧ tl r (it r p k) < n := by
  have tN := PL_t h
  obtain ⟨a, b⟩ := h.1.2.2.1 k (by omega)
  have c := LI_at h.1 (k := k) (by omega)
  have d := LI_at h.1 (k := k + 1) (by omega)
  have e : it r p (k + 1) = it r p k + tl r (it r p k) := rfl
  exact ⟨b, by omega, by omega, by omega⟩
theorem MX_fuel {kp rw : Nat → Int32} : ∀ (F G p u z : Nat), TL kp p z → z ≤ F → z ≤ G → MX kp rw F p u → MX kp rw G p u := by
  intro F
  induction F with
  | zero => intro G p u z hT h1; have := hT.1; omega
  | succ F ih =>
    intro G p u z hT h1 h2 h
    cases G with
    | zero => have := hT.1; omega
    | succ G =>
      refine ⟨h.1, fun hk => ?_⟩
      obtain ⟨n, N, t, m, M, q1, q2, q3, q4, q5, q6⟩ := h.2 hk
      have en := TL_uniq hT q1.1.2.1
      subst en
      refine ⟨z, N, t, m, M, q1, q2, q3, q4, q5, fun k k1 k2 => ?_⟩
      have t0 : 0 < t := by
        rcases q1.2.2 with a | ⟨_, a, _⟩
        · have := q4 a; omega
        · exact a
      obtain ⟨a, b, c, d⟩ := PL_item q1 (k := min k (t - 1)) (by omega)
      exact ih G _ _ _ a (by omega) (by omega) (q6 k k1 k2)
theorem MXX_list {kp rw : Nat → Int32} {p u z : Nat} (hT : TL kp p z) (hk : kd (kp p) = 1) : MXX kp rw p u ↔ MT kp rw (MXX kp rw) 0 p u := by
  have e := tl_eq hT
  unfold MXX
  rw [e]
  obtain ⟨z', rfl⟩ : ∃ z', z = z' + 1 := ⟨z - 1, by have := hT.1; omega⟩
  have cv : ∀ {D E : Nat → Nat → Prop}, (∀ q w, TL kp q (tl kp q) → tl kp q ≤ z' → D q w → E q w) → MT kp rw D 0 p u → MT kp rw E 0 p u := by
    intro D E hDE h
    obtain ⟨n, N, t, m, M, q1, q2, q3, q4, q5, q6⟩ := h
    have en := TL_uniq hT q1.1.2.1
    subst en
    refine ⟨z' + 1, N, t, m, M, q1, q2, q3, q4, q5, fun k k1 k2 => ?_⟩
    have t0 : 0 < t := by
      rcases q1.2.2 with a | ⟨_, a, _⟩
      · have := q4 a; omega
      · exact a
    obtain ⟨a, b, c, d⟩ := PL_item q1 (k := min k (t - 1)) (by omega)
    exact hDE _ _ a (by omega) (q6 k k1 k2)
  constructor
  · intro h
    exact cv (fun q w a b c => MX_fuel _ _ _ _ _ a b (Nat.le_refl _) c) (h.2 hk)
  · intro h
    exact ⟨fun q => by rw [hk] at q; exact absurd q (by decide), fun _ => cv (fun q w a b c => MX_fuel _ _ _ _ _ a (Nat.le_refl _) b c) h⟩
theorem MXX_num {kp rw : Nat → Int32} {p u : Nat} (hk : kd (kp p) = 4) : MXX kp rw p u ↔ kp p = rw u := by
  have e : tl kp p = 1 := tl_eq (TL_atom (by rw [hk]; decide))
  unfold MXX
  rw [e]
  exact ⟨fun h => h.1 hk, fun h => ⟨fun _ => h, fun q => by rw [hk] at q; exact absurd q (by decide)⟩⟩
theorem MXX_any {kp rw : Nat → Int32} {p u : Nat} (h1 : ¬ kd (kp p) = 1) (h4 : ¬ kd (kp p) = 4) : MXX kp rw p u := by
  have e : tl kp p = 1 := tl_eq (TL_atom h1)
  unfold MXX
  rw [e]
  exact ⟨fun q => absurd q h4, fun q => absurd q h1⟩
theorem MT_fts {kp rw : Nat → Int32} {D : Nat → Nat → Prop} {s p u n N t : Nat} (hP : PL kp p n N t) (h : MT kp rw D s p u) : FTS rw N t u := by
  obtain ⟨n', N', t', m, M, q1, q2, q3, q4, q5, q6⟩ := h
  obtain ⟨a, b, c⟩ := PL_uniq hP q1
  subst a b c
  exact ⟨m, M, q2, q3, q4, q5⟩
theorem MT_iff {kp rw : Nat → Int32} {D : Nat → Nat → Prop} {s p u n N t m M : Nat} (hP : PL kp p n N t) (hM : LI rw u m M) (c0 : ∀ k, k < M → ¬ kd (rw (it rw u k)) = 6) (c1 : N = t → M = t) (c2 : N = t + 1 → t ≤ M + 1) : MT kp rw D s p u ↔ ∀ k, s ≤ k → k < M → D (it kp p (min k (t - 1))) (it rw u k) := by
  constructor
  · rintro ⟨n', N', t', m', M', q1, q2, q3, q4, q5, q6⟩
    obtain ⟨a, b, c⟩ := PL_uniq hP q1
    obtain ⟨d, e⟩ := LI_uniq hM q2
    subst a b c d e
    exact q6
  · intro h
    exact ⟨n, N, t, m, M, hP, hM, c0, c1, c2, h⟩
theorem pairsX {n0 p u0 n N t m s : Nat} {x4 : Int32} {w : mS} {post : Int32 → mS → Prop} (hP : PL (w.2 3) p n N t) (hl : p + n ≤ 3200) (hT : TL (w.2 1) u0 m) (hl2 : u0 + m ≤ 2600) (hroom : n0 + m ≤ 401) (hs : (s = 0 ∧ x4 = 0) ∨ (s = 1 ∧ ¬ x4 = 0)) (h0 : ¬ FTS (w.2 1) N t u0 → post (-1) w)
    (h1 : ∀ M v, LI (w.2 1) u0 m M → (∀ k, k < M → ¬ kd (w.2 1 (it (w.2 1) u0 k)) = 6) → (N = t → M = t) → (N = t + 1 → t ≤ M + 1) → FR [] [14, 15] w v → (∀ j, j < n0 → v.2 14 j = w.2 14 j ∧ v.2 15 j = w.2 15 j) → (∀ k, s ≤ k → k < M → v.2 14 (n0 + (k - s)) = nI (it (w.2 3) p (min k (t - 1))) ∧ v.2 15 (n0 + (k - s)) = nI (it (w.2 1) u0 k)) → post (nI (n0 + (M - s))) v) : wp_X9_pairs (nI n0) (nI p) (nI u0) x4 w post := by
  have hm0 := hT.1
  have hn0 := hP.1.2.1.1
  refine kind_2 (by omega) ⟨fun hk => h0 (fun ⟨m1, M1, q1, _⟩ => hk q1.1), fun hk => ?_⟩
  obtain ⟨M, hM⟩ := LI_ex hk hT
  have hbM := LI_at hM (Nat.le_refl M)
  have hdl := dn_le (w.2 1) u0 M
  have nod : ¬ nI (dn (w.2 1) u0 M) ≤ 0 → ¬ FTS (w.2 1) N t u0 := by
    rintro hd ⟨m1, M1, q1, q2, -⟩
    obtain ⟨-, e⟩ := LI_uniq hM q1
    subst e
    exact hd (by rw [dn_z q2]; decide)
  refine dots_2 hM hl2 ⟨fun hd => ?_, fun hd => h0 (nod hd)⟩
  have hd0 : dn (w.2 1) u0 M = 0 := by
    have hd : nI (dn (w.2 1) u0 M) ≤ nI 0 := hd
    rw [nI_leI (by omega) (by omega)] at hd
    omega
  have hnd := dn_0 hd0
  have hcM : cn (w.2 1) u0 M = M := by have := cn_dn (w.2 1) u0 M; omega
  obtain ⟨pc, pd⟩ := PL_cn hP
  have hbN := LI_at hP.1 (Nat.le_refl N)
  have htN : t ≤ N := by rcases hP.2.2 with a | ⟨a, _⟩ <;> omega
  refine count_4 hP.1 hl ?_
  refine dots_4 hP.1 hl ?_
  rw [pc, pd]
  -- the loop
  have key : (N = t → M = t) → (N = t + 1 → t ≤ M + 1) → ∀ (d k : Nat) (v : mS), k + d = M → FR [] [14, 15] w v → (∀ j, j < n0 → v.2 14 j = w.2 14 j ∧ v.2 15 j = w.2 15 j) → (∀ i, s ≤ i → i < k → v.2 14 (n0 + (i - s)) = nI (it (w.2 3) p (min i (t - 1))) ∧ v.2 15 (n0 + (i - s)) = nI (it (w.2 1) u0 i)) → mL8 (fun K => wj_X9_pairs_105 K post) (d + 1) x4 (nI t) (nI M) (nI (n0 + (k - s))) (nI (it (w.2 3) p (min k (t - 1)))) (nI (it (w.2 1) u0 k)) (nI k) v := by
    intro c1 c2 d
    induction d with
    | zero =>
      intro k v hk hF hlow hall
      have hk : k = M := by omega
      subst hk
      show wj_X9_pairs_105 _ post _ _ _ _ _ _ _ v
      exact ⟨fun _ => h1 k v hM hnd c1 c2 hF hlow hall, fun h => absurd (Int32.le_refl _) h⟩
    | succ d ih =>
      intro k v hk hF hlow hall
      have r1 : v.2 1 = w.2 1 := hF.2 1 (by decide)
      have r3 : v.2 3 = w.2 3 := hF.2 3 (by decide)
      have bk := LI_at hM (k := k) (by omega)
      have bk1 := LI_at hM (k := k + 1) (by omega)
      have Tk := (hM.2.2.1 k (by omega)).2
      have t1 : 1 ≤ t := by
        rcases hP.2.2 with a | ⟨_, a, _⟩
        · have := c1 a; omega
        · exact a
      have bq := LI_at hP.1 (k := min k (t - 1)) (by omega)
      -- behind the push
      have g143 : ∀ (x : Nat) (v2 : mS), FR [] [14, 15] w v2 → (∀ j, j < n0 → v2.2 14 j = w.2 14 j ∧ v2.2 15 j = w.2 15 j) → (∀ i, s ≤ i → i < k + 1 → v2.2 14 (n0 + (i - s)) = nI (it (w.2 3) p (min i (t - 1))) ∧ v2.2 15 (n0 + (i - s)) = nI (it (w.2 1) u0 i)) → x = n0 + (k + 1 - s) → wj_X9_pairs_143 (mL8 (fun K => wj_X9_pairs_105 K post) (d + 1)) post x4 (nI t) (nI M) (nI x) (nI (it (w.2 3) p (min k (t - 1)))) (nI (it (w.2 1) u0 k)) (nI k) v2 := by
        intro x v2 hF2 hlow2 hall2 hx
        have q1 : v2.2 1 = w.2 1 := hF2.2 1 (by decide)
        have q3 : v2.2 3 = w.2 3 := hF2.2 3 (by decide)
        refine end_2 (n := tl (w.2 1) (it (w.2 1) u0 k)) (by rw [q1]; exact Tk) ?_ ?_
        · have : it (w.2 1) u0 (k + 1) = it (w.2 1) u0 k + tl (w.2 1) (it (w.2 1) u0 k) := rfl
          omega
        · rintro _ rfl
          rw [nI_1]
          have ihk := ih (k + 1) v2 (by omega) hF2 hlow2 hall2
          rw [← hx] at ihk
          refine ⟨fun h => ?_, fun h => ?_⟩
          · rw [nI_leI (by omega) (by omega)] at h
            rintro _ rfl
            rw [nI_1]
            rw [show min (k + 1) (t - 1) = min k (t - 1) from by omega] at ihk
            exact ihk
          · rw [nI_leI (by omega) (by omega)] at h
            have ek : min k (t - 1) = k := by omega
            have ek1 : min (k + 1) (t - 1) = k + 1 := by omega
            rw [ek1] at ihk
            have Tq := (hP.1.2.2.1 k (by omega)).2
            have bq1 := LI_at hP.1 (k := k + 1) (by omega)
            rw [ek]
            refine end_4 (n := tl (w.2 3) (it (w.2 3) p k)) (by rw [q3]; exact Tq) ?_ ?_
            · have : it (w.2 3) p (k + 1) = it (w.2 3) p k + tl (w.2 3) (it (w.2 3) p k) := rfl
              omega
            · rintro _ rfl
              rw [nI_1]
              exact ihk
      have push : s ≤ k → wj_X9_pairs_122 (mL8 (fun K => wj_X9_pairs_105 K post) (d + 1)) post x4 (nI t) (nI M) (nI (n0 + (k - s))) (nI (it (w.2 3) p (min k (t - 1)))) (nI (it (w.2 1) u0 k)) (nI k) v := by
        intro hsk
        have room : n0 + (k - s) < 400 := by omega
        refine ⟨vp_in_nI room (by omega), ?_⟩
        rintro _ rfl
        refine ⟨vp_in_nI room (by omega), ?_⟩
        rintro _ rfl _ rfl
        rw [nI_clamp (by omega), nI_1]
        refine g143 (n0 + (k - s) + 1) _ (FR_put (FR_put hF (by decide)) (by decide)) (fun j hj => ?_) (fun i hi hik => ?_) (by omega)
        · rw [mPut_other (by decide : (14 : Nat) ≠ 15), mPut_same, mPut_same, mPut_other (by decide : (15 : Nat) ≠ 14), pk_un (by omega), pk_un (by omega)]
          exact hlow j hj
        · rw [mPut_other (by decide : (14 : Nat) ≠ 15), mPut_same, mPut_same, mPut_other (by decide : (15 : Nat) ≠ 14)]
          by_cases e : i = k
          · subst e; rw [pk_us, pk_us]; exact ⟨rfl, rfl⟩
          · rw [pk_un (by omega), pk_un (by omega)]; exact hall i hi (by omega)
      show wj_X9_pairs_105 _ post _ _ _ _ _ _ _ v
      refine ⟨fun h => absurd h (by rw [nI_leI (by omega) (by omega)]; omega), fun _ => ⟨fun hk0 => push ?_, fun hk0 => ⟨fun hx => ?_, fun hx => push ?_⟩⟩⟩
      · have hk0 : nI 0 < nI k := hk0
        rw [nI_ltI (by omega) (by omega)] at hk0
        omega
      · have hk0 : ¬ nI 0 < nI k := hk0
        rw [nI_ltI (by omega) (by omega)] at hk0
        have es : s = 1 := by
          rcases hs with ⟨_, b⟩ | ⟨a, _⟩
          · exact absurd b hx
          · exact a
        have hk0 : k = 0 := by omega
        subst hk0
        rw [show n0 + (0 - s) = n0 from by omega]
        exact g143 n0 v hF hlow (fun i hi hik => by omega) (by omega)
      · have : s = 0 := by
          rcases hs with ⟨a, _⟩ | ⟨_, b⟩
          · exact a
          · exact absurd hx b
        omega
  have start : (N = t → M = t) → (N = t + 1 → t ≤ M + 1) → wj_X9_pairs_89 post (nI n0) (nI p) (nI u0) x4 (nI t) (nI M) w := by
    intro c1 c2
    rintro _ rfl _ rfl
    rw [nI_1, nI_1]
    have := key c1 c2 M 0 w (by omega) FR.rf (fun j _ => ⟨rfl, rfl⟩) (fun i hi hik => by omega)
    rw [show n0 + (0 - s) = n0 from by omega, show min 0 (t - 1) = 0 from by omega] at this
    exact ⟨M + 1, this⟩
  refine ⟨fun hq => ?_, fun hq => ?_⟩
  · have eN : N = t := by
      have hq : nI (N - t) ≤ nI 0 := hq
      rw [nI_leI (by omega) (by omega)] at hq; omega
    refine count_2 hM hl2 ?_
    rw [hcM]
    have noc : ¬ nI M = nI t → ¬ FTS (w.2 1) N t u0 := by
      rintro he ⟨m1, M1, q1, q2, q3, -⟩
      obtain ⟨-, e⟩ := LI_uniq hM q1
      subst e
      exact he (by rw [q3 eN])
    refine ⟨fun _ => ⟨fun he => ?_, fun he => h0 (noc he)⟩, fun h => absurd rfl h⟩
    have := (nI_eq (by omega) (by omega)).mp he
    exact start (fun _ => this) (fun h => by omega)
  · have eN : N = t + 1 := by
      have hq : ¬ nI (N - t) ≤ nI 0 := hq
      rw [nI_leI (by omega) (by omega)] at hq
      rcases hP.2.2 with a | ⟨a, _⟩ <;> omega
    have t1 : 1 ≤ t := by rcases hP.2.2 with a | ⟨_, a, _⟩ <;> omega
    refine count_2 hM hl2 ?_
    rw [hcM]
    refine ⟨fun h => absurd h (by decide), fun _ => ?_⟩
    rintro _ rfl
    obtain ⟨t', rfl⟩ : ∃ t', t = t' + 1 := ⟨t - 1, by omega⟩
    rw [nI_pred]
    have noc : ¬ nI t' ≤ nI M → ¬ FTS (w.2 1) N (t' + 1) u0 := by
      rintro he ⟨m1, M1, q1, q2, -, q4⟩
      obtain ⟨-, e⟩ := LI_uniq hM q1
      subst e
      have := q4 eN
      exact he (by rw [nI_leI (by omega) (by omega)]; omega)
    refine ⟨fun he => ?_, fun he => h0 (noc he)⟩
    rw [nI_leI (by omega) (by omega)] at he
    exact start (fun h => by omega) (fun _ => by omega)
/-- the stack's pairs, all of them -/
def STK (kp rw : Nat → Int32) (v : mS) (k : Nat) : Prop := ∀ j, j < k → MXX kp rw (v.2 14 j).toNatClampNeg (v.2 15 j).toNatClampNeg
theorem matchesX {pat n N t lst m : Nat} {w : mS} {post : Int32 → mS → Prop} (hP : PC (w.2 3) pat n N t) (hl : pat + n ≤ 3200) (hT : TL (w.2 1) lst m) (hl2 : lst + m ≤ 2600) (hm : m ≤ 310) (h0 : ∀ v, FR [] [14, 15] w v → ¬ MT (w.2 3) (w.2 1) (MXX (w.2 3) (w.2 1)) 1 pat lst → post 0 v) (h1 : ∀ v, FR [] [14, 15] w v → MT (w.2 3) (w.2 1) (MXX (w.2 3) (w.2 1)) 1 pat lst → post 1 v) : wp_X9_matches (nI pat) (nI lst) w post := by
  obtain ⟨hPL, t1, tt2, hit, hnest⟩ := hP
  have vub : ∀ u, VU (w.2 1) lst m u → u < 2 ^ 31 := fun u hu => by have := hu.2.2.1; omega
  have loop : ∀ (x : Int32) (v : mS), ((x = -1 ∧ FR [] [14, 15] w v ∧ ¬ MT (w.2 3) (w.2 1) (MXX (w.2 3) (w.2 1)) 1 pat lst) ∨ ∃ k : Nat, x = nI k ∧ FR [] [14, 15] w v ∧ (∀ j, j < k → ∃ p u, v.2 14 j = nI p ∧ v.2 15 j = nI u ∧ VP (w.2 3) pat n p ∧ VU (w.2 1) lst m u) ∧ phi (w.2 1) (v.2 15) k ≤ m ∧ (MT (w.2 3) (w.2 1) (MXX (w.2 3) (w.2 1)) 1 pat lst ↔ STK (w.2 3) (w.2 1) v k)) → ∃ c, mL2 (fun K => wj_X9_matches_9 K post) c x v := by
    refine mL2_in _ (fun x v => phi (w.2 1) (v.2 15) x.toNatClampNeg + (if x < 0 then 0 else 1)) ?_
    intro K x v hI ih
    rcases hI with ⟨rfl, hF, hn⟩ | ⟨k, rfl, hF, hst, hphi, hiff⟩
    · exact ⟨fun _ => ⟨fun _ => h0 v hF hn, fun h => absurd h (by decide)⟩, fun h => absurd (by decide) h⟩
    · have r1 : v.2 1 = w.2 1 := hF.2 1 (by decide)
      have r3 : v.2 3 = w.2 3 := hF.2 3 (by decide)
      have kphi : ∀ j, j ≤ k → j ≤ phi (w.2 1) (v.2 15) j := fun j hj => phi_ge j (fun i hi => by
        obtain ⟨p, u, _, e2, _, e4⟩ := hst i (by omega)
        exact ⟨u, e2, e4, vub u e4⟩)
      have hk310 : k ≤ 310 := Nat.le_trans (kphi k (Nat.le_refl k)) (by omega)
      cases k with
      | zero => exact ⟨fun _ => ⟨fun h => absurd rfl h, fun _ => h1 v hF (hiff.mpr (fun j hj => by omega))⟩, fun h => absurd (by decide) h⟩
      | succ k =>
        obtain ⟨p, u, ep, eu, hvp, hvu⟩ := hst k (by omega)
        have hpb := hvp.2.1
        have hub := hvu.2.2.1
        have hu1 := hvu.1.1
        have ep2 : (v.2 14 k).toNatClampNeg = p := by rw [ep, nI_clamp (by omega)]
        have eu2 : (v.2 15 k).toNatClampNeg = u := by rw [eu, nI_clamp (by omega)]
        have ephi : phi (w.2 1) (v.2 15) (k + 1) = phi (w.2 1) (v.2 15) k + tl (w.2 1) u := by
          show phi (w.2 1) (v.2 15) k + tl (w.2 1) (v.2 15 k).toNatClampNeg = _
          rw [eu2]
        have hkk := kphi k (by omega)
        have mu0 : phi (w.2 1) (v.2 15) (nI (k + 1)).toNatClampNeg + (if nI (k + 1) < 0 then 0 else 1) = phi (w.2 1) (v.2 15) k + tl (w.2 1) u + 1 := by
          rw [nI_clamp (by omega), if_neg (nI_pos (by omega)), ephi]
        have stk1 : STK (w.2 3) (w.2 1) v (k + 1) ↔ (STK (w.2 3) (w.2 1) v k ∧ MXX (w.2 3) (w.2 1) p u) := by
          constructor
          · intro q
            refine ⟨fun j hj => q j (by omega), ?_⟩
            have := q k (by omega)
            rw [ep2, eu2] at this
            exact this
          · rintro ⟨q1, q2⟩ j hj
            rcases Nat.lt_or_ge j k with c | c
            · exact q1 j c
            · have ej : j = k := by omega
              rw [ej, ep2, eu2]; exact q2
        refine ⟨fun h => absurd h (nI_nle (by omega) (by omega)), fun _ => ?_⟩
        rintro _ rfl
        rw [nI_pred]
        refine ⟨vp_in_nI (by omega) (by omega), ?_⟩
        rintro _ rfl _ rfl
        refine ⟨vp_in_nI (by omega) (by omega), ?_⟩
        rintro _ rfl _ rfl
        rw [pk_m1, nI_clamp (by omega), ep, eu]
        have leaf : ¬ kd (w.2 3 p) = 1 → MXX (w.2 3) (w.2 1) p u → K (nI k) v := by
          intro hnl hx
          refine ih (nI k) v (Or.inr ⟨k, rfl, hF, fun j hj => hst j (by omega), by omega, ?_⟩) ?_
          · rw [hiff, stk1]
            exact ⟨fun q => q.1, fun q => ⟨q, hx⟩⟩
          · rw [mu0, nI_clamp (by omega), if_neg (nI_pos (by omega))]; omega
        have g72 : (kd (w.2 3 p) = 4 → w.2 3 p = w.2 1 u) → wj_X9_matches_72 K post (nI k) (nI p) (nI u) (kd (w.2 3 p)) v := by
          intro h4
          refine ⟨fun hn => leaf hn ?_, fun hk => ?_⟩
          · by_cases c4 : kd (w.2 3 p) = 4
            · exact (MXX_num c4).mpr (h4 c4)
            · exact MXX_any hn c4
          obtain ⟨n', N', t', hL', hb', hitems⟩ := hnest p hvp hk
          have ml := MXX_list (rw := w.2 1) (u := u) hL'.1.2.1 hk
          refine pairsX (n0 := k) (m := tl (w.2 1) u) (s := 0) (by rw [r3]; exact hL') (by omega) (by rw [r1]; exact hvu.1) (by omega) (by omega) (Or.inl ⟨rfl, rfl⟩) (fun hnf => ?_) (fun M v2 hM hnd c1 c2 hF2 hlow hpush => ?_)
          · rw [r1] at hnf
            refine ih (-1) v (Or.inl ⟨rfl, hF, fun q => hnf ?_⟩) ?_
            · exact MT_fts hL' (ml.mp (stk1.mp (hiff.mp q)).2)
            rw [mu0]
            show phi (w.2 1) (v.2 15) 0 + (if (-1 : Int32) < 0 then 0 else 1) < _
            rw [if_pos (by decide)]
            show 0 + 0 < _
            omega
          · rw [r1] at hM hnd
            rw [r3, r1] at hpush
            have t1' : 0 < M → 1 ≤ t' := fun h0 => by
              rcases hL'.2.2 with a | ⟨_, a, _⟩
              · have := c1 a; omega
              · exact a
            have psh : ∀ i, i < M → v2.2 14 (k + i) = nI (it (w.2 3) p (min i (t' - 1))) ∧ v2.2 15 (k + i) = nI (it (w.2 1) u i) := fun i hi => hpush i (by omega) hi
            have ephi2 := phi_push (st := v2.2 15) (k := k) (o := 0) hM (by omega) (fun j hj => by rw [Nat.zero_add] at hj ⊢; exact (psh j hj).2) M (by omega)
            rw [Nat.zero_add, hM.2.2.2] at ephi2
            have ephi2 : phi (w.2 1) (v2.2 15) (k + M) + (u + 1) = phi (w.2 1) (v2.2 15) k + (u + (tl (w.2 1) u - 1)) := ephi2
            have esame : phi (w.2 1) (v2.2 15) k = phi (w.2 1) (v.2 15) k := phi_same k (fun j hj => (hlow j hj).2)
            have z2 := (TL_open hM.1 hM.2.1).1
            have ps2 : ∀ i, i < M → (v2.2 14 (k + i)).toNatClampNeg = it (w.2 3) p (min i (t' - 1)) ∧ (v2.2 15 (k + i)).toNatClampNeg = it (w.2 1) u i := by
              intro i hi
              have := t1' (by omega)
              have b := (hitems (min i (t' - 1)) (by omega)).2.1
              have b2 := LI_at hM (k := i) (by omega)
              rw [(psh i hi).1, (psh i hi).2, nI_clamp (by omega), nI_clamp (by omega)]
              exact ⟨rfl, rfl⟩
            refine ih (nI (k + (M - 0))) v2 (Or.inr ⟨k + M, rfl, hF.tr hF2, fun j hj => ?_, by omega, ?_⟩) ?_
            · rcases Nat.lt_or_ge j k with c | c
              · rw [(hlow j c).1, (hlow j c).2]; exact hst j (by omega)
              · obtain ⟨i, rfl⟩ : ∃ i, j = k + i := ⟨j - k, by omega⟩
                have hi : i < M := by omega
                have := t1' (by omega)
                exact ⟨_, _, (psh i hi).1, (psh i hi).2, hitems _ (by omega), VU_items hM (by have := hvu.2.1; omega) hub hi (hnd i hi)⟩
            · rw [hiff, stk1, ml, MT_iff hL' hM hnd c1 c2]
              constructor
              · rintro ⟨q1, q2⟩ j hj
                rcases Nat.lt_or_ge j k with c | c
                · rw [(hlow j c).1, (hlow j c).2]; exact q1 j c
                · obtain ⟨i, rfl⟩ : ∃ i, j = k + i := ⟨j - k, by omega⟩
                  rw [(ps2 i (by omega)).1, (ps2 i (by omega)).2]
                  exact q2 i (by omega) (by omega)
              · intro q
                refine ⟨fun j hj => ?_, fun i _ hi => ?_⟩
                · have := q j (by omega)
                  rw [(hlow j hj).1, (hlow j hj).2] at this
                  exact this
                · have := q (k + i) (by omega)
                  rw [(ps2 i hi).1, (ps2 i hi).2] at this
                  exact this
            · rw [mu0]
              show phi (w.2 1) (v2.2 15) (nI (k + M)).toNatClampNeg + (if nI (k + M) < 0 then 0 else 1) < _
              have hM2 : M ≤ tl (w.2 1) u := by
                have b := LI_at hM (Nat.le_refl M); omega
              rw [nI_clamp (by omega), if_neg (nI_pos (by omega))]; omega
        refine kind_4 (by omega) ?_
        rw [r3]
        refine ⟨fun n4 => g72 (fun q => absurd q n4), fun k4 => ⟨vp_in_nI (by omega) (by omega), ?_⟩⟩
        rintro _ rfl
        refine ⟨vp_in_nI (by omega) (by omega), ?_⟩
        rintro _ rfl
        rw [nI_clamp (by omega), nI_clamp (by omega), r1]
        exact ⟨fun e => g72 (fun _ => e), fun e => h0 v hF (fun q => e ((MXX_num k4).mp (stk1.mp (hiff.mp q)).2))⟩
  refine pairsX (n0 := 0) (m := m) (s := 1) hPL hl hT hl2 (by omega) (Or.inr ⟨rfl, by decide⟩) (fun hnf => loop (-1) w (Or.inl ⟨rfl, FR.rf, fun q => hnf (MT_fts hPL q)⟩)) (fun M v hM hnd c1 c2 hF hlow hpush => ?_)
  have hbM := LI_at hM (Nat.le_refl M)
  have psh : ∀ j, 1 + j < M → v.2 14 (0 + j) = nI (it (w.2 3) pat (min (1 + j) (t - 1))) ∧ v.2 15 (0 + j) = nI (it (w.2 1) lst (1 + j)) := fun j hj => by
    have := hpush (1 + j) (by omega) hj
    rw [show 0 + (1 + j - 1) = 0 + j from by omega] at this
    exact this
  refine loop _ v (Or.inr ⟨0 + (M - 1), rfl, hF, fun j hj => ?_, ?_, ?_⟩)
  · have := psh j (by omega)
    rw [Nat.zero_add] at this
    refine ⟨_, _, this.1, this.2, ?_, VU_items hM (Nat.le_refl lst) (Nat.le_refl _) (by omega) (hnd _ (by omega))⟩
    have t2 : 2 ≤ t := by
      rcases hPL.2.2 with a | ⟨a, b, _⟩
      · have := c1 a; omega
      · exact tt2 a
    exact hit _ (by omega) (by omega)
  · rcases Nat.lt_or_ge M 1 with c | c
    · rw [show 0 + (M - 1) = 0 from by omega]
      show 0 ≤ m
      omega
    · have e := phi_push (st := v.2 15) (k := 0) (o := 1) hM (by omega) (fun j hj => (psh j hj).2) (M - 1) (by omega)
      rw [show 1 + (M - 1) = M from by omega] at e
      have e : phi (w.2 1) (v.2 15) (0 + (M - 1)) + it (w.2 1) lst 1 = 0 + it (w.2 1) lst M := e
      have b1 := LI_at hM (k := 1) c
      omega
  · have htN := PL_t hPL
    rw [MT_iff hPL hM hnd c1 c2]
    have ps2 : ∀ j, 1 + j < M → (v.2 14 j).toNatClampNeg = it (w.2 3) pat (min (1 + j) (t - 1)) ∧ (v.2 15 j).toNatClampNeg = it (w.2 1) lst (1 + j) := by
      intro j hj
      have a := psh j hj
      rw [Nat.zero_add] at a
      have b := LI_at hPL.1 (k := min (1 + j) (t - 1)) (by omega)
      have c := LI_at hM (k := 1 + j) (by omega)
      rw [a.1, a.2, nI_clamp (by omega), nI_clamp (by omega)]
      exact ⟨rfl, rfl⟩
    constructor
    · intro q j hj
      rw [(ps2 j (by omega)).1, (ps2 j (by omega)).2]
      exact q (1 + j) (by omega) (by omega)
    · intro q k k1 k2
      have := q (k - 1) (by omega)
      rw [(ps2 (k - 1) (by omega)).1, (ps2 (k - 1) (by omega)).2, show 1 + (k - 1) = k from by omega] at this
      exact this
