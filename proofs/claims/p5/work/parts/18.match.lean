-- 18: pairs and matches of the reference
theorem cn_all {r : Nat → Int32} {i : Nat} : ∀ k, (∀ j, j < k → ¬ kd (r (it r i j)) = 6) → cn r i k = k ∧ dn r i k = 0 := by
  intro k
  induction k with
  | zero => intro _; exact ⟨rfl, rfl⟩
  | succ k ih =>
    intro h
    obtain ⟨a, b⟩ := ih (fun j hj => h j (by omega))
    show cn r i k + (if kd (r (it r i k)) = 6 then 0 else 1) = k + 1 ∧ dn r i k + (if kd (r (it r i k)) = 6 then 1 else 0) = 0
    rw [if_neg (h k (by omega)), if_neg (h k (by omega)), a, b]
    exact ⟨rfl, rfl⟩
/-- a pattern's list: t trees, and then perhaps .. -/
def PL (r : Nat → Int32) (p n N t : Nat) : Prop := LI r p n N ∧ (∀ k, k < t → ¬ kd (r (it r p k)) = 6) ∧ ((N = t) ∨ (N = t + 1 ∧ 1 ≤ t ∧ kd (r (it r p t)) = 6))
theorem PL_of {r : Nat → Int32} {p n N : Nat} (h : LI r p n N) (h1 : ∀ k, k < N → kd (r (it r p k)) = 6 → kd (r (it r p k + 1)) = 2) (h0 : ¬ kd (r (p + 1)) = 6) : ∃ t, PL r p n N t := by
  by_cases c : ∃ k, k < N ∧ kd (r (it r p k)) = 6
  · obtain ⟨k, hk, h6⟩ := c
    have e : it r p (k + 1) = it r p k + 1 := by
      show it r p k + tl r (it r p k) = _
      rw [tl_eq (TL_atom (by rw [h6]; decide))]
    have h2 := h1 k hk h6
    rw [← e] at h2
    have eN : N = k + 1 := by
      rcases Nat.lt_or_ge (k + 1) N with g | g
      · exact absurd h2 (h.2.2.1 (k + 1) g).1
      · omega
    have k0 : 1 ≤ k := by
      rcases Nat.eq_zero_or_pos k with g | g
      · subst g; exact absurd h6 h0
      · exact g
    refine ⟨k, h, fun j hj hj6 => ?_, Or.inr ⟨eN, k0, h6⟩⟩
    have e' : it r p (j + 1) = it r p j + 1 := by
      show it r p j + tl r (it r p j) = _
      rw [tl_eq (TL_atom (by rw [hj6]; decide))]
    have h2' := h1 j (by omega) hj6
    rw [← e'] at h2'
    exact absurd h2' (h.2.2.1 (j + 1) (by omega)).1
  · exact ⟨N, h, fun k hk h6 => c ⟨k, hk, h6⟩, Or.inl rfl⟩
theorem PL_cn {r : Nat → Int32} {p n N t : Nat} (h : PL r p n N t) : cn r p N = t ∧ dn r p N = N - t := by
  obtain ⟨hL, ht, hN⟩ := h
  obtain ⟨a, b⟩ := cn_all t ht
  rcases hN with rfl | ⟨rfl, _, h6⟩
  · exact ⟨a, by omega⟩
  · show cn r p t + (if kd (r (it r p t)) = 6 then 0 else 1) = t ∧ dn r p t + (if kd (r (it r p t)) = 6 then 1 else 0) = t + 1 - t
    rw [if_pos h6, if_pos h6, a, b]
    exact ⟨rfl, by omega⟩
/-- the list at u of row can be matched by the pattern's list at p; D holds of the pairs of their items from s on -/
def MT (kp rw : Nat → Int32) (D : Nat → Nat → Prop) (s p u : Nat) : Prop := ∃ n N t m M, PL kp p n N t ∧ LI rw u m M ∧ (∀ k, k < M → ¬ kd (rw (it rw u k)) = 6) ∧ (N = t → M = t) ∧ (N = t + 1 → t ≤ M + 1) ∧ ∀ k, s ≤ k → k < M → D (it kp p (min k (t - 1))) (it rw u k)
theorem MT_mono {kp rw : Nat → Int32} {D E : Nat → Nat → Prop} {s p u : Nat} (h : MT kp rw D s p u) (hDE : ∀ q w, D q w → E q w) : MT kp rw E s p u := by
  obtain ⟨n, N, t, m, M, h1, h2, h3, h4, h5, h6⟩ := h
  exact ⟨n, N, t, m, M, h1, h2, h3, h4, h5, fun k hk hkM => hDE _ _ (h6 k hk hkM)⟩
theorem pairs_ok {n0 p u0 n N t m s : Nat} {x4 : Int32} {w : mS} {post : Int32 → mS → Prop} (hP : PL (w.2 3) p n N t) (hl : p + n ≤ 3200) (hT : TL (w.2 1) u0 m) (hl2 : u0 + m ≤ 2600) (hroom : n0 + m ≤ 401) (hs : (s = 0 ∧ x4 = 0) ∨ (s = 1 ∧ ¬ x4 = 0)) (h0 : post (-1) w)
    (h1 : ∀ M v, LI (w.2 1) u0 m M → (∀ k, k < M → ¬ kd (w.2 1 (it (w.2 1) u0 k)) = 6) → (N = t → M = t) → (N = t + 1 → t ≤ M + 1) → FR [] [14, 15] w v → (∀ j, j < n0 → v.2 14 j = w.2 14 j ∧ v.2 15 j = w.2 15 j) → (∀ k, s ≤ k → k < M → v.2 14 (n0 + (k - s)) = nI (it (w.2 3) p (min k (t - 1))) ∧ v.2 15 (n0 + (k - s)) = nI (it (w.2 1) u0 k)) → post (nI (n0 + (M - s))) v) : wp_X9_pairs (nI n0) (nI p) (nI u0) x4 w post := by
  have hm0 := hT.1
  have hn0 := hP.1.2.1.1
  refine kind_2 (by omega) ⟨fun _ => h0, fun hk => ?_⟩
  obtain ⟨M, hM⟩ := LI_ex hk hT
  have hbM := LI_at hM (Nat.le_refl M)
  have hdl := dn_le (w.2 1) u0 M
  refine dots_2 hM hl2 ⟨fun hd => ?_, fun _ => h0⟩
  have hd0 : dn (w.2 1) u0 M = 0 := by
    have hd : nI (dn (w.2 1) u0 M) ≤ nI 0 := hd
    rw [nI_leI (by omega) (by omega)] at hd
    omega
  have hnd := dn_0 hd0
  have hcM : cn (w.2 1) u0 M = M := by have := cn_dn (w.2 1) u0 M; omega
  obtain ⟨pc, pd⟩ := PL_cn hP
  have hbN := LI_at hP.1 (Nat.le_refl N)
  have htN : t ≤ N := by rcases hP.2.2 with a | ⟨a, _⟩ <;> omega
  refine count_4 hP.1 hl ?_
  refine dots_4 hP.1 hl ?_
  rw [pc, pd]
  -- the loop
  have key : (N = t → M = t) → (N = t + 1 → t ≤ M + 1) → ∀ (d k : Nat) (v : mS), k + d = M → FR [] [14, 15] w v → (∀ j, j < n0 → v.2 14 j = w.2 14 j ∧ v.2 15 j = w.2 15 j) → (∀ i, s ≤ i → i < k → v.2 14 (n0 + (i - s)) = nI (it (w.2 3) p (min i (t - 1))) ∧ v.2 15 (n0 + (i - s)) = nI (it (w.2 1) u0 i)) → mL8 (fun K => wj_X9_pairs_105 K post) (d + 1) x4 (nI t) (nI M) (nI (n0 + (k - s))) (nI (it (w.2 3) p (min k (t - 1)))) (nI (it (w.2 1) u0 k)) (nI k) v := by
    intro c1 c2 d
    induction d with
    | zero =>
      intro k v hk hF hlow hall
      have hk : k = M := by omega
      subst hk
      show wj_X9_pairs_105 _ post _ _ _ _ _ _ _ v
      exact ⟨fun _ => h1 k v hM hnd c1 c2 hF hlow hall, fun h => absurd (Int32.le_refl _) h⟩
    | succ d ih =>
      intro k v hk hF hlow hall
      have r1 : v.2 1 = w.2 1 := hF.2 1 (by decide)
      have r3 : v.2 3 = w.2 3 := hF.2 3 (by decide)
      have bk := LI_at hM (k := k) (by omega)
      have bk1 := LI_at hM (k := k + 1) (by omega)
      have Tk := (hM.2.2.1 k (by omega)).2
      have t1 : 1 ≤ t := by
        rcases hP.2.2 with a | ⟨_, a, _⟩
        · have := c1 a; omega
        · exact a
      have bq := LI_at hP.1 (k := min k (t - 1)) (by omega)
      -- behind the push
      have g143 : ∀ (x : Nat) (v2 : mS), FR [] [14, 15] w v2 → (∀ j, j < n0 → v2.2 14 j = w.2 14 j ∧ v2.2 15 j = w.2 15 j) → (∀ i, s ≤ i → i < k + 1 → v2.2 14 (n0 + (i - s)) = nI (it (w.2 3) p (min i (t - 1))) ∧ v2.2 15 (n0 + (i - s)) = nI (it (w.2 1) u0 i)) → x = n0 + (k + 1 - s) → wj_X9_pairs_143 (mL8 (fun K => wj_X9_pairs_105 K post) (d + 1)) post x4 (nI t) (nI M) (nI x) (nI (it (w.2 3) p (min k (t - 1)))) (nI (it (w.2 1) u0 k)) (nI k) v2 := by
        intro x v2 hF2 hlow2 hall2 hx
        have q1 : v2.2 1 = w.2 1 := hF2.2 1 (by decide)
        have q3 : v2.2 3 = w.2 3 := hF2.2 3 (by decide)
        refine end_2 (n := tl (w.2 1) (it (w.2 1) u0 k)) (by rw [q1]; exact Tk) ?_ ?_
        · have : it (w.2 1) u0 (k + 1) = it (w.2 1) u0 k + tl (w.2 1) (it (w.2 1) u0 k) := rfl
          omega
        · rintro _ rfl
          rw [nI_1]
          have ihk := ih (k + 1) v2 (by omega) hF2 hlow2 hall2
          rw [← hx] at ihk
          refine ⟨fun h => ?_, fun h => ?_⟩
          · rw [nI_leI (by omega) (by omega)] at h
            rintro _ rfl
            rw [nI_1]
            rw [show min (k + 1) (t - 1) = min k (t - 1) from by omega] at ihk
            exact ihk
          · rw [nI_leI (by omega) (by omega)] at h
            have ek : min k (t - 1) = k := by omega
            have ek1 : min (k + 1) (t - 1) = k + 1 := by omega
            rw [ek1] at ihk
            have Tq := (hP.1.2.2.1 k (by omega)).2
            have bq1 := LI_at hP.1 (k := k + 1) (by omega)
            rw [ek]
            refine end_4 (n := tl (w.2 3) (it (w.2 3) p k)) (by rw [q3]; exact Tq) ?_ ?_
            · have : it (w.2 3) p (k + 1) = it (w.2 3) p k + tl (w.2 3) (it (w.2 3) p k) := rfl
              omega
            · rintro _ rfl
              rw [nI_1]
              exact ihk
      have push : s ≤ k → wj_X9_pairs_122 (mL8 (fun K => wj_X9_pairs_105 K post) (d + 1)) post x4 (nI t) (nI M) (nI (n0 + (k - s))) (nI (it (w.2 3) p (min k (t - 1)))) (nI (it (w.2 1) u0 k)) (nI k) v := by
        intro hsk
        have room : n0 + (k - s) < 400 := by omega
        refine ⟨vp_in_nI room (by omega), ?_⟩
        rintro _ rfl
        refine ⟨vp_in_nI room (by omega), ?_⟩
        rintro _ rfl _ rfl
        rw [nI_clamp (by omega), nI_1]
        refine g143 (n0 + (k - s) + 1) _ (FR_put (FR_put hF (by decide)) (by decide)) (fun j hj => ?_) (fun i hi hik => ?_) (by omega)
        · rw [mPut_other (by decide : (14 : Nat) ≠ 15), mPut_same, mPut_same, mPut_other (by decide : (15 : Nat) ≠ 14), pk_un (by omega), pk_un (by omega)]
          exact hlow j hj
        · rw [mPut_other (by decide : (14 : Nat) ≠ 15), mPut_same, mPut_same, mPut_other (by decide : (15 : Nat) ≠ 14)]
          by_cases e : i = k
          · subst e; rw [pk_us, pk_us]; exact ⟨rfl, rfl⟩
          · rw [pk_un (by omega), pk_un (by omega)]; exact hall i hi (by omega)
      show wj_X9_pairs_105 _ post _ _ _ _ _ _ _ v
      refine ⟨fun h => absurd h (by rw [nI_leI (by omega) (by omega)]; omega), fun _ => ⟨fun hk0 => push ?_, fun hk0 => ⟨fun hx => ?_, fun hx => push ?_⟩⟩⟩
      · have hk0 : nI 0 < nI k := hk0
        rw [nI_ltI (by omega) (by omega)] at hk0
        omega
      · have hk0 : ¬ nI 0 < nI k := hk0
        rw [nI_ltI (by omega) (by omega)] at hk0
        have es : s = 1 := by
          rcases hs with ⟨_, b⟩ | ⟨a, _⟩
          · exact absurd b hx
          · exact a
        have hk0 : k = 0 := by omega
        subst hk0
        rw [show n0 + (0 - s) = n0 from by omega]
        exact g143 n0 v hF hlow (fun i hi hik => by omega) (by omega)
      · have : s = 0 := by
          rcases hs with ⟨a, _⟩ | ⟨_, b⟩
          · exact a
          · exact absurd hx b
        omega
  have start : (N = t → M = t) → (N = t + 1 → t ≤ M + 1) → wj_X9_pairs_89 post (nI n0) (nI p) (nI u0) x4 (nI t) (nI M) w := by
    intro c1 c2
    rintro _ rfl _ rfl
    rw [nI_1, nI_1]
    have := key c1 c2 M 0 w (by omega) FR.rf (fun j _ => ⟨rfl, rfl⟩) (fun i hi hik => by omega)
    rw [show n0 + (0 - s) = n0 from by omega, show min 0 (t - 1) = 0 from by omega] at this
    exact ⟨M + 1, this⟩
  refine ⟨fun hq => ?_, fun hq => ?_⟩
  · have eN : N = t := by
      have hq : nI (N - t) ≤ nI 0 := hq
      rw [nI_leI (by omega) (by omega)] at hq; omega
    refine count_2 hM hl2 ?_
    rw [hcM]
    refine ⟨fun _ => ⟨fun he => ?_, fun _ => h0⟩, fun h => absurd rfl h⟩
    have := (nI_eq (by omega) (by omega)).mp he
    exact start (fun _ => this) (fun h => by omega)
  · have eN : N = t + 1 := by
      have hq : ¬ nI (N - t) ≤ nI 0 := hq
      rw [nI_leI (by omega) (by omega)] at hq
      rcases hP.2.2 with a | ⟨a, _⟩ <;> omega
    have t1 : 1 ≤ t := by rcases hP.2.2 with a | ⟨_, a, _⟩ <;> omega
    refine count_2 hM hl2 ?_
    rw [hcM]
    refine ⟨fun h => absurd h (by decide), fun _ => ?_⟩
    rintro _ rfl
    obtain ⟨t', rfl⟩ : ∃ t', t = t' + 1 := ⟨t - 1, by omega⟩
    rw [nI_pred]
    refine ⟨fun he => ?_, fun _ => h0⟩
    rw [nI_leI (by omega) (by omega)] at he
    exact start (fun h => by omega) (fun _ => by omega)
