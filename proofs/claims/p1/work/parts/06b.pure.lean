-- 09: what the calls do on a new object, over the predicates of 04
def tyB (x : Int32) (j : Nat) : Int32 := (x >>> (((8 : Int32) * nI j) &&& 31)) &&& 255
def tyOk (x : Int32) (j : Nat) : Prop := ¬ tyB x j < 32 ∧ tyB x j ≤ 126
def tyPut (x : Int32) : Nat → mS → mS
  | 0, u => u
  | j + 1, u => tyPut x j (mSet (mPut u 0 (u.1 0).toNatClampNeg (tyB x j)) 0 (u.1 0 + 1))
def tyC (x n : Int32) (t : Nat) : Prop := ∃ N : Nat, n = nI N ∧ 1 ≤ N ∧ N ≤ 4 ∧ t + N ≤ 120 ∧ ∀ j, j < N → tyOk x j
theorem ty_le {a b : Nat} (ha : a < 2 ^ 31) (hb : b < 2 ^ 31) (h : ¬ a ≤ b) : ¬ nI a ≤ nI b := by rw [nI_leI ha hb]; exact h
theorem ty_i {N : Nat} {i : Int32} (h : (N = 0 ∧ i < 0) ∨ ∃ M, N = M + 1 ∧ i = nI M) : ∀ M, N = M + 1 → i = nI M := by
  intro M hM
  rcases h with ⟨h, _⟩ | ⟨K, h, e⟩
  · omega
  · have : K = M := by omega
    rw [← this]; exact e
theorem ty_prev (M : Nat) (hM : M < 2 ^ 31) : (M = 0 ∧ nI M + (-1 : Int32) < 0) ∨ ∃ K, M = K + 1 ∧ nI M + (-1 : Int32) = nI K := by
  cases M with
  | zero => exact Or.inl ⟨rfl, by decide⟩
  | succ K => exact Or.inr ⟨K, rfl, pk_m1 K⟩
theorem tyA2 {x : Int32} {post : Int32 → mS → Prop} : ∀ (N : Nat) (i : Int32) (t : Nat) (u : mS), ((N = 0 ∧ i < 0) ∨ ∃ M, N = M + 1 ∧ i = nI M) → u.1 0 = nI t → t + N ≤ 120 → post 1 (tyPut x N u) → mL3 (fun K => wj_X8_type_68 K post) (N + 1) x i u := by
  intro N
  induction N with
  | zero =>
    intro i t u hi ht h120 hp
    have hi : i < 0 := by
      rcases hi with ⟨_, h⟩ | ⟨M, h, _⟩
      · exact h
      · omega
    show wj_X8_type_68 _ post x i u
    exact ⟨fun _ => hp, fun h => absurd hi h⟩
  | succ N ih =>
    intro i t u hi ht h120 hp
    have hi := ty_i hi N rfl
    subst hi
    show wj_X8_type_68 _ post x (nI N) u
    refine ⟨fun h => absurd h (nI_pos (by omega)), fun _ => ?_⟩
    rintro _ rfl _ rfl _ rfl
    show wp_X8_appendTyped (tyB x N) u _
    intro y1 e1
    rw [ht] at e1; subst e1
    refine ⟨fun h => absurd h (nI_pos (by omega)), fun _ => ?_⟩
    intro y3 e3
    rw [ht] at e3; subst e3
    refine ⟨fun h => absurd h (by rw [show (120 : Int32) = nI 120 from by decide]; exact ty_le (by omega) (by omega) (by omega)), fun _ => ?_⟩
    intro y5 e5
    rw [ht] at e5; subst e5
    refine ⟨vp_in_nI (by omega) (by omega), ?_⟩
    rintro u6 rfl y7 rfl y8 rfl u9 rfl y20 rfl
    refine ih _ (t + 1) _ (ty_prev N (by omega)) ?_ (by omega) ?_
    · show u.1 0 + 1 = nI (t + 1)
      rw [ht, nI_1]
    · have e : tyPut x (N + 1) u = tyPut x N (mSet (mPut u 0 (nI t).toNatClampNeg (tyB x N)) 0 ((mPut u 0 (nI t).toNatClampNeg (tyB x N)).1 0 + 1)) := by
        show tyPut x N (mSet (mPut u 0 (u.1 0).toNatClampNeg (tyB x N)) 0 (u.1 0 + 1)) = _
        rw [ht]
        show _ = tyPut x N (mSet (mPut u 0 (nI t).toNatClampNeg (tyB x N)) 0 (u.1 0 + 1))
        rw [ht]
      rw [← e]; exact hp
theorem tyA1 {x : Int32} {post : Int32 → mS → Prop} {N t : Nat} {u : mS} (h1N : 1 ≤ N) (hN : N ≤ 4) (ht : u.1 0 = nI t) (h120 : t + N ≤ 120) (h1 : (∀ j, j < N → tyOk x j) → post 1 (tyPut x N u)) (h0 : ¬ (∀ j, j < N → tyOk x j) → post 0 u) : ∀ (d j : Nat), j + d = N → (∀ i, i < j → tyOk x i) → mL4 (fun K => wj_X8_type_25 K post) (d + 1) x (nI N) (nI j) u := by
  intro d
  induction d with
  | zero =>
    intro j hj hok
    have hj : j = N := by omega
    subst hj
    show wj_X8_type_25 _ post x (nI j) (nI j) u
    refine ⟨fun _ => ?_, fun h => absurd (Int32.le_refl _) h⟩
    rintro _ rfl
    refine ⟨j + 1, tyA2 j _ t u (Or.inr ⟨j - 1, by omega, ?_⟩) ht h120 (h1 hok)⟩
    have : j = (j - 1) + 1 := by omega
    rw [this, nI_pred]; rfl
  | succ d ih =>
    intro j hj hok
    show wj_X8_type_25 _ post x (nI N) (nI j) u
    refine ⟨fun h => absurd h (ty_le (by omega) (by omega) (by omega)), fun _ => ?_⟩
    rintro _ rfl _ rfl y10 e10
    have e10 : y10 = tyB x j := e10
    subst e10
    refine ⟨fun h => h0 (fun hall => (hall j (by omega)).1 h), fun hlo => ⟨fun hhi => ?_, fun h => h0 (fun hall => h (hall j (by omega)).2)⟩⟩
    rintro _ rfl
    rw [nI_1]
    exact ih (j + 1) (by omega) (fun i hi => by
      rcases Nat.lt_or_ge i j with h | h
      · exact hok i h
      · have : i = j := by omega
        subst this
        exact ⟨hlo, hhi⟩)
theorem tyM2 {x : Int32} {post : Int32 → mS → Prop} : ∀ (N : Nat) (i : Int32) (t : Nat) (u : mS), ((N = 0 ∧ i < 0) ∨ ∃ M, N = M + 1 ∧ i = nI M) → u.1 0 = nI t → t + N ≤ 120 → post 1 (tyPut x N u) → mL3 (fun K => wj_X9_type_68 K post) (N + 1) x i u := by
  intro N
  induction N with
  | zero =>
    intro i t u hi ht h120 hp
    have hi : i < 0 := by
      rcases hi with ⟨_, h⟩ | ⟨M, h, _⟩
      · exact h
      · omega
    show wj_X9_type_68 _ post x i u
    exact ⟨fun _ => hp, fun h => absurd hi h⟩
  | succ N ih =>
    intro i t u hi ht h120 hp
    have hi := ty_i hi N rfl
    subst hi
    show wj_X9_type_68 _ post x (nI N) u
    refine ⟨fun h => absurd h (nI_pos (by omega)), fun _ => ?_⟩
    intro y15 e15
    rw [ht] at e15; subst e15
    rintro _ rfl _ rfl y18 e18
    have e18 : y18 = tyB x N := e18
    subst e18
    refine ⟨vp_in_nI (by omega) (by omega), ?_⟩
    rintro u6 rfl y7 rfl y8 rfl u9 rfl y20 rfl
    refine ih _ (t + 1) _ (ty_prev N (by omega)) ?_ (by omega) ?_
    · show u.1 0 + 1 = nI (t + 1)
      rw [ht, nI_1]
    · have e : tyPut x (N + 1) u = tyPut x N (mSet (mPut u 0 (nI t).toNatClampNeg (tyB x N)) 0 ((mPut u 0 (nI t).toNatClampNeg (tyB x N)).1 0 + 1)) := by
        show tyPut x N (mSet (mPut u 0 (u.1 0).toNatClampNeg (tyB x N)) 0 (u.1 0 + 1)) = _
        rw [ht]
        show _ = tyPut x N (mSet (mPut u 0 (nI t).toNatClampNeg (tyB x N)) 0 (u.1 0 + 1))
        rw [ht]
      rw [← e]; exact hp
theorem tyM1 {x : Int32} {post : Int32 → mS → Prop} {N t : Nat} {u : mS} (h1N : 1 ≤ N) (hN : N ≤ 4) (ht : u.1 0 = nI t) (h120 : t + N ≤ 120) (h1 : (∀ j, j < N → tyOk x j) → post 1 (tyPut x N u)) (h0 : ¬ (∀ j, j < N → tyOk x j) → post 0 u) : ∀ (d j : Nat), j + d = N → (∀ i, i < j → tyOk x i) → mL4 (fun K => wj_X9_type_25 K post) (d + 1) x (nI N) (nI j) u := by
  intro d
  induction d with
  | zero =>
    intro j hj hok
    have hj : j = N := by omega
    subst hj
    show wj_X9_type_25 _ post x (nI j) (nI j) u
    refine ⟨fun _ => ?_, fun h => absurd (Int32.le_refl _) h⟩
    rintro _ rfl
    refine ⟨j + 1, tyM2 j _ t u (Or.inr ⟨j - 1, by omega, ?_⟩) ht h120 (h1 hok)⟩
    have : j = (j - 1) + 1 := by omega
    rw [this, nI_pred]; rfl
  | succ d ih =>
    intro j hj hok
    show wj_X9_type_25 _ post x (nI N) (nI j) u
    refine ⟨fun h => absurd h (ty_le (by omega) (by omega) (by omega)), fun _ => ?_⟩
    rintro _ rfl _ rfl y10 e10
    have e10 : y10 = tyB x j := e10
    subst e10
    refine ⟨fun h => h0 (fun hall => (hall j (by omega)).1 h), fun hlo => ⟨fun hhi => ?_, fun h => h0 (fun hall => h (hall j (by omega)).2)⟩⟩
    rintro _ rfl
    rw [nI_1]
    exact ih (j + 1) (by omega) (fun i hi => by
      rcases Nat.lt_or_ge i j with h | h
      · exact hok i h
      · have : i = j := by omega
        subst this
        exact ⟨hlo, hhi⟩)
theorem ty_n {n : Int32} (h1 : ¬ n < 1) (h4 : ¬ 4 < n) : ∃ N : Nat, n = nI N ∧ 1 ≤ N ∧ N ≤ 4 := by
  have a := Int32.not_lt.mp h1
  have b := Int32.not_lt.mp h4
  rw [Int32.le_iff_toInt_le] at a b
  have a : (1 : Int) ≤ n.toInt := a
  have b : n.toInt ≤ (4 : Int) := b
  refine ⟨n.toInt.toNat, ?_, by omega, by omega⟩
  apply Int32.toInt_inj.mp
  rw [nI_toInt (by omega)]
  omega
theorem typeA {x n : Int32} {post : Int32 → mS → Prop} {t : Nat} {u : mS} (ht : u.1 0 = nI t) (ht2 : t ≤ 120) (h1 : ∀ N : Nat, n = nI N → tyC x n t → post 1 (tyPut x N u)) (h0 : ¬ tyC x n t → post 0 u) : wp_X8_type x n u post := by
  refine ⟨fun h => h0 ?_, fun hn1 => ⟨fun h => h0 ?_, fun hn4 => ?_⟩⟩
  · rintro ⟨N, rfl, hN, hN4, _⟩
    rw [show (1 : Int32) = nI 1 from by decide, nI_ltI (by omega) (by omega)] at h
    omega
  · rintro ⟨N, rfl, hN, hN4, _⟩
    rw [show (4 : Int32) = nI 4 from by decide, nI_ltI (by omega) (by omega)] at h
    omega
  · obtain ⟨N, rfl, hN, hN4⟩ := ty_n hn1 hn4
    intro y3 e3
    rw [ht] at e3; subst e3
    intro y4 e4
    rw [nI_add] at e4; subst e4
    have hc : (nI (t + N) ≤ 120) ↔ t + N ≤ 120 := by rw [show (120 : Int32) = nI 120 from by decide, nI_leI (by omega) (by omega)]
    have uniq : ∀ M : Nat, nI N = nI M → M ≤ 4 → M = N := fun M e hM => ((nI_eq (by omega) (by omega)).mp e).symm
    refine ⟨fun h => ?_, fun h => h0 ?_⟩
    · have h := hc.mp h
      refine ⟨N + 1, ?_⟩
      refine tyA1 (N := N) hN hN4 ht h (fun hall => h1 N rfl ⟨N, rfl, hN, hN4, h, hall⟩) (fun hnot => h0 ?_) N 0 (by omega) (fun i hi => by omega)
      rintro ⟨M, e, _, hM4, _, hall⟩
      have := uniq M e hM4
      subst this
      exact hnot hall
    · rintro ⟨M, e, _, hM4, hM, _⟩
      have := uniq M e hM4
      subst this
      exact h (hc.mpr hM)
theorem typeM {x n : Int32} {post : Int32 → mS → Prop} {t : Nat} {u : mS} (ht : u.1 0 = nI t) (ht2 : t ≤ 120) (h1 : ∀ N : Nat, n = nI N → tyC x n t → post 1 (tyPut x N u)) (h0 : ¬ tyC x n t → post 0 u) : wp_X9_type x n u post := by
  refine ⟨fun h => h0 ?_, fun hn1 => ⟨fun h => h0 ?_, fun hn4 => ?_⟩⟩
  · rintro ⟨N, rfl, hN, hN4, _⟩
    rw [show (1 : Int32) = nI 1 from by decide, nI_ltI (by omega) (by omega)] at h
    omega
  · rintro ⟨N, rfl, hN, hN4, _⟩
    rw [show (4 : Int32) = nI 4 from by decide, nI_ltI (by omega) (by omega)] at h
    omega
  · obtain ⟨N, rfl, hN, hN4⟩ := ty_n hn1 hn4
    intro y3 e3
    rw [ht] at e3; subst e3
    intro y4 e4
    rw [nI_add] at e4; subst e4
    have hc : (nI (t + N) ≤ 120) ↔ t + N ≤ 120 := by rw [show (120 : Int32) = nI 120 from by decide, nI_leI (by omega) (by omega)]
    have uniq : ∀ M : Nat, nI N = nI M → M ≤ 4 → M = N := fun M e hM => ((nI_eq (by omega) (by omega)).mp e).symm
    refine ⟨fun h => ?_, fun h => h0 ?_⟩
    · have h := hc.mp h
      refine ⟨N + 1, ?_⟩
      refine tyM1 (N := N) hN hN4 ht h (fun hall => h1 N rfl ⟨N, rfl, hN, hN4, h, hall⟩) (fun hnot => h0 ?_) N 0 (by omega) (fun i hi => by omega)
      rintro ⟨M, e, _, hM4, _, hall⟩
      have := uniq M e hM4
      subst this
      exact hnot hall
    · rintro ⟨M, e, _, hM4, hM, _⟩
      have := uniq M e hM4
      subst this
      exact h (hc.mpr hM)
theorem takeA {u : mS} {post : Int32 → mS → Prop} (h0 : u.1 0 = 0) (hp : post 0 (mSet (mSet (mSet (mSet u 1 480) 2 (-1)) 3 0) 0 0)) : wp_X8_takeTyped u post := by
  unfold wp_X8_takeTyped
  intro y1 e1
  rw [h0] at e1; subst e1
  show wp_X3_read_1 0 u _
  unfold wp_X3_read_1
  show wp_X5_restart u _
  unfold wp_X5_restart
  rintro u1 rfl u2 rfl u3 rfl y4 e4
  have e4 : y4 = 0 := by rw [e4]; decide
  subst e4
  refine ⟨1, ?_⟩
  show wj_X3_read_1_25 _ _ 0 0 0 _
  refine ⟨fun h => absurd h (by decide), fun _ => ⟨fun _ => ?_, fun h => absurd (by decide) h⟩⟩
  show wp_X3_isWhole _ _
  intro y1 e1
  have e1 : y1 = 0 := e1
  subst e1
  refine ⟨fun h => absurd rfl h, fun _ => ?_⟩
  intro y3 e3
  have e3 : y3 = 480 := e3
  subst e3
  refine ⟨fun _ => ?_, fun h => absurd (by decide) h⟩
  refine ⟨fun _ => ?_, fun h => absurd rfl h⟩
  rintro u4 rfl
  exact hp
theorem rulesA {u : mS} {post : Int32 → mS → Prop} (h0 : u.1 0 = 0) (hp : ∀ w, post (-1) w) : wp_X8_rules u post := by
  unfold wp_X8_rules
  refine takeA h0 ⟨fun h => absurd h (by decide), fun _ => ?_⟩
  rintro _ rfl
  exact hp _
theorem readM {u : mS} {post : Int32 → mS → Prop} (h0 : u.1 0 = 0) (hp : post 0 u) : wp_X9_read u post := by
  refine ⟨1, ?_⟩
  show wj_X9_read_9 (mL5 (fun K => wj_X9_read_9 K post) 0) post 0 0 0 0 u
  intro y1 e1
  rw [h0] at e1; subst e1
  refine ⟨fun _ => ⟨fun h => absurd h (by decide), fun _ => ⟨fun h => absurd rfl h, fun _ => ?_⟩⟩, fun h => absurd (by decide) h⟩
  intro y17 e17
  rw [h0] at e17; subst e17
  exact hp
theorem rulesM {u : mS} {post : Int32 → mS → Prop} (h0 : u.1 0 = 0) (hp : ∀ w, post (-1) w) : wp_X9_rules u post := by
  unfold wp_X9_rules
  refine readM h0 ?_
  rintro _ rfl
  refine ⟨fun h => absurd h (by decide), fun _ => ?_⟩
  rintro _ rfl
  exact hp _
theorem expA {x : Int32} {u : mS} {post : Int32 → mS → Prop} (h0 : u.1 0 = 0) (h7 : (x < 0 ∨ ¬ x ≤ 8) → ∀ w, post (-7000) w) (h1 : ¬ x < 0 → x ≤ 8 → ∀ w, post (-1) w) : wp_X8_expand x u post := by
  unfold wp_X8_expand
  refine ⟨fun h => h7 (Or.inl h) _, fun hx => ⟨fun hx8 => ?_, fun h => h7 (Or.inr h) _⟩⟩
  refine takeA h0 ?_
  rintro u1 rfl u2 rfl
  refine ⟨fun h => absurd h (by decide), fun _ => ?_⟩
  rintro u1 rfl u2 rfl u3 rfl u4 rfl _ rfl _ rfl _ rfl
  refine ⟨fun h => absurd h (by decide), fun _ => ?_⟩
  rintro _ rfl
  exact h1 hx hx8 _
theorem bindM {x1 x2 x3 x4 x5 : Int32} {u : mS} {post : mS → Prop} (k : Nat) (h : u.1 4 = nI k) (hk : k < 40) (hp : ∀ w : mS, w.1 4 = nI (k + 1) → w.1 3 = u.1 3 → post w) : wp_X9_bind x1 x2 x3 x4 x5 u post := by
  intro y1 e1
  rw [h] at e1; subst e1
  refine ⟨fun _ => ?_, fun e => absurd e (by rw [show (40 : Int32) = nI 40 from by decide, nI_eq (by omega) (by omega)]; omega)⟩
  have hin : vp_in (nI k) 40 := vp_in_nI hk (by omega)
  intro y3 e3
  rw [h] at e3; subst e3
  refine ⟨hin, ?_⟩
  rintro u4 rfl y5 e5
  have e5 : y5 = nI k := e5.trans h
  subst e5
  refine ⟨hin, ?_⟩
  rintro u6 rfl y7 e7
  have e7 : y7 = nI k := e7.trans h
  subst e7
  refine ⟨hin, ?_⟩
  rintro u8 rfl y9 e9
  have e9 : y9 = nI k := e9.trans h
  subst e9
  refine ⟨hin, ?_⟩
  rintro u10 rfl y11 e11
  have e11 : y11 = nI k := e11.trans h
  subst e11
  refine ⟨hin, ?_⟩
  rintro u12 rfl y13 e13
  have e13 : y13 = nI k := e13.trans h
  subst e13
  rintro y14 rfl u15 rfl
  exact hp _ (nI_1 k) rfl
theorem beginM {u : mS} {post : mS → Prop} (h3 : u.1 3 = 0) (hp : ∀ w, post w) : wp_X9_beginning u post := by
  rintro u1 rfl
  have h3' : (mSet u 4 0).1 3 = 0 := h3
  refine bindM 0 rfl (by omega) (fun w1 a1 b1 => ?_)
  refine bindM 1 a1 (by omega) (fun w2 a2 b2 => ?_)
  refine bindM 2 a2 (by omega) (fun w3 a3 b3 => ?_)
  refine bindM 3 a3 (by omega) (fun w4 a4 b4 => ?_)
  refine bindM 4 a4 (by omega) (fun w5 a5 b5 => ?_)
  refine bindM 5 a5 (by omega) (fun w6 a6 b6 => ?_)
  refine bindM 6 a6 (by omega) (fun w7 a7 b7 => ?_)
  refine bindM 7 a7 (by omega) (fun w8 a8 b8 => ?_)
  have e : w8.1 3 = 0 := by rw [b8, b7, b6, b5, b4, b3, b2, b1]; exact h3'
  refine ⟨1, ?_⟩
  show wj_X9_beginning_90 _ _ 0 w8
  intro y18 e18
  rw [e] at e18; subst e18
  refine ⟨fun _ => ?_, fun h => absurd (by decide) h⟩
  rintro _ rfl _ rfl
  exact hp _
theorem expM {x : Int32} {u : mS} {post : Int32 → mS → Prop} (h0 : u.1 0 = 0) (h3 : u.1 3 = 0) (h7 : (x < 0 ∨ ¬ x ≤ 8) → ∀ w, post (-7000) w) (h1 : ¬ x < 0 → x ≤ 8 → ∀ w, post (-1) w) : wp_X9_expand x u post := by
  unfold wp_X9_expand
  refine ⟨fun h => h7 (Or.inl h) _, fun hx => ⟨fun hx8 => ?_, fun h => h7 (Or.inr h) _⟩⟩
  refine readM h0 ?_
  rintro u5 rfl u6 rfl u7 rfl u8 rfl u9 rfl u10 rfl u11 rfl
  refine ⟨fun _ => ?_, fun h => absurd (by decide) h⟩
  rintro u13 rfl u14 rfl
  refine beginM h3 (fun w => ?_)
  refine ⟨fun h => absurd h (by decide), fun _ => ?_⟩
  rintro _ rfl
  exact h1 hx hx8 _
theorem atA {x : Int32} {u : mS} {post : Int32 → mS → Prop} (h6 : u.1 6 = 0) (hp : ∀ w, post (-1) w) : wp_X8_at x u post := by
  show wp_X2_charAt x u _
  refine ⟨fun _ => hp _, fun hx => ?_⟩
  intro y2 e2
  rw [h6] at e2; subst e2
  exact ⟨fun _ => hp _, fun h => absurd (Int32.not_lt.mp hx) h⟩
theorem atM {x : Int32} {u : mS} {post : Int32 → mS → Prop} (h9 : u.1 9 = 0) (hp : ∀ w, post (-1) w) : wp_X9_at x u post := by
  refine ⟨fun _ => hp _, fun hx => ?_⟩
  intro y2 e2
  rw [h9] at e2; subst e2
  exact ⟨fun _ => hp _, fun h => absurd (Int32.not_lt.mp hx) h⟩
def cntV (x : Int32) : Int32 := if x = 0 ∨ x = 1 ∨ x = 2 ∨ x = 3 then 0 else -1
theorem cntV_no {x : Int32} (h0 : ¬ x = 0) (h1 : ¬ x = 1) (h2 : ¬ x = 2) (h3 : ¬ x = 3) : cntV x = -1 := by
  unfold cntV
  rw [if_neg]
  rintro (h | h | h | h)
  · exact h0 h
  · exact h1 h
  · exact h2 h
  · exact h3 h
theorem countA {x : Int32} {u : mS} {post : Int32 → mS → Prop} (h8 : u.1 8 = 0) (h9 : u.1 9 = 0) (h10 : u.1 10 = 0) (h11 : u.1 11 = 0) (hp : post (cntV x) u) : wp_X8_count x u post := by
  refine ⟨?_, ?_, ?_, ?_, ?_⟩
  · rintro rfl y e
    rw [h8] at e; subst e; exact hp
  · rintro rfl y e
    rw [h9] at e; subst e; exact hp
  · rintro rfl y e
    rw [h10] at e; subst e; exact hp
  · rintro rfl y e
    rw [h11] at e; subst e; exact hp
  · intro a b c d
    rw [cntV_no a b c d] at hp
    exact hp
theorem countM {x : Int32} {u : mS} {post : Int32 → mS → Prop} (h13 : u.1 13 = 0) (h4 : u.1 4 = 0) (h5 : u.1 5 = 0) (h14 : u.1 14 = 0) (h15 : u.1 15 = 0) (hp : post (cntV x) u) : wp_X9_count_ x u post := by
  refine ⟨?_, ?_, ?_, ?_, ?_⟩
  · rintro rfl y e
    rw [h13] at e; subst e; exact hp
  · rintro rfl y e z f y4 g
    rw [h4] at e; rw [h5] at f; subst e; subst f; subst g; exact hp
  · rintro rfl y e
    rw [h14] at e; subst e; exact hp
  · rintro rfl y e
    rw [h15] at e; subst e; exact hp
  · intro a b c d
    rw [cntV_no a b c d] at hp
    exact hp
