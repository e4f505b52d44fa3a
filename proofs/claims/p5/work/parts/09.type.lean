-- 09: what the calls do on a new object, over the predicates of 04
def tyB (x : Int32) (j : Nat) : Int32 := (x >>> (((8 : Int32) * nI j) &&& 31)) &&& 255
def tyOk (x : Int32) (j : Nat) : Prop := ¬ tyB x j < 32 ∧ tyB x j ≤ 126
def tyPut (x : Int32) : Nat → mS → mS
  | 0, u => u
  | j + 1, u => tyPut x j (mSet (mPut u 0 (u.1 0).toNatClampNeg (tyB x j)) 0 (u.1 0 + 1))
def tyC (x n : Int32) (t : Nat) : Prop := ∃ N : Nat, n = nI N ∧ 1 ≤ N ∧ N ≤ 4 ∧ t + N ≤ 120 ∧ ∀ j, j < N → tyOk x j
theorem ty_le {a b : Nat} (ha : a < 2 ^ 31) (hb : b < 2 ^ 31) (h : ¬ a ≤ b) : ¬ nI a ≤ nI b := by rw [nI_leI ha hb]; exact h
theorem ty_i {N : Nat} {i : Int32} (h : (N = 0 ∧ i < 0) ∨ ∃ M, N = M + 1 ∧ i = nI M) : ∀ M, N = M + 1 → i = nI M := by
  intro M hM
  rcases h with ⟨h, _⟩ | ⟨K, h, e⟩
  · omega
  · have : K = M := by omega
    rw [← this]; exact e
theorem ty_prev (M : Nat) (hM : M < 2 ^ 31) : (M = 0 ∧ nI M + (-1 : Int32) < 0) ∨ ∃ K, M = K + 1 ∧ nI M + (-1 : Int32) = nI K := by
  cases M with
  | zero => exact Or.inl ⟨rfl, by decide⟩
  | succ K => exact Or.inr ⟨K, rfl, pk_m1 K⟩
theorem tyA2 {x : Int32} {post : Int32 → mS → Prop} : ∀ (N : Nat) (i : Int32) (t : Nat) (u : mS), ((N = 0 ∧ i < 0) ∨ ∃ M, N = M + 1 ∧ i = nI M) → u.1 0 = nI t → t + N ≤ 120 → post 1 (tyPut x N u) → mL3 (fun K => wj_X8_type_68 K post) (N + 1) x i u := by
  intro N
  induction N with
  | zero =>
    intro i t u hi ht h120 hp
    have hi : i < 0 := by
      rcases hi with ⟨_, h⟩ | ⟨M, h, _⟩
      · exact h
      · omega
    show wj_X8_type_68 _ post x i u
    exact ⟨fun _ => hp, fun h => absurd hi h⟩
  | succ N ih =>
    intro i t u hi ht h120 hp
    have hi := ty_i hi N rfl
    subst hi
    show wj_X8_type_68 _ post x (nI N) u
    refine ⟨fun h => absurd h (nI_pos (by omega)), fun _ => ?_⟩
    rintro _ rfl _ rfl _ rfl
    show wp_X8_appendTyped (tyB x N) u _
    intro y1 e1
    rw [ht] at e1; subst e1
    refine ⟨fun h => absurd h (nI_pos (by omega)), fun _ => ?_⟩
    intro y3 e3
    rw [ht] at e3; subst e3
    refine ⟨fun h => absurd h (by rw [show (120 : Int32) = nI 120 from by decide]; exact ty_le (by omega) (by omega) (by omega)), fun _ => ?_⟩
    intro y5 e5
    rw [ht] at e5; subst e5
    refine ⟨vp_in_nI (by omega) (by omega), ?_⟩
    rintro u6 rfl y7 rfl y8 rfl u9 rfl y20 rfl
    refine ih _ (t + 1) _ (ty_prev N (by omega)) ?_ (by omega) ?_
    · show u.1 0 + 1 = nI (t + 1)
      rw [ht, nI_1]
    · have e : tyPut x (N + 1) u = tyPut x N (mSet (mPut u 0 (nI t).toNatClampNeg (tyB x N)) 0 ((mPut u 0 (nI t).toNatClampNeg (tyB x N)).1 0 + 1)) := by
        show tyPut x N (mSet (mPut u 0 (u.1 0).toNatClampNeg (tyB x N)) 0 (u.1 0 + 1)) = _
        rw [ht]
        show _ = tyPut x N (mSet (mPut u 0 (nI t).toNatClampNeg (tyB x N)) 0 (u.1 0 + 1))
        rw [ht]
      rw [← e]; exact hp
theorem tyA1 {x : Int32} {post : Int32 → mS → Prop} {N t : Nat} {u : mS} (h1N : 1 ≤ N) (hN : N ≤ 4) (ht : u.1 0 = nI t) (h120 : t + N ≤ 120) (h1 : (∀ j, j < N → tyOk x j) → post 1 (tyPut x N u)) (h0 : ¬ (∀ j, j < N → tyOk x j) → post 0 u) : ∀ (d j : Nat), j + d = N → (∀ i, i < j → tyOk x i) → mL4 (fun K => wj_X8_type_25 K post) (d + 1) x (nI N) (nI j) u := by
  intro d
  induction d with
  | zero =>
    intro j hj hok
    have hj : j = N := by omega
    subst hj
    show wj_X8_type_25 _ post x (nI j) (nI j) u
    refine ⟨fun _ => ?_, fun h => absurd (Int32.le_refl _) h⟩
    rintro _ rfl
    refine ⟨j + 1, tyA2 j _ t u (Or.inr ⟨j - 1, by omega, ?_⟩) ht h120 (h1 hok)⟩
    have : j = (j - 1) + 1 := by omega
    rw [this, nI_pred]; rfl
  | succ d ih =>
    intro j hj hok
    show wj_X8_type_25 _ post x (nI N) (nI j) u
    refine ⟨fun h => absurd h (ty_le (by omega) (by omega) (by omega)), fun _ => ?_⟩
    rintro _ rfl _ rfl y10 e10
    have e10 : y10 = tyB x j := e10
    subst e10
    refine ⟨fun h => h0 (fun hall => (hall j (by omega)).1 h), fun hlo => ⟨fun hhi => ?_, fun h => h0 (fun hall => h (hall j (by omega)).2)⟩⟩
    rintro _ rfl
    rw [nI_1]
    exact ih (j + 1) (by omega) (fun i hi => by
      rcases Nat.lt_or_ge i j with h | h
      · exact hok i h
      · have : i = j := by omega
        subst this
        exact ⟨hlo, hhi⟩)
theorem tyM2 {x : Int32} {post : Int32 → mS → Prop} : ∀ (N : Nat) (i : Int32) (t : Nat) (u : mS), ((N = 0 ∧ i < 0) ∨ ∃ M, N = M + 1 ∧ i = nI M) → u.1 0 = nI t → t + N ≤ 120 → post 1 (tyPut x N u) → mL3 (fun K => wj_X9_type_68 K post) (N + 1) x i u := by
  intro N
  induction N with
  | zero =>
    intro i t u hi ht h120 hp
    have hi : i < 0 := by
      rcases hi with ⟨_, h⟩ | ⟨M, h, _⟩
      · exact h
      · omega
    show wj_X9_type_68 _ post x i u
    exact ⟨fun _ => hp, fun h => absurd hi h⟩
  | succ N ih =>
    intro i t u hi ht h120 hp
    have hi := ty_i hi N rfl
    subst hi
    show wj_X9_type_68 _ post x (nI N) u
    refine ⟨fun h => absurd h (nI_pos (by omega)), fun _ => ?_⟩
    intro y15 e15
    rw [ht] at e15; subst e15
    rintro _ rfl _ rfl y18 e18
    have e18 : y18 = tyB x N := e18
    subst e18
    refine ⟨vp_in_nI (by omega) (by omega), ?_⟩
    rintro u6 rfl y7 rfl y8 rfl u9 rfl y20 rfl
    refine ih _ (t + 1) _ (ty_prev N (by omega)) ?_ (by omega) ?_
    · show u.1 0 + 1 = nI (t + 1)
      rw [ht, nI_1]
    · have e : tyPut x (N + 1) u = tyPut x N (mSet (mPut u 0 (nI t).toNatClampNeg (tyB x N)) 0 ((mPut u 0 (nI t).toNatClampNeg (tyB x N)).1 0 + 1)) := by
        show tyPut x N (mSet (mPut u 0 (u.1 0).toNatClampNeg (tyB x N)) 0 (u.1 0 + 1)) = _
        rw [ht]
        show _ = tyPut x N (mSet (mPut u 0 (nI t).toNatClampNeg (tyB x N)) 0 (u.1 0 + 1))
        rw [ht]
      rw [← e]; exact hp
theorem tyM1 {x : Int32} {post : Int32 → mS → Prop} {N t : Nat} {u : mS} (h1N : 1 ≤ N) (hN : N ≤ 4) (ht : u.1 0 = nI t) (h120 : t + N ≤ 120) (h1 : (∀ j, j < N → tyOk x j) → post 1 (tyPut x N u)) (h0 : ¬ (∀ j, j < N → tyOk x j) → post 0 u) : ∀ (d j : Nat), j + d = N → (∀ i, i < j → tyOk x i) → mL4 (fun K => wj_X9_type_25 K post) (d + 1) x (nI N) (nI j) u := by
  intro d
  induction d with
  | zero =>
    intro j hj hok
    have hj : j = N := by omega
    subst hj
    show wj_X9_type_25 _ post x (nI j) (nI j) u
    refine ⟨fun _ => ?_, fun h => absurd (Int32.le_refl _) h⟩
    rintro _ rfl
    refine ⟨j + 1, tyM2 j _ t u (Or.inr ⟨j - 1, by omega, ?_⟩) ht h120 (h1 hok)⟩
    have : j = (j - 1) + 1 := by omega
    rw [this, nI_pred]; rfl
  | succ d ih =>
    intro j hj hok
    show wj_X9_type_25 _ post x (nI N) (nI j) u
    refine ⟨fun h => absurd h (ty_le (by omega) (by omega) (by omega)), fun _ => ?_⟩
    rintro _ rfl _ rfl y10 e10
    have e10 : y10 = tyB x j := e10
    subst e10
    refine ⟨fun h => h0 (fun hall => (hall j (by omega)).1 h), fun hlo => ⟨fun hhi => ?_, fun h => h0 (fun hall => h (hall j (by omega)).2)⟩⟩
    rintro _ rfl
    rw [nI_1]
    exact ih (j + 1) (by omega) (fun i hi => by
      rcases Nat.lt_or_ge i j with h | h
      · exact hok i h
      · have : i = j := by omega
        subst this
        exact ⟨hlo, hhi⟩)
theorem ty_n {n : Int32} (h1 : ¬ n < 1) (h4 : ¬ 4 < n) : ∃ N : Nat, n = nI N ∧ 1 ≤ N ∧ N ≤ 4 := by
  have a := Int32.not_lt.mp h1
  have b := Int32.not_lt.mp h4
  rw [Int32.le_iff_toInt_le] at a b
  have a : (1 : Int) ≤ n.toInt := a
  have b : n.toInt ≤ (4 : Int) := b
  refine ⟨n.toInt.toNat, ?_, by omega, by omega⟩
  apply Int32.toInt_inj.mp
  rw [nI_toInt (by omega)]
  omega
theorem typeA {x n : Int32} {post : Int32 → mS → Prop} {t : Nat} {u : mS} (ht : u.1 0 = nI t) (ht2 : t ≤ 120) (h1 : ∀ N : Nat, N ≤ 4 → n = nI N → tyC x n t → post 1 (tyPut x N u)) (h0 : ¬ tyC x n t → post 0 u) : wp_X8_type x n u post := by
  refine ⟨fun h => h0 ?_, fun hn1 => ⟨fun h => h0 ?_, fun hn4 => ?_⟩⟩
  · rintro ⟨N, rfl, hN, hN4, _⟩
    rw [show (1 : Int32) = nI 1 from by decide, nI_ltI (by omega) (by omega)] at h
    omega
  · rintro ⟨N, rfl, hN, hN4, _⟩
    rw [show (4 : Int32) = nI 4 from by decide, nI_ltI (by omega) (by omega)] at h
    omega
  · obtain ⟨N, rfl, hN, hN4⟩ := ty_n hn1 hn4
    intro y3 e3
    rw [ht] at e3; subst e3
    intro y4 e4
    rw [nI_add] at e4; subst e4
    have hc : (nI (t + N) ≤ 120) ↔ t + N ≤ 120 := by rw [show (120 : Int32) = nI 120 from by decide, nI_leI (by omega) (by omega)]
    have uniq : ∀ M : Nat, nI N = nI M → M ≤ 4 → M = N := fun M e hM => ((nI_eq (by omega) (by omega)).mp e).symm
    refine ⟨fun h => ?_, fun h => h0 ?_⟩
    · have h := hc.mp h
      refine ⟨N + 1, ?_⟩
      refine tyA1 (N := N) hN hN4 ht h (fun hall => h1 N hN4 rfl ⟨N, rfl, hN, hN4, h, hall⟩) (fun hnot => h0 ?_) N 0 (by omega) (fun i hi => by omega)
      rintro ⟨M, e, _, hM4, _, hall⟩
      have := uniq M e hM4
      subst this
      exact hnot hall
    · rintro ⟨M, e, _, hM4, hM, _⟩
      have := uniq M e hM4
      subst this
      exact h (hc.mpr hM)
theorem typeM {x n : Int32} {post : Int32 → mS → Prop} {t : Nat} {u : mS} (ht : u.1 0 = nI t) (ht2 : t ≤ 120) (h1 : ∀ N : Nat, N ≤ 4 → n = nI N → tyC x n t → post 1 (tyPut x N u)) (h0 : ¬ tyC x n t → post 0 u) : wp_X9_type x n u post := by
  refine ⟨fun h => h0 ?_, fun hn1 => ⟨fun h => h0 ?_, fun hn4 => ?_⟩⟩
  · rintro ⟨N, rfl, hN, hN4, _⟩
    rw [show (1 : Int32) = nI 1 from by decide, nI_ltI (by omega) (by omega)] at h
    omega
  · rintro ⟨N, rfl, hN, hN4, _⟩
    rw [show (4 : Int32) = nI 4 from by decide, nI_ltI (by omega) (by omega)] at h
    omega
  · obtain ⟨N, rfl, hN, hN4⟩ := ty_n hn1 hn4
    intro y3 e3
    rw [ht] at e3; subst e3
    intro y4 e4
    rw [nI_add] at e4; subst e4
    have hc : (nI (t + N) ≤ 120) ↔ t + N ≤ 120 := by rw [show (120 : Int32) = nI 120 from by decide, nI_leI (by omega) (by omega)]
    have uniq : ∀ M : Nat, nI N = nI M → M ≤ 4 → M = N := fun M e hM => ((nI_eq (by omega) (by omega)).mp e).symm
    refine ⟨fun h => ?_, fun h => h0 ?_⟩
    · have h := hc.mp h
      refine ⟨N + 1, ?_⟩
      refine tyM1 (N := N) hN hN4 ht h (fun hall => h1 N hN4 rfl ⟨N, rfl, hN, hN4, h, hall⟩) (fun hnot => h0 ?_) N 0 (by omega) (fun i hi => by omega)
      rintro ⟨M, e, _, hM4, _, hall⟩
      have := uniq M e hM4
      subst this
      exact hnot hall
    · rintro ⟨M, e, _, hM4, hM, _⟩
      have := uniq M e hM4
      subst this
      exact h (hc.mpr hM)
