-- 40: the class's methods: each returns, and keeps what is needed to go on
theorem i_lt {a b : Int32} (h : a < b) : a.toInt < b.toInt := Int32.lt_iff_toInt_lt.mp h
theorem i_le {a b : Int32} (h : a ≤ b) : a.toInt ≤ b.toInt := Int32.le_iff_toInt_le.mp h
theorem i_nlt {a b : Int32} (h : ¬ a < b) : b.toInt ≤ a.toInt := by
  rcases Int.lt_or_le a.toInt b.toInt with g | g
  · exact absurd (Int32.lt_iff_toInt_lt.mpr g) h
  · exact g
theorem i_nle {a b : Int32} (h : ¬ a ≤ b) : b.toInt < a.toInt := by
  rcases Int.lt_or_le b.toInt a.toInt with g | g
  · exact g
  · exact absurd (Int32.le_iff_toInt_le.mpr g) h
theorem i_ltL {a b : Int32} (n : Int) (e : a.toInt = n) (h : a < b) : n < b.toInt := e ▸ i_lt h
theorem i_leL {a b : Int32} (n : Int) (e : a.toInt = n) (h : a ≤ b) : n ≤ b.toInt := e ▸ i_le h
theorem i_nltL {a b : Int32} (n : Int) (e : a.toInt = n) (h : ¬ a < b) : b.toInt ≤ n := e ▸ i_nlt h
theorem i_nleL {a b : Int32} (n : Int) (e : a.toInt = n) (h : ¬ a ≤ b) : b.toInt < n := e ▸ i_nle h
theorem i_ltR {a b : Int32} (n : Int) (e : b.toInt = n) (h : a < b) : a.toInt < n := e ▸ i_lt h
theorem i_leR {a b : Int32} (n : Int) (e : b.toInt = n) (h : a ≤ b) : a.toInt ≤ n := e ▸ i_le h
theorem i_nltR {a b : Int32} (n : Int) (e : b.toInt = n) (h : ¬ a < b) : n ≤ a.toInt := e ▸ i_nlt h
theorem i_nleR {a b : Int32} (n : Int) (e : b.toInt = n) (h : ¬ a ≤ b) : n < a.toInt := e ▸ i_nle h
theorem inc_i {x : Int32} (h : x.toInt < 2147483647) : (x + 1).toInt = x.toInt + 1 := by
  have hx := Int32.le_toInt x
  rw [Int32.toInt_add, show (1 : Int32).toInt = 1 from by decide]
  exact Int.bmod_eq_of_le (by omega) (by omega)
theorem add_i {x y : Int32} (h0 : -2147483648 ≤ x.toInt + y.toInt) (h1 : x.toInt + y.toInt ≤ 2147483647) : (x + y).toInt = x.toInt + y.toInt := by
  rw [Int32.toInt_add]
  exact Int.bmod_eq_of_le (by omega) (by omega)
theorem sub_i {x y : Int32} (h0 : -2147483648 ≤ x.toInt - y.toInt) (h1 : x.toInt - y.toInt ≤ 2147483647) : (x - y).toInt = x.toInt - y.toInt := by
  rw [Int32.toInt_sub]
  exact Int.bmod_eq_of_le (by omega) (by omega)
theorem vin {x : Int32} {N : Nat} (h0 : 0 ≤ x.toInt) (h1 : x.toInt < (N : Int)) : vp_in x N := by
  have hx : ¬ x < 0 := by
    intro q
    have := i_ltR 0 (by decide) q
    omega
  obtain ⟨j, hj, rfl⟩ := nI_of hx
  rw [nI_toInt hj] at h1
  have hN : j < N := by omega
  have hc : ¬ (nI j < 0 ∨ N ≤ (nI j).toNatClampNeg) := by
    rintro (q | q)
    · exact hx q
    · rw [nI_clamp hj] at q; omega
  exact hc
/-- what the class's methods keep; l: how much is typed, f: fuel at most -/
def IA (l : Int32) (f : Nat) (u : mS) : Prop := u.1 0 = l ∧ (∃ k, u.1 11 = nI k ∧ k ≤ f) ∧ (∀ i, -3001 ≤ (u.2 3 i).toInt ∧ (u.2 3 i).toInt ≤ 3001) ∧ -3001 ≤ (u.1 2).toInt ∧ (u.1 2).toInt ≤ 3001
theorem IA_set {l : Int32} {f : Nat} {u : mS} {k : Nat} {v : Int32} (h : IA l f u) (hk : k ≠ 0 ∧ k ≠ 2 ∧ k ≠ 11) : IA l f (mSet u k v) := by
  obtain ⟨a, ⟨n, b, c⟩, d, e⟩ := h
  refine ⟨(mSet_other (Ne.symm hk.1)).trans a, ⟨n, (mSet_other (Ne.symm hk.2.2)).trans b, c⟩, d, ?_⟩
  rw [mSet_other (Ne.symm hk.2.1)]
  exact e
theorem IA_put {l : Int32} {f : Nat} {u : mS} {k i : Nat} {v : Int32} (h : IA l f u) (hk : k ≠ 3) : IA l f (mPut u k i v) := by
  obtain ⟨a, b, d, e⟩ := h
  refine ⟨a, b, ?_, e⟩
  rw [mPut_other (Ne.symm hk)]
  exact d
theorem IA_put3 {l : Int32} {f : Nat} {u : mS} {i : Nat} {v : Int32} (h : IA l f u) (h1 : -3001 ≤ v.toInt) (h2 : v.toInt ≤ 3001) : IA l f (mPut u 3 i v) := by
  obtain ⟨a, b, d, e⟩ := h
  refine ⟨a, b, fun j => ?_, e⟩
  rw [mPut_same]
  by_cases y : j = i
  · rw [y, pk_us]; exact ⟨h1, h2⟩
  · rw [pk_un y]; exact d j
theorem IA_set2 {l : Int32} {f : Nat} {u : mS} {v : Int32} (h : IA l f u) (h1 : -3001 ≤ v.toInt) (h2 : v.toInt ≤ 3001) : IA l f (mSet u 2 v) := by
  obtain ⟨a, ⟨n, b, c⟩, d, e⟩ := h
  refine ⟨(mSet_other (by decide : (0 : Nat) ≠ 2)).trans a, ⟨n, (mSet_other (by decide : (11 : Nat) ≠ 2)).trans b, c⟩, d, ?_⟩
  rw [mSet_same]
  exact ⟨h1, h2⟩
theorem IA_set0 {l v : Int32} {f : Nat} {u : mS} (h : IA l f u) : IA v f (mSet u 0 v) := by
  obtain ⟨a, ⟨n, b, c⟩, d, e⟩ := h
  exact ⟨mSet_same _ _ _, ⟨n, (mSet_other (by decide : (11 : Nat) ≠ 0)).trans b, c⟩, d, e⟩
theorem IA_set11 {l : Int32} {f g k : Nat} {u : mS} (h : IA l f u) (hk : k ≤ g) : IA l g (mSet u 11 (nI k)) := by
  obtain ⟨a, -, d, e⟩ := h
  exact ⟨(mSet_other (by decide : (0 : Nat) ≠ 11)).trans a, ⟨k, mSet_same _ _ _, hk⟩, d, e⟩
theorem IA_mono {l : Int32} {f g : Nat} {u : mS} (h : IA l f u) (hg : f ≤ g) : IA l g u := by
  obtain ⟨a, ⟨n, b, c⟩, d, e⟩ := h
  exact ⟨a, ⟨n, b, by omega⟩, d, e⟩
theorem IA_cpy {l : Int32} {f k sp dp n : Nat} {u : mS} (h : IA l f u) : IA l f (mCpy u k sp dp n) := by
  obtain ⟨a, b, d, e⟩ := h
  refine ⟨a, b, fun j => ?_, e⟩
  show -3001 ≤ ((if 3 = k then va_cpy (u.2 k) (u.2 k) sp dp n else u.2 3) j).toInt ∧ ((if 3 = k then va_cpy (u.2 k) (u.2 k) sp dp n else u.2 3) j).toInt ≤ 3001
  by_cases y : 3 = k
  · subst y
    rw [if_pos rfl]
    by_cases z : dp ≤ j ∧ j < dp + n
    · rw [pk_cpy_in z.1 z.2]; exact d _
    · rw [pk_cpy_out (by omega)]; exact d _
  · rw [if_neg y]; exact d j
theorem s_X5_wordAt {l : Int32} {f : Nat} {x1 : Int32} {u : mS} {post : Int32 → mS → Prop} (hI : IA l f u) (hp : ∀ r v, IA l f v → (¬ r = -2 → 0 ≤ x1.toInt ∧ x1.toInt < 3000) → post r v) : wp_X5_wordAt x1 u post := by
  refine ⟨fun _ => hp _ _ hI (fun q => absurd rfl q), fun h1 => ?_⟩
  rintro _ rfl
  refine ⟨fun _ => hp _ _ hI (fun q => absurd rfl q), fun _ => ⟨fun _ => hp _ _ hI (fun q => absurd rfl q), fun h2 => ?_⟩⟩
  have q1 := i_nltR 0 (by decide) h1
  have q2 := i_nleL 3000 (by decide) h2
  refine ⟨vin (by omega) (by omega), ?_⟩
  rintro _ rfl
  exact hp _ _ hI (fun _ => ⟨by omega, by omega⟩)
theorem s_X8_isName {l : Int32} {f : Nat} {x0 : Int32} {u : mS} {post : Int32 → mS → Prop} (hI : IA l f u) (hp : ∀ r v, IA l f v → post r v) : wp_X8_isName x0 u post := by
  refine ⟨fun h1 => ?_, fun h2 => ?_⟩
  · have q3 := i_leR (255 : Int) (by decide) h1
    exact hp _ _ (hI)
  · have q4 := i_nleR (255 : Int) (by decide) h2
    exact hp _ _ (hI)
theorem s_X8_isNumber {l : Int32} {f : Nat} {x0 : Int32} {u : mS} {post : Int32 → mS → Prop} (hI : IA l f u) (hp : ∀ r v, IA l f v → post r v) : wp_X8_isNumber x0 u post := by
  refine ⟨fun h1 => ?_, fun h2 => ?_⟩
  · have q3 := i_ltR (0 : Int) (by decide) h1
    exact hp _ _ (hI)
  · have q4 := i_nltR (0 : Int) (by decide) h2
    refine ⟨fun h5 => ?_, fun h6 => ?_⟩
    · have q7 := i_leL (100 : Int) (by decide) h5
      exact hp _ _ (hI)
    · have q8 := i_nleL (100 : Int) (by decide) h6
      exact hp _ _ (hI)
theorem s_X2_fail {l : Int32} {f : Nat} {x1 : Int32} {u : mS} {post : mS → Prop} (hI : IA l f u) (hp : ∀ v, IA l f v → post v) : wp_X2_fail x1 u post := by
  rintro _ rfl
  refine ⟨fun h1 => ?_, fun h2 => ?_⟩
  · exact hp _ (hI)
  · rintro _ rfl
    exact hp _ (IA_set (hI) (by decide))
theorem s_X2_put {l : Int32} {f : Nat} {x1 : Int32} {u : mS} {post : mS → Prop} (hI : IA l f u) (hp : ∀ v, IA l f v → post v) : wp_X2_put x1 u post := by
  rintro _ rfl
  refine ⟨fun h1 => ?_, fun h2 => ?_⟩
  · rintro _ rfl
    refine ⟨fun h3 => ?_, fun h4 => ?_⟩
    · have q5 := i_ltR (0 : Int) (by decide) h3
      rintro _ rfl
      exact hp _ (IA_set (hI) (by decide))
    · have q6 := i_nltR (0 : Int) (by decide) h4
      rintro _ rfl
      refine ⟨fun h7 => ?_, fun h8 => ?_⟩
      · have q9 := i_ltR (200 : Int) (by decide) h7
        rintro _ rfl
        refine ⟨vin (by omega) (by omega), ?_⟩
        rintro _ rfl
        intro y11 e10
        have e10 : y11 = u.1 6 := e10
        subst e10
        rintro _ rfl
        rintro _ rfl
        exact hp _ (IA_set (IA_put (hI) (by decide)) (by decide))
      · have q12 := i_nltR (200 : Int) (by decide) h8
        rintro _ rfl
        exact hp _ (IA_set (hI) (by decide))
  · exact hp _ (hI)
theorem s_X2_putNumber {l : Int32} {f : Nat} {x1 : Int32} {u : mS} {post : mS → Prop} (hI : IA l f u) (hp : ∀ v, IA l f v → post v) : wp_X2_putNumber x1 u post := by
  refine ⟨fun h1 => ?_, fun h2 => ?_⟩
  · have q3 := i_leR (9 : Int) (by decide) h1
    rintro _ rfl
    rintro _ rfl
    refine s_X2_put (hI) (fun v5 hv6 => ?_)
    exact hp _ (hv6)
  · have q7 := i_nleR (9 : Int) (by decide) h2
    rintro _ rfl
    rintro _ rfl
    refine s_X2_put (hI) (fun v9 hv10 => ?_)
    rintro _ rfl
    rintro _ rfl
    refine s_X2_put (hv10) (fun v12 hv13 => ?_)
    exact hp _ (hv13)
theorem s_X5_marksAt {l : Int32} {f : Nat} {x1 : Int32} {u : mS} {post : Int32 → mS → Prop} (hI : IA l f u) (hp : ∀ r v, IA l f v → post r v) : wp_X5_marksAt x1 u post := by
  refine ⟨fun h1 => ?_, fun h2 => ?_⟩
  · have q3 := i_ltR (0 : Int) (by decide) h1
    exact hp _ _ (hI)
  · have q4 := i_nltR (0 : Int) (by decide) h2
    rintro _ rfl
    refine ⟨fun h5 => ?_, fun h6 => ?_⟩
    · have q7 := i_le h5
      exact hp _ _ (hI)
    · have q8 := i_nle h6
      refine ⟨fun h9 => ?_, fun h10 => ?_⟩
      · have q11 := i_leL (3000 : Int) (by decide) h9
        exact hp _ _ (hI)
      · have q12 := i_nleL (3000 : Int) (by decide) h10
        refine ⟨vin (by omega) (by omega), ?_⟩
        rintro _ rfl
        exact hp _ _ (hI)
theorem s_J6_bitCount_0f7a4 {l : Int32} {f : Nat} {x0 : Int32} {u : mS} {post : Int32 → mS → Prop} (hI : IA l f u) (hp : ∀ r v, IA l f v → post r v) : wp_J6_bitCount_0f7a4 x0 u post := by
  rintro _ rfl
  rintro _ rfl
  rintro _ rfl
  rintro _ rfl
  rintro _ rfl
  rintro _ rfl
  rintro _ rfl
  rintro _ rfl
  rintro _ rfl
  rintro _ rfl
  rintro _ rfl
  rintro _ rfl
  rintro _ rfl
  rintro _ rfl
  rintro _ rfl
  exact hp _ _ (hI)
theorem s_X7_holdsAllOthers {l : Int32} {f : Nat} {x1 x2 : Int32} {u : mS} {post : Int32 → mS → Prop} (hI : IA l f u) (hp : ∀ r v, IA l f v → post r v) : wp_X7_holdsAllOthers x1 x2 u post := by
  refine ⟨fun h1 => ?_, fun h2 => ?_⟩
  · have q3 := i_ltR (0 : Int) (by decide) h1
    exact hp _ _ (hI)
  · have q4 := i_nltR (0 : Int) (by decide) h2
    refine ⟨fun h5 => ?_, fun h6 => ?_⟩
    · have q7 := i_ltR (40 : Int) (by decide) h5
      refine mL4_in (fun c8 c9 c10 v11 => x1 = c8 ∧ x2 = c9 ∧ 0 ≤ c10.toInt ∧ IA l f v11) (fun c8 c9 c10 v11 => ((40 : Int) - c10.toInt).toNat) ?_ _ _ _ _ ⟨rfl, rfl, (by first | omega | decide | (rw [inc_i (by omega)]; omega)), hI⟩
      rintro K14 c8 c9 c10 v11 ⟨rfl, rfl, j13, hv12⟩ ih15
      rintro _ rfl
      refine ⟨fun h16 => ?_, fun h17 => ?_⟩
      · have q18 := i_le h16
        exact hp _ _ (hv12)
      · have q19 := i_nle h17
        refine ⟨fun h20 => ?_, fun h21 => ?_⟩
        · have q22 := i_leL (40 : Int) (by decide) h20
          exact hp _ _ (hv12)
        · have q23 := i_nleL (40 : Int) (by decide) h21
          refine ⟨vin (by omega) (by omega), ?_⟩
          rintro _ rfl
          refine ⟨vin (by omega) (by omega), ?_⟩
          rintro _ rfl
          refine ⟨fun h24 => ?_, fun h25 => ?_⟩
          · refine ⟨fun h26 => ?_, fun h27 => ?_⟩
            · intro y28 e29
              have t30 : y28.toInt = c10.toInt + 1 := by rw [e29]; exact inc_i (by omega)
              refine ih15 _ _ _ _ ⟨rfl, rfl, (by omega), hv12⟩ ?_
              show ((40 : Int) - y28.toInt).toNat < ((40 : Int) - c10.toInt).toNat
              omega
            · refine ⟨vin (by omega) (by omega), ?_⟩
              rintro _ rfl
              refine ⟨vin (by omega) (by omega), ?_⟩
              rintro _ rfl
              rintro _ rfl
              rintro _ rfl
              refine ⟨fun h31 => ?_, fun h32 => ?_⟩
              · intro y33 e34
                have t35 : y33.toInt = c10.toInt + 1 := by rw [e34]; exact inc_i (by omega)
                refine ih15 _ _ _ _ ⟨rfl, rfl, (by omega), hv12⟩ ?_
                show ((40 : Int) - y33.toInt).toNat < ((40 : Int) - c10.toInt).toNat
                omega
              · exact hp _ _ (hv12)
          · refine ⟨vin (by omega) (by omega), ?_⟩
            rintro _ rfl
            rintro _ rfl
            rintro _ rfl
            refine ⟨fun h36 => ?_, fun h37 => ?_⟩
            · refine ⟨fun h38 => ?_, fun h39 => ?_⟩
              · intro y40 e41
                have t42 : y40.toInt = c10.toInt + 1 := by rw [e41]; exact inc_i (by omega)
                refine ih15 _ _ _ _ ⟨rfl, rfl, (by omega), hv12⟩ ?_
                show ((40 : Int) - y40.toInt).toNat < ((40 : Int) - c10.toInt).toNat
                omega
              · refine ⟨vin (by omega) (by omega), ?_⟩
                rintro _ rfl
                refine ⟨vin (by omega) (by omega), ?_⟩
                rintro _ rfl
                rintro _ rfl
                rintro _ rfl
                refine ⟨fun h43 => ?_, fun h44 => ?_⟩
                · intro y45 e46
                  have t47 : y45.toInt = c10.toInt + 1 := by rw [e46]; exact inc_i (by omega)
                  refine ih15 _ _ _ _ ⟨rfl, rfl, (by omega), hv12⟩ ?_
                  show ((40 : Int) - y45.toInt).toNat < ((40 : Int) - c10.toInt).toNat
                  omega
                · exact hp _ _ (hv12)
            · refine ⟨fun h48 => ?_, fun h49 => ?_⟩
              · intro y50 e51
                have t52 : y50.toInt = c10.toInt + 1 := by rw [e51]; exact inc_i (by omega)
                refine ih15 _ _ _ _ ⟨rfl, rfl, (by omega), hv12⟩ ?_
                show ((40 : Int) - y50.toInt).toNat < ((40 : Int) - c10.toInt).toNat
                omega
              · refine ⟨vin (by omega) (by omega), ?_⟩
                rintro _ rfl
                refine ⟨vin (by omega) (by omega), ?_⟩
                rintro _ rfl
                rintro _ rfl
                rintro _ rfl
                refine ⟨fun h53 => ?_, fun h54 => ?_⟩
                · intro y55 e56
                  have t57 : y55.toInt = c10.toInt + 1 := by rw [e56]; exact inc_i (by omega)
                  refine ih15 _ _ _ _ ⟨rfl, rfl, (by omega), hv12⟩ ?_
                  show ((40 : Int) - y55.toInt).toNat < ((40 : Int) - c10.toInt).toNat
                  omega
                · exact hp _ _ (hv12)
    · have q58 := i_nltR (40 : Int) (by decide) h6
      exact hp _ _ (hI)
theorem s_X7_meaning {l : Int32} {f : Nat} {x1 x2 : Int32} {u : mS} {post : Int32 → mS → Prop} (hI : IA l f u) (hp : ∀ r v, IA l f v → post r v) : wp_X7_meaning x1 x2 u post := by
  refine mL6_in (fun c1 c2 c3 c4 c5 v6 => x1 = c1 ∧ x2 = c2 ∧ 0 ≤ c5.toInt ∧ IA l f v6) (fun c1 c2 c3 c4 c5 v6 => ((40 : Int) - c5.toInt).toNat) ?_ _ _ _ _ _ _ ⟨rfl, rfl, (by first | omega | decide | (rw [inc_i (by omega)]; omega)), hI⟩
  rintro K9 c1 c2 c3 c4 c5 v6 ⟨rfl, rfl, j8, hv7⟩ ih10
  rintro _ rfl
  refine ⟨fun h11 => ?_, fun h12 => ?_⟩
  · have q13 := i_le h11
    refine ⟨fun h14 => ?_, fun h15 => ?_⟩
    · have q16 := i_ltR (0 : Int) (by decide) h14
      exact hp _ _ (hv7)
    · have q17 := i_nltR (0 : Int) (by decide) h15
      refine s_X7_holdsAllOthers (hv7) (fun r18 v19 hv20 => ?_)
      refine ⟨fun h21 => ?_, fun h22 => ?_⟩
      · exact hp _ _ (hv20)
      · exact hp _ _ (hv20)
  · have q23 := i_nle h12
    refine ⟨fun h24 => ?_, fun h25 => ?_⟩
    · have q26 := i_leL (40 : Int) (by decide) h24
      refine ⟨fun h27 => ?_, fun h28 => ?_⟩
      · have q29 := i_ltR (0 : Int) (by decide) h27
        exact hp _ _ (hv7)
      · have q30 := i_nltR (0 : Int) (by decide) h28
        refine s_X7_holdsAllOthers (hv7) (fun r31 v32 hv33 => ?_)
        refine ⟨fun h34 => ?_, fun h35 => ?_⟩
        · exact hp _ _ (hv33)
        · exact hp _ _ (hv33)
    · have q36 := i_nleL (40 : Int) (by decide) h25
      refine ⟨vin (by omega) (by omega), ?_⟩
      rintro _ rfl
      refine ⟨fun h37 => ?_, fun h38 => ?_⟩
      · intro y39 e40
        have t41 : y39.toInt = c5.toInt + 1 := by rw [e40]; exact inc_i (by omega)
        refine ih10 _ _ _ _ _ _ ⟨rfl, rfl, (by omega), hv7⟩ ?_
        show ((40 : Int) - y39.toInt).toNat < ((40 : Int) - c5.toInt).toNat
        omega
      · refine ⟨vin (by omega) (by omega), ?_⟩
        rintro _ rfl
        rintro _ rfl
        rintro _ rfl
        refine ⟨fun h42 => ?_, fun h43 => ?_⟩
        · intro y44 e45
          have t46 : y44.toInt = c5.toInt + 1 := by rw [e45]; exact inc_i (by omega)
          refine ih10 _ _ _ _ _ _ ⟨rfl, rfl, (by omega), hv7⟩ ?_
          show ((40 : Int) - y44.toInt).toNat < ((40 : Int) - c5.toInt).toNat
          omega
        · refine ⟨vin (by omega) (by omega), ?_⟩
          rintro _ rfl
          refine s_J6_bitCount_0f7a4 (hv7) (fun r47 v48 hv49 => ?_)
          refine ⟨fun h50 => ?_, fun h51 => ?_⟩
          · have q52 := i_le h50
            intro y53 e54
            have t55 : y53.toInt = c5.toInt + 1 := by rw [e54]; exact inc_i (by omega)
            refine ih10 _ _ _ _ _ _ ⟨rfl, rfl, (by omega), hv49⟩ ?_
            show ((40 : Int) - y53.toInt).toNat < ((40 : Int) - c5.toInt).toNat
            omega
          · have q56 := i_nle h51
            refine ⟨vin (by omega) (by omega), ?_⟩
            rintro _ rfl
            refine s_J6_bitCount_0f7a4 (hv49) (fun r57 v58 hv59 => ?_)
            intro y60 e61
            have t62 : y60.toInt = c5.toInt + 1 := by rw [e61]; exact inc_i (by omega)
            refine ih10 _ _ _ _ _ _ ⟨rfl, rfl, (by omega), hv59⟩ ?_
            show ((40 : Int) - y60.toInt).toNat < ((40 : Int) - c5.toInt).toNat
            omega
theorem s_X0_meaningOf {l : Int32} {f : Nat} {x1 : Int32} {u : mS} {post : Int32 → mS → Prop} (hI : IA l f u) (hp : ∀ r v, IA l f v → post r v) : wp_X0_meaningOf x1 u post := by
  refine s_X5_wordAt (hI) (fun r1 v2 hv3 hq4 => ?_)
  refine s_X5_marksAt (hv3) (fun r5 v6 hv7 => ?_)
  refine s_X7_meaning (hv7) (fun r8 v9 hv10 => ?_)
  refine ⟨fun h11 => ?_, fun h12 => ?_⟩
  · have q13 := i_leL (0 : Int) (by decide) h11
    exact hp _ _ (hv10)
  · have q14 := i_nleL (0 : Int) (by decide) h12
    refine ⟨fun h15 => ?_, fun h16 => ?_⟩
    · refine s_X2_fail (hv10) (fun v18 hv19 => ?_)
      exact hp _ _ (hv19)
    · refine s_X2_fail (hv10) (fun v21 hv22 => ?_)
      exact hp _ _ (hv22)
theorem s_X7_kindOf {l : Int32} {f : Nat} {x1 : Int32} {u : mS} {post : Int32 → mS → Prop} (hI : IA l f u) (hp : ∀ r v, IA l f v → post r v) : wp_X7_kindOf x1 u post := by
  refine ⟨fun h1 => ?_, fun h2 => ?_⟩
  · have q3 := i_ltR (0 : Int) (by decide) h1
    exact hp _ _ (hI)
  · have q4 := i_nltR (0 : Int) (by decide) h2
    refine ⟨fun h5 => ?_, fun h6 => ?_⟩
    · have q7 := i_leL (40 : Int) (by decide) h5
      exact hp _ _ (hI)
    · have q8 := i_nleL (40 : Int) (by decide) h6
      refine ⟨vin (by omega) (by omega), ?_⟩
      rintro _ rfl
      exact hp _ _ (hI)
theorem s_X7_valueOf {l : Int32} {f : Nat} {x1 : Int32} {u : mS} {post : Int32 → mS → Prop} (hI : IA l f u) (hp : ∀ r v, IA l f v → post r v) : wp_X7_valueOf x1 u post := by
  refine ⟨fun h1 => ?_, fun h2 => ?_⟩
  · have q3 := i_ltR (0 : Int) (by decide) h1
    exact hp _ _ (hI)
  · have q4 := i_nltR (0 : Int) (by decide) h2
    refine ⟨fun h5 => ?_, fun h6 => ?_⟩
    · have q7 := i_leL (40 : Int) (by decide) h5
      exact hp _ _ (hI)
    · have q8 := i_nleL (40 : Int) (by decide) h6
      refine ⟨vin (by omega) (by omega), ?_⟩
      rintro _ rfl
      exact hp _ _ (hI)
theorem s_X2_putVariable {l : Int32} {f : Nat} {x1 : Int32} {u : mS} {post : mS → Prop} (hI : IA l f u) (hp : ∀ v, IA l f v → post v) : wp_X2_putVariable x1 u post := by
  refine s_X2_put (hI) (fun v2 hv3 => ?_)
  refine s_X2_putNumber (hv3) (fun v5 hv6 => ?_)
  exact hp _ (hv6)
theorem s_X2_putName {l : Int32} {f : Nat} {x1 : Int32} {u : mS} {post : mS → Prop} (hI : IA l f u) (hp : ∀ v, IA l f v → post v) : wp_X2_putName x1 u post := by
  refine mL3_in (fun _ c v => c.toInt ≤ 16 ∧ IA l f v) (fun _ c _ => (c.toInt + 1).toNat) ?_ _ _ _ ⟨by decide, hI⟩
  rintro K a c v ⟨j, hv⟩ ih
  refine ⟨fun _ => hp _ hv, fun h1 => ?_⟩
  have q1 := i_nltR 0 (by decide) h1
  have e : (c + (-8)).toInt = c.toInt - 8 := by rw [add_i (by rw [show (-8 : Int32).toInt = -8 from by decide]; omega) (by rw [show (-8 : Int32).toInt = -8 from by decide]; omega), show (-8 : Int32).toInt = -8 from by decide]; omega
  have next : ∀ w, IA l f w → wj_X2_putName_27 K post a c w := by
    intro w hw
    rintro _ rfl
    refine ih _ _ _ ⟨by omega, hw⟩ ?_
    show ((c + (-8)).toInt + 1).toNat < (c.toInt + 1).toNat
    omega
  rintro _ rfl
  refine ⟨fun _ => next v hv, fun _ => ?_⟩
  rintro _ rfl _ rfl
  exact s_X2_put hv (fun w hw => next w hw)
theorem s_X0_expandName {l : Int32} {f : Nat} {x1 : Int32} {u : mS} {post : mS → Prop} (hI : IA l f u) (hp : ∀ v, IA l f v → post v) : wp_X0_expandName x1 u post := by
  refine s_X0_meaningOf (hI) (fun r1 v2 hv3 => ?_)
  refine ⟨fun h4 => ?_, fun h5 => ?_⟩
  · have q6 := i_leL (0 : Int) (by decide) h4
    refine s_X7_kindOf (hv3) (fun r7 v8 hv9 => ?_)
    refine ⟨fun h10 => ?_, fun h11 => ?_⟩
    · refine ⟨fun h12 => ?_, fun h13 => ?_⟩
      · refine s_X2_fail (hv9) (fun v15 hv16 => ?_)
        exact hp _ (hv16)
      · refine s_X7_valueOf (hv9) (fun r17 v18 hv19 => ?_)
        refine s_X2_putVariable (hv19) (fun v21 hv22 => ?_)
        exact hp _ (hv22)
    · refine s_X5_wordAt (hv9) (fun r23 v24 hv25 hq26 => ?_)
      refine s_X2_putName (hv25) (fun v28 hv29 => ?_)
      exact hp _ (hv29)
  · have q30 := i_nleL (0 : Int) (by decide) h5
    exact hp _ (hv3)
theorem s_X5_after {l : Int32} {f : Nat} {x1 : Int32} {u : mS} {post : Int32 → mS → Prop} (hI : IA l f u) (hp : ∀ r v, IA l f v → (0 ≤ x1.toInt → x1.toInt ≤ 100000000 → x1.toInt < r.toInt ∧ r.toInt ≤ x1.toInt + 3001) → post r v) : wp_X5_after x1 u post := by
  have k40 : wj_X5_after_40 post x1 u := by
    rintro _ rfl
    refine hp _ _ hI (fun g1 g2 => ?_)
    rw [inc_i (by omega)]
    omega
  refine ⟨fun _ => k40, fun h1 => ?_⟩
  rintro _ rfl
  refine ⟨fun _ => k40, fun _ => ⟨fun _ => k40, fun h2 => ?_⟩⟩
  have q1 := i_nltR 0 (by decide) h1
  have q2 := i_nleL 3000 (by decide) h2
  refine ⟨vin (by omega) (by omega), ?_⟩
  rintro _ rfl
  refine ⟨fun _ => k40, fun h3 => ⟨vin (by omega) (by omega), ?_⟩⟩
  have q3 := i_nleR 1 (by decide) h3
  have q4 := (hI.2.2.1 x1.toNatClampNeg).2
  rintro _ rfl _ rfl
  refine hp _ _ hI (fun g1 g2 => ?_)
  rw [add_i (by omega) (by omega)]
  omega
theorem s_X5_hasDots {l : Int32} {f : Nat} {x1 : Int32} {u : mS} {post : Int32 → mS → Prop} (hx : x1.toInt < 2147483647) (hI : IA l f u) (hp : ∀ r v, IA l f v → post r v) : wp_X5_hasDots x1 u post := by
  refine ⟨fun h1 => ?_, fun h2 => ?_⟩
  · have q3 := i_leL (0 : Int) (by decide) h1
    rintro _ rfl
    refine mL3_in (fun c4 c5 v6 => 0 ≤ c5.toInt ∧ IA l f v6) (fun c4 c5 v6 => ((3000 : Int) - c5.toInt).toNat) ?_ _ _ _ ⟨(by first | omega | decide | (rw [inc_i (by omega)]; omega)), hI⟩
    rintro K9 c4 c5 v6 ⟨j8, hv7⟩ ih10
    rintro _ rfl
    refine ⟨fun h11 => ?_, fun h12 => ?_⟩
    · have q13 := i_le h11
      exact hp _ _ (hv7)
    · have q14 := i_nle h12
      refine ⟨fun h15 => ?_, fun h16 => ?_⟩
      · have q17 := i_leL (3000 : Int) (by decide) h15
        exact hp _ _ (hv7)
      · have q18 := i_nleL (3000 : Int) (by decide) h16
        refine ⟨fun h19 => ?_, fun h20 => ?_⟩
        · have q21 := i_ltR (0 : Int) (by decide) h19
          exact hp _ _ (hv7)
        · have q22 := i_nltR (0 : Int) (by decide) h20
          refine ⟨vin (by omega) (by omega), ?_⟩
          rintro _ rfl
          refine ⟨fun h23 => ?_, fun h24 => ?_⟩
          · refine ⟨vin (by omega) (by omega), ?_⟩
            rintro _ rfl
            refine ⟨fun h25 => ?_, fun h26 => ?_⟩
            · refine ⟨vin (by omega) (by omega), ?_⟩
              rintro _ rfl
              refine ⟨fun h27 => ?_, fun h28 => ?_⟩
              · rintro _ rfl
                intro y29 e30
                have t31 : y29.toInt = c5.toInt + 1 := by rw [e30]; exact inc_i (by omega)
                refine ih10 _ _ _ ⟨(by omega), hv7⟩ ?_
                show ((3000 : Int) - y29.toInt).toNat < ((3000 : Int) - c5.toInt).toNat
                omega
              · rintro _ rfl
                intro y32 e33
                have t34 : y32.toInt = c5.toInt + 1 := by rw [e33]; exact inc_i (by omega)
                refine ih10 _ _ _ ⟨(by omega), hv7⟩ ?_
                show ((3000 : Int) - y32.toInt).toNat < ((3000 : Int) - c5.toInt).toNat
                omega
            · rintro _ rfl
              intro y35 e36
              have t37 : y35.toInt = c5.toInt + 1 := by rw [e36]; exact inc_i (by omega)
              refine ih10 _ _ _ ⟨(by omega), hv7⟩ ?_
              show ((3000 : Int) - y35.toInt).toNat < ((3000 : Int) - c5.toInt).toNat
              omega
          · refine ⟨fun h38 => ?_, fun h39 => ?_⟩
            · refine ⟨vin (by omega) (by omega), ?_⟩
              rintro _ rfl
              refine ⟨fun h40 => ?_, fun h41 => ?_⟩
              · refine ⟨vin (by omega) (by omega), ?_⟩
                rintro _ rfl
                refine ⟨fun h42 => ?_, fun h43 => ?_⟩
                · rintro _ rfl
                  intro y44 e45
                  have t46 : y44.toInt = c5.toInt + 1 := by rw [e45]; exact inc_i (by omega)
                  refine ih10 _ _ _ ⟨(by omega), hv7⟩ ?_
                  show ((3000 : Int) - y44.toInt).toNat < ((3000 : Int) - c5.toInt).toNat
                  omega
                · rintro _ rfl
                  intro y47 e48
                  have t49 : y47.toInt = c5.toInt + 1 := by rw [e48]; exact inc_i (by omega)
                  refine ih10 _ _ _ ⟨(by omega), hv7⟩ ?_
                  show ((3000 : Int) - y47.toInt).toNat < ((3000 : Int) - c5.toInt).toNat
                  omega
              · rintro _ rfl
                intro y50 e51
                have t52 : y50.toInt = c5.toInt + 1 := by rw [e51]; exact inc_i (by omega)
                refine ih10 _ _ _ ⟨(by omega), hv7⟩ ?_
                show ((3000 : Int) - y50.toInt).toNat < ((3000 : Int) - c5.toInt).toNat
                omega
            · exact hp _ _ (hv7)
  · have q53 := i_nleL (0 : Int) (by decide) h2
    refine mL3_in (fun c54 c55 v56 => 0 ≤ c55.toInt ∧ IA l f v56) (fun c54 c55 v56 => ((3000 : Int) - c55.toInt).toNat) ?_ _ _ _ ⟨(by first | omega | decide | (rw [inc_i (by omega)]; omega)), hI⟩
    rintro K59 c54 c55 v56 ⟨j58, hv57⟩ ih60
    rintro _ rfl
    refine ⟨fun h61 => ?_, fun h62 => ?_⟩
    · have q63 := i_le h61
      exact hp _ _ (hv57)
    · have q64 := i_nle h62
      refine ⟨fun h65 => ?_, fun h66 => ?_⟩
      · have q67 := i_leL (3000 : Int) (by decide) h65
        exact hp _ _ (hv57)
      · have q68 := i_nleL (3000 : Int) (by decide) h66
        refine ⟨fun h69 => ?_, fun h70 => ?_⟩
        · have q71 := i_ltR (0 : Int) (by decide) h69
          exact hp _ _ (hv57)
        · have q72 := i_nltR (0 : Int) (by decide) h70
          refine ⟨vin (by omega) (by omega), ?_⟩
          rintro _ rfl
          refine ⟨fun h73 => ?_, fun h74 => ?_⟩
          · refine ⟨vin (by omega) (by omega), ?_⟩
            rintro _ rfl
            refine ⟨fun h75 => ?_, fun h76 => ?_⟩
            · refine ⟨vin (by omega) (by omega), ?_⟩
              rintro _ rfl
              refine ⟨fun h77 => ?_, fun h78 => ?_⟩
              · rintro _ rfl
                intro y79 e80
                have t81 : y79.toInt = c55.toInt + 1 := by rw [e80]; exact inc_i (by omega)
                refine ih60 _ _ _ ⟨(by omega), hv57⟩ ?_
                show ((3000 : Int) - y79.toInt).toNat < ((3000 : Int) - c55.toInt).toNat
                omega
              · rintro _ rfl
                intro y82 e83
                have t84 : y82.toInt = c55.toInt + 1 := by rw [e83]; exact inc_i (by omega)
                refine ih60 _ _ _ ⟨(by omega), hv57⟩ ?_
                show ((3000 : Int) - y82.toInt).toNat < ((3000 : Int) - c55.toInt).toNat
                omega
            · rintro _ rfl
              intro y85 e86
              have t87 : y85.toInt = c55.toInt + 1 := by rw [e86]; exact inc_i (by omega)
              refine ih60 _ _ _ ⟨(by omega), hv57⟩ ?_
              show ((3000 : Int) - y85.toInt).toNat < ((3000 : Int) - c55.toInt).toNat
              omega
          · refine ⟨fun h88 => ?_, fun h89 => ?_⟩
            · refine ⟨vin (by omega) (by omega), ?_⟩
              rintro _ rfl
              refine ⟨fun h90 => ?_, fun h91 => ?_⟩
              · refine ⟨vin (by omega) (by omega), ?_⟩
                rintro _ rfl
                refine ⟨fun h92 => ?_, fun h93 => ?_⟩
                · rintro _ rfl
                  intro y94 e95
                  have t96 : y94.toInt = c55.toInt + 1 := by rw [e95]; exact inc_i (by omega)
                  refine ih60 _ _ _ ⟨(by omega), hv57⟩ ?_
                  show ((3000 : Int) - y94.toInt).toNat < ((3000 : Int) - c55.toInt).toNat
                  omega
                · rintro _ rfl
                  intro y97 e98
                  have t99 : y97.toInt = c55.toInt + 1 := by rw [e98]; exact inc_i (by omega)
                  refine ih60 _ _ _ ⟨(by omega), hv57⟩ ?_
                  show ((3000 : Int) - y97.toInt).toNat < ((3000 : Int) - c55.toInt).toNat
                  omega
              · rintro _ rfl
                intro y100 e101
                have t102 : y100.toInt = c55.toInt + 1 := by rw [e101]; exact inc_i (by omega)
                refine ih60 _ _ _ ⟨(by omega), hv57⟩ ?_
                show ((3000 : Int) - y100.toInt).toNat < ((3000 : Int) - c55.toInt).toNat
                omega
            · exact hp _ _ (hv57)
theorem s_X5_itemsFrom {l : Int32} {f : Nat} {x1 : Int32} {u : mS} {post : Int32 → mS → Prop} (hI : IA l f u) (hp : ∀ r v, IA l f v → (0 ≤ r.toInt ∧ r.toInt ≤ 3000) → post r v) : wp_X5_itemsFrom x1 u post := by
  have main : ∀ z : Int32, 0 ≤ z.toInt → wj_X5_itemsFrom_13 post 0 0 z u := by
    intro z hz
    refine mL4_in (fun a _ c v => 0 ≤ a.toInt ∧ a.toInt ≤ 3000 ∧ a.toInt ≤ c.toInt ∧ 0 ≤ c.toInt ∧ v = u) (fun _ _ c _ => (3000 - c.toInt).toNat) ?_ _ _ _ _ ⟨by decide, by decide, hz, hz, rfl⟩
    rintro K a b c v ⟨j1, j2, j3, j4, rfl⟩ ih
    have fin : wj_X5_itemsFrom_91 post a v := hp _ _ hI ⟨j1, j2⟩
    rintro _ rfl
    refine ⟨fun _ => fin, fun _ => ⟨fun _ => fin, fun h2 => ⟨fun _ => fin, fun _ => ⟨vin (by omega) (by have := i_nleL 3000 (by decide) h2; omega), ?_⟩⟩⟩⟩
    have q2 := i_nleL 3000 (by decide) h2
    have e1 : (c + 1).toInt = c.toInt + 1 := inc_i (by omega)
    have next : ∀ a' b' : Int32, 0 ≤ a'.toInt → a'.toInt ≤ a.toInt + 1 → wj_X5_itemsFrom_85 K post a' b' c v := by
      intro a' b' g1 g2
      rintro _ rfl
      refine ih _ _ _ _ ⟨g1, by omega, by omega, by omega, rfl⟩ ?_
      show (3000 - (c + 1).toInt).toNat < (3000 - c.toInt).toNat
      omega
    have a64 : ∀ z0 : Int32, (z0 = 0 ∨ z0 = 1) → wj_X5_itemsFrom_64 K post b c z0 a v := by
      intro z0 hz0
      rintro _ rfl
      have e2 : 0 ≤ (a + z0).toInt ∧ (a + z0).toInt ≤ a.toInt + 1 := by
        rcases hz0 with rfl | rfl
        · rw [add_i (by rw [show (0 : Int32).toInt = 0 from by decide]; omega) (by rw [show (0 : Int32).toInt = 0 from by decide]; omega), show (0 : Int32).toInt = 0 from by decide]; omega
        · rw [inc_i (by omega)]; omega
      refine ⟨vin (by omega) (by omega), ?_⟩
      rintro _ rfl
      refine ⟨fun _ => ?_, fun _ => ?_⟩ <;> (rintro _ rfl; exact next _ _ e2.1 e2.2)
    rintro _ rfl
    refine ⟨fun _ => ⟨fun _ => a64 0 (Or.inl rfl), fun _ => a64 1 (Or.inr rfl)⟩, fun _ => ?_⟩
    rintro _ rfl
    exact next _ _ j1 (by omega)
  exact ⟨fun h => main _ (i_leL 0 (by decide) h), fun _ => main 0 (by decide)⟩
theorem s_X5_plainLength {l : Int32} {f : Nat} {x1 : Int32} {u : mS} {post : Int32 → mS → Prop} (hI : IA l f u) (hp : ∀ r v, IA l f v → (r = -1 ∨ (0 ≤ x1.toInt ∧ x1.toInt < 3000 ∧ 0 ≤ r.toInt ∧ r.toInt ≤ 3000)) → post r v) : wp_X5_plainLength x1 u post := by
  refine s_X5_wordAt hI (fun r v hv hq => ⟨fun _ => hp _ _ hv (Or.inl rfl), fun h1 => ?_⟩)
  have g := hq (by rw [h1]; decide)
  refine s_X5_hasDots (by omega) hv (fun r2 v2 hv2 => ⟨fun _ => ?_, fun _ => hp _ _ hv2 (Or.inl rfl)⟩)
  rintro _ rfl
  exact s_X5_itemsFrom hv2 (fun r3 v3 hv3 hq3 => hp _ _ hv3 (Or.inr ⟨g.1, g.2, hq3.1, hq3.2⟩))
theorem s_X0_areNames {l : Int32} {f : Nat} {x1 : Int32} {u : mS} {post : Int32 → mS → Prop} (hI : IA l f u) (hp : ∀ r v, IA l f v → post r v) : wp_X0_areNames x1 u post := by
  refine s_X5_plainLength (hI) (fun r1 v2 hv3 hq4 => ?_)
  refine mL4_in (fun c5 c6 c7 v8 => x1 = c5 ∧ r1 = c6 ∧ IA l f v8) (fun c5 c6 c7 v8 => ((r1).toInt - c7.toInt).toNat) ?_ _ _ _ _ ⟨rfl, rfl, hv3⟩
  rintro K10 c5 c6 c7 v8 ⟨rfl, rfl, hv9⟩ ih11
  have b12 : (r1).toInt < 2147483648 := Int32.toInt_lt _
  refine ⟨fun h13 => ?_, fun h14 => ?_⟩
  · have q15 := i_le h13
    refine ⟨fun h16 => ?_, fun h17 => ?_⟩
    · have q18 := i_ltR (0 : Int) (by decide) h16
      exact hp _ _ (hv9)
    · have q19 := i_nltR (0 : Int) (by decide) h17
      exact hp _ _ (hv9)
  · have q20 := i_nle h14
    rintro _ rfl
    rintro _ rfl
    refine s_X5_wordAt (hv9) (fun r21 v22 hv23 hq24 => ?_)
    refine s_X8_isName (hv23) (fun r25 v26 hv27 => ?_)
    refine ⟨fun h28 => ?_, fun h29 => ?_⟩
    · intro y30 e31
      have t32 : y30.toInt = c7.toInt + 1 := by rw [e31]; exact inc_i (by omega)
      refine ih11 _ _ _ _ ⟨rfl, rfl, hv27⟩ ?_
      show ((r1).toInt - y30.toInt).toNat < ((r1).toInt - c7.toInt).toNat
      omega
    · exact hp _ _ (hv27)
theorem s_X0_newScope {l : Int32} {f : Nat} {u : mS} {post : Int32 → mS → Prop} (hI : IA l f u) (hp : ∀ r v, IA l f v → post r v) : wp_X0_newScope u post := by
  rintro _ rfl
  refine ⟨fun h1 => ?_, fun h2 => ?_⟩
  · have q3 := i_ltR (30 : Int) (by decide) h1
    rintro _ rfl
    rintro _ rfl
    rintro _ rfl
    intro y5 e4
    have e4 : y5 = ((u.1 8) + (1 : Int32)) := e4
    subst e4
    rintro _ rfl
    exact hp _ _ (IA_set (hI) (by decide))
  · have q6 := i_nltR (30 : Int) (by decide) h2
    refine s_X2_fail (hI) (fun v8 hv9 => ?_)
    exact hp _ _ (hv9)
theorem s_X5_turnScope {l : Int32} {f : Nat} {x1 x2 : Int32} {u : mS} {post : mS → Prop} (hI : IA l f u) (hp : ∀ v, IA l f v → post v) : wp_X5_turnScope x1 x2 u post := by
  refine s_X5_after (hI) (fun r1 v2 hv3 hq4 => ?_)
  refine ⟨fun h5 => ?_, fun h6 => ?_⟩
  · have q7 := i_leL (0 : Int) (by decide) h5
    refine mL4_in (fun c8 c9 c10 v11 => x2 = c8 ∧ r1 = c9 ∧ 0 ≤ c10.toInt ∧ IA l f v11) (fun c8 c9 c10 v11 => ((3000 : Int) - c10.toInt).toNat) ?_ _ _ _ _ ⟨rfl, rfl, (by first | omega | decide | (rw [inc_i (by omega)]; omega)), hv3⟩
    rintro K14 c8 c9 c10 v11 ⟨rfl, rfl, j13, hv12⟩ ih15
    refine ⟨fun h16 => ?_, fun h17 => ?_⟩
    · have q18 := i_le h16
      exact hp _ (hv12)
    · have q19 := i_nle h17
      rintro _ rfl
      refine ⟨fun h20 => ?_, fun h21 => ?_⟩
      · have q22 := i_le h20
        exact hp _ (hv12)
      · have q23 := i_nle h21
        refine ⟨fun h24 => ?_, fun h25 => ?_⟩
        · have q26 := i_leL (3000 : Int) (by decide) h24
          exact hp _ (hv12)
        · have q27 := i_nleL (3000 : Int) (by decide) h25
          refine ⟨vin (by omega) (by omega), ?_⟩
          rintro _ rfl
          refine s_X8_isName (hv12) (fun r28 v29 hv30 => ?_)
          refine ⟨fun h31 => ?_, fun h32 => ?_⟩
          · intro y33 e34
            have t35 : y33.toInt = c10.toInt + 1 := by rw [e34]; exact inc_i (by omega)
            refine ih15 _ _ _ _ ⟨rfl, rfl, (by omega), hv30⟩ ?_
            show ((3000 : Int) - y33.toInt).toNat < ((3000 : Int) - c10.toInt).toNat
            omega
          · refine ⟨vin (by omega) (by omega), ?_⟩
            rintro _ rfl
            rintro _ rfl
            rintro _ rfl
            refine ⟨vin (by omega) (by omega), ?_⟩
            rintro _ rfl
            intro y36 e37
            have t38 : y36.toInt = c10.toInt + 1 := by rw [e37]; exact inc_i (by omega)
            refine ih15 _ _ _ _ ⟨rfl, rfl, (by omega), IA_put (hv30) (by decide)⟩ ?_
            show ((3000 : Int) - y36.toInt).toNat < ((3000 : Int) - c10.toInt).toNat
            omega
  · have q39 := i_nleL (0 : Int) (by decide) h6
    refine mL4_in (fun c40 c41 c42 v43 => x2 = c40 ∧ r1 = c41 ∧ 0 ≤ c42.toInt ∧ IA l f v43) (fun c40 c41 c42 v43 => ((3000 : Int) - c42.toInt).toNat) ?_ _ _ _ _ ⟨rfl, rfl, (by first | omega | decide | (rw [inc_i (by omega)]; omega)), hv3⟩
    rintro K46 c40 c41 c42 v43 ⟨rfl, rfl, j45, hv44⟩ ih47
    refine ⟨fun h48 => ?_, fun h49 => ?_⟩
    · have q50 := i_le h48
      exact hp _ (hv44)
    · have q51 := i_nle h49
      rintro _ rfl
      refine ⟨fun h52 => ?_, fun h53 => ?_⟩
      · have q54 := i_le h52
        exact hp _ (hv44)
      · have q55 := i_nle h53
        refine ⟨fun h56 => ?_, fun h57 => ?_⟩
        · have q58 := i_leL (3000 : Int) (by decide) h56
          exact hp _ (hv44)
        · have q59 := i_nleL (3000 : Int) (by decide) h57
          refine ⟨vin (by omega) (by omega), ?_⟩
          rintro _ rfl
          refine s_X8_isName (hv44) (fun r60 v61 hv62 => ?_)
          refine ⟨fun h63 => ?_, fun h64 => ?_⟩
          · intro y65 e66
            have t67 : y65.toInt = c42.toInt + 1 := by rw [e66]; exact inc_i (by omega)
            refine ih47 _ _ _ _ ⟨rfl, rfl, (by omega), hv62⟩ ?_
            show ((3000 : Int) - y65.toInt).toNat < ((3000 : Int) - c42.toInt).toNat
            omega
          · refine ⟨vin (by omega) (by omega), ?_⟩
            rintro _ rfl
            rintro _ rfl
            rintro _ rfl
            refine ⟨vin (by omega) (by omega), ?_⟩
            rintro _ rfl
            intro y68 e69
            have t70 : y68.toInt = c42.toInt + 1 := by rw [e69]; exact inc_i (by omega)
            refine ih47 _ _ _ _ ⟨rfl, rfl, (by omega), IA_put (hv62) (by decide)⟩ ?_
            show ((3000 : Int) - y68.toInt).toNat < ((3000 : Int) - c42.toInt).toNat
            omega
theorem s_X5_findName {l : Int32} {f : Nat} {x1 x2 x3 : Int32} {u : mS} {post : Int32 → mS → Prop} (hI : IA l f u) (hp : ∀ r v, IA l f v → post r v) : wp_X5_findName x1 x2 x3 u post := by
  refine ⟨fun h1 => ?_, fun h2 => ?_⟩
  · have q3 := i_ltR (0 : Int) (by decide) h1
    exact hp _ _ (hI)
  · have q4 := i_nltR (0 : Int) (by decide) h2
    rintro _ rfl
    refine ⟨fun h5 => ?_, fun h6 => ?_⟩
    · have q7 := i_le h5
      exact hp _ _ (hI)
    · have q8 := i_nle h6
      refine ⟨fun h9 => ?_, fun h10 => ?_⟩
      · have q11 := i_leL (3000 : Int) (by decide) h9
        exact hp _ _ (hI)
      · have q12 := i_nleL (3000 : Int) (by decide) h10
        refine ⟨vin (by omega) (by omega), ?_⟩
        rintro _ rfl
        refine ⟨fun h13 => ?_, fun h14 => ?_⟩
        · have q15 := i_ltL (255 : Int) (by decide) h13
          refine ⟨fun h16 => ?_, fun h17 => ?_⟩
          · have q18 := i_leL (0 : Int) (by decide) h16
            refine mL4_in (fun c19 c20 c21 v22 => x2 = c19 ∧ x3 = c20 ∧ 0 ≤ c21.toInt ∧ IA l f v22) (fun c19 c20 c21 v22 => ((3000 : Int) - c21.toInt).toNat) ?_ _ _ _ _ ⟨rfl, rfl, (by first | omega | decide | (rw [inc_i (by omega)]; omega)), hI⟩
            rintro K25 c19 c20 c21 v22 ⟨rfl, rfl, j24, hv23⟩ ih26
            refine ⟨fun h27 => ?_, fun h28 => ?_⟩
            · have q29 := i_le h27
              exact hp _ _ (hv23)
            · have q30 := i_nle h28
              rintro _ rfl
              refine ⟨fun h31 => ?_, fun h32 => ?_⟩
              · have q33 := i_le h31
                exact hp _ _ (hv23)
              · have q34 := i_nle h32
                refine ⟨fun h35 => ?_, fun h36 => ?_⟩
                · have q37 := i_leL (3000 : Int) (by decide) h35
                  exact hp _ _ (hv23)
                · have q38 := i_nleL (3000 : Int) (by decide) h36
                  refine ⟨vin (by omega) (by omega), ?_⟩
                  rintro _ rfl
                  refine ⟨vin (by omega) (by omega), ?_⟩
                  rintro _ rfl
                  refine ⟨fun h39 => ?_, fun h40 => ?_⟩
                  · intro y41 e42
                    have t43 : y41.toInt = c21.toInt + 1 := by rw [e42]; exact inc_i (by omega)
                    refine ih26 _ _ _ _ ⟨rfl, rfl, (by omega), hv23⟩ ?_
                    show ((3000 : Int) - y41.toInt).toNat < ((3000 : Int) - c21.toInt).toNat
                    omega
                  · refine ⟨vin (by omega) (by omega), ?_⟩
                    rintro _ rfl
                    refine ⟨vin (by omega) (by omega), ?_⟩
                    rintro _ rfl
                    refine ⟨fun h44 => ?_, fun h45 => ?_⟩
                    · intro y46 e47
                      have t48 : y46.toInt = c21.toInt + 1 := by rw [e47]; exact inc_i (by omega)
                      refine ih26 _ _ _ _ ⟨rfl, rfl, (by omega), hv23⟩ ?_
                      show ((3000 : Int) - y46.toInt).toNat < ((3000 : Int) - c21.toInt).toNat
                      omega
                    · exact hp _ _ (hv23)
          · have q49 := i_nleL (0 : Int) (by decide) h17
            refine mL4_in (fun c50 c51 c52 v53 => x2 = c50 ∧ x3 = c51 ∧ 0 ≤ c52.toInt ∧ IA l f v53) (fun c50 c51 c52 v53 => ((3000 : Int) - c52.toInt).toNat) ?_ _ _ _ _ ⟨rfl, rfl, (by first | omega | decide | (rw [inc_i (by omega)]; omega)), hI⟩
            rintro K56 c50 c51 c52 v53 ⟨rfl, rfl, j55, hv54⟩ ih57
            refine ⟨fun h58 => ?_, fun h59 => ?_⟩
            · have q60 := i_le h58
              exact hp _ _ (hv54)
            · have q61 := i_nle h59
              rintro _ rfl
              refine ⟨fun h62 => ?_, fun h63 => ?_⟩
              · have q64 := i_le h62
                exact hp _ _ (hv54)
              · have q65 := i_nle h63
                refine ⟨fun h66 => ?_, fun h67 => ?_⟩
                · have q68 := i_leL (3000 : Int) (by decide) h66
                  exact hp _ _ (hv54)
                · have q69 := i_nleL (3000 : Int) (by decide) h67
                  refine ⟨vin (by omega) (by omega), ?_⟩
                  rintro _ rfl
                  refine ⟨vin (by omega) (by omega), ?_⟩
                  rintro _ rfl
                  refine ⟨fun h70 => ?_, fun h71 => ?_⟩
                  · intro y72 e73
                    have t74 : y72.toInt = c52.toInt + 1 := by rw [e73]; exact inc_i (by omega)
                    refine ih57 _ _ _ _ ⟨rfl, rfl, (by omega), hv54⟩ ?_
                    show ((3000 : Int) - y72.toInt).toNat < ((3000 : Int) - c52.toInt).toNat
                    omega
                  · refine ⟨vin (by omega) (by omega), ?_⟩
                    rintro _ rfl
                    refine ⟨vin (by omega) (by omega), ?_⟩
                    rintro _ rfl
                    refine ⟨fun h75 => ?_, fun h76 => ?_⟩
                    · intro y77 e78
                      have t79 : y77.toInt = c52.toInt + 1 := by rw [e78]; exact inc_i (by omega)
                      refine ih57 _ _ _ _ ⟨rfl, rfl, (by omega), hv54⟩ ?_
                      show ((3000 : Int) - y77.toInt).toNat < ((3000 : Int) - c52.toInt).toNat
                      omega
                    · exact hp _ _ (hv54)
        · have q80 := i_nltL (255 : Int) (by decide) h14
          exact hp _ _ (hI)
theorem s_X7_bind {l : Int32} {f : Nat} {x1 x2 x3 x4 : Int32} {u : mS} {post : Int32 → mS → Prop} (hI : IA l f u) (hp : ∀ r v, IA l f v → post r v) : wp_X7_bind x1 x2 x3 x4 u post := by
  rintro _ rfl
  refine ⟨fun h1 => ?_, fun h2 => ?_⟩
  · have q3 := i_ltR (0 : Int) (by decide) h1
    exact hp _ _ (hI)
  · have q4 := i_nltR (0 : Int) (by decide) h2
    rintro _ rfl
    refine ⟨fun h5 => ?_, fun h6 => ?_⟩
    · have q7 := i_ltR (40 : Int) (by decide) h5
      rintro _ rfl
      refine ⟨vin (by omega) (by omega), ?_⟩
      rintro _ rfl
      intro y9 e8
      have e8 : y9 = u.1 4 := e8
      subst e8
      refine ⟨vin (by omega) (by omega), ?_⟩
      rintro _ rfl
      intro y11 e10
      have e10 : y11 = u.1 4 := e10
      subst e10
      refine ⟨vin (by omega) (by omega), ?_⟩
      rintro _ rfl
      intro y13 e12
      have e12 : y13 = u.1 4 := e12
      subst e12
      refine ⟨vin (by omega) (by omega), ?_⟩
      rintro _ rfl
      intro y15 e14
      have e14 : y15 = u.1 4 := e14
      subst e14
      rintro _ rfl
      rintro _ rfl
      exact hp _ _ (IA_set (IA_put (IA_put (IA_put (IA_put (hI) (by decide)) (by decide)) (by decide)) (by decide)) (by decide))
    · have q16 := i_nltR (40 : Int) (by decide) h6
      exact hp _ _ (hI)
theorem s_X0_bind {l : Int32} {f : Nat} {x1 x2 x3 : Int32} {u : mS} {post : Int32 → mS → Prop} (hI : IA l f u) (hp : ∀ r v, IA l f v → post r v) : wp_X0_bind x1 x2 x3 u post := by
  refine s_X5_wordAt (hI) (fun r1 v2 hv3 hq4 => ?_)
  refine s_X5_marksAt (hv3) (fun r5 v6 hv7 => ?_)
  refine s_X7_bind (hv7) (fun r8 v9 hv10 => ?_)
  refine ⟨fun h11 => ?_, fun h12 => ?_⟩
  · rintro _ rfl
    rintro _ rfl
    rintro _ rfl
    exact hp _ _ (IA_set (hv10) (by decide))
  · refine s_X2_fail (hv10) (fun v14 hv15 => ?_)
    exact hp _ _ (hv15)
theorem s_X0_bindVariable {l : Int32} {f : Nat} {x1 x2 : Int32} {u : mS} {post : mS → Prop} (hI : IA l f u) (hp : ∀ v, IA l f v → post v) : wp_X0_bindVariable x1 x2 u post := by
  refine s_X5_findName (hI) (fun r1 v2 hv3 => ?_)
  refine ⟨fun h4 => ?_, fun h5 => ?_⟩
  · have q6 := i_ltR (0 : Int) (by decide) h4
    rintro _ rfl
    refine s_X0_bind (hv3) (fun r7 v8 hv9 => ?_)
    refine ⟨fun h10 => ?_, fun h11 => ?_⟩
    · exact hp _ (hv9)
    · rintro _ rfl
      rintro _ rfl
      rintro _ rfl
      exact hp _ (IA_set (hv9) (by decide))
  · have q12 := i_nltR (0 : Int) (by decide) h5
    refine s_X2_fail (hv3) (fun v14 hv15 => ?_)
    exact hp _ (hv15)
theorem s_X0_putVariables {l : Int32} {f : Nat} {x1 x2 : Int32} {u : mS} {post : mS → Prop} (hI : IA l f u) (hp : ∀ v, IA l f v → post v) : wp_X0_putVariables x1 x2 u post := by
  refine s_X2_put (hI) (fun v2 hv3 => ?_)
  refine s_X2_putName (hv3) (fun v5 hv6 => ?_)
  refine s_X2_put (hv6) (fun v8 hv9 => ?_)
  refine s_X2_put (hv9) (fun v11 hv12 => ?_)
  refine mL4_in (fun c13 c14 c15 v16 => x1 = c13 ∧ x2 = c14 ∧ IA l f v16) (fun c13 c14 c15 v16 => ((x2).toInt - c15.toInt).toNat) ?_ _ _ _ _ ⟨rfl, rfl, hv12⟩
  rintro K18 c13 c14 c15 v16 ⟨rfl, rfl, hv17⟩ ih19
  have b20 : (x2).toInt < 2147483648 := Int32.toInt_lt _
  refine ⟨fun h21 => ?_, fun h22 => ?_⟩
  · have q23 := i_le h21
    refine s_X2_put (hv17) (fun v25 hv26 => ?_)
    refine s_X2_put (hv26) (fun v28 hv29 => ?_)
    exact hp _ (hv29)
  · have q30 := i_nle h22
    refine ⟨fun h31 => ?_, fun h32 => ?_⟩
    · have q33 := i_leR (0 : Int) (by decide) h31
      rintro _ rfl
      refine s_X2_putVariable (hv17) (fun v35 hv36 => ?_)
      intro y37 e38
      have t39 : y37.toInt = c15.toInt + 1 := by rw [e38]; exact inc_i (by omega)
      refine ih19 _ _ _ _ ⟨rfl, rfl, hv36⟩ ?_
      show ((x2).toInt - y37.toInt).toNat < ((x2).toInt - c15.toInt).toNat
      omega
    · have q40 := i_nleR (0 : Int) (by decide) h32
      refine s_X2_put (hv17) (fun v42 hv43 => ?_)
      rintro _ rfl
      refine s_X2_putVariable (hv43) (fun v45 hv46 => ?_)
      intro y47 e48
      have t49 : y47.toInt = c15.toInt + 1 := by rw [e48]; exact inc_i (by omega)
      refine ih19 _ _ _ _ ⟨rfl, rfl, hv46⟩ ?_
      show ((x2).toInt - y47.toInt).toNat < ((x2).toInt - c15.toInt).toNat
      omega
theorem s_X0_expandFn {l : Int32} {f : Nat} {X : Int32 → Int32 → mS → (mS → Prop) → Prop} {x1 x2 : Int32} {u : mS} {post : mS → Prop} (hX : ∀ (t : Int32) (v : mS) (q : mS → Prop), IA l f v → (∀ w, IA l f w → q w) → X t (x2 + 1) v q) (hI : IA l f u) (hp : ∀ v, IA l f v → post v) : wp_X0_expandFn X x1 x2 u post := by
  rintro _ rfl
  refine s_X5_after (hI) (fun r1 v2 hv3 hq4 => ?_)
  refine s_X5_plainLength (hv3) (fun r5 v6 hv7 hq8 => ?_)
  refine ⟨fun h9 => ?_, fun h10 => ?_⟩
  · refine s_X2_fail (hv7) (fun v12 hv13 => ?_)
    exact hp _ (hv13)
  · refine s_X0_areNames (hv7) (fun r14 v15 hv16 => ?_)
    refine ⟨fun h17 => ?_, fun h18 => ?_⟩
    · refine s_X0_newScope (hv16) (fun r19 v20 hv21 => ?_)
      refine ⟨fun h22 => ?_, fun h23 => ?_⟩
      · have q24 := i_leL (0 : Int) (by decide) h22
        refine s_X5_turnScope (hv21) (fun v26 hv27 => ?_)
        refine s_X5_turnScope (hv27) (fun v29 hv30 => ?_)
        rintro _ rfl
        rintro _ rfl
        refine s_X5_itemsFrom (hv30) (fun r31 v32 hv33 hq34 => ?_)
        refine mL7_in (fun c35 c36 c37 c38 c39 c40 v41 => x2 = c35 ∧ (x1 + (2 : Int32)) = c36 ∧ r1 = c37 ∧ (v29.1 10) = c38 ∧ r31 = c39 ∧ IA l f v41) (fun c35 c36 c37 c38 c39 c40 v41 => ((r31).toInt - c40.toInt).toNat) ?_ _ _ _ _ _ _ _ ⟨rfl, rfl, rfl, rfl, rfl, hv33⟩
        rintro K43 c35 c36 c37 c38 c39 c40 v41 ⟨rfl, rfl, rfl, rfl, rfl, hv42⟩ ih44
        have b45 : (r31).toInt < 2147483648 := Int32.toInt_lt _
        refine ⟨fun h46 => ?_, fun h47 => ?_⟩
        · have q48 := i_le h46
          rintro _ rfl
          refine ⟨fun h49 => ?_, fun h50 => ?_⟩
          · refine s_X0_putVariables (hv42) (fun v52 hv53 => ?_)
            rintro _ rfl
            refine hX _ _ _ (hv53) (fun v55 hv56 => ?_)
            refine s_X2_put (hv56) (fun v58 hv59 => ?_)
            exact hp _ (hv59)
          · exact hp _ (hv42)
        · have q60 := i_nle h47
          rintro _ rfl
          refine ⟨fun h61 => ?_, fun h62 => ?_⟩
          · rintro _ rfl
            refine ⟨fun h63 => ?_, fun h64 => ?_⟩
            · refine s_X0_putVariables (hv42) (fun v66 hv67 => ?_)
              rintro _ rfl
              refine hX _ _ _ (hv67) (fun v69 hv70 => ?_)
              refine s_X2_put (hv70) (fun v72 hv73 => ?_)
              exact hp _ (hv73)
            · exact hp _ (hv42)
          · rintro _ rfl
            rintro _ rfl
            rintro _ rfl
            refine s_X0_bindVariable (hv42) (fun v75 hv76 => ?_)
            intro y77 e78
            have t79 : y77.toInt = c40.toInt + 1 := by rw [e78]; exact inc_i (by omega)
            refine ih44 _ _ _ _ _ _ _ ⟨rfl, rfl, rfl, rfl, rfl, hv76⟩ ?_
            show ((r31).toInt - y77.toInt).toNat < ((r31).toInt - c40.toInt).toNat
            omega
      · have q80 := i_nleL (0 : Int) (by decide) h23
        exact hp _ (hv21)
    · refine s_X2_fail (hv16) (fun v82 hv83 => ?_)
      exact hp _ (hv83)
theorem s_X0_expandIf {l : Int32} {f : Nat} {X : Int32 → Int32 → mS → (mS → Prop) → Prop} {x1 x2 : Int32} {u : mS} {post : mS → Prop} (hX : ∀ (t : Int32) (v : mS) (q : mS → Prop), IA l f v → (∀ w, IA l f w → q w) → X t (x2 + 1) v q) (hI : IA l f u) (hp : ∀ v, IA l f v → post v) : wp_X0_expandIf X x1 x2 u post := by
  refine s_X5_plainLength (hI) (fun r1 v2 hv3 hq4 => ?_)
  refine ⟨fun h5 => ?_, fun h6 => ?_⟩
  · refine s_X2_put (hv3) (fun v8 hv9 => ?_)
    refine s_X2_putName (hv9) (fun v11 hv12 => ?_)
    rintro _ rfl
    refine mL4_in (fun c13 c14 c15 v16 => x2 = c13 ∧ IA l f v16) (fun c13 c14 c15 v16 => ((3 : Int) - c15.toInt).toNat) ?_ _ _ _ _ ⟨rfl, hv12⟩
    rintro K18 c13 c14 c15 v16 ⟨rfl, hv17⟩ ih19
    refine ⟨fun h20 => ?_, fun h21 => ?_⟩
    · have q22 := i_leL (3 : Int) (by decide) h20
      refine s_X2_put (hv17) (fun v24 hv25 => ?_)
      exact hp _ (hv25)
    · have q26 := i_nleL (3 : Int) (by decide) h21
      refine s_X2_put (hv17) (fun v28 hv29 => ?_)
      rintro _ rfl
      refine hX _ _ _ (hv29) (fun v31 hv32 => ?_)
      refine s_X5_after (hv32) (fun r33 v34 hv35 hq36 => ?_)
      intro y37 e38
      have t39 : y37.toInt = c15.toInt + 1 := by rw [e38]; exact inc_i (by omega)
      refine ih19 _ _ _ _ ⟨rfl, hv35⟩ ?_
      show ((3 : Int) - y37.toInt).toNat < ((3 : Int) - c15.toInt).toNat
      omega
  · refine s_X2_fail (hv3) (fun v41 hv42 => ?_)
    exact hp _ (hv42)
theorem s_X2_putWord {l : Int32} {f : Nat} {x1 : Int32} {u : mS} {post : mS → Prop} (hI : IA l f u) (hp : ∀ v, IA l f v → post v) : wp_X2_putWord x1 u post := by
  refine s_X8_isName (hI) (fun r1 v2 hv3 => ?_)
  refine ⟨fun h4 => ?_, fun h5 => ?_⟩
  · refine s_X8_isNumber (hv3) (fun r6 v7 hv8 => ?_)
    refine ⟨fun h9 => ?_, fun h10 => ?_⟩
    · refine ⟨fun h11 => ?_, fun h12 => ?_⟩
      · refine ⟨fun h13 => ?_, fun h14 => ?_⟩
        · refine ⟨fun h15 => ?_, fun h16 => ?_⟩
          · refine s_X2_put (hv8) (fun v18 hv19 => ?_)
            exact hp _ (hv19)
          · refine s_X2_put (hv8) (fun v21 hv22 => ?_)
            exact hp _ (hv22)
        · refine s_X2_put (hv8) (fun v24 hv25 => ?_)
          exact hp _ (hv25)
      · refine s_X2_put (hv8) (fun v27 hv28 => ?_)
        refine s_X2_put (hv28) (fun v30 hv31 => ?_)
        exact hp _ (hv31)
    · refine s_X2_putNumber (hv8) (fun v33 hv34 => ?_)
      exact hp _ (hv34)
  · refine s_X2_putName (hv3) (fun v36 hv37 => ?_)
    exact hp _ (hv37)
theorem s_X2_putTree {l : Int32} {f : Nat} {x2 : Int32} {u : mS} {post : mS → Prop} (hI : IA l f u) (hp : ∀ v, IA l f v → post v) : wp_X2_putTree x2 u post := by
  refine s_X5_after (hI) (fun r1 v2 hv3 hq4 => ?_)
  refine mL4_in (fun c5 c6 c7 v8 => x2 = c5 ∧ r1 = c6 ∧ IA l f v8) (fun c5 c6 c7 v8 => ((r1).toInt - c7.toInt).toNat) ?_ _ _ _ _ ⟨rfl, rfl, hv3⟩
  rintro K10 c5 c6 c7 v8 ⟨rfl, rfl, hv9⟩ ih11
  have b12 : (r1).toInt < 2147483648 := Int32.toInt_lt _
  refine ⟨fun h13 => ?_, fun h14 => ?_⟩
  · have q15 := i_le h13
    exact hp _ (hv9)
  · have q16 := i_nle h14
    refine ⟨fun h17 => ?_, fun h18 => ?_⟩
    · have q19 := i_le h17
      refine s_X5_wordAt (hv9) (fun r20 v21 hv22 hq23 => ?_)
      refine s_X2_putWord (hv22) (fun v25 hv26 => ?_)
      intro y27 e28
      have t29 : y27.toInt = c7.toInt + 1 := by rw [e28]; exact inc_i (by omega)
      refine ih11 _ _ _ _ ⟨rfl, rfl, hv26⟩ ?_
      show ((r1).toInt - y27.toInt).toNat < ((r1).toInt - c7.toInt).toNat
      omega
    · have q30 := i_nle h18
      refine s_X5_wordAt (hv9) (fun r31 v32 hv33 hq34 => ?_)
      refine ⟨fun h35 => ?_, fun h36 => ?_⟩
      · refine s_X5_wordAt (hv33) (fun r37 v38 hv39 hq40 => ?_)
        refine s_X2_putWord (hv39) (fun v42 hv43 => ?_)
        intro y44 e45
        have t46 : y44.toInt = c7.toInt + 1 := by rw [e45]; exact inc_i (by omega)
        refine ih11 _ _ _ _ ⟨rfl, rfl, hv43⟩ ?_
        show ((r1).toInt - y44.toInt).toNat < ((r1).toInt - c7.toInt).toNat
        omega
      · rintro _ rfl
        refine s_X5_wordAt (hv33) (fun r47 v48 hv49 hq50 => ?_)
        refine ⟨fun h51 => ?_, fun h52 => ?_⟩
        · have g53 := hq50 (by rw [h51]; decide)
          refine s_X5_wordAt (hv49) (fun r54 v55 hv56 hq57 => ?_)
          refine s_X2_putWord (hv56) (fun v59 hv60 => ?_)
          intro y61 e62
          have t63 : y61.toInt = c7.toInt + 1 := by rw [e62]; exact inc_i (by omega)
          refine ih11 _ _ _ _ ⟨rfl, rfl, hv60⟩ ?_
          show ((r1).toInt - y61.toInt).toNat < ((r1).toInt - c7.toInt).toNat
          omega
        · refine s_X2_put (hv49) (fun v65 hv66 => ?_)
          refine s_X5_wordAt (hv66) (fun r67 v68 hv69 hq70 => ?_)
          refine s_X2_putWord (hv69) (fun v72 hv73 => ?_)
          intro y74 e75
          have t76 : y74.toInt = c7.toInt + 1 := by rw [e75]; exact inc_i (by omega)
          refine ih11 _ _ _ _ ⟨rfl, rfl, hv73⟩ ?_
          show ((r1).toInt - y74.toInt).toNat < ((r1).toInt - c7.toInt).toNat
          omega
theorem s_X0_expandQ {l : Int32} {f : Nat} {x1 : Int32} {u : mS} {post : mS → Prop} (hI : IA l f u) (hp : ∀ v, IA l f v → post v) : wp_X0_expandQ x1 u post := by
  refine s_X5_plainLength (hI) (fun r1 v2 hv3 hq4 => ?_)
  refine ⟨fun h5 => ?_, fun h6 => ?_⟩
  · refine s_X2_putTree (hv3) (fun v8 hv9 => ?_)
    exact hp _ (hv9)
  · refine s_X2_fail (hv3) (fun v11 hv12 => ?_)
    exact hp _ (hv12)
theorem s_X5_isHeld {l : Int32} {f : Nat} {x1 : Int32} {u : mS} {post : Int32 → mS → Prop} (hI : IA l f u) (hp : ∀ r v, IA l f v → post r v) : wp_X5_isHeld x1 u post := by
  refine ⟨fun h1 => ?_, fun h2 => ?_⟩
  · have q3 := i_ltR (0 : Int) (by decide) h1
    exact hp _ _ (hI)
  · have q4 := i_nltR (0 : Int) (by decide) h2
    rintro _ rfl
    refine ⟨fun h5 => ?_, fun h6 => ?_⟩
    · have q7 := i_le h5
      exact hp _ _ (hI)
    · have q8 := i_nle h6
      refine ⟨fun h9 => ?_, fun h10 => ?_⟩
      · have q11 := i_leL (3000 : Int) (by decide) h9
        exact hp _ _ (hI)
      · have q12 := i_nleL (3000 : Int) (by decide) h10
        refine ⟨vin (by omega) (by omega), ?_⟩
        rintro _ rfl
        refine ⟨fun h13 => ?_, fun h14 => ?_⟩
        · refine ⟨vin (by omega) (by omega), ?_⟩
          rintro _ rfl
          rintro _ rfl
          refine ⟨fun h15 => ?_, fun h16 => ?_⟩
          · have q17 := i_ltR (0 : Int) (by decide) h15
            exact hp _ _ (hI)
          · have q18 := i_nltR (0 : Int) (by decide) h16
            rintro _ rfl
            refine ⟨fun h19 => ?_, fun h20 => ?_⟩
            · have q21 := i_le h19
              exact hp _ _ (hI)
            · have q22 := i_nle h20
              refine ⟨fun h23 => ?_, fun h24 => ?_⟩
              · have q25 := i_leL (3000 : Int) (by decide) h23
                exact hp _ _ (hI)
              · have q26 := i_nleL (3000 : Int) (by decide) h24
                refine ⟨vin (by omega) (by omega), ?_⟩
                rintro _ rfl
                refine ⟨fun h27 => ?_, fun h28 => ?_⟩
                · exact hp _ _ (hI)
                · exact hp _ _ (hI)
        · exact hp _ _ (hI)
theorem s_X8_isTree {l : Int32} {f : Nat} {x0 : Int32} {u : mS} {post : Int32 → mS → Prop} (hI : IA l f u) (hp : ∀ r v, IA l f v → post r v) : wp_X8_isTree x0 u post := by
  refine ⟨fun h1 => ?_, fun h2 => ?_⟩
  · exact hp _ _ (hI)
  · refine ⟨fun h3 => ?_, fun h4 => ?_⟩
    · exact hp _ _ (hI)
    · exact hp _ _ (hI)
theorem s_X5_holders {l : Int32} {f : Nat} {x1 x2 : Int32} {u : mS} {post : Int32 → mS → Prop} (hx : x1.toInt < 2147483647) (hI : IA l f u) (hp : ∀ r v, IA l f v → post r v) : wp_X5_holders x1 x2 u post := by
  refine ⟨fun h1 => ?_, fun h2 => ?_⟩
  · have q3 := i_leL (0 : Int) (by decide) h1
    rintro _ rfl
    refine mL4_in (fun c4 c5 c6 v7 => x2 = c4 ∧ 0 ≤ c6.toInt ∧ IA l f v7) (fun c4 c5 c6 v7 => ((3000 : Int) - c6.toInt).toNat) ?_ _ _ _ _ ⟨rfl, (by first | omega | decide | (rw [inc_i (by omega)]; omega)), hI⟩
    rintro K10 c4 c5 c6 v7 ⟨rfl, j9, hv8⟩ ih11
    refine ⟨fun h12 => ?_, fun h13 => ?_⟩
    · have q14 := i_lt h12
      exact hp _ _ (hv8)
    · have q15 := i_nlt h13
      rintro _ rfl
      refine ⟨fun h16 => ?_, fun h17 => ?_⟩
      · have q18 := i_le h16
        exact hp _ _ (hv8)
      · have q19 := i_nle h17
        refine ⟨fun h20 => ?_, fun h21 => ?_⟩
        · have q22 := i_leL (3000 : Int) (by decide) h20
          exact hp _ _ (hv8)
        · have q23 := i_nleL (3000 : Int) (by decide) h21
          refine ⟨vin (by omega) (by omega), ?_⟩
          rintro _ rfl
          rintro _ rfl
          refine ⟨fun h24 => ?_, fun h25 => ?_⟩
          · have q26 := i_le h24
            intro y27 e28
            have t29 : y27.toInt = c6.toInt + 1 := by rw [e28]; exact inc_i (by omega)
            refine ih11 _ _ _ _ ⟨rfl, (by omega), hv8⟩ ?_
            show ((3000 : Int) - y27.toInt).toNat < ((3000 : Int) - c6.toInt).toNat
            omega
          · have q30 := i_nle h25
            rintro _ rfl
            refine ⟨fun h31 => ?_, fun h32 => ?_⟩
            · have q33 := i_le h31
              intro y34 e35
              have t36 : y34.toInt = c6.toInt + 1 := by rw [e35]; exact inc_i (by omega)
              refine ih11 _ _ _ _ ⟨rfl, (by omega), hv8⟩ ?_
              show ((3000 : Int) - y34.toInt).toNat < ((3000 : Int) - c6.toInt).toNat
              omega
            · have q37 := i_nle h32
              refine ⟨fun h38 => ?_, fun h39 => ?_⟩
              · have q40 := i_leL (3000 : Int) (by decide) h38
                intro y41 e42
                have t43 : y41.toInt = c6.toInt + 1 := by rw [e42]; exact inc_i (by omega)
                refine ih11 _ _ _ _ ⟨rfl, (by omega), hv8⟩ ?_
                show ((3000 : Int) - y41.toInt).toNat < ((3000 : Int) - c6.toInt).toNat
                omega
              · have q44 := i_nleL (3000 : Int) (by decide) h39
                refine ⟨vin (by omega) (by omega), ?_⟩
                rintro _ rfl
                refine ⟨fun h45 => ?_, fun h46 => ?_⟩
                · intro y47 e48
                  have t49 : y47.toInt = c6.toInt + 1 := by rw [e48]; exact inc_i (by omega)
                  refine ih11 _ _ _ _ ⟨rfl, (by omega), hv8⟩ ?_
                  show ((3000 : Int) - y47.toInt).toNat < ((3000 : Int) - c6.toInt).toNat
                  omega
                · refine ⟨vin (by omega) (by omega), ?_⟩
                  rintro _ rfl
                  refine ⟨fun h50 => ?_, fun h51 => ?_⟩
                  · intro y52 e53
                    have t54 : y52.toInt = c6.toInt + 1 := by rw [e53]; exact inc_i (by omega)
                    refine ih11 _ _ _ _ ⟨rfl, (by omega), hv8⟩ ?_
                    show ((3000 : Int) - y52.toInt).toNat < ((3000 : Int) - c6.toInt).toNat
                    omega
                  · rintro _ rfl
                    intro y55 e56
                    have t57 : y55.toInt = c6.toInt + 1 := by rw [e56]; exact inc_i (by omega)
                    refine ih11 _ _ _ _ ⟨rfl, (by omega), hv8⟩ ?_
                    show ((3000 : Int) - y55.toInt).toNat < ((3000 : Int) - c6.toInt).toNat
                    omega
  · have q58 := i_nleL (0 : Int) (by decide) h2
    refine mL4_in (fun c59 c60 c61 v62 => x2 = c59 ∧ 0 ≤ c61.toInt ∧ IA l f v62) (fun c59 c60 c61 v62 => ((3000 : Int) - c61.toInt).toNat) ?_ _ _ _ _ ⟨rfl, (by first | omega | decide | (rw [inc_i (by omega)]; omega)), hI⟩
    rintro K65 c59 c60 c61 v62 ⟨rfl, j64, hv63⟩ ih66
    refine ⟨fun h67 => ?_, fun h68 => ?_⟩
    · have q69 := i_lt h67
      exact hp _ _ (hv63)
    · have q70 := i_nlt h68
      rintro _ rfl
      refine ⟨fun h71 => ?_, fun h72 => ?_⟩
      · have q73 := i_le h71
        exact hp _ _ (hv63)
      · have q74 := i_nle h72
        refine ⟨fun h75 => ?_, fun h76 => ?_⟩
        · have q77 := i_leL (3000 : Int) (by decide) h75
          exact hp _ _ (hv63)
        · have q78 := i_nleL (3000 : Int) (by decide) h76
          refine ⟨vin (by omega) (by omega), ?_⟩
          rintro _ rfl
          rintro _ rfl
          refine ⟨fun h79 => ?_, fun h80 => ?_⟩
          · have q81 := i_le h79
            intro y82 e83
            have t84 : y82.toInt = c61.toInt + 1 := by rw [e83]; exact inc_i (by omega)
            refine ih66 _ _ _ _ ⟨rfl, (by omega), hv63⟩ ?_
            show ((3000 : Int) - y82.toInt).toNat < ((3000 : Int) - c61.toInt).toNat
            omega
          · have q85 := i_nle h80
            rintro _ rfl
            refine ⟨fun h86 => ?_, fun h87 => ?_⟩
            · have q88 := i_le h86
              intro y89 e90
              have t91 : y89.toInt = c61.toInt + 1 := by rw [e90]; exact inc_i (by omega)
              refine ih66 _ _ _ _ ⟨rfl, (by omega), hv63⟩ ?_
              show ((3000 : Int) - y89.toInt).toNat < ((3000 : Int) - c61.toInt).toNat
              omega
            · have q92 := i_nle h87
              refine ⟨fun h93 => ?_, fun h94 => ?_⟩
              · have q95 := i_leL (3000 : Int) (by decide) h93
                intro y96 e97
                have t98 : y96.toInt = c61.toInt + 1 := by rw [e97]; exact inc_i (by omega)
                refine ih66 _ _ _ _ ⟨rfl, (by omega), hv63⟩ ?_
                show ((3000 : Int) - y96.toInt).toNat < ((3000 : Int) - c61.toInt).toNat
                omega
              · have q99 := i_nleL (3000 : Int) (by decide) h94
                refine ⟨vin (by omega) (by omega), ?_⟩
                rintro _ rfl
                refine ⟨fun h100 => ?_, fun h101 => ?_⟩
                · intro y102 e103
                  have t104 : y102.toInt = c61.toInt + 1 := by rw [e103]; exact inc_i (by omega)
                  refine ih66 _ _ _ _ ⟨rfl, (by omega), hv63⟩ ?_
                  show ((3000 : Int) - y102.toInt).toNat < ((3000 : Int) - c61.toInt).toNat
                  omega
                · refine ⟨vin (by omega) (by omega), ?_⟩
                  rintro _ rfl
                  refine ⟨fun h105 => ?_, fun h106 => ?_⟩
                  · intro y107 e108
                    have t109 : y107.toInt = c61.toInt + 1 := by rw [e108]; exact inc_i (by omega)
                    refine ih66 _ _ _ _ ⟨rfl, (by omega), hv63⟩ ?_
                    show ((3000 : Int) - y107.toInt).toNat < ((3000 : Int) - c61.toInt).toNat
                    omega
                  · rintro _ rfl
                    intro y110 e111
                    have t112 : y110.toInt = c61.toInt + 1 := by rw [e111]; exact inc_i (by omega)
                    refine ih66 _ _ _ _ ⟨rfl, (by omega), hv63⟩ ?_
                    show ((3000 : Int) - y110.toInt).toNat < ((3000 : Int) - c61.toInt).toNat
                    omega
theorem s_X6_isPattern {l : Int32} {f : Nat} {x1 : Int32} {u : mS} {post : Int32 → mS → Prop} (hx : x1.toInt < 2147483647) (hI : IA l f u) (hp : ∀ r v, IA l f v → post r v) : wp_X6_isPattern x1 u post := by
  rintro _ rfl
  refine s_X5_wordAt (hI) (fun r1 v2 hv3 hq4 => ?_)
  refine ⟨fun h5 => ?_, fun h6 => ?_⟩
  · exact hp _ _ (hv3)
  · have g7 := hq4 (by rw [h6]; decide)
    refine s_X5_wordAt (hv3) (fun r8 v9 hv10 hq11 => ?_)
    refine ⟨fun h12 => ?_, fun h13 => ?_⟩
    · exact hp _ _ (hv10)
    · refine s_X5_isHeld (hv10) (fun r14 v15 hv16 => ?_)
      refine ⟨fun h17 => ?_, fun h18 => ?_⟩
      · refine s_X5_after (hv16) (fun r19 v20 hv21 hq22 => ?_)
        refine s_X5_after (hv21) (fun r23 v24 hv25 hq26 => ?_)
        refine mL5_in (fun c27 c28 c29 c30 v31 => x1 = c27 ∧ r19 = c28 ∧ r23 = c29 ∧ IA l f v31) (fun c27 c28 c29 c30 v31 => ((r23).toInt - c30.toInt).toNat) ?_ _ _ _ _ _ ⟨rfl, rfl, rfl, hv25⟩
        rintro K33 c27 c28 c29 c30 v31 ⟨rfl, rfl, rfl, hv32⟩ ih34
        have b35 : (r23).toInt < 2147483648 := Int32.toInt_lt _
        refine ⟨fun h36 => ?_, fun h37 => ?_⟩
        · have q38 := i_le h36
          exact hp _ _ (hv32)
        · have q39 := i_nle h37
          refine s_X5_wordAt (hv32) (fun r40 v41 hv42 hq43 => ?_)
          refine ⟨fun h44 => ?_, fun h45 => ?_⟩
          · refine s_X8_isTree (hv42) (fun r46 v47 hv48 => ?_)
            refine ⟨fun h49 => ?_, fun h50 => ?_⟩
            · refine s_X5_findName (hv48) (fun r51 v52 hv53 => ?_)
              refine ⟨fun h54 => ?_, fun h55 => ?_⟩
              · have q56 := i_ltR (0 : Int) (by decide) h54
                intro y57 e58
                have t59 : y57.toInt = c30.toInt + 1 := by rw [e58]; exact inc_i (by omega)
                refine ih34 _ _ _ _ _ ⟨rfl, rfl, rfl, hv53⟩ ?_
                show ((r23).toInt - y57.toInt).toNat < ((r23).toInt - c30.toInt).toNat
                omega
              · have q60 := i_nltR (0 : Int) (by decide) h55
                exact hp _ _ (hv53)
            · refine s_X5_holders (by first | omega | decide) (hv48) (fun r61 v62 hv63 => ?_)
              refine ⟨fun h64 => ?_, fun h65 => ?_⟩
              · have q66 := i_leR (2 : Int) (by decide) h64
                refine s_X5_findName (hv63) (fun r67 v68 hv69 => ?_)
                refine ⟨fun h70 => ?_, fun h71 => ?_⟩
                · have q72 := i_ltR (0 : Int) (by decide) h70
                  intro y73 e74
                  have t75 : y73.toInt = c30.toInt + 1 := by rw [e74]; exact inc_i (by omega)
                  refine ih34 _ _ _ _ _ ⟨rfl, rfl, rfl, hv69⟩ ?_
                  show ((r23).toInt - y73.toInt).toNat < ((r23).toInt - c30.toInt).toNat
                  omega
                · have q76 := i_nltR (0 : Int) (by decide) h71
                  exact hp _ _ (hv69)
              · have q77 := i_nleR (2 : Int) (by decide) h65
                exact hp _ _ (hv63)
          · have g78 := hq43 (by rw [h45]; decide)
            intro y79 e80
            have t81 : y79.toInt = c30.toInt + 1 := by rw [e80]; exact inc_i (by omega)
            refine s_X5_wordAt (hv42) (fun r82 v83 hv84 hq85 => ?_)
            refine ⟨fun h86 => ?_, fun h87 => ?_⟩
            · refine s_X8_isTree (hv84) (fun r88 v89 hv90 => ?_)
              refine ⟨fun h91 => ?_, fun h92 => ?_⟩
              · refine s_X5_findName (hv90) (fun r93 v94 hv95 => ?_)
                refine ⟨fun h96 => ?_, fun h97 => ?_⟩
                · have q98 := i_ltR (0 : Int) (by decide) h96
                  intro y99 e100
                  have t101 : y99.toInt = c30.toInt + 1 := by rw [e100]; exact inc_i (by omega)
                  refine ih34 _ _ _ _ _ ⟨rfl, rfl, rfl, hv95⟩ ?_
                  show ((r23).toInt - y99.toInt).toNat < ((r23).toInt - c30.toInt).toNat
                  omega
                · have q102 := i_nltR (0 : Int) (by decide) h97
                  exact hp _ _ (hv95)
              · refine s_X5_holders (by first | omega | decide) (hv90) (fun r103 v104 hv105 => ?_)
                refine ⟨fun h106 => ?_, fun h107 => ?_⟩
                · have q108 := i_leR (2 : Int) (by decide) h106
                  refine s_X5_findName (hv105) (fun r109 v110 hv111 => ?_)
                  refine ⟨fun h112 => ?_, fun h113 => ?_⟩
                  · have q114 := i_ltR (0 : Int) (by decide) h112
                    intro y115 e116
                    have t117 : y115.toInt = c30.toInt + 1 := by rw [e116]; exact inc_i (by omega)
                    refine ih34 _ _ _ _ _ ⟨rfl, rfl, rfl, hv111⟩ ?_
                    show ((r23).toInt - y115.toInt).toNat < ((r23).toInt - c30.toInt).toNat
                    omega
                  · have q118 := i_nltR (0 : Int) (by decide) h113
                    exact hp _ _ (hv111)
                · have q119 := i_nleR (2 : Int) (by decide) h107
                  exact hp _ _ (hv105)
            · exact hp _ _ (hv84)
      · exact hp _ _ (hv16)
theorem s_X5_setVariable {l : Int32} {f : Nat} {x1 x2 : Int32} {u : mS} {post : mS → Prop} (hI : IA l f u) (hp : ∀ v, IA l f v → post v) : wp_X5_setVariable x1 x2 u post := by
  refine ⟨fun h1 => ?_, fun h2 => ?_⟩
  · have q3 := i_ltR (0 : Int) (by decide) h1
    exact hp _ (hI)
  · have q4 := i_nltR (0 : Int) (by decide) h2
    rintro _ rfl
    refine ⟨fun h5 => ?_, fun h6 => ?_⟩
    · have q7 := i_le h5
      exact hp _ (hI)
    · have q8 := i_nle h6
      refine ⟨fun h9 => ?_, fun h10 => ?_⟩
      · have q11 := i_leL (3000 : Int) (by decide) h9
        exact hp _ (hI)
      · have q12 := i_nleL (3000 : Int) (by decide) h10
        refine ⟨fun h13 => ?_, fun h14 => ?_⟩
        · have q15 := i_leL (0 : Int) (by decide) h13
          rintro _ rfl
          refine ⟨vin (by omega) (by omega), ?_⟩
          rintro _ rfl
          exact hp _ (IA_put (hI) (by decide))
        · have q16 := i_nleL (0 : Int) (by decide) h14
          refine ⟨vin (by omega) (by omega), ?_⟩
          rintro _ rfl
          exact hp _ (IA_put (hI) (by decide))
theorem s_X6_linkUses {l : Int32} {f : Nat} {x1 x2 : Int32} {u : mS} {post : mS → Prop} (hI : IA l f u) (hp : ∀ v, IA l f v → post v) : wp_X6_linkUses x1 x2 u post := by
  rintro _ rfl
  refine s_X5_after (hI) (fun r1 v2 hv3 hq4 => ?_)
  refine s_X5_after (hv3) (fun r5 v6 hv7 hq8 => ?_)
  refine mL5_in (fun c9 c10 c11 c12 v13 => x2 = c9 ∧ r1 = c10 ∧ r5 = c11 ∧ IA l f v13) (fun c9 c10 c11 c12 v13 => ((r5).toInt - c12.toInt).toNat) ?_ _ _ _ _ _ ⟨rfl, rfl, rfl, hv7⟩
  rintro K15 c9 c10 c11 c12 v13 ⟨rfl, rfl, rfl, hv14⟩ ih16
  have b17 : (r5).toInt < 2147483648 := Int32.toInt_lt _
  refine ⟨fun h18 => ?_, fun h19 => ?_⟩
  · have q20 := i_le h18
    exact hp _ (hv14)
  · have q21 := i_nle h19
    refine s_X5_findName (hv14) (fun r22 v23 hv24 => ?_)
    refine s_X5_setVariable (hv24) (fun v26 hv27 => ?_)
    intro y28 e29
    have t30 : y28.toInt = c12.toInt + 1 := by rw [e29]; exact inc_i (by omega)
    refine ih16 _ _ _ _ _ ⟨rfl, rfl, rfl, hv27⟩ ?_
    show ((r5).toInt - y28.toInt).toNat < ((r5).toInt - c12.toInt).toNat
    omega
theorem s_X5_variableAt {l : Int32} {f : Nat} {x1 : Int32} {u : mS} {post : Int32 → mS → Prop} (hI : IA l f u) (hp : ∀ r v, IA l f v → post r v) : wp_X5_variableAt x1 u post := by
  refine ⟨fun h1 => ?_, fun h2 => ?_⟩
  · have q3 := i_ltR (0 : Int) (by decide) h1
    exact hp _ _ (hI)
  · have q4 := i_nltR (0 : Int) (by decide) h2
    rintro _ rfl
    refine ⟨fun h5 => ?_, fun h6 => ?_⟩
    · have q7 := i_le h5
      exact hp _ _ (hI)
    · have q8 := i_nle h6
      refine ⟨fun h9 => ?_, fun h10 => ?_⟩
      · have q11 := i_leL (3000 : Int) (by decide) h9
        exact hp _ _ (hI)
      · have q12 := i_nleL (3000 : Int) (by decide) h10
        refine ⟨vin (by omega) (by omega), ?_⟩
        rintro _ rfl
        refine ⟨fun h13 => ?_, fun h14 => ?_⟩
        · have q15 := i_leR (0 : Int) (by decide) h13
          exact hp _ _ (hI)
        · have q16 := i_nleR (0 : Int) (by decide) h14
          refine ⟨vin (by omega) (by omega), ?_⟩
          rintro _ rfl
          rintro _ rfl
          exact hp _ _ (hI)
theorem s_X5_hasUse {l : Int32} {f : Nat} {x1 : Int32} {u : mS} {post : Int32 → mS → Prop} (hI : IA l f u) (hp : ∀ r v, IA l f v → post r v) : wp_X5_hasUse x1 u post := by
  refine ⟨fun h1 => ?_, fun h2 => ?_⟩
  · have q3 := i_ltR (0 : Int) (by decide) h1
    exact hp _ _ (hI)
  · have q4 := i_nltR (0 : Int) (by decide) h2
    rintro _ rfl
    refine ⟨fun h5 => ?_, fun h6 => ?_⟩
    · have q7 := i_le h5
      exact hp _ _ (hI)
    · have q8 := i_nle h6
      refine ⟨fun h9 => ?_, fun h10 => ?_⟩
      · have q11 := i_ltR (3000 : Int) (by decide) h9
        refine mL3_in (fun c12 c13 v14 => x1 = c12 ∧ 0 ≤ c13.toInt ∧ IA l f v14) (fun c12 c13 v14 => ((3000 : Int) - c13.toInt).toNat) ?_ _ _ _ ⟨rfl, (by first | omega | decide | (rw [inc_i (by omega)]; omega)), hI⟩
        rintro K17 c12 c13 v14 ⟨rfl, j16, hv15⟩ ih18
        refine ⟨vin (by omega) (by omega), ?_⟩
        rintro _ rfl
        rintro _ rfl
        refine ⟨fun h19 => ?_, fun h20 => ?_⟩
        · have q21 := i_le h19
          exact hp _ _ (hv15)
        · have q22 := i_nle h20
          rintro _ rfl
          refine ⟨fun h23 => ?_, fun h24 => ?_⟩
          · have q25 := i_le h23
            exact hp _ _ (hv15)
          · have q26 := i_nle h24
            refine ⟨fun h27 => ?_, fun h28 => ?_⟩
            · have q29 := i_leL (3000 : Int) (by decide) h27
              exact hp _ _ (hv15)
            · have q30 := i_nleL (3000 : Int) (by decide) h28
              refine ⟨vin (by omega) (by omega), ?_⟩
              rintro _ rfl
              refine ⟨fun h31 => ?_, fun h32 => ?_⟩
              · have q33 := i_leR (0 : Int) (by decide) h31
                intro y34 e35
                have t36 : y34.toInt = c13.toInt + 1 := by rw [e35]; exact inc_i (by omega)
                refine ih18 _ _ _ ⟨rfl, (by omega), hv15⟩ ?_
                show ((3000 : Int) - y34.toInt).toNat < ((3000 : Int) - c13.toInt).toNat
                omega
              · have q37 := i_nleR (0 : Int) (by decide) h32
                exact hp _ _ (hv15)
      · have q38 := i_nltR (3000 : Int) (by decide) h10
        exact hp _ _ (hI)
theorem s_X6_isTemplate {l : Int32} {f : Nat} {x1 x2 : Int32} {u : mS} {post : Int32 → mS → Prop} (hx : x1.toInt < 2147483647) (hx2 : x2.toInt < 2147483647) (hI : IA l f u) (hp : ∀ r v, IA l f v → post r v) : wp_X6_isTemplate x1 x2 u post := by
  refine s_X5_after (hI) (fun r1 v2 hv3 hq4 => ?_)
  refine mL5_in (fun c5 c6 c7 c8 v9 => x1 = c5 ∧ x2 = c6 ∧ r1 = c7 ∧ IA l f v9) (fun c5 c6 c7 c8 v9 => ((r1).toInt - c8.toInt).toNat) ?_ _ _ _ _ _ ⟨rfl, rfl, rfl, hv3⟩
  rintro K11 c5 c6 c7 c8 v9 ⟨rfl, rfl, rfl, hv10⟩ ih12
  have b13 : (r1).toInt < 2147483648 := Int32.toInt_lt _
  refine ⟨fun h14 => ?_, fun h15 => ?_⟩
  · have q16 := i_le h14
    exact hp _ _ (hv10)
  · have q17 := i_nle h15
    refine s_X5_variableAt (hv10) (fun r18 v19 hv20 => ?_)
    refine ⟨fun h21 => ?_, fun h22 => ?_⟩
    · have q23 := i_ltR (0 : Int) (by decide) h21
      refine s_X5_isHeld (hv20) (fun r24 v25 hv26 => ?_)
      refine ⟨fun h27 => ?_, fun h28 => ?_⟩
      · intro y29 e30
        have t31 : y29.toInt = c8.toInt + 1 := by rw [e30]; exact inc_i (by omega)
        refine ih12 _ _ _ _ _ ⟨rfl, rfl, rfl, hv26⟩ ?_
        show ((r1).toInt - y29.toInt).toNat < ((r1).toInt - c8.toInt).toNat
        omega
      · refine s_X5_hasUse (hv26) (fun r32 v33 hv34 => ?_)
        refine ⟨fun h35 => ?_, fun h36 => ?_⟩
        · intro y37 e38
          have t39 : y37.toInt = c8.toInt + 1 := by rw [e38]; exact inc_i (by omega)
          refine ih12 _ _ _ _ _ ⟨rfl, rfl, rfl, hv34⟩ ?_
          show ((r1).toInt - y37.toInt).toNat < ((r1).toInt - c8.toInt).toNat
          omega
        · exact hp _ _ (hv34)
    · have q40 := i_nltR (0 : Int) (by decide) h22
      refine s_X5_holders (by first | omega | decide) (hv20) (fun r41 v42 hv43 => ?_)
      refine s_X5_holders (by first | omega | decide) (hv43) (fun r44 v45 hv46 => ?_)
      refine ⟨fun h47 => ?_, fun h48 => ?_⟩
      · refine s_X5_isHeld (hv46) (fun r49 v50 hv51 => ?_)
        refine ⟨fun h52 => ?_, fun h53 => ?_⟩
        · intro y54 e55
          have t56 : y54.toInt = c8.toInt + 1 := by rw [e55]; exact inc_i (by omega)
          refine ih12 _ _ _ _ _ ⟨rfl, rfl, rfl, hv51⟩ ?_
          show ((r1).toInt - y54.toInt).toNat < ((r1).toInt - c8.toInt).toNat
          omega
        · refine s_X5_hasUse (hv51) (fun r57 v58 hv59 => ?_)
          refine ⟨fun h60 => ?_, fun h61 => ?_⟩
          · intro y62 e63
            have t64 : y62.toInt = c8.toInt + 1 := by rw [e63]; exact inc_i (by omega)
            refine ih12 _ _ _ _ _ ⟨rfl, rfl, rfl, hv59⟩ ?_
            show ((r1).toInt - y62.toInt).toNat < ((r1).toInt - c8.toInt).toNat
            omega
          · exact hp _ _ (hv59)
      · exact hp _ _ (hv46)
theorem s_X6_isRule {l : Int32} {f : Nat} {x1 : Int32} {u : mS} {post : Int32 → mS → Prop} (hI : IA l f u) (hp : ∀ r v, IA l f v → post r v) : wp_X6_isRule x1 u post := by
  refine s_X5_plainLength hI (fun r v hv hq => ⟨fun h2 => ?_, fun _ => hp _ _ hv⟩)
  have g : 0 ≤ x1.toInt ∧ x1.toInt < 3000 := by
    rcases hq with e | e
    · rw [e] at h2; exact absurd h2 (by decide)
    · exact ⟨e.1, e.2.1⟩
  have e1 : (x1 + 1).toInt = x1.toInt + 1 := inc_i (by omega)
  rintro _ rfl
  refine s_X5_after hv (fun r5 v5 hv5 hq5 => s_X6_isPattern (by omega) hv5 (fun r7 v7 hv7 => ⟨fun _ => ?_, fun _ => hp _ _ hv7⟩))
  have g5 := hq5 (by omega) (by omega)
  exact s_X6_linkUses hv7 (fun v8 hv8 => s_X6_isTemplate (by omega) (by omega) hv8 (fun r9 v9 hv9 => hp _ _ hv9))
theorem s_X6_isNameWithRules {l : Int32} {f : Nat} {x1 : Int32} {u : mS} {post : Int32 → mS → Prop} (hI : IA l f u) (hp : ∀ r v, IA l f v → post r v) : wp_X6_isNameWithRules x1 u post := by
  refine s_X5_plainLength (hI) (fun r1 v2 hv3 hq4 => ?_)
  refine ⟨fun h5 => ?_, fun h6 => ?_⟩
  · have q7 := i_ltR (1 : Int) (by decide) h5
    exact hp _ _ (hv3)
  · have q8 := i_nltR (1 : Int) (by decide) h6
    rintro _ rfl
    refine s_X5_wordAt (hv3) (fun r9 v10 hv11 hq12 => ?_)
    refine s_X8_isName (hv11) (fun r13 v14 hv15 => ?_)
    refine ⟨fun h16 => ?_, fun h17 => ?_⟩
    · rintro _ rfl
      refine mL4_in (fun c18 c19 c20 v21 => r1 = c18 ∧ IA l f v21) (fun c18 c19 c20 v21 => ((r1).toInt - c20.toInt).toNat) ?_ _ _ _ _ ⟨rfl, hv15⟩
      rintro K23 c18 c19 c20 v21 ⟨rfl, hv22⟩ ih24
      have b25 : (r1).toInt < 2147483648 := Int32.toInt_lt _
      refine ⟨fun h26 => ?_, fun h27 => ?_⟩
      · have q28 := i_le h26
        exact hp _ _ (hv22)
      · have q29 := i_nle h27
        refine s_X6_isRule (hv22) (fun r30 v31 hv32 => ?_)
        refine ⟨fun h33 => ?_, fun h34 => ?_⟩
        · refine s_X5_after (hv32) (fun r35 v36 hv37 hq38 => ?_)
          intro y39 e40
          have t41 : y39.toInt = c20.toInt + 1 := by rw [e40]; exact inc_i (by omega)
          refine ih24 _ _ _ _ ⟨rfl, hv37⟩ ?_
          show ((r1).toInt - y39.toInt).toNat < ((r1).toInt - c20.toInt).toNat
          omega
        · exact hp _ _ (hv32)
    · exact hp _ _ (hv15)
theorem s_X0_expandLs {l : Int32} {f : Nat} {X : Int32 → Int32 → mS → (mS → Prop) → Prop} {x1 x2 : Int32} {u : mS} {post : mS → Prop} (hX : ∀ (t : Int32) (v : mS) (q : mS → Prop), IA l f v → (∀ w, IA l f w → q w) → X t (x2 + 1) v q) (hI : IA l f u) (hp : ∀ v, IA l f v → post v) : wp_X0_expandLs X x1 x2 u post := by
  rintro _ rfl
  refine s_X5_after (hI) (fun r1 v2 hv3 hq4 => ?_)
  refine s_X5_plainLength (hv3) (fun r5 v6 hv7 hq8 => ?_)
  refine ⟨fun h9 => ?_, fun h10 => ?_⟩
  · refine s_X2_fail (hv7) (fun v12 hv13 => ?_)
    exact hp _ (hv13)
  · refine s_X6_isNameWithRules (hv7) (fun r14 v15 hv16 => ?_)
    refine ⟨fun h17 => ?_, fun h18 => ?_⟩
    · refine s_X0_newScope (hv16) (fun r19 v20 hv21 => ?_)
      refine ⟨fun h22 => ?_, fun h23 => ?_⟩
      · have q24 := i_leL (0 : Int) (by decide) h22
        rintro _ rfl
        refine s_X5_turnScope (hv21) (fun v26 hv27 => ?_)
        refine s_X5_turnScope (hv27) (fun v29 hv30 => ?_)
        rintro _ rfl
        refine s_X0_bind (hv30) (fun r31 v32 hv33 => ?_)
        refine ⟨fun h34 => ?_, fun h35 => ?_⟩
        · exact hp _ (hv33)
        · rintro _ rfl
          refine hX _ _ _ (hv33) (fun v37 hv38 => ?_)
          exact hp _ (hv38)
      · have q39 := i_nleL (0 : Int) (by decide) h23
        exact hp _ (hv21)
    · refine s_X2_fail (hv16) (fun v41 hv42 => ?_)
      exact hp _ (hv42)
theorem s_X1_hasRoomFor {l : Int32} {f : Nat} {x1 x2 : Int32} {u : mS} {post : Int32 → mS → Prop} (hx : x1.toInt < 2147483647) (hI : IA l f u) (hp : ∀ r v, IA l f v → post r v) : wp_X1_hasRoomFor x1 x2 u post := by
  refine s_X5_plainLength (hI) (fun r1 v2 hv3 hq4 => ?_)
  rintro _ rfl
  refine s_X5_itemsFrom (hv3) (fun r5 v6 hv7 hq8 => ?_)
  refine s_X5_hasDots (by first | omega | decide) (hv7) (fun r9 v10 hv11 => ?_)
  refine ⟨fun h12 => ?_, fun h13 => ?_⟩
  · refine ⟨fun h14 => ?_, fun h15 => ?_⟩
    · exact hp _ _ (hv11)
    · exact hp _ _ (hv11)
  · rintro _ rfl
    refine ⟨fun h16 => ?_, fun h17 => ?_⟩
    · have q18 := i_lt h16
      exact hp _ _ (hv11)
    · have q19 := i_nlt h17
      exact hp _ _ (hv11)
theorem s_X4_clear {l : Int32} {f : Nat} {u : mS} {post : mS → Prop} (hI : IA l f u) (hp : ∀ v, IA l f v → post v) : wp_X4_clear u post := by
  rintro _ rfl
  exact hp _ (IA_set (hI) (by decide))
theorem s_X4_hasInner {u : mS} {post : Int32 → mS → Prop} (h1 : 0 < (u.1 15).toInt → (u.1 15).toInt ≤ 2 → post 1 u) (h0 : post 0 u) : wp_X4_hasInner u post := by
  rintro _ rfl
  refine ⟨fun _ => h0, fun g1 => ?_⟩
  rintro _ rfl
  refine ⟨fun _ => h0, fun g2 => h1 ?_ ?_⟩
  · exact i_nleR 0 (by decide) g1
  · exact i_nltL 2 (by decide) g2
theorem s_X4_isIn {l : Int32} {f : Nat} {x1 : Int32} {u : mS} {post : Int32 → mS → Prop} (hI : IA l f u) (hp : ∀ r v, IA l f v → post r v) : wp_X4_isIn x1 u post := by
  refine s_X4_hasInner (fun g1 g2 => ⟨fun q => absurd q (by decide), fun _ => ?_⟩) ⟨fun _ => hp _ _ hI, fun q => absurd rfl q⟩
  have e : (u.1 15 - 1).toInt = (u.1 15).toInt - 1 := by rw [sub_i (by rw [show (1 : Int32).toInt = 1 from by decide]; omega) (by rw [show (1 : Int32).toInt = 1 from by decide]; omega), show (1 : Int32).toInt = 1 from by decide]
  rintro _ rfl _ rfl
  refine ⟨vin (by omega) (by omega), ?_⟩
  rintro _ rfl
  exact ⟨fun _ => hp _ _ hI, fun _ => hp _ _ hI⟩
theorem s_X4_enter {l : Int32} {f : Nat} {x1 x2 : Int32} {u : mS} {post : mS → Prop} (hI : IA l f u) (hp : ∀ v, IA l f v → post v) : wp_X4_enter x1 x2 u post := by
  rintro _ rfl
  refine ⟨fun h1 => ?_, fun h2 => ?_⟩
  · have q3 := i_ltR (0 : Int) (by decide) h1
    exact hp _ (hI)
  · have q4 := i_nltR (0 : Int) (by decide) h2
    rintro _ rfl
    refine ⟨fun h5 => ?_, fun h6 => ?_⟩
    · have q7 := i_leL (2 : Int) (by decide) h5
      exact hp _ (hI)
    · have q8 := i_nleL (2 : Int) (by decide) h6
      rintro _ rfl
      refine ⟨vin (by omega) (by omega), ?_⟩
      rintro _ rfl
      intro y10 e9
      have e9 : y10 = u.1 15 := e9
      subst e9
      refine ⟨vin (by omega) (by omega), ?_⟩
      rintro _ rfl
      intro y12 e11
      have e11 : y12 = u.1 15 := e11
      subst e11
      refine ⟨vin (by omega) (by omega), ?_⟩
      rintro _ rfl
      intro y14 e13
      have e13 : y14 = u.1 15 := e13
      subst e13
      rintro _ rfl
      rintro _ rfl
      exact hp _ (IA_set (IA_put (IA_put (IA_put (hI) (by decide)) (by decide)) (by decide)) (by decide))
theorem s_X4_leave {l : Int32} {f : Nat} {x1 : Int32} {u : mS} {post : Int32 → mS → Prop} (hI : IA l f u) (hp : ∀ r v, IA l f v → post r v) : wp_X4_leave x1 u post := by
  refine s_X4_hasInner (fun g1 g2 => ⟨fun _ => ?_, fun q => absurd q (by decide)⟩) ⟨fun q => absurd rfl q, fun _ => ?_⟩
  · have e : (u.1 15 - 1).toInt = (u.1 15).toInt - 1 := by rw [sub_i (by rw [show (1 : Int32).toInt = 1 from by decide]; omega) (by rw [show (1 : Int32).toInt = 1 from by decide]; omega), show (1 : Int32).toInt = 1 from by decide]
    have hin : vp_in (u.1 15 - 1) 2 := vin (by omega) (by omega)
    rintro _ rfl _ rfl
    refine ⟨hin, ?_⟩
    rintro _ rfl _ rfl
    refine ⟨hin, ?_⟩
    rintro _ rfl _ rfl _ rfl
    refine ⟨hin, ?_⟩
    rintro _ rfl _ rfl _ rfl
    refine ⟨hin, ?_⟩
    rintro _ rfl
    refine ⟨fun _ => ?_, fun _ => ?_⟩
    · rintro _ rfl _ rfl _ rfl _ rfl
      exact hp _ _ (IA_set (IA_put hI (by decide)) (by decide))
    · rintro _ rfl _ rfl
      refine ⟨hin, ?_⟩
      rintro _ rfl
      exact hp _ _ (IA_put hI (by decide))
  · rintro _ rfl
    exact hp _ _ hI
theorem s_X1_matches {l : Int32} {f : Nat} {x1 x2 : Int32} {u : mS} {post : Int32 → mS → Prop} (hx : x1.toInt < 2147483647) (hI : IA l f u) (hp : ∀ r v, IA l f v → post r v) : wp_X1_matches x1 x2 u post := by
  refine s_X1_hasRoomFor (by first | omega | decide) (hI) (fun r1 v2 hv3 => ?_)
  refine ⟨fun h4 => ?_, fun h5 => ?_⟩
  · refine s_X4_clear (hv3) (fun v7 hv8 => ?_)
    refine s_X5_after (hv8) (fun r9 v10 hv11 hq12 => ?_)
    rintro _ rfl
    refine s_X5_after (hv11) (fun r13 v14 hv15 hq16 => ?_)
    rintro _ rfl
    refine s_X5_after (hv15) (fun r17 v18 hv19 hq20 => ?_)
    refine mL5_in (fun c21 c22 c23 c24 v25 => r9 = c21 ∧ IA l f v25) (fun c21 c22 c23 c24 v25 => ((1000000 : Int) - c24.toInt).toNat) ?_ _ _ _ _ _ ⟨rfl, hv19⟩
    rintro K27 c21 c22 c23 c24 v25 ⟨rfl, hv26⟩ ih28
    refine ⟨fun h29 => ?_, fun h30 => ?_⟩
    · have q31 := i_leL (1000000 : Int) (by decide) h29
      exact hp _ _ (hv26)
    · have q32 := i_nleL (1000000 : Int) (by decide) h30
      refine ⟨fun h33 => ?_, fun h34 => ?_⟩
      · have q35 := i_le h33
        exact hp _ _ (hv26)
      · have q36 := i_nle h34
        refine s_X5_isHeld (hv26) (fun r37 v38 hv39 => ?_)
        refine ⟨fun h40 => ?_, fun h41 => ?_⟩
        · refine s_X5_wordAt (hv39) (fun r42 v43 hv44 hq45 => ?_)
          refine ⟨fun h46 => ?_, fun h47 => ?_⟩
          · refine s_X8_isName (hv44) (fun r48 v49 hv50 => ?_)
            refine ⟨fun h51 => ?_, fun h52 => ?_⟩
            · rintro _ rfl
              refine s_X5_after (hv50) (fun r53 v54 hv55 hq56 => ?_)
              intro y57 e58
              have t59 : y57.toInt = c24.toInt + 1 := by rw [e58]; exact inc_i (by omega)
              refine ih28 _ _ _ _ _ ⟨rfl, hv55⟩ ?_
              show ((1000000 : Int) - y57.toInt).toNat < ((1000000 : Int) - c24.toInt).toNat
              omega
            · refine ⟨fun h60 => ?_, fun h61 => ?_⟩
              · refine ⟨fun h62 => ?_, fun h63 => ?_⟩
                · refine s_X5_wordAt (hv50) (fun r64 v65 hv66 hq67 => ?_)
                  refine ⟨fun h68 => ?_, fun h69 => ?_⟩
                  · exact hp _ _ (hv66)
                  · rintro _ rfl
                    rintro _ rfl
                    intro y70 e71
                    have t72 : y70.toInt = c24.toInt + 1 := by rw [e71]; exact inc_i (by omega)
                    refine ih28 _ _ _ _ _ ⟨rfl, hv66⟩ ?_
                    show ((1000000 : Int) - y70.toInt).toNat < ((1000000 : Int) - c24.toInt).toNat
                    omega
                · have g73 := hq45 (by rw [h63]; decide)
                  refine s_X1_hasRoomFor (by first | omega | decide) (hv50) (fun r74 v75 hv76 => ?_)
                  refine ⟨fun h77 => ?_, fun h78 => ?_⟩
                  · exact hp _ _ (hv76)
                  · rintro _ rfl
                    rintro _ rfl
                    intro y79 e80
                    have t81 : y79.toInt = c24.toInt + 1 := by rw [e80]; exact inc_i (by omega)
                    refine ih28 _ _ _ _ _ ⟨rfl, hv76⟩ ?_
                    show ((1000000 : Int) - y79.toInt).toNat < ((1000000 : Int) - c24.toInt).toNat
                    omega
              · have g82 := hq45 (by rw [h61]; decide)
                rintro _ rfl
                refine s_X5_after (hv50) (fun r83 v84 hv85 hq86 => ?_)
                intro y87 e88
                have t89 : y87.toInt = c24.toInt + 1 := by rw [e88]; exact inc_i (by omega)
                refine ih28 _ _ _ _ _ ⟨rfl, hv85⟩ ?_
                show ((1000000 : Int) - y87.toInt).toNat < ((1000000 : Int) - c24.toInt).toNat
                omega
          · have g90 := hq45 (by rw [h47]; decide)
            refine s_X4_leave (hv44) (fun r91 v92 hv93 => ?_)
            intro y94 e95
            have t96 : y94.toInt = c24.toInt + 1 := by rw [e95]; exact inc_i (by omega)
            refine ih28 _ _ _ _ _ ⟨rfl, hv93⟩ ?_
            show ((1000000 : Int) - y94.toInt).toNat < ((1000000 : Int) - c24.toInt).toNat
            omega
        · refine s_X4_isIn (hv39) (fun r97 v98 hv99 => ?_)
          refine ⟨fun h100 => ?_, fun h101 => ?_⟩
          · refine s_X5_wordAt (hv99) (fun r102 v103 hv104 hq105 => ?_)
            refine ⟨fun h106 => ?_, fun h107 => ?_⟩
            · refine s_X8_isName (hv104) (fun r108 v109 hv110 => ?_)
              refine ⟨fun h111 => ?_, fun h112 => ?_⟩
              · rintro _ rfl
                refine s_X5_after (hv110) (fun r113 v114 hv115 hq116 => ?_)
                intro y117 e118
                have t119 : y117.toInt = c24.toInt + 1 := by rw [e118]; exact inc_i (by omega)
                refine ih28 _ _ _ _ _ ⟨rfl, hv115⟩ ?_
                show ((1000000 : Int) - y117.toInt).toNat < ((1000000 : Int) - c24.toInt).toNat
                omega
              · refine ⟨fun h120 => ?_, fun h121 => ?_⟩
                · refine ⟨fun h122 => ?_, fun h123 => ?_⟩
                  · refine s_X5_wordAt (hv110) (fun r124 v125 hv126 hq127 => ?_)
                    refine ⟨fun h128 => ?_, fun h129 => ?_⟩
                    · exact hp _ _ (hv126)
                    · rintro _ rfl
                      rintro _ rfl
                      intro y130 e131
                      have t132 : y130.toInt = c24.toInt + 1 := by rw [e131]; exact inc_i (by omega)
                      refine ih28 _ _ _ _ _ ⟨rfl, hv126⟩ ?_
                      show ((1000000 : Int) - y130.toInt).toNat < ((1000000 : Int) - c24.toInt).toNat
                      omega
                  · have g133 := hq105 (by rw [h123]; decide)
                    refine s_X1_hasRoomFor (by first | omega | decide) (hv110) (fun r134 v135 hv136 => ?_)
                    refine ⟨fun h137 => ?_, fun h138 => ?_⟩
                    · exact hp _ _ (hv136)
                    · rintro _ rfl
                      rintro _ rfl
                      intro y139 e140
                      have t141 : y139.toInt = c24.toInt + 1 := by rw [e140]; exact inc_i (by omega)
                      refine ih28 _ _ _ _ _ ⟨rfl, hv136⟩ ?_
                      show ((1000000 : Int) - y139.toInt).toNat < ((1000000 : Int) - c24.toInt).toNat
                      omega
                · have g142 := hq105 (by rw [h121]; decide)
                  rintro _ rfl
                  refine s_X5_after (hv110) (fun r143 v144 hv145 hq146 => ?_)
                  intro y147 e148
                  have t149 : y147.toInt = c24.toInt + 1 := by rw [e148]; exact inc_i (by omega)
                  refine ih28 _ _ _ _ _ ⟨rfl, hv145⟩ ?_
                  show ((1000000 : Int) - y147.toInt).toNat < ((1000000 : Int) - c24.toInt).toNat
                  omega
            · have g150 := hq105 (by rw [h107]; decide)
              refine s_X4_leave (hv104) (fun r151 v152 hv153 => ?_)
              intro y154 e155
              have t156 : y154.toInt = c24.toInt + 1 := by rw [e155]; exact inc_i (by omega)
              refine ih28 _ _ _ _ _ ⟨rfl, hv153⟩ ?_
              show ((1000000 : Int) - y154.toInt).toNat < ((1000000 : Int) - c24.toInt).toNat
              omega
          · refine s_X5_itemsFrom (hv99) (fun r157 v158 hv159 hq160 => ?_)
            refine ⟨fun h161 => ?_, fun h162 => ?_⟩
            · refine s_X4_enter (hv159) (fun v164 hv165 => ?_)
              refine s_X5_wordAt (hv165) (fun r166 v167 hv168 hq169 => ?_)
              refine ⟨fun h170 => ?_, fun h171 => ?_⟩
              · refine s_X8_isName (hv168) (fun r172 v173 hv174 => ?_)
                refine ⟨fun h175 => ?_, fun h176 => ?_⟩
                · rintro _ rfl
                  refine s_X5_after (hv174) (fun r177 v178 hv179 hq180 => ?_)
                  intro y181 e182
                  have t183 : y181.toInt = c24.toInt + 1 := by rw [e182]; exact inc_i (by omega)
                  refine ih28 _ _ _ _ _ ⟨rfl, hv179⟩ ?_
                  show ((1000000 : Int) - y181.toInt).toNat < ((1000000 : Int) - c24.toInt).toNat
                  omega
                · refine ⟨fun h184 => ?_, fun h185 => ?_⟩
                  · refine ⟨fun h186 => ?_, fun h187 => ?_⟩
                    · refine s_X5_wordAt (hv174) (fun r188 v189 hv190 hq191 => ?_)
                      refine ⟨fun h192 => ?_, fun h193 => ?_⟩
                      · exact hp _ _ (hv190)
                      · rintro _ rfl
                        rintro _ rfl
                        intro y194 e195
                        have t196 : y194.toInt = c24.toInt + 1 := by rw [e195]; exact inc_i (by omega)
                        refine ih28 _ _ _ _ _ ⟨rfl, hv190⟩ ?_
                        show ((1000000 : Int) - y194.toInt).toNat < ((1000000 : Int) - c24.toInt).toNat
                        omega
                    · have g197 := hq169 (by rw [h187]; decide)
                      refine s_X1_hasRoomFor (by first | omega | decide) (hv174) (fun r198 v199 hv200 => ?_)
                      refine ⟨fun h201 => ?_, fun h202 => ?_⟩
                      · exact hp _ _ (hv200)
                      · rintro _ rfl
                        rintro _ rfl
                        intro y203 e204
                        have t205 : y203.toInt = c24.toInt + 1 := by rw [e204]; exact inc_i (by omega)
                        refine ih28 _ _ _ _ _ ⟨rfl, hv200⟩ ?_
                        show ((1000000 : Int) - y203.toInt).toNat < ((1000000 : Int) - c24.toInt).toNat
                        omega
                  · have g206 := hq169 (by rw [h185]; decide)
                    rintro _ rfl
                    refine s_X5_after (hv174) (fun r207 v208 hv209 hq210 => ?_)
                    intro y211 e212
                    have t213 : y211.toInt = c24.toInt + 1 := by rw [e212]; exact inc_i (by omega)
                    refine ih28 _ _ _ _ _ ⟨rfl, hv209⟩ ?_
                    show ((1000000 : Int) - y211.toInt).toNat < ((1000000 : Int) - c24.toInt).toNat
                    omega
              · have g214 := hq169 (by rw [h171]; decide)
                refine s_X4_leave (hv168) (fun r215 v216 hv217 => ?_)
                intro y218 e219
                have t220 : y218.toInt = c24.toInt + 1 := by rw [e219]; exact inc_i (by omega)
                refine ih28 _ _ _ _ _ ⟨rfl, hv217⟩ ?_
                show ((1000000 : Int) - y218.toInt).toNat < ((1000000 : Int) - c24.toInt).toNat
                omega
            · refine s_X5_after (hv159) (fun r221 v222 hv223 hq224 => ?_)
              rintro _ rfl
              intro y225 e226
              have t227 : y225.toInt = c24.toInt + 1 := by rw [e226]; exact inc_i (by omega)
              refine ih28 _ _ _ _ _ ⟨rfl, hv223⟩ ?_
              show ((1000000 : Int) - y225.toInt).toNat < ((1000000 : Int) - c24.toInt).toNat
              omega
  · exact hp _ _ (hv3)
theorem s_X1_firstRule {l : Int32} {f : Nat} {x1 x2 : Int32} {u : mS} {post : Int32 → mS → Prop} (hI : IA l f u) (hp : ∀ r v, IA l f v → post r v) : wp_X1_firstRule x1 x2 u post := by
  refine s_X5_plainLength hI (fun r v hv hq => ?_)
  rintro _ rfl
  refine mL5_in (fun a b c k w => r = b ∧ 1 ≤ k.toInt ∧ (r = -1 ∨ (0 ≤ c.toInt ∧ c.toInt ≤ 3001 * (k.toInt + 1))) ∧ IA l f w) (fun _ _ _ k _ => (r.toInt - k.toInt).toNat) ?_ _ _ _ _ _ ⟨rfl, by decide, ?_, hv⟩
  · rintro K a b c k w ⟨rfl, j1, j2, hw⟩ ih
    refine ⟨fun _ => hp _ _ hw, fun h1 => ?_⟩
    have q1 := i_nle h1
    have hb : (r).toInt < 2147483648 := Int32.toInt_lt _
    have j2' : 0 ≤ c.toInt ∧ c.toInt ≤ 3001 * (k.toInt + 1) := by
      rcases j2 with e | e
      · rw [e, show (-1 : Int32).toInt = -1 from by decide] at q1; omega
      · exact e
    have r3 : r.toInt ≤ 3000 := by
      rcases hq with e | e
      · rw [e]; decide
      · omega
    rintro _ rfl
    have e1 : (c + 1).toInt = c.toInt + 1 := inc_i (by omega)
    refine s_X1_matches (by omega) hw (fun r5 v5 hv5 => ⟨fun _ => s_X5_after hv5 (fun r6 v6 hv6 hq6 => ?_), fun _ => hp _ _ hv5⟩)
    rintro _ rfl
    have e2 : (k + 1).toInt = k.toInt + 1 := inc_i (by omega)
    have g := hq6 (by omega) (by omega)
    refine ih _ _ _ _ _ ⟨rfl, by omega, Or.inr (by omega), hv6⟩ ?_
    show (r.toInt - (k + 1).toInt).toNat < (r.toInt - k.toInt).toNat
    omega
  · rcases hq with e | e
    · exact Or.inl e
    · refine Or.inr ?_
      rw [add_i (by rw [show (2 : Int32).toInt = 2 from by decide]; omega) (by rw [show (2 : Int32).toInt = 2 from by decide]; omega), show (2 : Int32).toInt = 2 from by decide, show (1 : Int32).toInt = 1 from by decide]
      omega
theorem s_X5_startTree {l : Int32} {f : Nat} {u : mS} {post : Int32 → mS → Prop} (hI : IA l f u) (hp : ∀ r v, IA l f v → post r v) : wp_X5_startTree u post := by
  rintro _ rfl _ rfl
  exact hp _ _ (IA_set2 hI (by decide) (by decide))
theorem s_X4_roundOf {l : Int32} {f : Nat} {x1 : Int32} {u : mS} {post : Int32 → mS → Prop} (hI : IA l f u) (hp : ∀ r v, IA l f v → post r v) : wp_X4_roundOf x1 u post := by
  refine ⟨fun h1 => ?_, fun h2 => ?_⟩
  · have q3 := i_ltR (0 : Int) (by decide) h1
    exact hp _ _ (hI)
  · have q4 := i_nltR (0 : Int) (by decide) h2
    rintro _ rfl
    refine ⟨fun h5 => ?_, fun h6 => ?_⟩
    · have q7 := i_le h5
      exact hp _ _ (hI)
    · have q8 := i_nle h6
      refine ⟨fun h9 => ?_, fun h10 => ?_⟩
      · have q11 := i_leL (2 : Int) (by decide) h9
        exact hp _ _ (hI)
      · have q12 := i_nleL (2 : Int) (by decide) h10
        refine ⟨vin (by omega) (by omega), ?_⟩
        rintro _ rfl
        exact hp _ _ (hI)
theorem s_X1_matchOf {l : Int32} {f : Nat} {x1 x2 : Int32} {u : mS} {post : Int32 → mS → Prop} (hI : IA l f u) (hp : ∀ r v, IA l f v → post r v) : wp_X1_matchOf x1 x2 u post := by
  rintro _ rfl
  rintro _ rfl
  refine mL7_in (fun c1 c2 c3 c4 c5 c6 v7 => x1 = c1 ∧ x2 = c2 ∧ IA l f v7) (fun c1 c2 c3 c4 c5 c6 v7 => ((1000000 : Int) - c6.toInt).toNat) ?_ _ _ _ _ _ _ _ ⟨rfl, rfl, hI⟩
  rintro K9 c1 c2 c3 c4 c5 c6 v7 ⟨rfl, rfl, hv8⟩ ih10
  refine ⟨fun h11 => ?_, fun h12 => ?_⟩
  · have q13 := i_leL (1000000 : Int) (by decide) h11
    exact hp _ _ (hv8)
  · have q14 := i_nleL (1000000 : Int) (by decide) h12
    refine s_X5_after (hv8) (fun r15 v16 hv17 hq18 => ?_)
    refine ⟨fun h19 => ?_, fun h20 => ?_⟩
    · have q21 := i_lt h19
      refine s_X5_isHeld (hv17) (fun r22 v23 hv24 => ?_)
      refine ⟨fun h25 => ?_, fun h26 => ?_⟩
      · refine ⟨fun h27 => ?_, fun h28 => ?_⟩
        · have q29 := i_lt h27
          rintro _ rfl
          rintro _ rfl
          intro y30 e31
          have t32 : y30.toInt = c6.toInt + 1 := by rw [e31]; exact inc_i (by omega)
          refine ih10 _ _ _ _ _ _ _ ⟨rfl, rfl, hv24⟩ ?_
          show ((1000000 : Int) - y30.toInt).toNat < ((1000000 : Int) - c6.toInt).toNat
          omega
        · have q33 := i_nlt h28
          exact hp _ _ (hv24)
      · refine ⟨fun h34 => ?_, fun h35 => ?_⟩
        · have q36 := i_lt h34
          refine s_X4_roundOf (hv24) (fun r37 v38 hv39 => ?_)
          refine mL9_in (fun c40 c41 c42 c43 c44 c45 c46 c47 v48 => x1 = c40 ∧ x2 = c41 ∧ c3 = c42 ∧ c5 = c44 ∧ c6 = c45 ∧ r37 = c46 ∧ IA l f v48) (fun c40 c41 c42 c43 c44 c45 c46 c47 v48 => ((r37).toInt - c47.toInt).toNat) ?_ _ _ _ _ _ _ _ _ _ ⟨rfl, rfl, rfl, rfl, rfl, rfl, hv39⟩
          rintro K50 c40 c41 c42 c43 c44 c45 c46 c47 v48 ⟨rfl, rfl, rfl, rfl, rfl, rfl, hv49⟩ ih51
          have b52 : (r37).toInt < 2147483648 := Int32.toInt_lt _
          refine ⟨fun h53 => ?_, fun h54 => ?_⟩
          · have q55 := i_le h53
            rintro _ rfl
            refine ⟨fun h56 => ?_, fun h57 => ?_⟩
            · have q58 := i_lt h56
              rintro _ rfl
              rintro _ rfl
              intro y59 e60
              have t61 : y59.toInt = c6.toInt + 1 := by rw [e60]; exact inc_i (by omega)
              refine ih10 _ _ _ _ _ _ _ ⟨rfl, rfl, hv49⟩ ?_
              show ((1000000 : Int) - y59.toInt).toNat < ((1000000 : Int) - c6.toInt).toNat
              omega
            · have q62 := i_nlt h57
              exact hp _ _ (hv49)
          · have q63 := i_nle h54
            refine s_X5_after (hv49) (fun r64 v65 hv66 hq67 => ?_)
            intro y68 e69
            have t70 : y68.toInt = c47.toInt + 1 := by rw [e69]; exact inc_i (by omega)
            refine ih51 _ _ _ _ _ _ _ _ _ ⟨rfl, rfl, rfl, rfl, rfl, rfl, hv66⟩ ?_
            show ((r37).toInt - y68.toInt).toNat < ((r37).toInt - c47.toInt).toNat
            omega
        · have q71 := i_nlt h35
          exact hp _ _ (hv24)
    · have q72 := i_nlt h20
      refine s_X5_after (hv17) (fun r73 v74 hv75 hq76 => ?_)
      refine s_X5_after (hv75) (fun r77 v78 hv79 hq80 => ?_)
      intro y81 e82
      have t83 : y81.toInt = c6.toInt + 1 := by rw [e82]; exact inc_i (by omega)
      refine ih10 _ _ _ _ _ _ _ ⟨rfl, rfl, hv79⟩ ?_
      show ((1000000 : Int) - y81.toInt).toNat < ((1000000 : Int) - c6.toInt).toNat
      omega
theorem s_X1_roundsFor {l : Int32} {f : Nat} {x1 : Int32} {u : mS} {post : Int32 → mS → Prop} (hI : IA l f u) (hp : ∀ r v, IA l f v → post r v) : wp_X1_roundsFor x1 u post := by
  refine s_X5_after (hI) (fun r1 v2 hv3 hq4 => ?_)
  refine mL4_in (fun c5 c6 c7 v8 => r1 = c6 ∧ IA l f v8) (fun c5 c6 c7 v8 => ((r1).toInt - c7.toInt).toNat) ?_ _ _ _ _ ⟨rfl, hv3⟩
  rintro K10 c5 c6 c7 v8 ⟨rfl, hv9⟩ ih11
  have b12 : (r1).toInt < 2147483648 := Int32.toInt_lt _
  refine ⟨fun h13 => ?_, fun h14 => ?_⟩
  · have q15 := i_le h13
    rintro _ rfl
    exact hp _ _ (hv9)
  · have q16 := i_nle h14
    refine s_X5_variableAt (hv9) (fun r17 v18 hv19 => ?_)
    refine ⟨fun h20 => ?_, fun h21 => ?_⟩
    · have q22 := i_ltR (0 : Int) (by decide) h20
      intro y23 e24
      have t25 : y23.toInt = c7.toInt + 1 := by rw [e24]; exact inc_i (by omega)
      refine ih11 _ _ _ _ ⟨rfl, hv19⟩ ?_
      show ((r1).toInt - y23.toInt).toNat < ((r1).toInt - c7.toInt).toNat
      omega
    · have q26 := i_nltR (0 : Int) (by decide) h21
      rintro _ rfl
      refine s_X1_matchOf (hv19) (fun r27 v28 hv29 => ?_)
      refine s_X5_itemsFrom (hv29) (fun r30 v31 hv32 hq33 => ?_)
      refine ⟨fun h34 => ?_, fun h35 => ?_⟩
      · have q36 := i_ltR (0 : Int) (by decide) h34
        intro y37 e38
        have t39 : y37.toInt = c7.toInt + 1 := by rw [e38]; exact inc_i (by omega)
        refine ih11 _ _ _ _ ⟨rfl, hv32⟩ ?_
        show ((r1).toInt - y37.toInt).toNat < ((r1).toInt - c7.toInt).toNat
        omega
      · have q40 := i_nltR (0 : Int) (by decide) h35
        refine ⟨fun h41 => ?_, fun h42 => ?_⟩
        · intro y43 e44
          have t45 : y43.toInt = c7.toInt + 1 := by rw [e44]; exact inc_i (by omega)
          refine ih11 _ _ _ _ ⟨rfl, hv32⟩ ?_
          show ((r1).toInt - y43.toInt).toNat < ((r1).toInt - c7.toInt).toNat
          omega
        · refine s_X2_fail (hv32) (fun v47 hv48 => ?_)
          exact hp _ _ (hv48)
theorem s_X5_closeBracket {l : Int32} {f : Nat} {u : mS} {post : mS → Prop} (h0 : 0 ≤ (u.1 1).toInt) (h3 : (u.1 1).toInt < 3000) (hI : IA l f u) (hp : ∀ v, IA l f v → post v) : wp_X5_closeBracket u post := by
  rintro _ rfl
  refine ⟨fun _ => hp _ hI, fun g1 => ?_⟩
  rintro _ rfl
  refine ⟨fun g2 => ?_, fun _ => hp _ hI⟩
  have q1 := i_nltR 0 (by decide) g1
  have q2 := i_ltR 3000 (by decide) g2
  rintro _ rfl
  refine ⟨vin (by omega) (by omega), ?_⟩
  rintro _ rfl _ rfl _ rfl _ rfl _ rfl _ rfl
  refine ⟨vin (by omega) (by omega), ?_⟩
  rintro _ rfl _ rfl
  have b := hI.2.2.1 (u.1 2).toNatClampNeg
  have e1 : (u.1 1 - u.1 2).toInt = (u.1 1).toInt - (u.1 2).toInt := sub_i (by omega) (by omega)
  have e2 : (u.1 1 - u.1 2 + 1).toInt = (u.1 1 - u.1 2).toInt + 1 := inc_i (by omega)
  exact hp _ (IA_set2 (IA_put3 hI (by omega) (by omega)) b.1 b.2)
theorem s_X5_add {l : Int32} {f : Nat} {x1 x2 : Int32} {u : mS} {post : mS → Prop} (hI : IA l f u) (hp : ∀ v, IA l f v → post v) : wp_X5_add x1 x2 u post := by
  have fin : ∀ w, IA l f w → wj_X5_add_97 post w := by
    intro w hw
    rintro _ rfl _ rfl _ rfl
    exact hp _ (IA_set hw (by decide))
  rintro _ rfl
  refine ⟨fun _ => hp _ hI, fun g1 => ?_⟩
  rintro _ rfl
  refine ⟨fun g2 => ?_, fun _ => hp _ hI⟩
  have q1 := i_nltR 0 (by decide) g1
  have q2 := i_ltR 3000 (by decide) g2
  have hin : vp_in (u.1 1) 3000 := vin (by omega) (by omega)
  rintro _ rfl
  refine ⟨hin, ?_⟩
  rintro _ rfl _ rfl
  refine ⟨hin, ?_⟩
  rintro _ rfl _ rfl
  refine ⟨hin, ?_⟩
  rintro _ rfl _ rfl
  refine ⟨hin, ?_⟩
  rintro _ rfl
  have h4 := IA_put (k := 4) (i := (u.1 1).toNatClampNeg) (v := 0) (IA_put3 (i := (u.1 1).toNatClampNeg) (v := 1) (IA_put (k := 2) (i := (u.1 1).toNatClampNeg) (v := x2) (IA_put (k := 1) (i := (u.1 1).toNatClampNeg) (v := x1) hI (by decide)) (by decide)) (by decide) (by decide)) (by decide)
  refine ⟨fun _ => ⟨fun _ => fin _ h4, fun _ => s_X5_closeBracket q1 q2 h4 (fun w hw => fin w hw)⟩, fun _ => ?_⟩
  rintro _ rfl _ rfl
  refine ⟨hin, ?_⟩
  rintro _ rfl _ rfl _ rfl
  exact fin _ (IA_set2 (IA_put3 h4 h4.2.2.2.1 h4.2.2.2.2) (by show -3001 ≤ (u.1 1).toInt; omega) (by show (u.1 1).toInt ≤ 3001; omega))
theorem s_X1_fillToken {l : Int32} {f : Nat} {x1 : Int32} {u : mS} {post : mS → Prop} (hI : IA l f u) (hp : ∀ v, IA l f v → post v) : wp_X1_fillToken x1 u post := by
  refine s_X5_variableAt (hI) (fun r1 v2 hv3 => ?_)
  refine ⟨fun h4 => ?_, fun h5 => ?_⟩
  · have q6 := i_leL (0 : Int) (by decide) h4
    refine s_X1_matchOf (hv3) (fun r7 v8 hv9 => ?_)
    refine ⟨fun h10 => ?_, fun h11 => ?_⟩
    · have q12 := i_leL (0 : Int) (by decide) h10
      refine s_X5_after (hv9) (fun r13 v14 hv15 hq16 => ?_)
      refine mL3_in (fun c17 c18 v19 => r13 = c17 ∧ IA l f v19) (fun c17 c18 v19 => ((r13).toInt - c18.toInt).toNat) ?_ _ _ _ ⟨rfl, hv15⟩
      rintro K21 c17 c18 v19 ⟨rfl, hv20⟩ ih22
      have b23 : (r13).toInt < 2147483648 := Int32.toInt_lt _
      refine ⟨fun h24 => ?_, fun h25 => ?_⟩
      · have q26 := i_le h24
        exact hp _ (hv20)
      · have q27 := i_nle h25
        rintro _ rfl
        refine s_X5_wordAt (hv20) (fun r28 v29 hv30 hq31 => ?_)
        refine s_X8_isTree (hv30) (fun r32 v33 hv34 => ?_)
        refine ⟨fun h35 => ?_, fun h36 => ?_⟩
        · rintro _ rfl
          rintro _ rfl
          intro y38 e37
          have e37 : y38 = ((v19.1 14) + (0 : Int32)) := e37
          subst e37
          refine ⟨fun h39 => ?_, fun h40 => ?_⟩
          · have q41 := i_leR (100 : Int) (by decide) h39
            refine s_X5_wordAt (IA_set (hv34) (by decide)) (fun r42 v43 hv44 hq45 => ?_)
            refine s_X5_marksAt (hv44) (fun r46 v47 hv48 => ?_)
            refine s_X5_add (hv48) (fun v50 hv51 => ?_)
            intro y52 e53
            have t54 : y52.toInt = c18.toInt + 1 := by rw [e53]; exact inc_i (by omega)
            refine ih22 _ _ _ ⟨rfl, hv51⟩ ?_
            show ((r13).toInt - y52.toInt).toNat < ((r13).toInt - c18.toInt).toNat
            omega
          · have q55 := i_nleR (100 : Int) (by decide) h40
            refine s_X2_fail (IA_set (hv34) (by decide)) (fun v57 hv58 => ?_)
            exact hp _ (hv58)
        · rintro _ rfl
          rintro _ rfl
          intro y60 e59
          have e59 : y60 = ((v19.1 14) + (1 : Int32)) := e59
          subst e59
          refine ⟨fun h61 => ?_, fun h62 => ?_⟩
          · have q63 := i_leR (100 : Int) (by decide) h61
            refine s_X5_wordAt (IA_set (hv34) (by decide)) (fun r64 v65 hv66 hq67 => ?_)
            refine s_X5_marksAt (hv66) (fun r68 v69 hv70 => ?_)
            refine s_X5_add (hv70) (fun v72 hv73 => ?_)
            intro y74 e75
            have t76 : y74.toInt = c18.toInt + 1 := by rw [e75]; exact inc_i (by omega)
            refine ih22 _ _ _ ⟨rfl, hv73⟩ ?_
            show ((r13).toInt - y74.toInt).toNat < ((r13).toInt - c18.toInt).toNat
            omega
          · have q77 := i_nleR (100 : Int) (by decide) h62
            refine s_X2_fail (IA_set (hv34) (by decide)) (fun v79 hv80 => ?_)
            exact hp _ (hv80)
    · have q81 := i_nleL (0 : Int) (by decide) h11
      rintro _ rfl
      refine mL3_in (fun c82 c83 v84 => (x1 + (1 : Int32)) = c82 ∧ IA l f v84) (fun c82 c83 v84 => (((x1 + (1 : Int32))).toInt - c83.toInt).toNat) ?_ _ _ _ ⟨rfl, hv9⟩
      rintro K86 c82 c83 v84 ⟨rfl, hv85⟩ ih87
      have b88 : ((x1 + (1 : Int32))).toInt < 2147483648 := Int32.toInt_lt _
      refine ⟨fun h89 => ?_, fun h90 => ?_⟩
      · have q91 := i_le h89
        exact hp _ (hv85)
      · have q92 := i_nle h90
        rintro _ rfl
        refine s_X5_wordAt (hv85) (fun r93 v94 hv95 hq96 => ?_)
        refine s_X8_isTree (hv95) (fun r97 v98 hv99 => ?_)
        refine ⟨fun h100 => ?_, fun h101 => ?_⟩
        · rintro _ rfl
          rintro _ rfl
          intro y103 e102
          have e102 : y103 = ((v84.1 14) + (0 : Int32)) := e102
          subst e102
          refine ⟨fun h104 => ?_, fun h105 => ?_⟩
          · have q106 := i_leR (100 : Int) (by decide) h104
            refine s_X5_wordAt (IA_set (hv99) (by decide)) (fun r107 v108 hv109 hq110 => ?_)
            refine s_X5_marksAt (hv109) (fun r111 v112 hv113 => ?_)
            refine s_X5_add (hv113) (fun v115 hv116 => ?_)
            intro y117 e118
            have t119 : y117.toInt = c83.toInt + 1 := by rw [e118]; exact inc_i (by omega)
            refine ih87 _ _ _ ⟨rfl, hv116⟩ ?_
            show (((x1 + (1 : Int32))).toInt - y117.toInt).toNat < (((x1 + (1 : Int32))).toInt - c83.toInt).toNat
            omega
          · have q120 := i_nleR (100 : Int) (by decide) h105
            refine s_X2_fail (IA_set (hv99) (by decide)) (fun v122 hv123 => ?_)
            exact hp _ (hv123)
        · rintro _ rfl
          rintro _ rfl
          intro y125 e124
          have e124 : y125 = ((v84.1 14) + (1 : Int32)) := e124
          subst e124
          refine ⟨fun h126 => ?_, fun h127 => ?_⟩
          · have q128 := i_leR (100 : Int) (by decide) h126
            refine s_X5_wordAt (IA_set (hv99) (by decide)) (fun r129 v130 hv131 hq132 => ?_)
            refine s_X5_marksAt (hv131) (fun r133 v134 hv135 => ?_)
            refine s_X5_add (hv135) (fun v137 hv138 => ?_)
            intro y139 e140
            have t141 : y139.toInt = c83.toInt + 1 := by rw [e140]; exact inc_i (by omega)
            refine ih87 _ _ _ ⟨rfl, hv138⟩ ?_
            show (((x1 + (1 : Int32))).toInt - y139.toInt).toNat < (((x1 + (1 : Int32))).toInt - c83.toInt).toNat
            omega
          · have q142 := i_nleR (100 : Int) (by decide) h127
            refine s_X2_fail (IA_set (hv99) (by decide)) (fun v144 hv145 => ?_)
            exact hp _ (hv145)
  · have q146 := i_nleL (0 : Int) (by decide) h5
    refine ⟨fun h147 => ?_, fun h148 => ?_⟩
    · have q149 := i_leL (0 : Int) (by decide) h147
      refine s_X5_after (hv3) (fun r150 v151 hv152 hq153 => ?_)
      refine mL3_in (fun c154 c155 v156 => r150 = c154 ∧ IA l f v156) (fun c154 c155 v156 => ((r150).toInt - c155.toInt).toNat) ?_ _ _ _ ⟨rfl, hv152⟩
      rintro K158 c154 c155 v156 ⟨rfl, hv157⟩ ih159
      have b160 : (r150).toInt < 2147483648 := Int32.toInt_lt _
      refine ⟨fun h161 => ?_, fun h162 => ?_⟩
      · have q163 := i_le h161
        exact hp _ (hv157)
      · have q164 := i_nle h162
        rintro _ rfl
        refine s_X5_wordAt (hv157) (fun r165 v166 hv167 hq168 => ?_)
        refine s_X8_isTree (hv167) (fun r169 v170 hv171 => ?_)
        refine ⟨fun h172 => ?_, fun h173 => ?_⟩
        · rintro _ rfl
          rintro _ rfl
          intro y175 e174
          have e174 : y175 = ((v156.1 14) + (0 : Int32)) := e174
          subst e174
          refine ⟨fun h176 => ?_, fun h177 => ?_⟩
          · have q178 := i_leR (100 : Int) (by decide) h176
            refine s_X5_wordAt (IA_set (hv171) (by decide)) (fun r179 v180 hv181 hq182 => ?_)
            refine s_X5_marksAt (hv181) (fun r183 v184 hv185 => ?_)
            refine s_X5_add (hv185) (fun v187 hv188 => ?_)
            intro y189 e190
            have t191 : y189.toInt = c155.toInt + 1 := by rw [e190]; exact inc_i (by omega)
            refine ih159 _ _ _ ⟨rfl, hv188⟩ ?_
            show ((r150).toInt - y189.toInt).toNat < ((r150).toInt - c155.toInt).toNat
            omega
          · have q192 := i_nleR (100 : Int) (by decide) h177
            refine s_X2_fail (IA_set (hv171) (by decide)) (fun v194 hv195 => ?_)
            exact hp _ (hv195)
        · rintro _ rfl
          rintro _ rfl
          intro y197 e196
          have e196 : y197 = ((v156.1 14) + (1 : Int32)) := e196
          subst e196
          refine ⟨fun h198 => ?_, fun h199 => ?_⟩
          · have q200 := i_leR (100 : Int) (by decide) h198
            refine s_X5_wordAt (IA_set (hv171) (by decide)) (fun r201 v202 hv203 hq204 => ?_)
            refine s_X5_marksAt (hv203) (fun r205 v206 hv207 => ?_)
            refine s_X5_add (hv207) (fun v209 hv210 => ?_)
            intro y211 e212
            have t213 : y211.toInt = c155.toInt + 1 := by rw [e212]; exact inc_i (by omega)
            refine ih159 _ _ _ ⟨rfl, hv210⟩ ?_
            show ((r150).toInt - y211.toInt).toNat < ((r150).toInt - c155.toInt).toNat
            omega
          · have q214 := i_nleR (100 : Int) (by decide) h199
            refine s_X2_fail (IA_set (hv171) (by decide)) (fun v216 hv217 => ?_)
            exact hp _ (hv217)
    · have q218 := i_nleL (0 : Int) (by decide) h148
      rintro _ rfl
      refine mL3_in (fun c219 c220 v221 => (x1 + (1 : Int32)) = c219 ∧ IA l f v221) (fun c219 c220 v221 => (((x1 + (1 : Int32))).toInt - c220.toInt).toNat) ?_ _ _ _ ⟨rfl, hv3⟩
      rintro K223 c219 c220 v221 ⟨rfl, hv222⟩ ih224
      have b225 : ((x1 + (1 : Int32))).toInt < 2147483648 := Int32.toInt_lt _
      refine ⟨fun h226 => ?_, fun h227 => ?_⟩
      · have q228 := i_le h226
        exact hp _ (hv222)
      · have q229 := i_nle h227
        rintro _ rfl
        refine s_X5_wordAt (hv222) (fun r230 v231 hv232 hq233 => ?_)
        refine s_X8_isTree (hv232) (fun r234 v235 hv236 => ?_)
        refine ⟨fun h237 => ?_, fun h238 => ?_⟩
        · rintro _ rfl
          rintro _ rfl
          intro y240 e239
          have e239 : y240 = ((v221.1 14) + (0 : Int32)) := e239
          subst e239
          refine ⟨fun h241 => ?_, fun h242 => ?_⟩
          · have q243 := i_leR (100 : Int) (by decide) h241
            refine s_X5_wordAt (IA_set (hv236) (by decide)) (fun r244 v245 hv246 hq247 => ?_)
            refine s_X5_marksAt (hv246) (fun r248 v249 hv250 => ?_)
            refine s_X5_add (hv250) (fun v252 hv253 => ?_)
            intro y254 e255
            have t256 : y254.toInt = c220.toInt + 1 := by rw [e255]; exact inc_i (by omega)
            refine ih224 _ _ _ ⟨rfl, hv253⟩ ?_
            show (((x1 + (1 : Int32))).toInt - y254.toInt).toNat < (((x1 + (1 : Int32))).toInt - c220.toInt).toNat
            omega
          · have q257 := i_nleR (100 : Int) (by decide) h242
            refine s_X2_fail (IA_set (hv236) (by decide)) (fun v259 hv260 => ?_)
            exact hp _ (hv260)
        · rintro _ rfl
          rintro _ rfl
          intro y262 e261
          have e261 : y262 = ((v221.1 14) + (1 : Int32)) := e261
          subst e261
          refine ⟨fun h263 => ?_, fun h264 => ?_⟩
          · have q265 := i_leR (100 : Int) (by decide) h263
            refine s_X5_wordAt (IA_set (hv236) (by decide)) (fun r266 v267 hv268 hq269 => ?_)
            refine s_X5_marksAt (hv268) (fun r270 v271 hv272 => ?_)
            refine s_X5_add (hv272) (fun v274 hv275 => ?_)
            intro y276 e277
            have t278 : y276.toInt = c220.toInt + 1 := by rw [e277]; exact inc_i (by omega)
            refine ih224 _ _ _ ⟨rfl, hv275⟩ ?_
            show (((x1 + (1 : Int32))).toInt - y276.toInt).toNat < (((x1 + (1 : Int32))).toInt - c220.toInt).toNat
            omega
          · have q279 := i_nleR (100 : Int) (by decide) h264
            refine s_X2_fail (IA_set (hv236) (by decide)) (fun v281 hv282 => ?_)
            exact hp _ (hv282)
theorem s_X1_fill {l : Int32} {f : Nat} {x1 x2 : Int32} {u : mS} {post : Int32 → mS → Prop} (hI : IA l f u) (hp : ∀ r v, IA l f v → post r v) : wp_X1_fill x1 x2 u post := by
  rintro _ rfl
  rintro _ rfl
  rintro _ rfl
  rintro _ rfl
  refine s_X4_clear (IA_set (IA_set (IA_set (hI) (by decide)) (by decide)) (by decide)) (fun v2 hv3 => ?_)
  refine s_X5_startTree (hv3) (fun r4 v5 hv6 => ?_)
  rintro _ rfl
  refine s_X5_after (hv6) (fun r7 v8 hv9 hq10 => ?_)
  refine s_X5_after (hv9) (fun r11 v12 hv13 hq14 => ?_)
  refine mL5_in (fun c15 c16 c17 c18 v19 => r4 = c15 ∧ r11 = c17 ∧ IA l f v19) (fun c15 c16 c17 c18 v19 => ((1000000 : Int) - c18.toInt).toNat) ?_ _ _ _ _ _ ⟨rfl, rfl, hv13⟩
  rintro K21 c15 c16 c17 c18 v19 ⟨rfl, rfl, hv20⟩ ih22
  refine ⟨fun h23 => ?_, fun h24 => ?_⟩
  · have q25 := i_leL (1000000 : Int) (by decide) h23
    exact hp _ _ (hv20)
  · have q26 := i_nleL (1000000 : Int) (by decide) h24
    refine ⟨fun h27 => ?_, fun h28 => ?_⟩
    · have q29 := i_le h27
      exact hp _ _ (hv20)
    · have q30 := i_nle h28
      rintro _ rfl
      refine ⟨fun h31 => ?_, fun h32 => ?_⟩
      · exact hp _ _ (hv20)
      · refine s_X5_isHeld (hv20) (fun r33 v34 hv35 => ?_)
        refine ⟨fun h36 => ?_, fun h37 => ?_⟩
        · refine s_X5_wordAt (hv35) (fun r38 v39 hv40 hq41 => ?_)
          refine ⟨fun h42 => ?_, fun h43 => ?_⟩
          · refine s_X1_fillToken (hv40) (fun v45 hv46 => ?_)
            rintro _ rfl
            intro y47 e48
            have t49 : y47.toInt = c18.toInt + 1 := by rw [e48]; exact inc_i (by omega)
            refine ih22 _ _ _ _ _ ⟨rfl, rfl, hv46⟩ ?_
            show ((1000000 : Int) - y47.toInt).toNat < ((1000000 : Int) - c18.toInt).toNat
            omega
          · have g50 := hq41 (by rw [h43]; decide)
            refine s_X4_leave (hv40) (fun r51 v52 hv53 => ?_)
            intro y54 e55
            have t56 : y54.toInt = c18.toInt + 1 := by rw [e55]; exact inc_i (by omega)
            refine ih22 _ _ _ _ _ ⟨rfl, rfl, hv53⟩ ?_
            show ((1000000 : Int) - y54.toInt).toNat < ((1000000 : Int) - c18.toInt).toNat
            omega
        · refine s_X4_isIn (hv35) (fun r57 v58 hv59 => ?_)
          refine ⟨fun h60 => ?_, fun h61 => ?_⟩
          · refine s_X5_wordAt (hv59) (fun r62 v63 hv64 hq65 => ?_)
            refine ⟨fun h66 => ?_, fun h67 => ?_⟩
            · refine s_X1_fillToken (hv64) (fun v69 hv70 => ?_)
              rintro _ rfl
              intro y71 e72
              have t73 : y71.toInt = c18.toInt + 1 := by rw [e72]; exact inc_i (by omega)
              refine ih22 _ _ _ _ _ ⟨rfl, rfl, hv70⟩ ?_
              show ((1000000 : Int) - y71.toInt).toNat < ((1000000 : Int) - c18.toInt).toNat
              omega
            · have g74 := hq65 (by rw [h67]; decide)
              refine s_X4_leave (hv64) (fun r75 v76 hv77 => ?_)
              intro y78 e79
              have t80 : y78.toInt = c18.toInt + 1 := by rw [e79]; exact inc_i (by omega)
              refine ih22 _ _ _ _ _ ⟨rfl, rfl, hv77⟩ ?_
              show ((1000000 : Int) - y78.toInt).toNat < ((1000000 : Int) - c18.toInt).toNat
              omega
          · refine s_X1_roundsFor (hv59) (fun r81 v82 hv83 => ?_)
            refine ⟨fun h84 => ?_, fun h85 => ?_⟩
            · refine s_X4_enter (hv83) (fun v87 hv88 => ?_)
              refine s_X5_wordAt (hv88) (fun r89 v90 hv91 hq92 => ?_)
              refine ⟨fun h93 => ?_, fun h94 => ?_⟩
              · refine s_X1_fillToken (hv91) (fun v96 hv97 => ?_)
                rintro _ rfl
                intro y98 e99
                have t100 : y98.toInt = c18.toInt + 1 := by rw [e99]; exact inc_i (by omega)
                refine ih22 _ _ _ _ _ ⟨rfl, rfl, hv97⟩ ?_
                show ((1000000 : Int) - y98.toInt).toNat < ((1000000 : Int) - c18.toInt).toNat
                omega
              · have g101 := hq92 (by rw [h94]; decide)
                refine s_X4_leave (hv91) (fun r102 v103 hv104 => ?_)
                intro y105 e106
                have t107 : y105.toInt = c18.toInt + 1 := by rw [e106]; exact inc_i (by omega)
                refine ih22 _ _ _ _ _ ⟨rfl, rfl, hv104⟩ ?_
                show ((1000000 : Int) - y105.toInt).toNat < ((1000000 : Int) - c18.toInt).toNat
                omega
            · refine s_X5_after (hv83) (fun r108 v109 hv110 hq111 => ?_)
              rintro _ rfl
              intro y112 e113
              have t114 : y112.toInt = c18.toInt + 1 := by rw [e113]; exact inc_i (by omega)
              refine ih22 _ _ _ _ _ ⟨rfl, rfl, hv110⟩ ?_
              show ((1000000 : Int) - y112.toInt).toNat < ((1000000 : Int) - c18.toInt).toNat
              omega
theorem s_X0_expandByRules {l : Int32} {f : Nat} {X : Int32 → Int32 → mS → (mS → Prop) → Prop} {x1 x2 x3 : Int32} {u : mS} {post : mS → Prop} (hX : ∀ f', f' + 1 = f → ∀ (t : Int32) (v : mS) (q : mS → Prop), IA l f' v → (∀ w, IA l f' w → q w) → X t x3 v q) (hI : IA l f u) (hp : ∀ v, IA l f v → post v) : wp_X0_expandByRules X x1 x2 x3 u post := by
  rintro _ rfl
  refine ⟨fun h0 => ?_, fun _ => s_X2_fail hI hp⟩
  obtain ⟨a, ⟨k, b, c⟩, d⟩ := id hI
  obtain ⟨k', rfl⟩ : ∃ k', k = k' + 1 := by
    cases k with
    | zero => rw [b] at h0; exact absurd h0 (by decide)
    | succ k' => exact ⟨k', rfl⟩
  obtain ⟨f', rfl⟩ : ∃ f', f = f' + 1 := ⟨f - 1, by omega⟩
  intro y3 e3
  have e3 : y3 = nI (k' + 1) := e3.trans b
  subst e3
  rintro _ rfl _ rfl
  rw [nI_pred]
  have h1 : IA l f' (mSet u 11 (nI k')) := IA_set11 hI (by omega)
  have hp' : ∀ v, IA l f' v → post v := fun v hv => hp v (IA_mono hv (by omega))
  refine s_X0_newScope h1 (fun r6 v6 hv6 => ⟨fun _ => ?_, fun _ => hp' _ hv6⟩)
  refine s_X5_turnScope hv6 (fun v10 hv10 => s_X1_firstRule hv10 (fun r11 v12 hv12 => ⟨fun _ => s_X1_fill hv12 (fun r14 v15 hv15 => ?_), fun _ => s_X2_fail hv12 hp'⟩))
  rintro _ rfl
  exact ⟨fun _ => s_X5_turnScope hv15 (fun v19 hv19 => hX f' rfl _ _ _ hv19 hp'), fun _ => hp' _ hv15⟩
theorem s_X0_expandEach {l : Int32} {f : Nat} {X : Int32 → Int32 → mS → (mS → Prop) → Prop} {x1 x2 : Int32} {u : mS} {post : mS → Prop} (hX : ∀ (t : Int32) (v : mS) (q : mS → Prop), IA l f v → (∀ w, IA l f w → q w) → X t (x2 + 1) v q) (hI : IA l f u) (hp : ∀ v, IA l f v → post v) : wp_X0_expandEach X x1 x2 u post := by
  rintro _ rfl
  refine s_X5_itemsFrom (hI) (fun r1 v2 hv3 hq4 => ?_)
  rintro _ rfl
  refine s_X2_put (hv3) (fun v6 hv7 => ?_)
  refine mL5_in (fun c8 c9 c10 c11 v12 => x2 = c8 ∧ r1 = c9 ∧ IA l f v12) (fun c8 c9 c10 c11 v12 => ((r1).toInt - c11.toInt).toNat) ?_ _ _ _ _ _ ⟨rfl, rfl, hv7⟩
  rintro K14 c8 c9 c10 c11 v12 ⟨rfl, rfl, hv13⟩ ih15
  have b16 : (r1).toInt < 2147483648 := Int32.toInt_lt _
  refine ⟨fun h17 => ?_, fun h18 => ?_⟩
  · have q19 := i_le h17
    refine s_X2_put (hv13) (fun v21 hv22 => ?_)
    exact hp _ (hv22)
  · have q23 := i_nle h18
    rintro _ rfl
    refine ⟨fun h24 => ?_, fun h25 => ?_⟩
    · refine s_X2_put (hv13) (fun v27 hv28 => ?_)
      exact hp _ (hv28)
    · refine ⟨fun h29 => ?_, fun h30 => ?_⟩
      · have q31 := i_leR (0 : Int) (by decide) h29
        rintro _ rfl
        refine hX _ _ _ (hv13) (fun v33 hv34 => ?_)
        refine s_X5_after (hv34) (fun r35 v36 hv37 hq38 => ?_)
        intro y39 e40
        have t41 : y39.toInt = c11.toInt + 1 := by rw [e40]; exact inc_i (by omega)
        refine ih15 _ _ _ _ _ ⟨rfl, rfl, hv37⟩ ?_
        show ((r1).toInt - y39.toInt).toNat < ((r1).toInt - c11.toInt).toNat
        omega
      · have q42 := i_nleR (0 : Int) (by decide) h30
        refine s_X2_put (hv13) (fun v44 hv45 => ?_)
        rintro _ rfl
        refine hX _ _ _ (hv45) (fun v47 hv48 => ?_)
        refine s_X5_after (hv48) (fun r49 v50 hv51 hq52 => ?_)
        intro y53 e54
        have t55 : y53.toInt = c11.toInt + 1 := by rw [e54]; exact inc_i (by omega)
        refine ih15 _ _ _ _ _ ⟨rfl, rfl, hv51⟩ ?_
        show ((r1).toInt - y53.toInt).toNat < ((r1).toInt - c11.toInt).toNat
        omega
theorem s_X0_expandList {l : Int32} {f : Nat} {X : Int32 → Int32 → mS → (mS → Prop) → Prop} {x1 x2 : Int32} {u : mS} {post : mS → Prop} (hX1 : x2.toInt ≤ 9 → ∀ (t : Int32) (v : mS) (q : mS → Prop), IA l f v → (∀ w, IA l f w → q w) → X t (x2 + 1) v q) (hX2 : ∀ f', f' + 1 = f → ∀ (t : Int32) (v : mS) (q : mS → Prop), IA l f' v → (∀ w, IA l f' w → q w) → X t x2 v q) (hI : IA l f u) (hp : ∀ v, IA l f v → post v) : wp_X0_expandList X x1 x2 u post := by
  rintro _ rfl
  refine s_X5_wordAt hI (fun r v hv _ => ⟨fun h9 => ⟨fun _ => ?_, fun _ => s_X2_fail hv hp⟩, fun _ => s_X2_fail hv hp⟩)
  have hX := hX1 (i_leR 9 (by decide) h9)
  have main : ∀ z w, IA l f w → wj_X0_expandList_60 X post x1 x2 z w := by
    intro z w hw
    rintro _ rfl
    exact ⟨fun _ => s_X7_kindOf hw (fun r18 w1 hw1 => ⟨fun _ => s_X0_expandFn (hX := hX) hw1 hp, fun _ => s_X0_expandIf (hX := hX) hw1 hp, fun _ => s_X0_expandQ hw1 hp, fun _ => s_X0_expandLs (hX := hX) hw1 hp, fun _ => s_X7_valueOf hw1 (fun r28 w2 hw2 => s_X0_expandByRules (hX := hX2) hw2 hp), fun _ _ _ _ _ => s_X0_expandEach (hX := hX) hw1 hp⟩), fun _ => hp _ hw⟩
  refine s_X8_isName hv (fun r6 w hw => ⟨fun _ => main _ _ hw, fun _ => ?_⟩)
  rintro _ rfl
  exact s_X0_meaningOf hw (fun r10 w1 hw1 => main _ _ hw1)
theorem s_X0_expandTree {l : Int32} {f : Nat} {X : Int32 → Int32 → mS → (mS → Prop) → Prop} {x1 x2 : Int32} {u : mS} {post : mS → Prop} (hX1 : x2.toInt ≤ 9 → ∀ (t : Int32) (v : mS) (q : mS → Prop), IA l f v → (∀ w, IA l f w → q w) → X t (x2 + 1) v q) (hX2 : ∀ f', f' + 1 = f → ∀ (t : Int32) (v : mS) (q : mS → Prop), IA l f' v → (∀ w, IA l f' w → q w) → X t x2 v q) (hI : IA l f u) (hp : ∀ v, IA l f v → post v) : wp_X0_expandTree X x1 x2 u post := by
  rintro _ rfl
  refine ⟨fun _ => s_X5_wordAt hI (fun r v hv _ => ⟨fun _ => s_X8_isName hv (fun r6 w hw => ⟨fun _ => s_X8_isNumber hw (fun r9 w1 hw1 => ⟨fun _ => s_X2_fail hw1 hp, fun _ => s_X2_putNumber hw1 hp⟩), fun _ => s_X0_expandName hw hp⟩), fun _ => s_X0_expandList hX1 hX2 hv hp⟩), fun _ => hp _ hI⟩
theorem s_wpT {l : Int32} : ∀ (d f : Nat) (t x : Int32) (u : mS) (q : mS → Prop), 0 ≤ x.toInt → x.toInt ≤ 10 → 11 + (f : Int) ≤ (d : Int) + x.toInt → IA l f u → (∀ w, IA l f w → q w) → wpT d t x u q := by
  intro d
  induction d with
  | zero => intro f t x u q h1 h2 h3; omega
  | succ d ih =>
    intro f t x u q h1 h2 h3 hI hp
    refine s_X0_expandTree (fun h9 t v q' hv hq => ?_) (fun f' hf t v q' hv hq => ih f' t x v q' h1 h2 (by omega) hv hq) hI hp
    have e : (x + 1).toInt = x.toInt + 1 := inc_i (by omega)
    exact ih f t (x + 1) v q' (by omega) (by omega) (by omega) hv hq


theorem s_X5_restart {l : Int32} {f : Nat} {u : mS} {post : mS → Prop} (hI : IA l f u) (hp : ∀ v, IA l f v → post v) : wp_X5_restart u post := by
  rintro _ rfl _ rfl
  exact hp _ (IA_set2 (IA_set hI (by decide)) (by decide) (by decide))
theorem s_X3_isWhole {l : Int32} {f : Nat} {u : mS} {post : Int32 → mS → Prop} (hI : IA l f u) (hp : ∀ r v, IA l f v → post r v) : wp_X3_isWhole u post := by
  rintro _ rfl
  refine ⟨fun h1 => ?_, fun h2 => ?_⟩
  · exact hp _ _ (hI)
  · rintro _ rfl
    refine ⟨fun h3 => ?_, fun h4 => ?_⟩
    · have q5 := i_leR (480 : Int) (by decide) h3
      exact hp _ _ (hI)
    · have q6 := i_nleR (480 : Int) (by decide) h4
      exact hp _ _ (hI)
theorem s_X3_runLength_1 {l : Int32} {f : Nat} {x1 x2 x3 x4 : Int32} {u : mS} {post : Int32 → mS → Prop} (hI : IA l f u) (hp : ∀ r v, IA l f v → (0 ≤ r.toInt ∧ r.toInt ≤ 120) → post r v) : wp_X3_runLength_1 x1 x2 x3 x4 u post := by
  have main : ∀ z : Int32, 0 ≤ z.toInt → wj_X3_runLength_1_12 post x1 x3 x4 0 z u := by
    intro z hz
    refine mL6_in (fun _ _ _ a c v => 0 ≤ a.toInt ∧ a.toInt ≤ 120 ∧ a.toInt ≤ c.toInt ∧ v = u) (fun _ _ _ _ c _ => (120 - c.toInt).toNat) ?_ _ _ _ _ _ _ ⟨by decide, by decide, hz, rfl⟩
    rintro K b1 b3 b4 a c v ⟨j1, j2, j3, rfl⟩ ih
    have fin : wj_X3_runLength_1_56 post a v := hp _ _ hI ⟨j1, j2⟩
    refine ⟨fun _ => fin, fun _ => ⟨fun _ => fin, fun h2 => ?_⟩⟩
    have q2 := i_nleL 120 (by decide) h2
    have hin : vp_in c 120 := vin (by omega) (by omega)
    refine ⟨hin, ?_⟩
    rintro _ rfl
    refine ⟨fun _ => fin, fun _ => ⟨hin, ?_⟩⟩
    rintro _ rfl
    refine ⟨fun _ => ?_, fun _ => fin⟩
    have e1 : (a + 1).toInt = a.toInt + 1 := inc_i (by omega)
    have e2 : (c + 1).toInt = c.toInt + 1 := inc_i (by omega)
    rintro _ rfl _ rfl
    refine ih _ _ _ _ _ _ ⟨by omega, by omega, by omega, rfl⟩ ?_
    show (120 - (c + 1).toInt).toNat < (120 - c.toInt).toNat
    omega
  exact ⟨fun h => main _ (i_leL 0 (by decide) h), fun _ => main 0 (by decide)⟩
theorem s_X3_readName_1 {l : Int32} {f : Nat} {x2 x3 : Int32} {u : mS} {post : Int32 → mS → Prop} (h0 : 0 ≤ x3.toInt) (hI : IA l f u) (hp : ∀ r v, IA l f v → (0 ≤ r.toInt ∧ r.toInt ≤ 120) → post r v) : wp_X3_readName_1 x2 x3 u post := by
  have main : x3.toInt ≤ 3 → ∀ z : Int32, 0 ≤ z.toInt → wj_X3_readName_1_19 post x2 x3 1 z u := by
    intro h3 z hz
    refine mL5_in (fun _ b _ c v => b = x3 ∧ 0 ≤ c.toInt ∧ v = u) (fun _ _ _ c _ => (120 - c.toInt).toNat) ?_ _ _ _ _ _ ⟨rfl, hz, rfl⟩
    rintro K a b d c v ⟨rfl, j1, rfl⟩ ih
    have fin : wj_X3_readName_1_54 post b d v := s_X5_add hI (fun w hw => hp _ _ hw ⟨h0, by omega⟩)
    rintro _ rfl
    refine ⟨fun _ => fin, fun _ => ⟨fun _ => fin, fun h2 => ?_⟩⟩
    have q2 := i_nleL 120 (by decide) h2
    rintro _ rfl
    refine ⟨vin (by omega) (by omega), ?_⟩
    rintro _ rfl _ rfl _ rfl
    have e2 : (c + 1).toInt = c.toInt + 1 := inc_i (by omega)
    refine ih _ _ _ _ _ ⟨rfl, by omega, rfl⟩ ?_
    show (120 - (c + 1).toInt).toNat < (120 - c.toInt).toNat
    omega
  refine ⟨fun h => ?_, fun _ => hp _ _ hI ⟨by decide, by decide⟩⟩
  have h3 := i_leR 3 (by decide) h
  exact ⟨fun h => main h3 _ (i_leL 0 (by decide) h), fun _ => main h3 0 (by decide)⟩
theorem s_X3_readNumber_1 {l : Int32} {f : Nat} {x2 x3 : Int32} {u : mS} {post : Int32 → mS → Prop} (h0 : 0 ≤ x3.toInt) (hI : IA l f u) (hp : ∀ r v, IA l f v → (0 ≤ r.toInt ∧ r.toInt ≤ 120) → post r v) : wp_X3_readNumber_1 x2 x3 u post := by
  refine ⟨fun _ => hp _ _ hI ⟨by decide, by decide⟩, fun g1 => ⟨fun _ => hp _ _ hI ⟨by decide, by decide⟩, fun g2 => ⟨fun _ => hp _ _ hI ⟨by decide, by decide⟩, fun g3 => ?_⟩⟩⟩
  have h3 := i_nltL 2 (by decide) g1
  have q2 := i_nltR 0 (by decide) g2
  have q3 := i_nleL 120 (by decide) g3
  have main : wj_X3_readNumber_1_30 post x2 x3 u := by
    refine mL5_in (fun _ b _ c v => b = x3 ∧ 0 ≤ c.toInt ∧ v = u) (fun _ _ _ c _ => (120 - c.toInt).toNat) ?_ _ _ _ _ _ ⟨rfl, q2, rfl⟩
    rintro K a b d c v ⟨rfl, j1, rfl⟩ ih
    have fin : wj_X3_readNumber_1_72 post b d v := s_X5_add hI (fun w hw => hp _ _ hw ⟨h0, by omega⟩)
    rintro _ rfl
    refine ⟨fun _ => fin, fun _ => ⟨fun _ => fin, fun h2 => ?_⟩⟩
    have q2 := i_nleL 120 (by decide) h2
    rintro _ rfl
    refine ⟨vin (by omega) (by omega), ?_⟩
    rintro _ rfl _ rfl _ rfl _ rfl
    have e2 : (c + 1).toInt = c.toInt + 1 := inc_i (by omega)
    refine ih _ _ _ _ _ ⟨rfl, by omega, rfl⟩ ?_
    show (120 - (c + 1).toInt).toNat < (120 - c.toInt).toNat
    omega
  refine ⟨fun _ => main, fun _ => ⟨vin (by omega) (by omega), ?_⟩⟩
  rintro _ rfl
  exact ⟨fun _ => main, fun _ => hp _ _ hI ⟨by decide, by decide⟩⟩
theorem s_X3_readOpen {l : Int32} {f : Nat} {u : mS} {post : Int32 → mS → Prop} (hI : IA l f u) (hp : ∀ r v, IA l f v → (0 ≤ r.toInt ∧ r.toInt ≤ 120) → post r v) : wp_X3_readOpen u post := by
  rintro _ rfl
  refine ⟨fun _ => ?_, fun _ => hp _ _ hI ⟨by decide, by decide⟩⟩
  rintro _ rfl _ rfl _ rfl
  exact s_X5_add (IA_set hI (by decide)) (fun w hw => hp _ _ hw ⟨by decide, by decide⟩)
theorem s_X3_readClose {l : Int32} {f : Nat} {u : mS} {post : Int32 → mS → Prop} (hI : IA l f u) (hp : ∀ r v, IA l f v → (0 ≤ r.toInt ∧ r.toInt ≤ 120) → post r v) : wp_X3_readClose u post := by
  rintro _ rfl
  refine ⟨fun _ => ?_, fun _ => hp _ _ hI ⟨by decide, by decide⟩⟩
  rintro _ rfl _ rfl _ rfl
  exact s_X5_add (IA_set hI (by decide)) (fun w hw => hp _ _ hw ⟨by decide, by decide⟩)
theorem s_X3_readDots {l : Int32} {f : Nat} {x1 : Int32} {u : mS} {post : Int32 → mS → Prop} (hI : IA l f u) (hp : ∀ r v, IA l f v → (0 ≤ r.toInt ∧ r.toInt ≤ 120) → post r v) : wp_X3_readDots x1 u post := by
  rintro _ rfl _ rfl
  refine s_X5_wordAt hI (fun r v hv _ => ⟨fun _ => hp _ _ hv ⟨by decide, by decide⟩, fun _ => ?_⟩)
  rintro _ rfl
  exact ⟨fun _ => hp _ _ hv ⟨by decide, by decide⟩, fun _ => ⟨fun _ => hp _ _ hv ⟨by decide, by decide⟩, fun _ => ⟨fun _ => s_X5_add hv (fun w hw => hp _ _ hw ⟨by decide, by decide⟩), fun _ => hp _ _ hv ⟨by decide, by decide⟩⟩⟩⟩
theorem s_X3_readToken_1 {l : Int32} {f : Nat} {x2 x3 : Int32} {u : mS} {post : Int32 → mS → Prop} (hI : IA l f u) (hp : ∀ r v, IA l f v → (0 ≤ r.toInt ∧ r.toInt ≤ 120) → post r v) : wp_X3_readToken_1 x2 x3 u post := by
  have t86 : ∀ x4 v, IA l f v → wj_X3_readToken_1_86 post x2 x3 x4 v := by
    intro x4 v hv
    exact ⟨fun _ => s_X3_readOpen hv hp, fun _ => s_X3_readClose hv hp, fun _ => s_X3_readName_1 (by decide) hv hp, fun _ => s_X3_readName_1 (by decide) hv hp, fun _ => s_X3_runLength_1 hv (fun r w hw _ => s_X3_readDots hw hp), fun _ => s_X3_readName_1 (by decide) hv hp, fun _ => s_X3_readName_1 (by decide) hv hp, fun _ => s_X5_add hv (fun w hw => hp _ _ hw ⟨by decide, by decide⟩), fun _ _ _ _ _ _ _ _ => hp _ _ hv ⟨by decide, by decide⟩⟩
  have t55 : ∀ x4 v, IA l f v → wj_X3_readToken_1_55 post x2 x3 x4 v := by
    intro x4 v hv
    exact ⟨fun _ => t86 _ _ hv, fun _ => ⟨fun _ => t86 _ _ hv, fun _ => s_X3_runLength_1 hv (fun r w hw hq => s_X3_readNumber_1 hq.1 hw hp)⟩⟩
  refine s_X3_isWhole hI (fun r v hv => ⟨fun _ => hp _ _ hv ⟨by decide, by decide⟩, fun _ => ⟨fun _ => hp _ _ hv ⟨by decide, by decide⟩, fun g1 => ⟨fun g2 => ?_, fun _ => hp _ _ hv ⟨by decide, by decide⟩⟩⟩⟩)
  have q1 := i_nltR 0 (by decide) g1
  have q2 := i_ltR 120 (by decide) g2
  refine ⟨vin (by omega) (by omega), ?_⟩
  rintro _ rfl
  exact ⟨fun _ => t55 _ _ hv, fun _ => ⟨fun _ => t55 _ _ hv, fun _ => s_X3_runLength_1 hv (fun r w hw hq => s_X3_readName_1 hq.1 hw hp)⟩⟩
theorem s_X3_read_1 {l : Int32} {f : Nat} {x2 : Int32} {u : mS} {post : Int32 → mS → Prop} (hI : IA l f u) (hp : ∀ r v, IA l f v → post r v) : wp_X3_read_1 x2 u post := by
  refine s_X5_restart hI (fun v hv => ?_)
  rintro _ rfl y4 e4
  have hy : y4.toInt ≤ 120 := by
    rw [e4]
    by_cases g : (120 : Int32) < x2
    · rw [if_pos g]; decide
    · rw [if_neg g]; exact i_nltL 120 (by decide) g
  refine mL4_in (fun a b c w => a = y4 ∧ 0 ≤ b.toInt ∧ b.toInt ≤ 240 ∧ IA l f w) (fun _ _ c _ => (1000000 - c.toInt).toNat) ?_ _ _ _ _ ⟨rfl, by decide, by decide, IA_set hv (by decide)⟩
  rintro K a b c w ⟨rfl, j1, j2, hw⟩ ih
  have fin : wj_X3_read_1_82 post a w := s_X3_isWhole hw (fun r z hz => ⟨fun _ => hp _ _ hz, fun _ => hp _ _ hz⟩)
  refine ⟨fun _ => fin, fun g1 => ⟨fun _ => fin, fun g2 => ?_⟩⟩
  have q1 := i_nleL 1000000 (by decide) g1
  have q2 := i_nle g2
  have next : ∀ z0 z, IA l f z → 0 ≤ z0.toInt → z0.toInt ≤ 120 → wj_X3_read_1_59 K post a b c z0 z := by
    intro z0 z hz k1 k2
    refine ⟨fun _ => ?_, fun _ => hp _ _ hz⟩
    have e1 : (b + z0).toInt = b.toInt + z0.toInt := add_i (by omega) (by omega)
    have e2 : (c + 1).toInt = c.toInt + 1 := inc_i (by omega)
    rintro _ rfl _ rfl
    refine ih _ _ _ _ ⟨rfl, by omega, by omega, hz⟩ ?_
    show (1000000 - (c + 1).toInt).toNat < (1000000 - c.toInt).toNat
    omega
  refine ⟨vin (by omega) (by omega), ?_⟩
  rintro _ rfl
  exact ⟨fun _ => s_X3_readToken_1 hw (fun r z hz hq => next _ _ hz hq.1 hq.2), fun _ => next 1 w hw (by decide) (by decide)⟩
theorem s_X8_takeTyped {l : Int32} {f : Nat} {u : mS} {post : Int32 → mS → Prop} (hI : IA l f u) (hp : ∀ r v, IA 0 f v → post r v) : wp_X8_takeTyped u post := by
  rintro _ rfl
  refine s_X3_read_1 hI (fun r v hv => ?_)
  rintro _ rfl
  exact hp _ _ (IA_set0 hv)
theorem s_X7_ownSlot {l : Int32} {f : Nat} {x1 : Int32} {u : mS} {post : Int32 → mS → Prop} (hI : IA l f u) (hp : ∀ r v, IA l f v → post r v) : wp_X7_ownSlot x1 u post := by
  refine mL4_in (fun c1 c2 c3 v4 => x1 = c1 ∧ (8 : Int32) = c2 ∧ 0 ≤ c3.toInt ∧ IA l f v4) (fun c1 c2 c3 v4 => ((40 : Int) - c3.toInt).toNat) ?_ _ _ _ _ ⟨rfl, rfl, (by first | omega | decide | (rw [inc_i (by omega)]; omega)), hI⟩
  rintro K7 c1 c2 c3 v4 ⟨rfl, rfl, j6, hv5⟩ ih8
  rintro _ rfl
  rintro _ rfl
  refine ⟨fun h9 => ?_, fun h10 => ?_⟩
  · have q11 := i_le h9
    rintro _ rfl
    refine ⟨fun h12 => ?_, fun h13 => ?_⟩
    · have q14 := i_leL (4 : Int) (by decide) h12
      exact hp _ _ (hv5)
    · have q15 := i_nleL (4 : Int) (by decide) h13
      rintro _ rfl
      exact hp _ _ (hv5)
  · have q16 := i_nle h10
    refine ⟨fun h17 => ?_, fun h18 => ?_⟩
    · have q19 := i_leL (40 : Int) (by decide) h17
      rintro _ rfl
      refine ⟨fun h20 => ?_, fun h21 => ?_⟩
      · have q22 := i_leL (4 : Int) (by decide) h20
        exact hp _ _ (hv5)
      · have q23 := i_nleL (4 : Int) (by decide) h21
        rintro _ rfl
        exact hp _ _ (hv5)
    · have q24 := i_nleL (40 : Int) (by decide) h18
      refine ⟨vin (by omega) (by omega), ?_⟩
      rintro _ rfl
      refine ⟨fun h25 => ?_, fun h26 => ?_⟩
      · intro y27 e28
        have t29 : y27.toInt = c3.toInt + 1 := by rw [e28]; exact inc_i (by omega)
        refine ih8 _ _ _ _ ⟨rfl, rfl, (by omega), hv5⟩ ?_
        show ((40 : Int) - y27.toInt).toNat < ((40 : Int) - c3.toInt).toNat
        omega
      · refine ⟨fun h30 => ?_, fun h31 => ?_⟩
        · have q32 := i_leL (8 : Int) (by decide) h30
          rintro _ rfl
          exact hp _ _ (hv5)
        · have q33 := i_nleL (8 : Int) (by decide) h31
          exact hp _ _ (hv5)
theorem s_X5_keep {l : Int32} {f : Nat} {x1 x2 : Int32} {u : mS} {post : Int32 → mS → Prop} (h0 : 0 ≤ x1.toInt) (h3 : x1.toInt ≤ 3000) (hI : IA l f u) (hp : ∀ r v, IA l f v → post r v) : wp_X5_keep x1 x2 u post := by
  have hx : ¬ x1 < 0 := fun q => by have := i_ltR 0 (by decide) q; omega
  refine s_X5_after hI (fun r v hv hq => ?_)
  have g := hq h0 (by omega)
  have hr : ¬ r < 0 := fun q => by have := i_ltR 0 (by decide) q; omega
  obtain ⟨a, ha, rfl⟩ := nI_of hx
  obtain ⟨b, hb, rfl⟩ := nI_of hr
  rw [nI_toInt ha] at h0 h3 g
  rw [nI_toInt hb] at g
  intro y3 e3
  rw [pk_sub (by omega)] at e3
  subst e3
  intro y4 e4
  refine ⟨fun _ => hp _ _ hv, fun _ => ?_⟩
  rintro _ rfl
  rw [nI_add, show a + (b - a) = b from by omega]
  refine ⟨fun _ => hp _ _ hv, fun g1 => ⟨fun _ => hp _ _ hv, fun g2 => ⟨fun _ => hp _ _ hv, fun g3 => ⟨fun g4 => ?_, fun _ => hp _ _ hv⟩⟩⟩⟩
  have q1 := i_nltL 3000 (by decide) g1
  rw [nI_toInt hb] at q1
  have q2 := i_nltL 120 (by decide) g2
  rw [nI_toInt (by omega)] at q2
  have q4 := i_ltR 4 (by decide) g4
  obtain ⟨c, hc, rfl⟩ := nI_of g3
  rw [nI_toInt hc] at q4
  rw [show (120 : Int32) = nI 120 from rfl, pk_mul] at e4
  subst e4
  have ok : (¬ nI a < 0) ∧ (¬ nI (c * 120) < 0) ∧ (¬ nI (b - a) < 0) ∧ (nI a).toNatClampNeg + (nI (b - a)).toNatClampNeg ≤ 3000 ∧ (nI (c * 120)).toNatClampNeg + (nI (b - a)).toNatClampNeg ≤ 3000 := by
    refine ⟨hx, nI_pos (by omega), nI_pos (by omega), ?_, ?_⟩
    · rw [nI_clamp ha, nI_clamp (by omega)]; omega
    · rw [nI_clamp (by omega), nI_clamp (by omega)]; omega
  refine ⟨ok, ?_⟩
  rintro _ rfl
  refine ⟨ok, ?_⟩
  rintro _ rfl
  refine ⟨ok, ?_⟩
  rintro _ rfl
  refine ⟨ok, ?_⟩
  rintro _ rfl
  exact hp _ _ (IA_cpy (IA_cpy (IA_cpy (IA_cpy hv))))
theorem s_X7_forgetExpansion {l : Int32} {f : Nat} {u : mS} {post : mS → Prop} (hI : IA l f u) (hp : ∀ v, IA l f v → post v) : wp_X7_forgetExpansion u post := by
  rintro _ rfl
  rintro _ rfl
  rintro _ rfl
  exact hp _ (IA_set (hI) (by decide))
theorem s_X7_bindOwn {l : Int32} {f : Nat} {x1 x2 x3 : Int32} {u : mS} {post : mS → Prop} (hI : IA l f u) (hp : ∀ v, IA l f v → post v) : wp_X7_bindOwn x1 x2 x3 u post := by
  refine ⟨fun h1 => ?_, fun h2 => ?_⟩
  · have q3 := i_ltR (0 : Int) (by decide) h1
    exact hp _ (hI)
  · have q4 := i_nltR (0 : Int) (by decide) h2
    rintro _ rfl
    refine ⟨fun h5 => ?_, fun h6 => ?_⟩
    · have q7 := i_lt h5
      exact hp _ (hI)
    · have q8 := i_nlt h6
      refine ⟨fun h9 => ?_, fun h10 => ?_⟩
      · have q11 := i_ltR (4 : Int) (by decide) h9
        rintro _ rfl
        rintro _ rfl
        rintro _ rfl
        rintro _ rfl
        rintro _ rfl
        rintro _ rfl
        refine s_X7_bind (IA_set (IA_set (hI) (by decide)) (by decide)) (fun r12 v13 hv14 => ?_)
        refine s_X7_forgetExpansion (hv14) (fun v16 hv17 => ?_)
        exact hp _ (hv17)
      · have q18 := i_nltR (4 : Int) (by decide) h10
        exact hp _ (hI)
theorem s_X8_rules {l : Int32} {f : Nat} {u : mS} {post : Int32 → mS → Prop} (hI : IA l f u) (hp : ∀ r v, IA 0 f v → post r v) : wp_X8_rules u post := by
  refine s_X8_takeTyped hI (fun r v hv => ⟨fun _ => s_X6_isNameWithRules hv (fun r4 v4 hv4 => ⟨fun _ => s_X5_wordAt hv4 (fun r7 v7 hv7 _ => s_X7_ownSlot hv7 (fun r9 v9 hv9 => ⟨fun _ => s_X5_keep (by decide) (by decide) hv9 (fun r12 v12 hv12 => s_X7_bindOwn hv12 (fun v13 hv13 => ?_)), fun _ => hp _ _ hv9⟩)), fun _ => hp _ _ hv4⟩), fun _ => ?_⟩)
  · rintro _ rfl
    exact hp _ _ hv13
  · rintro _ rfl
    exact hp _ _ hv
theorem s_X2_clear {l : Int32} {f : Nat} {u : mS} {post : mS → Prop} (hI : IA l f u) (hp : ∀ v, IA l f v → post v) : wp_X2_clear u post := by
  rintro _ rfl
  rintro _ rfl
  exact hp _ (IA_set (IA_set (hI) (by decide)) (by decide))
theorem s_X0_start {l : Int32} {f g k : Nat} {u : mS} {post : mS → Prop} (hk : k ≤ g) (hI : IA l f u) (hp : ∀ v, IA l g v → post v) : wp_X0_start (nI k) u post := by
  rintro _ rfl _ rfl _ rfl _ rfl
  exact s_X7_forgetExpansion (IA_set11 (IA_set (IA_set (IA_set hI (by decide)) (by decide)) (by decide)) hk) hp
theorem s_X8_expand {l : Int32} {x1 : Int32} {u : mS} {post : Int32 → mS → Prop} (hI : IA l 8 u) (h0 : x1 < 0 ∨ ¬ x1 ≤ 8 → ∀ r, post r u) (h1 : ¬ x1 < 0 → x1 ≤ 8 → ∀ r v, IA 0 8 v → post r v) : wp_X8_expand x1 u post := by
  refine ⟨fun g => h0 (Or.inl g) _, fun g1 => ⟨fun g2 => ?_, fun g => h0 (Or.inr g) _⟩⟩
  have hp := h1 g1 g2
  have q2 := i_leR 8 (by decide) g2
  obtain ⟨k, hk, rfl⟩ := nI_of g1
  rw [nI_toInt hk] at q2
  have main : ∀ (k' : Nat) (x2 : Int32) v, k' ≤ 8 → IA 0 8 v → wj_X8_expand_39 post x2 (nI k') v := by
    intro k' x2 v hk' hv
    refine s_X0_start (g := 8) hk' hv (fun w hw => ⟨fun _ => s_wpT 25 8 _ _ _ _ (by decide) (by decide) (by decide) hw (fun z hz => ?_), fun _ => ?_⟩)
    · rintro _ rfl
      refine ⟨fun _ => ?_, fun _ => ?_⟩
      · rintro _ rfl
        exact hp _ _ hz
      · rintro _ rfl _ rfl _ rfl
        exact hp _ _ (IA_set hz (by decide))
    · rintro _ rfl
      exact hp _ _ hw
  exact s_X8_takeTyped hI (fun r v hv => s_X2_clear hv (fun w hw => ⟨fun _ => main k _ _ (by omega) hw, fun _ => main 0 _ _ (by omega) hw⟩))
theorem s_X2_charAt {l : Int32} {f : Nat} {x1 : Int32} {u : mS} {post : Int32 → mS → Prop} (hI : IA l f u) (hp : ∀ r v, IA l f v → post r v) : wp_X2_charAt x1 u post := by
  refine ⟨fun h1 => ?_, fun h2 => ?_⟩
  · have q3 := i_ltR (0 : Int) (by decide) h1
    exact hp _ _ (hI)
  · have q4 := i_nltR (0 : Int) (by decide) h2
    rintro _ rfl
    refine ⟨fun h5 => ?_, fun h6 => ?_⟩
    · have q7 := i_le h5
      exact hp _ _ (hI)
    · have q8 := i_nle h6
      refine ⟨fun h9 => ?_, fun h10 => ?_⟩
      · have q11 := i_leL (200 : Int) (by decide) h9
        exact hp _ _ (hI)
      · have q12 := i_nleL (200 : Int) (by decide) h10
        refine ⟨vin (by omega) (by omega), ?_⟩
        rintro _ rfl
        exact hp _ _ (hI)
theorem s_X8_at {l : Int32} {f : Nat} {x1 : Int32} {u : mS} {post : Int32 → mS → Prop} (hI : IA l f u) (hp : ∀ r v, IA l f v → post r v) : wp_X8_at x1 u post := by
  refine s_X2_charAt (hI) (fun r1 v2 hv3 => ?_)
  exact hp _ _ (hv3)
theorem s_X8_count {l : Int32} {f : Nat} {x1 : Int32} {u : mS} {post : Int32 → mS → Prop} (hI : IA l f u) (hp : ∀ r v, IA l f v → post r v) : wp_X8_count x1 u post := by
  refine ⟨fun h1 => ?_, fun h2 => ?_, fun h3 => ?_, fun h4 => ?_, fun h5 h6 h7 h8 => ?_⟩
  · rintro _ rfl
    exact hp _ _ (hI)
  · rintro _ rfl
    exact hp _ _ (hI)
  · rintro _ rfl
    exact hp _ _ (hI)
  · rintro _ rfl
    exact hp _ _ (hI)
  · exact hp _ _ (hI)
