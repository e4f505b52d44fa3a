theorem mL1_mo {F F2 : (mS → Prop) → mS → Prop} {u0 : mS} (R : mS → mS → Prop) (hr : ∀ u, R u u) (hs : ∀ (K K2 : mS → Prop) (z : mS), R u0 z → (∀ v, R u0 v → K v → K2 v) → F K z → F2 K2 z) : ∀ (n : Nat) (z : mS), R u0 z → mL1 F n z → mL1 F2 n z
  | 0, _, _, h => h.elim
  | n + 1, z, hz, h => hs (mL1 F n) (mL1 F2 n) z hz (fun v hv hk => mL1_mo R hr hs n v hv hk) h
theorem mL2_mo {A1 : Type} {F F2 : (A1 → mS → Prop) → A1 → mS → Prop} {u0 : mS} (R : mS → mS → Prop) (hr : ∀ u, R u u) (hs : ∀ (K K2 : A1 → mS → Prop) (z : mS), R u0 z → (∀ b1 v, R u0 v → K b1 v → K2 b1 v) → ∀ a1, F K a1 z → F2 K2 a1 z) : ∀ (n : Nat) (a1 : A1) (z : mS), R u0 z → mL2 F n a1 z → mL2 F2 n a1 z
  | 0, _, _, _, h => h.elim
  | n + 1, a1, z, hz, h => hs (mL2 F n) (mL2 F2 n) z hz (fun b1 v hv hk => mL2_mo R hr hs n b1 v hv hk) a1 h
theorem mL3_mo {A1 A2 : Type} {F F2 : (A1 → A2 → mS → Prop) → A1 → A2 → mS → Prop} {u0 : mS} (R : mS → mS → Prop) (hr : ∀ u, R u u) (hs : ∀ (K K2 : A1 → A2 → mS → Prop) (z : mS), R u0 z → (∀ b1 b2 v, R u0 v → K b1 b2 v → K2 b1 b2 v) → ∀ a1 a2, F K a1 a2 z → F2 K2 a1 a2 z) : ∀ (n : Nat) (a1 : A1) (a2 : A2) (z : mS), R u0 z → mL3 F n a1 a2 z → mL3 F2 n a1 a2 z
  | 0, _, _, _, _, h => h.elim
  | n + 1, a1, a2, z, hz, h => hs (mL3 F n) (mL3 F2 n) z hz (fun b1 b2 v hv hk => mL3_mo R hr hs n b1 b2 v hv hk) a1 a2 h
theorem mL4_mo {A1 A2 A3 : Type} {F F2 : (A1 → A2 → A3 → mS → Prop) → A1 → A2 → A3 → mS → Prop} {u0 : mS} (R : mS → mS → Prop) (hr : ∀ u, R u u) (hs : ∀ (K K2 : A1 → A2 → A3 → mS → Prop) (z : mS), R u0 z → (∀ b1 b2 b3 v, R u0 v → K b1 b2 b3 v → K2 b1 b2 b3 v) → ∀ a1 a2 a3, F K a1 a2 a3 z → F2 K2 a1 a2 a3 z) : ∀ (n : Nat) (a1 : A1) (a2 : A2) (a3 : A3) (z : mS), R u0 z → mL4 F n a1 a2 a3 z → mL4 F2 n a1 a2 a3 z
  | 0, _, _, _, _, _, h => h.elim
  | n + 1, a1, a2, a3, z, hz, h => hs (mL4 F n) (mL4 F2 n) z hz (fun b1 b2 b3 v hv hk => mL4_mo R hr hs n b1 b2 b3 v hv hk) a1 a2 a3 h
theorem mL5_mo {A1 A2 A3 A4 : Type} {F F2 : (A1 → A2 → A3 → A4 → mS → Prop) → A1 → A2 → A3 → A4 → mS → Prop} {u0 : mS} (R : mS → mS → Prop) (hr : ∀ u, R u u) (hs : ∀ (K K2 : A1 → A2 → A3 → A4 → mS → Prop) (z : mS), R u0 z → (∀ b1 b2 b3 b4 v, R u0 v → K b1 b2 b3 b4 v → K2 b1 b2 b3 b4 v) → ∀ a1 a2 a3 a4, F K a1 a2 a3 a4 z → F2 K2 a1 a2 a3 a4 z) : ∀ (n : Nat) (a1 : A1) (a2 : A2) (a3 : A3) (a4 : A4) (z : mS), R u0 z → mL5 F n a1 a2 a3 a4 z → mL5 F2 n a1 a2 a3 a4 z
  | 0, _, _, _, _, _, _, h => h.elim
  | n + 1, a1, a2, a3, a4, z, hz, h => hs (mL5 F n) (mL5 F2 n) z hz (fun b1 b2 b3 b4 v hv hk => mL5_mo R hr hs n b1 b2 b3 b4 v hv hk) a1 a2 a3 a4 h
theorem mL6_mo {A1 A2 A3 A4 A5 : Type} {F F2 : (A1 → A2 → A3 → A4 → A5 → mS → Prop) → A1 → A2 → A3 → A4 → A5 → mS → Prop} {u0 : mS} (R : mS → mS → Prop) (hr : ∀ u, R u u) (hs : ∀ (K K2 : A1 → A2 → A3 → A4 → A5 → mS → Prop) (z : mS), R u0 z → (∀ b1 b2 b3 b4 b5 v, R u0 v → K b1 b2 b3 b4 b5 v → K2 b1 b2 b3 b4 b5 v) → ∀ a1 a2 a3 a4 a5, F K a1 a2 a3 a4 a5 z → F2 K2 a1 a2 a3 a4 a5 z) : ∀ (n : Nat) (a1 : A1) (a2 : A2) (a3 : A3) (a4 : A4) (a5 : A5) (z : mS), R u0 z → mL6 F n a1 a2 a3 a4 a5 z → mL6 F2 n a1 a2 a3 a4 a5 z
  | 0, _, _, _, _, _, _, _, h => h.elim
  | n + 1, a1, a2, a3, a4, a5, z, hz, h => hs (mL6 F n) (mL6 F2 n) z hz (fun b1 b2 b3 b4 b5 v hv hk => mL6_mo R hr hs n b1 b2 b3 b4 b5 v hv hk) a1 a2 a3 a4 a5 h
theorem mL7_mo {A1 A2 A3 A4 A5 A6 : Type} {F F2 : (A1 → A2 → A3 → A4 → A5 → A6 → mS → Prop) → A1 → A2 → A3 → A4 → A5 → A6 → mS → Prop} {u0 : mS} (R : mS → mS → Prop) (hr : ∀ u, R u u) (hs : ∀ (K K2 : A1 → A2 → A3 → A4 → A5 → A6 → mS → Prop) (z : mS), R u0 z → (∀ b1 b2 b3 b4 b5 b6 v, R u0 v → K b1 b2 b3 b4 b5 b6 v → K2 b1 b2 b3 b4 b5 b6 v) → ∀ a1 a2 a3 a4 a5 a6, F K a1 a2 a3 a4 a5 a6 z → F2 K2 a1 a2 a3 a4 a5 a6 z) : ∀ (n : Nat) (a1 : A1) (a2 : A2) (a3 : A3) (a4 : A4) (a5 : A5) (a6 : A6) (z : mS), R u0 z → mL7 F n a1 a2 a3 a4 a5 a6 z → mL7 F2 n a1 a2 a3 a4 a5 a6 z
  | 0, _, _, _, _, _, _, _, _, h => h.elim
  | n + 1, a1, a2, a3, a4, a5, a6, z, hz, h => hs (mL7 F n) (mL7 F2 n) z hz (fun b1 b2 b3 b4 b5 b6 v hv hk => mL7_mo R hr hs n b1 b2 b3 b4 b5 b6 v hv hk) a1 a2 a3 a4 a5 a6 h
theorem mL8_mo {A1 A2 A3 A4 A5 A6 A7 : Type} {F F2 : (A1 → A2 → A3 → A4 → A5 → A6 → A7 → mS → Prop) → A1 → A2 → A3 → A4 → A5 → A6 → A7 → mS → Prop} {u0 : mS} (R : mS → mS → Prop) (hr : ∀ u, R u u) (hs : ∀ (K K2 : A1 → A2 → A3 → A4 → A5 → A6 → A7 → mS → Prop) (z : mS), R u0 z → (∀ b1 b2 b3 b4 b5 b6 b7 v, R u0 v → K b1 b2 b3 b4 b5 b6 b7 v → K2 b1 b2 b3 b4 b5 b6 b7 v) → ∀ a1 a2 a3 a4 a5 a6 a7, F K a1 a2 a3 a4 a5 a6 a7 z → F2 K2 a1 a2 a3 a4 a5 a6 a7 z) : ∀ (n : Nat) (a1 : A1) (a2 : A2) (a3 : A3) (a4 : A4) (a5 : A5) (a6 : A6) (a7 : A7) (z : mS), R u0 z → mL8 F n a1 a2 a3 a4 a5 a6 a7 z → mL8 F2 n a1 a2 a3 a4 a5 a6 a7 z
  | 0, _, _, _, _, _, _, _, _, _, h => h.elim
  | n + 1, a1, a2, a3, a4, a5, a6, a7, z, hz, h => hs (mL8 F n) (mL8 F2 n) z hz (fun b1 b2 b3 b4 b5 b6 b7 v hv hk => mL8_mo R hr hs n b1 b2 b3 b4 b5 b6 b7 v hv hk) a1 a2 a3 a4 a5 a6 a7 h
theorem mL9_mo {A1 A2 A3 A4 A5 A6 A7 A8 : Type} {F F2 : (A1 → A2 → A3 → A4 → A5 → A6 → A7 → A8 → mS → Prop) → A1 → A2 → A3 → A4 → A5 → A6 → A7 → A8 → mS → Prop} {u0 : mS} (R : mS → mS → Prop) (hr : ∀ u, R u u) (hs : ∀ (K K2 : A1 → A2 → A3 → A4 → A5 → A6 → A7 → A8 → mS → Prop) (z : mS), R u0 z → (∀ b1 b2 b3 b4 b5 b6 b7 b8 v, R u0 v → K b1 b2 b3 b4 b5 b6 b7 b8 v → K2 b1 b2 b3 b4 b5 b6 b7 b8 v) → ∀ a1 a2 a3 a4 a5 a6 a7 a8, F K a1 a2 a3 a4 a5 a6 a7 a8 z → F2 K2 a1 a2 a3 a4 a5 a6 a7 a8 z) : ∀ (n : Nat) (a1 : A1) (a2 : A2) (a3 : A3) (a4 : A4) (a5 : A5) (a6 : A6) (a7 : A7) (a8 : A8) (z : mS), R u0 z → mL9 F n a1 a2 a3 a4 a5 a6 a7 a8 z → mL9 F2 n a1 a2 a3 a4 a5 a6 a7 a8 z
  | 0, _, _, _, _, _, _, _, _, _, _, h => h.elim
  | n + 1, a1, a2, a3, a4, a5, a6, a7, a8, z, hz, h => hs (mL9 F n) (mL9 F2 n) z hz (fun b1 b2 b3 b4 b5 b6 b7 b8 v hv hk => mL9_mo R hr hs n b1 b2 b3 b4 b5 b6 b7 b8 v hv hk) a1 a2 a3 a4 a5 a6 a7 a8 h
/-- the table's first bindings: the eight and the own ones -/
def TB (o : Nat) (g : Nat → Int32) (u : mS) : Prop := u.1 5 = nI o ∧ (∃ n, u.1 4 = nI n ∧ 8 + o ≤ n ∧ n ≤ 40) ∧ ∀ i, i < 8 + o → u.2 5 i = g i
/-- what the class's expand leaves as it is: the typed row, the first bindings -/
def RA (u v : mS) : Prop := v.2 0 = u.2 0 ∧ ∀ o g, o ≤ 4 → TB o g u → TB o g v
theorem RA_rf (u : mS) : RA u u := ⟨rfl, fun _ _ _ h => h⟩
theorem RA_tr {u v w : mS} (h : RA u v) (g : RA v w) : RA u w := ⟨g.1.trans h.1, fun o f ho q => g.2 o f ho (h.2 o f ho q)⟩
theorem RA_set {u w : mS} {k : Nat} {v : Int32} (h : RA u w) (hk : k ≠ 4 ∧ k ≠ 5) : RA u (mSet w k v) := by
  refine ⟨h.1, fun o g ho q => ?_⟩
  obtain ⟨a, ⟨n, b, c⟩, d⟩ := h.2 o g ho q
  exact ⟨(mSet_other (Ne.symm hk.2)).trans a, ⟨n, (mSet_other (Ne.symm hk.1)).trans b, c⟩, d⟩
theorem RA_put {u w : mS} {k i : Nat} {v : Int32} (h : RA u w) (hk : k ≠ 0 ∧ k ≠ 5) : RA u (mPut w k i v) := by
  refine ⟨(mPut_other (Ne.symm hk.1)).trans h.1, fun o g ho q => ?_⟩
  obtain ⟨a, b, d⟩ := h.2 o g ho q
  refine ⟨a, b, ?_⟩
  rw [mPut_other (Ne.symm hk.2)]
  exact d
theorem f_wp_X5_wordAt {x1 : Int32} {u : mS} {post post_ : Int32 → mS → Prop} (hp : ∀ (b0_ : Int32) (b1_ : mS), RA u b1_ → post b0_ b1_ → post_ b0_ b1_) (h : wp_X5_wordAt x1 u post) : wp_X5_wordAt x1 u post_ := by
  refine ⟨fun cc1 => ?_, fun cc2 => ?_⟩
  · have hh3 := h.1 cc1
    exact hp _ _ (RA_rf u) hh3
  · have hh4 := h.2 cc2
    intro y2 ee5
    have hh6 := hh4 y2 ee5
    refine ⟨fun cc7 => ?_, fun cc8 => ?_⟩
    · have hh9 := hh6.1 cc7
      exact hp _ _ (RA_rf u) hh9
    · have hh10 := hh6.2 cc8
      refine ⟨fun cc11 => ?_, fun cc12 => ?_⟩
      · have hh13 := hh10.1 cc11
        exact hp _ _ (RA_rf u) hh13
      · have hh14 := hh10.2 cc12
        refine ⟨hh14.1, ?_⟩
        have hh15 := hh14.2
        intro y5 ee16
        have hh17 := hh15 y5 ee16
        exact hp _ _ (RA_rf u) hh17
theorem f_wp_X8_isName {x0 : Int32} {u : mS} {post post_ : Int32 → mS → Prop} (hp : ∀ (b0_ : Int32) (b1_ : mS), RA u b1_ → post b0_ b1_ → post_ b0_ b1_) (h : wp_X8_isName x0 u post) : wp_X8_isName x0 u post_ := by
  refine ⟨fun cc1 => ?_, fun cc2 => ?_⟩
  · have hh3 := h.1 cc1
    exact hp _ _ (RA_rf u) hh3
  · have hh4 := h.2 cc2
    exact hp _ _ (RA_rf u) hh4
theorem f_wp_X8_isNumber {x0 : Int32} {u : mS} {post post_ : Int32 → mS → Prop} (hp : ∀ (b0_ : Int32) (b1_ : mS), RA u b1_ → post b0_ b1_ → post_ b0_ b1_) (h : wp_X8_isNumber x0 u post) : wp_X8_isNumber x0 u post_ := by
  refine ⟨fun cc1 => ?_, fun cc2 => ?_⟩
  · have hh3 := h.1 cc1
    exact hp _ _ (RA_rf u) hh3
  · have hh4 := h.2 cc2
    refine ⟨fun cc5 => ?_, fun cc6 => ?_⟩
    · have hh7 := hh4.1 cc5
      exact hp _ _ (RA_rf u) hh7
    · have hh8 := hh4.2 cc6
      exact hp _ _ (RA_rf u) hh8
theorem f_wp_X2_fail {x1 : Int32} {u : mS} {post post_ : mS → Prop} (hp : ∀ (b0_ : mS), RA u b0_ → post b0_ → post_ b0_) (h : wp_X2_fail x1 u post) : wp_X2_fail x1 u post_ := by
  intro y1 ee1
  have hh2 := h y1 ee1
  refine ⟨fun cc3 => ?_, fun cc4 => ?_⟩
  · have hh5 := hh2.1 cc3
    exact hp _ (RA_rf u) hh5
  · have hh6 := hh2.2 cc4
    intro u3 ee7
    have hh8 := hh6 u3 ee7
    have rr9 : RA u u3 := by rw [ee7]; exact RA_set (RA_rf u) (by decide)
    exact hp _ rr9 hh8
theorem f_wj_X2_put_25 {post post_ : mS → Prop} {u : mS} (hp : ∀ (b0_ : mS), RA u b0_ → post b0_ → post_ b0_) (h : wj_X2_put_25 post u) : wj_X2_put_25 post_ u := by
  intro u12 ee1
  have hh2 := h u12 ee1
  have rr3 : RA u u12 := by rw [ee1]; exact RA_set (RA_rf u) (by decide)
  exact hp _ rr3 hh2
theorem f_wp_X2_put {x1 : Int32} {u : mS} {post post_ : mS → Prop} (hp : ∀ (b0_ : mS), RA u b0_ → post b0_ → post_ b0_) (h : wp_X2_put x1 u post) : wp_X2_put x1 u post_ := by
  intro y1 ee1
  have hh2 := h y1 ee1
  refine ⟨fun cc3 => ?_, fun cc4 => ?_⟩
  · have hh5 := hh2.1 cc3
    intro y3 ee6
    have hh7 := hh5 y3 ee6
    refine ⟨fun cc8 => ?_, fun cc9 => ?_⟩
    · have hh10 := hh7.1 cc8
      exact f_wj_X2_put_25 (fun v_ rv_ h_ => hp v_ (RA_tr (RA_rf u) rv_) h_) hh10
    · have hh11 := hh7.2 cc9
      intro y5 ee12
      have hh13 := hh11 y5 ee12
      refine ⟨fun cc14 => ?_, fun cc15 => ?_⟩
      · have hh16 := hh13.1 cc14
        intro y7 ee17
        have hh18 := hh16 y7 ee17
        refine ⟨hh18.1, ?_⟩
        have hh19 := hh18.2
        intro u8 ee20
        have hh21 := hh19 u8 ee20
        have rr22 : RA u u8 := by rw [ee20]; exact RA_put (RA_rf u) (by decide)
        intro y9 ee23
        have hh24 := hh21 y9 ee23
        intro y10 ee25
        have hh26 := hh24 y10 ee25
        intro u11 ee27
        have hh28 := hh26 u11 ee27
        have rr29 : RA u u11 := by rw [ee27]; exact RA_set rr22 (by decide)
        exact hp _ rr29 hh28
      · have hh30 := hh13.2 cc15
        exact f_wj_X2_put_25 (fun v_ rv_ h_ => hp v_ (RA_tr (RA_rf u) rv_) h_) hh30
  · have hh31 := hh2.2 cc4
    exact hp _ (RA_rf u) hh31
theorem f_wj_X2_putNumber_17 {post post_ : mS → Prop} {x1 : Int32} {u : mS} (hp : ∀ (b0_ : mS), RA u b0_ → post b0_ → post_ b0_) (h : wj_X2_putNumber_17 post x1 u) : wj_X2_putNumber_17 post_ x1 u := by
  intro y6 ee1
  have hh2 := h y6 ee1
  intro y7 ee3
  have hh4 := hh2 y7 ee3
  refine f_wp_X2_put (fun u9 rr6 hh5 => ?_) hh4
  have rr7 : RA u u9 := RA_tr (RA_rf u) rr6
  exact hp _ rr7 hh5
theorem f_wp_X2_putNumber {x1 : Int32} {u : mS} {post post_ : mS → Prop} (hp : ∀ (b0_ : mS), RA u b0_ → post b0_ → post_ b0_) (h : wp_X2_putNumber x1 u post) : wp_X2_putNumber x1 u post_ := by
  refine ⟨fun cc1 => ?_, fun cc2 => ?_⟩
  · have hh3 := h.1 cc1
    exact f_wj_X2_putNumber_17 (fun v_ rv_ h_ => hp v_ (RA_tr (RA_rf u) rv_) h_) hh3
  · have hh4 := h.2 cc2
    intro y2 ee5
    have hh6 := hh4 y2 ee5
    intro y3 ee7
    have hh8 := hh6 y3 ee7
    refine f_wp_X2_put (fun u5 rr10 hh9 => ?_) hh8
    have rr11 : RA u u5 := RA_tr (RA_rf u) rr10
    exact f_wj_X2_putNumber_17 (fun v_ rv_ h_ => hp v_ (RA_tr rr11 rv_) h_) hh9
theorem f_wp_X5_marksAt {x1 : Int32} {u : mS} {post post_ : Int32 → mS → Prop} (hp : ∀ (b0_ : Int32) (b1_ : mS), RA u b1_ → post b0_ b1_ → post_ b0_ b1_) (h : wp_X5_marksAt x1 u post) : wp_X5_marksAt x1 u post_ := by
  refine ⟨fun cc1 => ?_, fun cc2 => ?_⟩
  · have hh3 := h.1 cc1
    exact hp _ _ (RA_rf u) hh3
  · have hh4 := h.2 cc2
    intro y2 ee5
    have hh6 := hh4 y2 ee5
    refine ⟨fun cc7 => ?_, fun cc8 => ?_⟩
    · have hh9 := hh6.1 cc7
      exact hp _ _ (RA_rf u) hh9
    · have hh10 := hh6.2 cc8
      refine ⟨fun cc11 => ?_, fun cc12 => ?_⟩
      · have hh13 := hh10.1 cc11
        exact hp _ _ (RA_rf u) hh13
      · have hh14 := hh10.2 cc12
        refine ⟨hh14.1, ?_⟩
        have hh15 := hh14.2
        intro y5 ee16
        have hh17 := hh15 y5 ee16
        exact hp _ _ (RA_rf u) hh17
theorem f_wp_J6_bitCount_0f7a4 {x0 : Int32} {u : mS} {post post_ : Int32 → mS → Prop} (hp : ∀ (b0_ : Int32) (b1_ : mS), RA u b1_ → post b0_ b1_ → post_ b0_ b1_) (h : wp_J6_bitCount_0f7a4 x0 u post) : wp_J6_bitCount_0f7a4 x0 u post_ := by
  intro y1 ee1
  have hh2 := h y1 ee1
  intro y2 ee3
  have hh4 := hh2 y2 ee3
  intro y3 ee5
  have hh6 := hh4 y3 ee5
  intro y4 ee7
  have hh8 := hh6 y4 ee7
  intro y5 ee9
  have hh10 := hh8 y5 ee9
  intro y6 ee11
  have hh12 := hh10 y6 ee11
  intro y7 ee13
  have hh14 := hh12 y7 ee13
  intro y8 ee15
  have hh16 := hh14 y8 ee15
  intro y9 ee17
  have hh18 := hh16 y9 ee17
  intro y10 ee19
  have hh20 := hh18 y10 ee19
  intro y11 ee21
  have hh22 := hh20 y11 ee21
  intro y12 ee23
  have hh24 := hh22 y12 ee23
  intro y13 ee25
  have hh26 := hh24 y13 ee25
  intro y14 ee27
  have hh28 := hh26 y14 ee27
  intro y15 ee29
  have hh30 := hh28 y15 ee29
  exact hp _ _ (RA_rf u) hh30
theorem f_wj_X7_holdsAllOthers_88 {K14 K14_ : Int32 → Int32 → Int32 → mS → Prop} {post post_ : Int32 → mS → Prop} {x1 : Int32} {x2 : Int32} {x3 : Int32} {u : mS} (hK14 : ∀ (b0_ : Int32) (b1_ : Int32) (b2_ : Int32) (b3_ : mS), RA u b3_ → K14 b0_ b1_ b2_ b3_ → K14_ b0_ b1_ b2_ b3_) (hp : ∀ (b0_ : Int32) (b1_ : mS), RA u b1_ → post b0_ b1_ → post_ b0_ b1_) (h : wj_X7_holdsAllOthers_88 K14 post x1 x2 x3 u) : wj_X7_holdsAllOthers_88 K14_ post_ x1 x2 x3 u := by
  intro y19 ee1
  have hh2 := h y19 ee1
  exact hK14 _ _ _ _ (RA_rf u) hh2
theorem f_wj_X7_holdsAllOthers_61 {K14 K14_ : Int32 → Int32 → Int32 → mS → Prop} {post post_ : Int32 → mS → Prop} {x1 : Int32} {x2 : Int32} {x3 : Int32} {z0 : Int32} {u : mS} (hK14 : ∀ (b0_ : Int32) (b1_ : Int32) (b2_ : Int32) (b3_ : mS), RA u b3_ → K14 b0_ b1_ b2_ b3_ → K14_ b0_ b1_ b2_ b3_) (hp : ∀ (b0_ : Int32) (b1_ : mS), RA u b1_ → post b0_ b1_ → post_ b0_ b1_) (h : wj_X7_holdsAllOthers_61 K14 post x1 x2 x3 z0 u) : wj_X7_holdsAllOthers_61 K14_ post_ x1 x2 x3 z0 u := by
  refine ⟨fun cc1 => ?_, fun cc2 => ?_⟩
  · have hh3 := h.1 cc1
    exact f_wj_X7_holdsAllOthers_88 (fun _ _ _ v_ rv_ h_ => hK14 _ _ _ v_ (RA_tr (RA_rf u) rv_) h_) (fun _ v_ rv_ h_ => hp _ v_ (RA_tr (RA_rf u) rv_) h_) hh3
  · have hh4 := h.2 cc2
    refine ⟨hh4.1, ?_⟩
    have hh5 := hh4.2
    intro y14 ee6
    have hh7 := hh5 y14 ee6
    refine ⟨hh7.1, ?_⟩
    have hh8 := hh7.2
    intro y15 ee9
    have hh10 := hh8 y15 ee9
    intro y16 ee11
    have hh12 := hh10 y16 ee11
    intro y17 ee13
    have hh14 := hh12 y17 ee13
    refine ⟨fun cc15 => ?_, fun cc16 => ?_⟩
    · have hh17 := hh14.1 cc15
      exact f_wj_X7_holdsAllOthers_88 (fun _ _ _ v_ rv_ h_ => hK14 _ _ _ v_ (RA_tr (RA_rf u) rv_) h_) (fun _ v_ rv_ h_ => hp _ v_ (RA_tr (RA_rf u) rv_) h_) hh17
    · have hh18 := hh14.2 cc16
      exact hp _ _ (RA_rf u) hh18
theorem f_wj_X7_holdsAllOthers_60 {K14 K14_ : Int32 → Int32 → Int32 → mS → Prop} {post post_ : Int32 → mS → Prop} {x1 : Int32} {x2 : Int32} {x3 : Int32} {u : mS} (hK14 : ∀ (b0_ : Int32) (b1_ : Int32) (b2_ : Int32) (b3_ : mS), RA u b3_ → K14 b0_ b1_ b2_ b3_ → K14_ b0_ b1_ b2_ b3_) (hp : ∀ (b0_ : Int32) (b1_ : mS), RA u b1_ → post b0_ b1_ → post_ b0_ b1_) (h : wj_X7_holdsAllOthers_60 K14 post x1 x2 x3 u) : wj_X7_holdsAllOthers_60 K14_ post_ x1 x2 x3 u := by
  exact f_wj_X7_holdsAllOthers_61 (fun _ _ _ v_ rv_ h_ => hK14 _ _ _ v_ (RA_tr (RA_rf u) rv_) h_) (fun _ v_ rv_ h_ => hp _ v_ (RA_tr (RA_rf u) rv_) h_) h
theorem f_wj_X7_holdsAllOthers_14 {K14 K14_ : Int32 → Int32 → Int32 → mS → Prop} {post post_ : Int32 → mS → Prop} {x1 : Int32} {x2 : Int32} {x3 : Int32} {u : mS} (hK14 : ∀ (b0_ : Int32) (b1_ : Int32) (b2_ : Int32) (b3_ : mS), RA u b3_ → K14 b0_ b1_ b2_ b3_ → K14_ b0_ b1_ b2_ b3_) (hp : ∀ (b0_ : Int32) (b1_ : mS), RA u b1_ → post b0_ b1_ → post_ b0_ b1_) (h : wj_X7_holdsAllOthers_14 K14 post x1 x2 x3 u) : wj_X7_holdsAllOthers_14 K14_ post_ x1 x2 x3 u := by
  intro y3 ee1
  have hh2 := h y3 ee1
  refine ⟨fun cc3 => ?_, fun cc4 => ?_⟩
  · have hh5 := hh2.1 cc3
    exact hp _ _ (RA_rf u) hh5
  · have hh6 := hh2.2 cc4
    refine ⟨fun cc7 => ?_, fun cc8 => ?_⟩
    · have hh9 := hh6.1 cc7
      exact hp _ _ (RA_rf u) hh9
    · have hh10 := hh6.2 cc8
      refine ⟨hh10.1, ?_⟩
      have hh11 := hh10.2
      intro y6 ee12
      have hh13 := hh11 y6 ee12
      refine ⟨hh13.1, ?_⟩
      have hh14 := hh13.2
      intro y7 ee15
      have hh16 := hh14 y7 ee15
      refine ⟨fun cc17 => ?_, fun cc18 => ?_⟩
      · have hh19 := hh16.1 cc17
        exact f_wj_X7_holdsAllOthers_60 (fun _ _ _ v_ rv_ h_ => hK14 _ _ _ v_ (RA_tr (RA_rf u) rv_) h_) (fun _ v_ rv_ h_ => hp _ v_ (RA_tr (RA_rf u) rv_) h_) hh19
      · have hh20 := hh16.2 cc18
        refine ⟨hh20.1, ?_⟩
        have hh21 := hh20.2
        intro y9 ee22
        have hh23 := hh21 y9 ee22
        intro y10 ee24
        have hh25 := hh23 y10 ee24
        intro y11 ee26
        have hh27 := hh25 y11 ee26
        refine ⟨fun cc28 => ?_, fun cc29 => ?_⟩
        · have hh30 := hh27.1 cc28
          exact f_wj_X7_holdsAllOthers_60 (fun _ _ _ v_ rv_ h_ => hK14 _ _ _ v_ (RA_tr (RA_rf u) rv_) h_) (fun _ v_ rv_ h_ => hp _ v_ (RA_tr (RA_rf u) rv_) h_) hh30
        · have hh31 := hh27.2 cc29
          exact f_wj_X7_holdsAllOthers_61 (fun _ _ _ v_ rv_ h_ => hK14 _ _ _ v_ (RA_tr (RA_rf u) rv_) h_) (fun _ v_ rv_ h_ => hp _ v_ (RA_tr (RA_rf u) rv_) h_) hh31
theorem f_wp_X7_holdsAllOthers {x1 : Int32} {x2 : Int32} {u : mS} {post post_ : Int32 → mS → Prop} (hp : ∀ (b0_ : Int32) (b1_ : mS), RA u b1_ → post b0_ b1_ → post_ b0_ b1_) (h : wp_X7_holdsAllOthers x1 x2 u post) : wp_X7_holdsAllOthers x1 x2 u post_ := by
  refine ⟨fun cc1 => ?_, fun cc2 => ?_⟩
  · have hh3 := h.1 cc1
    exact hp _ _ (RA_rf u) hh3
  · have hh4 := h.2 cc2
    refine ⟨fun cc5 => ?_, fun cc6 => ?_⟩
    · have hh7 := hh4.1 cc5
      obtain ⟨nn8, hh9⟩ := hh7
      refine ⟨nn8, mL4_mo RA RA_rf ?_ nn8 _ _ _ _ (RA_rf _) hh9⟩
      intro K_ K2_ z_ hz_ hK_ _ _ _ h_
      exact f_wj_X7_holdsAllOthers_14 (fun _ _ _ v_ rv_ h_ => hK_ _ _ _ v_ (RA_tr hz_ rv_) h_) (fun _ v_ rv_ h_ => hp _ v_ (RA_tr (RA_rf u) (RA_tr hz_ rv_)) h_) h_
    · have hh10 := hh4.2 cc6
      exact hp _ _ (RA_rf u) hh10
theorem f_wj_X7_meaning_79 {K8 K8_ : Int32 → Int32 → Int32 → Int32 → Int32 → mS → Prop} {post post_ : Int32 → mS → Prop} {x1 : Int32} {x2 : Int32} {x3 : Int32} {x4 : Int32} {x5 : Int32} {u : mS} (hK8 : ∀ (b0_ : Int32) (b1_ : Int32) (b2_ : Int32) (b3_ : Int32) (b4_ : Int32) (b5_ : mS), RA u b5_ → K8 b0_ b1_ b2_ b3_ b4_ b5_ → K8_ b0_ b1_ b2_ b3_ b4_ b5_) (hp : ∀ (b0_ : Int32) (b1_ : mS), RA u b1_ → post b0_ b1_ → post_ b0_ b1_) (h : wj_X7_meaning_79 K8 post x1 x2 x3 x4 x5 u) : wj_X7_meaning_79 K8_ post_ x1 x2 x3 x4 x5 u := by
  intro y17 ee1
  have hh2 := h y17 ee1
  exact hK8 _ _ _ _ _ _ (RA_rf u) hh2
theorem f_wj_X7_meaning_98 {post post_ : Int32 → mS → Prop} {x3 : Int32} {u : mS} (hp : ∀ (b0_ : Int32) (b1_ : mS), RA u b1_ → post b0_ b1_ → post_ b0_ b1_) (h : wj_X7_meaning_98 post x3 u) : wj_X7_meaning_98 post_ x3 u := by
  exact hp _ _ (RA_rf u) h
theorem f_wj_X7_meaning_85 {post post_ : Int32 → mS → Prop} {x2 : Int32} {x3 : Int32} {u : mS} (hp : ∀ (b0_ : Int32) (b1_ : mS), RA u b1_ → post b0_ b1_ → post_ b0_ b1_) (h : wj_X7_meaning_85 post x2 x3 u) : wj_X7_meaning_85 post_ x2 x3 u := by
  refine ⟨fun cc1 => ?_, fun cc2 => ?_⟩
  · have hh3 := h.1 cc1
    exact f_wj_X7_meaning_98 (fun _ v_ rv_ h_ => hp _ v_ (RA_tr (RA_rf u) rv_) h_) hh3
  · have hh4 := h.2 cc2
    refine f_wp_X7_holdsAllOthers (fun r19 u20 rr6 hh5 => ?_) hh4
    have rr7 : RA u u20 := RA_tr (RA_rf u) rr6
    refine ⟨fun cc8 => ?_, fun cc9 => ?_⟩
    · have hh10 := hh5.1 cc8
      exact hp _ _ rr7 hh10
    · have hh11 := hh5.2 cc9
      exact f_wj_X7_meaning_98 (fun _ v_ rv_ h_ => hp _ v_ (RA_tr rr7 rv_) h_) hh11
theorem f_wj_X7_meaning_8 {K8 K8_ : Int32 → Int32 → Int32 → Int32 → Int32 → mS → Prop} {post post_ : Int32 → mS → Prop} {x1 : Int32} {x2 : Int32} {x3 : Int32} {x4 : Int32} {x5 : Int32} {u : mS} (hK8 : ∀ (b0_ : Int32) (b1_ : Int32) (b2_ : Int32) (b3_ : Int32) (b4_ : Int32) (b5_ : mS), RA u b5_ → K8 b0_ b1_ b2_ b3_ b4_ b5_ → K8_ b0_ b1_ b2_ b3_ b4_ b5_) (hp : ∀ (b0_ : Int32) (b1_ : mS), RA u b1_ → post b0_ b1_ → post_ b0_ b1_) (h : wj_X7_meaning_8 K8 post x1 x2 x3 x4 x5 u) : wj_X7_meaning_8 K8_ post_ x1 x2 x3 x4 x5 u := by
  intro y1 ee1
  have hh2 := h y1 ee1
  refine ⟨fun cc3 => ?_, fun cc4 => ?_⟩
  · have hh5 := hh2.1 cc3
    exact f_wj_X7_meaning_85 (fun _ v_ rv_ h_ => hp _ v_ (RA_tr (RA_rf u) rv_) h_) hh5
  · have hh6 := hh2.2 cc4
    refine ⟨fun cc7 => ?_, fun cc8 => ?_⟩
    · have hh9 := hh6.1 cc7
      exact f_wj_X7_meaning_85 (fun _ v_ rv_ h_ => hp _ v_ (RA_tr (RA_rf u) rv_) h_) hh9
    · have hh10 := hh6.2 cc8
      refine ⟨hh10.1, ?_⟩
      have hh11 := hh10.2
      intro y4 ee12
      have hh13 := hh11 y4 ee12
      refine ⟨fun cc14 => ?_, fun cc15 => ?_⟩
      · have hh16 := hh13.1 cc14
        exact f_wj_X7_meaning_79 (fun _ _ _ _ _ v_ rv_ h_ => hK8 _ _ _ _ _ v_ (RA_tr (RA_rf u) rv_) h_) (fun _ v_ rv_ h_ => hp _ v_ (RA_tr (RA_rf u) rv_) h_) hh16
      · have hh17 := hh13.2 cc15
        refine ⟨hh17.1, ?_⟩
        have hh18 := hh17.2
        intro y6 ee19
        have hh20 := hh18 y6 ee19
        intro y7 ee21
        have hh22 := hh20 y7 ee21
        intro y8 ee23
        have hh24 := hh22 y8 ee23
        refine ⟨fun cc25 => ?_, fun cc26 => ?_⟩
        · have hh27 := hh24.1 cc25
          exact f_wj_X7_meaning_79 (fun _ _ _ _ _ v_ rv_ h_ => hK8 _ _ _ _ _ v_ (RA_tr (RA_rf u) rv_) h_) (fun _ v_ rv_ h_ => hp _ v_ (RA_tr (RA_rf u) rv_) h_) hh27
        · have hh28 := hh24.2 cc26
          refine ⟨hh28.1, ?_⟩
          have hh29 := hh28.2
          intro y10 ee30
          have hh31 := hh29 y10 ee30
          refine f_wp_J6_bitCount_0f7a4 (fun r11 u12 rr33 hh32 => ?_) hh31
          have rr34 : RA u u12 := RA_tr (RA_rf u) rr33
          refine ⟨fun cc35 => ?_, fun cc36 => ?_⟩
          · have hh37 := hh32.1 cc35
            exact f_wj_X7_meaning_79 (fun _ _ _ _ _ v_ rv_ h_ => hK8 _ _ _ _ _ v_ (RA_tr rr34 rv_) h_) (fun _ v_ rv_ h_ => hp _ v_ (RA_tr rr34 rv_) h_) hh37
          · have hh38 := hh32.2 cc36
            refine ⟨hh38.1, ?_⟩
            have hh39 := hh38.2
            intro y14 ee40
            have hh41 := hh39 y14 ee40
            refine f_wp_J6_bitCount_0f7a4 (fun r15 u16 rr43 hh42 => ?_) hh41
            have rr44 : RA u u16 := RA_tr rr34 rr43
            exact f_wj_X7_meaning_79 (fun _ _ _ _ _ v_ rv_ h_ => hK8 _ _ _ _ _ v_ (RA_tr rr44 rv_) h_) (fun _ v_ rv_ h_ => hp _ v_ (RA_tr rr44 rv_) h_) hh42
theorem f_wp_X7_meaning {x1 : Int32} {x2 : Int32} {u : mS} {post post_ : Int32 → mS → Prop} (hp : ∀ (b0_ : Int32) (b1_ : mS), RA u b1_ → post b0_ b1_ → post_ b0_ b1_) (h : wp_X7_meaning x1 x2 u post) : wp_X7_meaning x1 x2 u post_ := by
  obtain ⟨nn1, hh2⟩ := h
  refine ⟨nn1, mL6_mo RA RA_rf ?_ nn1 _ _ _ _ _ _ (RA_rf _) hh2⟩
  intro K_ K2_ z_ hz_ hK_ _ _ _ _ _ h_
  exact f_wj_X7_meaning_8 (fun _ _ _ _ _ v_ rv_ h_ => hK_ _ _ _ _ _ v_ (RA_tr hz_ rv_) h_) (fun _ v_ rv_ h_ => hp _ v_ (RA_tr (RA_rf u) (RA_tr hz_ rv_)) h_) h_
theorem f_wj_X0_meaningOf_43 {post post_ : Int32 → mS → Prop} {z0 : Int32} {u : mS} (hp : ∀ (b0_ : Int32) (b1_ : mS), RA u b1_ → post b0_ b1_ → post_ b0_ b1_) (h : wj_X0_meaningOf_43 post z0 u) : wj_X0_meaningOf_43 post_ z0 u := by
  refine f_wp_X2_fail (fun u10 rr2 hh1 => ?_) h
  have rr3 : RA u u10 := RA_tr (RA_rf u) rr2
  exact hp _ _ rr3 hh1
theorem f_wp_X0_meaningOf {x1 : Int32} {u : mS} {post post_ : Int32 → mS → Prop} (hp : ∀ (b0_ : Int32) (b1_ : mS), RA u b1_ → post b0_ b1_ → post_ b0_ b1_) (h : wp_X0_meaningOf x1 u post) : wp_X0_meaningOf x1 u post_ := by
  refine f_wp_X5_wordAt (fun r1 u2 rr2 hh1 => ?_) h
  have rr3 : RA u u2 := RA_tr (RA_rf u) rr2
  refine f_wp_X5_marksAt (fun r3 u4 rr5 hh4 => ?_) hh1
  have rr6 : RA u u4 := RA_tr rr3 rr5
  refine f_wp_X7_meaning (fun r5 u6 rr8 hh7 => ?_) hh4
  have rr9 : RA u u6 := RA_tr rr6 rr8
  refine ⟨fun cc10 => ?_, fun cc11 => ?_⟩
  · have hh12 := hh7.1 cc10
    exact hp _ _ rr9 hh12
  · have hh13 := hh7.2 cc11
    refine ⟨fun cc14 => ?_, fun cc15 => ?_⟩
    · have hh16 := hh13.1 cc14
      exact f_wj_X0_meaningOf_43 (fun _ v_ rv_ h_ => hp _ v_ (RA_tr rr9 rv_) h_) hh16
    · have hh17 := hh13.2 cc15
      exact f_wj_X0_meaningOf_43 (fun _ v_ rv_ h_ => hp _ v_ (RA_tr rr9 rv_) h_) hh17
theorem f_wp_X7_kindOf {x1 : Int32} {u : mS} {post post_ : Int32 → mS → Prop} (hp : ∀ (b0_ : Int32) (b1_ : mS), RA u b1_ → post b0_ b1_ → post_ b0_ b1_) (h : wp_X7_kindOf x1 u post) : wp_X7_kindOf x1 u post_ := by
  refine ⟨fun cc1 => ?_, fun cc2 => ?_⟩
  · have hh3 := h.1 cc1
    exact hp _ _ (RA_rf u) hh3
  · have hh4 := h.2 cc2
    refine ⟨fun cc5 => ?_, fun cc6 => ?_⟩
    · have hh7 := hh4.1 cc5
      exact hp _ _ (RA_rf u) hh7
    · have hh8 := hh4.2 cc6
      refine ⟨hh8.1, ?_⟩
      have hh9 := hh8.2
      intro y3 ee10
      have hh11 := hh9 y3 ee10
      exact hp _ _ (RA_rf u) hh11
theorem f_wp_X7_valueOf {x1 : Int32} {u : mS} {post post_ : Int32 → mS → Prop} (hp : ∀ (b0_ : Int32) (b1_ : mS), RA u b1_ → post b0_ b1_ → post_ b0_ b1_) (h : wp_X7_valueOf x1 u post) : wp_X7_valueOf x1 u post_ := by
  refine ⟨fun cc1 => ?_, fun cc2 => ?_⟩
  · have hh3 := h.1 cc1
    exact hp _ _ (RA_rf u) hh3
  · have hh4 := h.2 cc2
    refine ⟨fun cc5 => ?_, fun cc6 => ?_⟩
    · have hh7 := hh4.1 cc5
      exact hp _ _ (RA_rf u) hh7
    · have hh8 := hh4.2 cc6
      refine ⟨hh8.1, ?_⟩
      have hh9 := hh8.2
      intro y3 ee10
      have hh11 := hh9 y3 ee10
      exact hp _ _ (RA_rf u) hh11
theorem f_wp_X2_putVariable {x1 : Int32} {u : mS} {post post_ : mS → Prop} (hp : ∀ (b0_ : mS), RA u b0_ → post b0_ → post_ b0_) (h : wp_X2_putVariable x1 u post) : wp_X2_putVariable x1 u post_ := by
  refine f_wp_X2_put (fun u2 rr2 hh1 => ?_) h
  have rr3 : RA u u2 := RA_tr (RA_rf u) rr2
  refine f_wp_X2_putNumber (fun u4 rr5 hh4 => ?_) hh1
  have rr6 : RA u u4 := RA_tr rr3 rr5
  exact hp _ rr6 hh4
theorem f_wj_X2_putName_27 {K3 K3_ : Int32 → Int32 → mS → Prop} {post post_ : mS → Prop} {x1 : Int32} {x2 : Int32} {u : mS} (hK3 : ∀ (b0_ : Int32) (b1_ : Int32) (b2_ : mS), RA u b2_ → K3 b0_ b1_ b2_ → K3_ b0_ b1_ b2_) (hp : ∀ (b0_ : mS), RA u b0_ → post b0_ → post_ b0_) (h : wj_X2_putName_27 K3 post x1 x2 u) : wj_X2_putName_27 K3_ post_ x1 x2 u := by
  intro y8 ee1
  have hh2 := h y8 ee1
  exact hK3 _ _ _ (RA_rf u) hh2
theorem f_wj_X2_putName_3 {K3 K3_ : Int32 → Int32 → mS → Prop} {post post_ : mS → Prop} {x1 : Int32} {x2 : Int32} {u : mS} (hK3 : ∀ (b0_ : Int32) (b1_ : Int32) (b2_ : mS), RA u b2_ → K3 b0_ b1_ b2_ → K3_ b0_ b1_ b2_) (hp : ∀ (b0_ : mS), RA u b0_ → post b0_ → post_ b0_) (h : wj_X2_putName_3 K3 post x1 x2 u) : wj_X2_putName_3 K3_ post_ x1 x2 u := by
  refine ⟨fun cc1 => ?_, fun cc2 => ?_⟩
  · have hh3 := h.1 cc1
    exact hp _ (RA_rf u) hh3
  · have hh4 := h.2 cc2
    intro y2 ee5
    have hh6 := hh4 y2 ee5
    refine ⟨fun cc7 => ?_, fun cc8 => ?_⟩
    · have hh9 := hh6.1 cc7
      exact f_wj_X2_putName_27 (fun _ _ v_ rv_ h_ => hK3 _ _ v_ (RA_tr (RA_rf u) rv_) h_) (fun v_ rv_ h_ => hp v_ (RA_tr (RA_rf u) rv_) h_) hh9
    · have hh10 := hh6.2 cc8
      intro y4 ee11
      have hh12 := hh10 y4 ee11
      intro y5 ee13
      have hh14 := hh12 y5 ee13
      refine f_wp_X2_put (fun u7 rr16 hh15 => ?_) hh14
      have rr17 : RA u u7 := RA_tr (RA_rf u) rr16
      exact f_wj_X2_putName_27 (fun _ _ v_ rv_ h_ => hK3 _ _ v_ (RA_tr rr17 rv_) h_) (fun v_ rv_ h_ => hp v_ (RA_tr rr17 rv_) h_) hh15
theorem f_wp_X2_putName {x1 : Int32} {u : mS} {post post_ : mS → Prop} (hp : ∀ (b0_ : mS), RA u b0_ → post b0_ → post_ b0_) (h : wp_X2_putName x1 u post) : wp_X2_putName x1 u post_ := by
  obtain ⟨nn1, hh2⟩ := h
  refine ⟨nn1, mL3_mo RA RA_rf ?_ nn1 _ _ _ (RA_rf _) hh2⟩
  intro K_ K2_ z_ hz_ hK_ _ _ h_
  exact f_wj_X2_putName_3 (fun _ _ v_ rv_ h_ => hK_ _ _ v_ (RA_tr hz_ rv_) h_) (fun v_ rv_ h_ => hp v_ (RA_tr (RA_rf u) (RA_tr hz_ rv_)) h_) h_
theorem f_wp_X0_expandName {x1 : Int32} {u : mS} {post post_ : mS → Prop} (hp : ∀ (b0_ : mS), RA u b0_ → post b0_ → post_ b0_) (h : wp_X0_expandName x1 u post) : wp_X0_expandName x1 u post_ := by
  refine f_wp_X0_meaningOf (fun r1 u2 rr2 hh1 => ?_) h
  have rr3 : RA u u2 := RA_tr (RA_rf u) rr2
  refine ⟨fun cc4 => ?_, fun cc5 => ?_⟩
  · have hh6 := hh1.1 cc4
    refine f_wp_X7_kindOf (fun r4 u5 rr8 hh7 => ?_) hh6
    have rr9 : RA u u5 := RA_tr rr3 rr8
    refine ⟨fun cc10 => ?_, fun cc11 => ?_⟩
    · have hh12 := hh7.1 cc10
      refine ⟨fun cc13 => ?_, fun cc14 => ?_⟩
      · have hh15 := hh12.1 cc13
        refine f_wp_X2_fail (fun u9 rr17 hh16 => ?_) hh15
        have rr18 : RA u u9 := RA_tr rr9 rr17
        exact hp _ rr18 hh16
      · have hh19 := hh12.2 cc14
        refine f_wp_X7_valueOf (fun r10 u11 rr21 hh20 => ?_) hh19
        have rr22 : RA u u11 := RA_tr rr9 rr21
        refine f_wp_X2_putVariable (fun u13 rr24 hh23 => ?_) hh20
        have rr25 : RA u u13 := RA_tr rr22 rr24
        exact hp _ rr25 hh23
    · have hh26 := hh7.2 cc11
      refine f_wp_X5_wordAt (fun r14 u15 rr28 hh27 => ?_) hh26
      have rr29 : RA u u15 := RA_tr rr9 rr28
      refine f_wp_X2_putName (fun u17 rr31 hh30 => ?_) hh27
      have rr32 : RA u u17 := RA_tr rr29 rr31
      exact hp _ rr32 hh30
  · have hh33 := hh1.2 cc5
    exact hp _ rr3 hh33
theorem f_wj_X5_after_40 {post post_ : Int32 → mS → Prop} {x1 : Int32} {u : mS} (hp : ∀ (b0_ : Int32) (b1_ : mS), RA u b1_ → post b0_ b1_ → post_ b0_ b1_) (h : wj_X5_after_40 post x1 u) : wj_X5_after_40 post_ x1 u := by
  intro y9 ee1
  have hh2 := h y9 ee1
  exact hp _ _ (RA_rf u) hh2
theorem f_wp_X5_after {x1 : Int32} {u : mS} {post post_ : Int32 → mS → Prop} (hp : ∀ (b0_ : Int32) (b1_ : mS), RA u b1_ → post b0_ b1_ → post_ b0_ b1_) (h : wp_X5_after x1 u post) : wp_X5_after x1 u post_ := by
  refine ⟨fun cc1 => ?_, fun cc2 => ?_⟩
  · have hh3 := h.1 cc1
    exact f_wj_X5_after_40 (fun _ v_ rv_ h_ => hp _ v_ (RA_tr (RA_rf u) rv_) h_) hh3
  · have hh4 := h.2 cc2
    intro y2 ee5
    have hh6 := hh4 y2 ee5
    refine ⟨fun cc7 => ?_, fun cc8 => ?_⟩
    · have hh9 := hh6.1 cc7
      exact f_wj_X5_after_40 (fun _ v_ rv_ h_ => hp _ v_ (RA_tr (RA_rf u) rv_) h_) hh9
    · have hh10 := hh6.2 cc8
      refine ⟨fun cc11 => ?_, fun cc12 => ?_⟩
      · have hh13 := hh10.1 cc11
        exact f_wj_X5_after_40 (fun _ v_ rv_ h_ => hp _ v_ (RA_tr (RA_rf u) rv_) h_) hh13
      · have hh14 := hh10.2 cc12
        refine ⟨hh14.1, ?_⟩
        have hh15 := hh14.2
        intro y5 ee16
        have hh17 := hh15 y5 ee16
        refine ⟨fun cc18 => ?_, fun cc19 => ?_⟩
        · have hh20 := hh17.1 cc18
          exact f_wj_X5_after_40 (fun _ v_ rv_ h_ => hp _ v_ (RA_tr (RA_rf u) rv_) h_) hh20
        · have hh21 := hh17.2 cc19
          refine ⟨hh21.1, ?_⟩
          have hh22 := hh21.2
          intro y7 ee23
          have hh24 := hh22 y7 ee23
          intro y8 ee25
          have hh26 := hh24 y8 ee25
          exact hp _ _ (RA_rf u) hh26
theorem f_wj_X5_hasDots_81 {K14 K14_ : Int32 → Int32 → mS → Prop} {post post_ : Int32 → mS → Prop} {x3 : Int32} {z0 : Int32} {z1 : Int32} {u : mS} (hK14 : ∀ (b0_ : Int32) (b1_ : Int32) (b2_ : mS), RA u b2_ → K14 b0_ b1_ b2_ → K14_ b0_ b1_ b2_) (hp : ∀ (b0_ : Int32) (b1_ : mS), RA u b1_ → post b0_ b1_ → post_ b0_ b1_) (h : wj_X5_hasDots_81 K14 post x3 z0 z1 u) : wj_X5_hasDots_81 K14_ post_ x3 z0 z1 u := by
  intro y14 ee1
  have hh2 := h y14 ee1
  intro y15 ee3
  have hh4 := hh2 y15 ee3
  exact hK14 _ _ _ (RA_rf u) hh4
theorem f_wj_X5_hasDots_50 {K14 K14_ : Int32 → Int32 → mS → Prop} {post post_ : Int32 → mS → Prop} {x2 : Int32} {x3 : Int32} {u : mS} (hK14 : ∀ (b0_ : Int32) (b1_ : Int32) (b2_ : mS), RA u b2_ → K14 b0_ b1_ b2_ → K14_ b0_ b1_ b2_) (hp : ∀ (b0_ : Int32) (b1_ : mS), RA u b1_ → post b0_ b1_ → post_ b0_ b1_) (h : wj_X5_hasDots_50 K14 post x2 x3 u) : wj_X5_hasDots_50 K14_ post_ x2 x3 u := by
  refine ⟨h.1, ?_⟩
  have hh1 := h.2
  intro y10 ee2
  have hh3 := hh1 y10 ee2
  refine ⟨fun cc4 => ?_, fun cc5 => ?_⟩
  · have hh6 := hh3.1 cc4
    refine ⟨hh6.1, ?_⟩
    have hh7 := hh6.2
    intro y12 ee8
    have hh9 := hh7 y12 ee8
    refine ⟨fun cc10 => ?_, fun cc11 => ?_⟩
    · have hh12 := hh9.1 cc10
      exact f_wj_X5_hasDots_81 (fun _ _ v_ rv_ h_ => hK14 _ _ v_ (RA_tr (RA_rf u) rv_) h_) (fun _ v_ rv_ h_ => hp _ v_ (RA_tr (RA_rf u) rv_) h_) hh12
    · have hh13 := hh9.2 cc11
      exact f_wj_X5_hasDots_81 (fun _ _ v_ rv_ h_ => hK14 _ _ v_ (RA_tr (RA_rf u) rv_) h_) (fun _ v_ rv_ h_ => hp _ v_ (RA_tr (RA_rf u) rv_) h_) hh13
  · have hh14 := hh3.2 cc5
    exact f_wj_X5_hasDots_81 (fun _ _ v_ rv_ h_ => hK14 _ _ v_ (RA_tr (RA_rf u) rv_) h_) (fun _ v_ rv_ h_ => hp _ v_ (RA_tr (RA_rf u) rv_) h_) hh14
theorem f_wj_X5_hasDots_14 {K14 K14_ : Int32 → Int32 → mS → Prop} {post post_ : Int32 → mS → Prop} {x2 : Int32} {x3 : Int32} {u : mS} (hK14 : ∀ (b0_ : Int32) (b1_ : Int32) (b2_ : mS), RA u b2_ → K14 b0_ b1_ b2_ → K14_ b0_ b1_ b2_) (hp : ∀ (b0_ : Int32) (b1_ : mS), RA u b1_ → post b0_ b1_ → post_ b0_ b1_) (h : wj_X5_hasDots_14 K14 post x2 x3 u) : wj_X5_hasDots_14 K14_ post_ x2 x3 u := by
  intro y3 ee1
  have hh2 := h y3 ee1
  refine ⟨fun cc3 => ?_, fun cc4 => ?_⟩
  · have hh5 := hh2.1 cc3
    exact hp _ _ (RA_rf u) hh5
  · have hh6 := hh2.2 cc4
    refine ⟨fun cc7 => ?_, fun cc8 => ?_⟩
    · have hh9 := hh6.1 cc7
      exact hp _ _ (RA_rf u) hh9
    · have hh10 := hh6.2 cc8
      refine ⟨fun cc11 => ?_, fun cc12 => ?_⟩
      · have hh13 := hh10.1 cc11
        exact hp _ _ (RA_rf u) hh13
      · have hh14 := hh10.2 cc12
        refine ⟨hh14.1, ?_⟩
        have hh15 := hh14.2
        intro y7 ee16
        have hh17 := hh15 y7 ee16
        refine ⟨fun cc18 => ?_, fun cc19 => ?_⟩
        · have hh20 := hh17.1 cc18
          exact f_wj_X5_hasDots_50 (fun _ _ v_ rv_ h_ => hK14 _ _ v_ (RA_tr (RA_rf u) rv_) h_) (fun _ v_ rv_ h_ => hp _ v_ (RA_tr (RA_rf u) rv_) h_) hh20
        · have hh21 := hh17.2 cc19
          refine ⟨fun cc22 => ?_, fun cc23 => ?_⟩
          · have hh24 := hh21.1 cc22
            exact f_wj_X5_hasDots_50 (fun _ _ v_ rv_ h_ => hK14 _ _ v_ (RA_tr (RA_rf u) rv_) h_) (fun _ v_ rv_ h_ => hp _ v_ (RA_tr (RA_rf u) rv_) h_) hh24
          · have hh25 := hh21.2 cc23
            exact hp _ _ (RA_rf u) hh25
theorem f_wj_X5_hasDots_13 {post post_ : Int32 → mS → Prop} {x2 : Int32} {z0 : Int32} {u : mS} (hp : ∀ (b0_ : Int32) (b1_ : mS), RA u b1_ → post b0_ b1_ → post_ b0_ b1_) (h : wj_X5_hasDots_13 post x2 z0 u) : wj_X5_hasDots_13 post_ x2 z0 u := by
  obtain ⟨nn1, hh2⟩ := h
  refine ⟨nn1, mL3_mo RA RA_rf ?_ nn1 _ _ _ (RA_rf _) hh2⟩
  intro K_ K2_ z_ hz_ hK_ _ _ h_
  exact f_wj_X5_hasDots_14 (fun _ _ v_ rv_ h_ => hK_ _ _ v_ (RA_tr hz_ rv_) h_) (fun _ v_ rv_ h_ => hp _ v_ (RA_tr (RA_rf u) (RA_tr hz_ rv_)) h_) h_
theorem f_wp_X5_hasDots {x1 : Int32} {u : mS} {post post_ : Int32 → mS → Prop} (hp : ∀ (b0_ : Int32) (b1_ : mS), RA u b1_ → post b0_ b1_ → post_ b0_ b1_) (h : wp_X5_hasDots x1 u post) : wp_X5_hasDots x1 u post_ := by
  refine ⟨fun cc1 => ?_, fun cc2 => ?_⟩
  · have hh3 := h.1 cc1
    intro y2 ee4
    have hh5 := hh3 y2 ee4
    exact f_wj_X5_hasDots_13 (fun _ v_ rv_ h_ => hp _ v_ (RA_tr (RA_rf u) rv_) h_) hh5
  · have hh6 := h.2 cc2
    exact f_wj_X5_hasDots_13 (fun _ v_ rv_ h_ => hp _ v_ (RA_tr (RA_rf u) rv_) h_) hh6
theorem f_wj_X5_itemsFrom_85 {K15 K15_ : Int32 → Int32 → Int32 → mS → Prop} {post post_ : Int32 → mS → Prop} {x2 : Int32} {x3 : Int32} {x4 : Int32} {u : mS} (hK15 : ∀ (b0_ : Int32) (b1_ : Int32) (b2_ : Int32) (b3_ : mS), RA u b3_ → K15 b0_ b1_ b2_ b3_ → K15_ b0_ b1_ b2_ b3_) (hp : ∀ (b0_ : Int32) (b1_ : mS), RA u b1_ → post b0_ b1_ → post_ b0_ b1_) (h : wj_X5_itemsFrom_85 K15 post x2 x3 x4 u) : wj_X5_itemsFrom_85 K15_ post_ x2 x3 x4 u := by
  intro y10 ee1
  have hh2 := h y10 ee1
  exact hK15 _ _ _ _ (RA_rf u) hh2
theorem f_wj_X5_itemsFrom_83 {K15 K15_ : Int32 → Int32 → Int32 → mS → Prop} {post post_ : Int32 → mS → Prop} {x2 : Int32} {x4 : Int32} {z0 : Int32} {z1 : Int32} {u : mS} (hK15 : ∀ (b0_ : Int32) (b1_ : Int32) (b2_ : Int32) (b3_ : mS), RA u b3_ → K15 b0_ b1_ b2_ b3_ → K15_ b0_ b1_ b2_ b3_) (hp : ∀ (b0_ : Int32) (b1_ : mS), RA u b1_ → post b0_ b1_ → post_ b0_ b1_) (h : wj_X5_itemsFrom_83 K15 post x2 x4 z0 z1 u) : wj_X5_itemsFrom_83 K15_ post_ x2 x4 z0 z1 u := by
  intro y14 ee1
  have hh2 := h y14 ee1
  exact f_wj_X5_itemsFrom_85 (fun _ _ _ v_ rv_ h_ => hK15 _ _ _ v_ (RA_tr (RA_rf u) rv_) h_) (fun _ v_ rv_ h_ => hp _ v_ (RA_tr (RA_rf u) rv_) h_) hh2
theorem f_wj_X5_itemsFrom_64 {K15 K15_ : Int32 → Int32 → Int32 → mS → Prop} {post post_ : Int32 → mS → Prop} {x3 : Int32} {x4 : Int32} {z0 : Int32} {z1 : Int32} {u : mS} (hK15 : ∀ (b0_ : Int32) (b1_ : Int32) (b2_ : Int32) (b3_ : mS), RA u b3_ → K15 b0_ b1_ b2_ b3_ → K15_ b0_ b1_ b2_ b3_) (hp : ∀ (b0_ : Int32) (b1_ : mS), RA u b1_ → post b0_ b1_ → post_ b0_ b1_) (h : wj_X5_itemsFrom_64 K15 post x3 x4 z0 z1 u) : wj_X5_itemsFrom_64 K15_ post_ x3 x4 z0 z1 u := by
  intro y11 ee1
  have hh2 := h y11 ee1
  refine ⟨hh2.1, ?_⟩
  have hh3 := hh2.2
  intro y12 ee4
  have hh5 := hh3 y12 ee4
  refine ⟨fun cc6 => ?_, fun cc7 => ?_⟩
  · have hh8 := hh5.1 cc6
    exact f_wj_X5_itemsFrom_83 (fun _ _ _ v_ rv_ h_ => hK15 _ _ _ v_ (RA_tr (RA_rf u) rv_) h_) (fun _ v_ rv_ h_ => hp _ v_ (RA_tr (RA_rf u) rv_) h_) hh8
  · have hh9 := hh5.2 cc7
    exact f_wj_X5_itemsFrom_83 (fun _ _ _ v_ rv_ h_ => hK15 _ _ _ v_ (RA_tr (RA_rf u) rv_) h_) (fun _ v_ rv_ h_ => hp _ v_ (RA_tr (RA_rf u) rv_) h_) hh9
theorem f_wj_X5_itemsFrom_91 {post post_ : Int32 → mS → Prop} {x2 : Int32} {u : mS} (hp : ∀ (b0_ : Int32) (b1_ : mS), RA u b1_ → post b0_ b1_ → post_ b0_ b1_) (h : wj_X5_itemsFrom_91 post x2 u) : wj_X5_itemsFrom_91 post_ x2 u := by
  exact hp _ _ (RA_rf u) h
theorem f_wj_X5_itemsFrom_15 {K15 K15_ : Int32 → Int32 → Int32 → mS → Prop} {post post_ : Int32 → mS → Prop} {x2 : Int32} {x3 : Int32} {x4 : Int32} {u : mS} (hK15 : ∀ (b0_ : Int32) (b1_ : Int32) (b2_ : Int32) (b3_ : mS), RA u b3_ → K15 b0_ b1_ b2_ b3_ → K15_ b0_ b1_ b2_ b3_) (hp : ∀ (b0_ : Int32) (b1_ : mS), RA u b1_ → post b0_ b1_ → post_ b0_ b1_) (h : wj_X5_itemsFrom_15 K15 post x2 x3 x4 u) : wj_X5_itemsFrom_15 K15_ post_ x2 x3 x4 u := by
  intro y2 ee1
  have hh2 := h y2 ee1
  refine ⟨fun cc3 => ?_, fun cc4 => ?_⟩
  · have hh5 := hh2.1 cc3
    exact f_wj_X5_itemsFrom_91 (fun _ v_ rv_ h_ => hp _ v_ (RA_tr (RA_rf u) rv_) h_) hh5
  · have hh6 := hh2.2 cc4
    refine ⟨fun cc7 => ?_, fun cc8 => ?_⟩
    · have hh9 := hh6.1 cc7
      exact f_wj_X5_itemsFrom_91 (fun _ v_ rv_ h_ => hp _ v_ (RA_tr (RA_rf u) rv_) h_) hh9
    · have hh10 := hh6.2 cc8
      refine ⟨fun cc11 => ?_, fun cc12 => ?_⟩
      · have hh13 := hh10.1 cc11
        exact f_wj_X5_itemsFrom_91 (fun _ v_ rv_ h_ => hp _ v_ (RA_tr (RA_rf u) rv_) h_) hh13
      · have hh14 := hh10.2 cc12
        refine ⟨hh14.1, ?_⟩
        have hh15 := hh14.2
        intro y6 ee16
        have hh17 := hh15 y6 ee16
        refine ⟨fun cc18 => ?_, fun cc19 => ?_⟩
        · have hh20 := hh17.1 cc18
          refine ⟨fun cc21 => ?_, fun cc22 => ?_⟩
          · have hh23 := hh20.1 cc21
            exact f_wj_X5_itemsFrom_64 (fun _ _ _ v_ rv_ h_ => hK15 _ _ _ v_ (RA_tr (RA_rf u) rv_) h_) (fun _ v_ rv_ h_ => hp _ v_ (RA_tr (RA_rf u) rv_) h_) hh23
          · have hh24 := hh20.2 cc22
            exact f_wj_X5_itemsFrom_64 (fun _ _ _ v_ rv_ h_ => hK15 _ _ _ v_ (RA_tr (RA_rf u) rv_) h_) (fun _ v_ rv_ h_ => hp _ v_ (RA_tr (RA_rf u) rv_) h_) hh24
        · have hh25 := hh17.2 cc19
          intro y9 ee26
          have hh27 := hh25 y9 ee26
          exact f_wj_X5_itemsFrom_85 (fun _ _ _ v_ rv_ h_ => hK15 _ _ _ v_ (RA_tr (RA_rf u) rv_) h_) (fun _ v_ rv_ h_ => hp _ v_ (RA_tr (RA_rf u) rv_) h_) hh27
theorem f_wj_X5_itemsFrom_13 {post post_ : Int32 → mS → Prop} {x2 : Int32} {x3 : Int32} {z0 : Int32} {u : mS} (hp : ∀ (b0_ : Int32) (b1_ : mS), RA u b1_ → post b0_ b1_ → post_ b0_ b1_) (h : wj_X5_itemsFrom_13 post x2 x3 z0 u) : wj_X5_itemsFrom_13 post_ x2 x3 z0 u := by
  obtain ⟨nn1, hh2⟩ := h
  refine ⟨nn1, mL4_mo RA RA_rf ?_ nn1 _ _ _ _ (RA_rf _) hh2⟩
  intro K_ K2_ z_ hz_ hK_ _ _ _ h_
  exact f_wj_X5_itemsFrom_15 (fun _ _ _ v_ rv_ h_ => hK_ _ _ _ v_ (RA_tr hz_ rv_) h_) (fun _ v_ rv_ h_ => hp _ v_ (RA_tr (RA_rf u) (RA_tr hz_ rv_)) h_) h_
theorem f_wp_X5_itemsFrom {x1 : Int32} {u : mS} {post post_ : Int32 → mS → Prop} (hp : ∀ (b0_ : Int32) (b1_ : mS), RA u b1_ → post b0_ b1_ → post_ b0_ b1_) (h : wp_X5_itemsFrom x1 u post) : wp_X5_itemsFrom x1 u post_ := by
  refine ⟨fun cc1 => ?_, fun cc2 => ?_⟩
  · have hh3 := h.1 cc1
    exact f_wj_X5_itemsFrom_13 (fun _ v_ rv_ h_ => hp _ v_ (RA_tr (RA_rf u) rv_) h_) hh3
  · have hh4 := h.2 cc2
    exact f_wj_X5_itemsFrom_13 (fun _ v_ rv_ h_ => hp _ v_ (RA_tr (RA_rf u) rv_) h_) hh4
theorem f_wj_X5_plainLength_17 {post post_ : Int32 → mS → Prop} {u : mS} (hp : ∀ (b0_ : Int32) (b1_ : mS), RA u b1_ → post b0_ b1_ → post_ b0_ b1_) (h : wj_X5_plainLength_17 post u) : wj_X5_plainLength_17 post_ u := by
  exact hp _ _ (RA_rf u) h
theorem f_wp_X5_plainLength {x1 : Int32} {u : mS} {post post_ : Int32 → mS → Prop} (hp : ∀ (b0_ : Int32) (b1_ : mS), RA u b1_ → post b0_ b1_ → post_ b0_ b1_) (h : wp_X5_plainLength x1 u post) : wp_X5_plainLength x1 u post_ := by
  refine f_wp_X5_wordAt (fun r1 u2 rr2 hh1 => ?_) h
  have rr3 : RA u u2 := RA_tr (RA_rf u) rr2
  refine ⟨fun cc4 => ?_, fun cc5 => ?_⟩
  · have hh6 := hh1.1 cc4
    exact f_wj_X5_plainLength_17 (fun _ v_ rv_ h_ => hp _ v_ (RA_tr rr3 rv_) h_) hh6
  · have hh7 := hh1.2 cc5
    refine f_wp_X5_hasDots (fun r4 u5 rr9 hh8 => ?_) hh7
    have rr10 : RA u u5 := RA_tr rr3 rr9
    refine ⟨fun cc11 => ?_, fun cc12 => ?_⟩
    · have hh13 := hh8.1 cc11
      intro y7 ee14
      have hh15 := hh13 y7 ee14
      refine f_wp_X5_itemsFrom (fun r8 u9 rr17 hh16 => ?_) hh15
      have rr18 : RA u u9 := RA_tr rr10 rr17
      exact hp _ _ rr18 hh16
    · have hh19 := hh8.2 cc12
      exact f_wj_X5_plainLength_17 (fun _ v_ rv_ h_ => hp _ v_ (RA_tr rr10 rv_) h_) hh19
theorem f_wj_X0_areNames_11 {K11 K11_ : Int32 → Int32 → Int32 → mS → Prop} {post post_ : Int32 → mS → Prop} {x1 : Int32} {x2 : Int32} {x3 : Int32} {u : mS} (hK11 : ∀ (b0_ : Int32) (b1_ : Int32) (b2_ : Int32) (b3_ : mS), RA u b3_ → K11 b0_ b1_ b2_ b3_ → K11_ b0_ b1_ b2_ b3_) (hp : ∀ (b0_ : Int32) (b1_ : mS), RA u b1_ → post b0_ b1_ → post_ b0_ b1_) (h : wj_X0_areNames_11 K11 post x1 x2 x3 u) : wj_X0_areNames_11 K11_ post_ x1 x2 x3 u := by
  refine ⟨fun cc1 => ?_, fun cc2 => ?_⟩
  · have hh3 := h.1 cc1
    refine ⟨fun cc4 => ?_, fun cc5 => ?_⟩
    · have hh6 := hh3.1 cc4
      exact hp _ _ (RA_rf u) hh6
    · have hh7 := hh3.2 cc5
      exact hp _ _ (RA_rf u) hh7
  · have hh8 := h.2 cc2
    intro y5 ee9
    have hh10 := hh8 y5 ee9
    intro y6 ee11
    have hh12 := hh10 y6 ee11
    refine f_wp_X5_wordAt (fun r7 u8 rr14 hh13 => ?_) hh12
    have rr15 : RA u u8 := RA_tr (RA_rf u) rr14
    refine f_wp_X8_isName (fun r9 u10 rr17 hh16 => ?_) hh13
    have rr18 : RA u u10 := RA_tr rr15 rr17
    refine ⟨fun cc19 => ?_, fun cc20 => ?_⟩
    · have hh21 := hh16.1 cc19
      intro y12 ee22
      have hh23 := hh21 y12 ee22
      exact hK11 _ _ _ _ rr18 hh23
    · have hh24 := hh16.2 cc20
      exact hp _ _ rr18 hh24
theorem f_wp_X0_areNames {x1 : Int32} {u : mS} {post post_ : Int32 → mS → Prop} (hp : ∀ (b0_ : Int32) (b1_ : mS), RA u b1_ → post b0_ b1_ → post_ b0_ b1_) (h : wp_X0_areNames x1 u post) : wp_X0_areNames x1 u post_ := by
  refine f_wp_X5_plainLength (fun r1 u2 rr2 hh1 => ?_) h
  have rr3 : RA u u2 := RA_tr (RA_rf u) rr2
  obtain ⟨nn4, hh5⟩ := hh1
  refine ⟨nn4, mL4_mo RA RA_rf ?_ nn4 _ _ _ _ (RA_rf _) hh5⟩
  intro K_ K2_ z_ hz_ hK_ _ _ _ h_
  exact f_wj_X0_areNames_11 (fun _ _ _ v_ rv_ h_ => hK_ _ _ _ v_ (RA_tr hz_ rv_) h_) (fun _ v_ rv_ h_ => hp _ v_ (RA_tr rr3 (RA_tr hz_ rv_)) h_) h_
theorem f_wp_X0_newScope {u : mS} {post post_ : Int32 → mS → Prop} (hp : ∀ (b0_ : Int32) (b1_ : mS), RA u b1_ → post b0_ b1_ → post_ b0_ b1_) (h : wp_X0_newScope u post) : wp_X0_newScope u post_ := by
  intro y1 ee1
  have hh2 := h y1 ee1
  refine ⟨fun cc3 => ?_, fun cc4 => ?_⟩
  · have hh5 := hh2.1 cc3
    intro y3 ee6
    have hh7 := hh5 y3 ee6
    intro y4 ee8
    have hh9 := hh7 y4 ee8
    intro u5 ee10
    have hh11 := hh9 u5 ee10
    have rr12 : RA u u5 := by rw [ee10]; exact RA_set (RA_rf u) (by decide)
    intro y6 ee13
    have hh14 := hh11 y6 ee13
    intro y7 ee15
    have hh16 := hh14 y7 ee15
    exact hp _ _ rr12 hh16
  · have hh17 := hh2.2 cc4
    refine f_wp_X2_fail (fun u9 rr19 hh18 => ?_) hh17
    have rr20 : RA u u9 := RA_tr (RA_rf u) rr19
    exact hp _ _ rr20 hh18
theorem f_wj_X5_turnScope_66 {K17 K17_ : Int32 → Int32 → Int32 → mS → Prop} {post post_ : mS → Prop} {x2 : Int32} {x3 : Int32} {x4 : Int32} {u : mS} (hK17 : ∀ (b0_ : Int32) (b1_ : Int32) (b2_ : Int32) (b3_ : mS), RA u b3_ → K17 b0_ b1_ b2_ b3_ → K17_ b0_ b1_ b2_ b3_) (hp : ∀ (b0_ : mS), RA u b0_ → post b0_ → post_ b0_) (h : wj_X5_turnScope_66 K17 post x2 x3 x4 u) : wj_X5_turnScope_66 K17_ post_ x2 x3 x4 u := by
  intro y16 ee1
  have hh2 := h y16 ee1
  exact hK17 _ _ _ _ (RA_rf u) hh2
theorem f_wj_X5_turnScope_17 {K17 K17_ : Int32 → Int32 → Int32 → mS → Prop} {post post_ : mS → Prop} {x2 : Int32} {x3 : Int32} {x4 : Int32} {u : mS} (hK17 : ∀ (b0_ : Int32) (b1_ : Int32) (b2_ : Int32) (b3_ : mS), RA u b3_ → K17 b0_ b1_ b2_ b3_ → K17_ b0_ b1_ b2_ b3_) (hp : ∀ (b0_ : mS), RA u b0_ → post b0_ → post_ b0_) (h : wj_X5_turnScope_17 K17 post x2 x3 x4 u) : wj_X5_turnScope_17 K17_ post_ x2 x3 x4 u := by
  refine ⟨fun cc1 => ?_, fun cc2 => ?_⟩
  · have hh3 := h.1 cc1
    exact hp _ (RA_rf u) hh3
  · have hh4 := h.2 cc2
    intro y5 ee5
    have hh6 := hh4 y5 ee5
    refine ⟨fun cc7 => ?_, fun cc8 => ?_⟩
    · have hh9 := hh6.1 cc7
      exact hp _ (RA_rf u) hh9
    · have hh10 := hh6.2 cc8
      refine ⟨fun cc11 => ?_, fun cc12 => ?_⟩
      · have hh13 := hh10.1 cc11
        exact hp _ (RA_rf u) hh13
      · have hh14 := hh10.2 cc12
        refine ⟨hh14.1, ?_⟩
        have hh15 := hh14.2
        intro y8 ee16
        have hh17 := hh15 y8 ee16
        refine f_wp_X8_isName (fun r9 u10 rr19 hh18 => ?_) hh17
        have rr20 : RA u u10 := RA_tr (RA_rf u) rr19
        refine ⟨fun cc21 => ?_, fun cc22 => ?_⟩
        · have hh23 := hh18.1 cc21
          exact f_wj_X5_turnScope_66 (fun _ _ _ v_ rv_ h_ => hK17 _ _ _ v_ (RA_tr rr20 rv_) h_) (fun v_ rv_ h_ => hp v_ (RA_tr rr20 rv_) h_) hh23
        · have hh24 := hh18.2 cc22
          refine ⟨hh24.1, ?_⟩
          have hh25 := hh24.2
          intro y12 ee26
          have hh27 := hh25 y12 ee26
          intro y13 ee28
          have hh29 := hh27 y13 ee28
          intro y14 ee30
          have hh31 := hh29 y14 ee30
          refine ⟨hh31.1, ?_⟩
          have hh32 := hh31.2
          intro u15 ee33
          have hh34 := hh32 u15 ee33
          have rr35 : RA u u15 := by rw [ee33]; exact RA_put rr20 (by decide)
          exact f_wj_X5_turnScope_66 (fun _ _ _ v_ rv_ h_ => hK17 _ _ _ v_ (RA_tr rr35 rv_) h_) (fun v_ rv_ h_ => hp v_ (RA_tr rr35 rv_) h_) hh34
theorem f_wj_X5_turnScope_15 {post post_ : mS → Prop} {x2 : Int32} {x3 : Int32} {z0 : Int32} {u : mS} (hp : ∀ (b0_ : mS), RA u b0_ → post b0_ → post_ b0_) (h : wj_X5_turnScope_15 post x2 x3 z0 u) : wj_X5_turnScope_15 post_ x2 x3 z0 u := by
  obtain ⟨nn1, hh2⟩ := h
  refine ⟨nn1, mL4_mo RA RA_rf ?_ nn1 _ _ _ _ (RA_rf _) hh2⟩
  intro K_ K2_ z_ hz_ hK_ _ _ _ h_
  exact f_wj_X5_turnScope_17 (fun _ _ _ v_ rv_ h_ => hK_ _ _ _ v_ (RA_tr hz_ rv_) h_) (fun v_ rv_ h_ => hp v_ (RA_tr (RA_rf u) (RA_tr hz_ rv_)) h_) h_
theorem f_wp_X5_turnScope {x1 : Int32} {x2 : Int32} {u : mS} {post post_ : mS → Prop} (hp : ∀ (b0_ : mS), RA u b0_ → post b0_ → post_ b0_) (h : wp_X5_turnScope x1 x2 u post) : wp_X5_turnScope x1 x2 u post_ := by
  refine f_wp_X5_after (fun r1 u2 rr2 hh1 => ?_) h
  have rr3 : RA u u2 := RA_tr (RA_rf u) rr2
  refine ⟨fun cc4 => ?_, fun cc5 => ?_⟩
  · have hh6 := hh1.1 cc4
    exact f_wj_X5_turnScope_15 (fun v_ rv_ h_ => hp v_ (RA_tr rr3 rv_) h_) hh6
  · have hh7 := hh1.2 cc5
    exact f_wj_X5_turnScope_15 (fun v_ rv_ h_ => hp v_ (RA_tr rr3 rv_) h_) hh7
theorem f_wj_X5_findName_102 {K44 K44_ : Int32 → Int32 → Int32 → mS → Prop} {post post_ : Int32 → mS → Prop} {x2 : Int32} {x3 : Int32} {x4 : Int32} {u : mS} (hK44 : ∀ (b0_ : Int32) (b1_ : Int32) (b2_ : Int32) (b3_ : mS), RA u b3_ → K44 b0_ b1_ b2_ b3_ → K44_ b0_ b1_ b2_ b3_) (hp : ∀ (b0_ : Int32) (b1_ : mS), RA u b1_ → post b0_ b1_ → post_ b0_ b1_) (h : wj_X5_findName_102 K44 post x2 x3 x4 u) : wj_X5_findName_102 K44_ post_ x2 x3 x4 u := by
  intro y18 ee1
  have hh2 := h y18 ee1
  exact hK44 _ _ _ _ (RA_rf u) hh2
theorem f_wj_X5_findName_44 {K44 K44_ : Int32 → Int32 → Int32 → mS → Prop} {post post_ : Int32 → mS → Prop} {x2 : Int32} {x3 : Int32} {x4 : Int32} {u : mS} (hK44 : ∀ (b0_ : Int32) (b1_ : Int32) (b2_ : Int32) (b3_ : mS), RA u b3_ → K44 b0_ b1_ b2_ b3_ → K44_ b0_ b1_ b2_ b3_) (hp : ∀ (b0_ : Int32) (b1_ : mS), RA u b1_ → post b0_ b1_ → post_ b0_ b1_) (h : wj_X5_findName_44 K44 post x2 x3 x4 u) : wj_X5_findName_44 K44_ post_ x2 x3 x4 u := by
  refine ⟨fun cc1 => ?_, fun cc2 => ?_⟩
  · have hh3 := h.1 cc1
    exact hp _ _ (RA_rf u) hh3
  · have hh4 := h.2 cc2
    intro y9 ee5
    have hh6 := hh4 y9 ee5
    refine ⟨fun cc7 => ?_, fun cc8 => ?_⟩
    · have hh9 := hh6.1 cc7
      exact hp _ _ (RA_rf u) hh9
    · have hh10 := hh6.2 cc8
      refine ⟨fun cc11 => ?_, fun cc12 => ?_⟩
      · have hh13 := hh10.1 cc11
        exact hp _ _ (RA_rf u) hh13
      · have hh14 := hh10.2 cc12
        refine ⟨hh14.1, ?_⟩
        have hh15 := hh14.2
        intro y12 ee16
        have hh17 := hh15 y12 ee16
        refine ⟨hh17.1, ?_⟩
        have hh18 := hh17.2
        intro y13 ee19
        have hh20 := hh18 y13 ee19
        refine ⟨fun cc21 => ?_, fun cc22 => ?_⟩
        · have hh23 := hh20.1 cc21
          exact f_wj_X5_findName_102 (fun _ _ _ v_ rv_ h_ => hK44 _ _ _ v_ (RA_tr (RA_rf u) rv_) h_) (fun _ v_ rv_ h_ => hp _ v_ (RA_tr (RA_rf u) rv_) h_) hh23
        · have hh24 := hh20.2 cc22
          refine ⟨hh24.1, ?_⟩
          have hh25 := hh24.2
          intro y15 ee26
          have hh27 := hh25 y15 ee26
          refine ⟨hh27.1, ?_⟩
          have hh28 := hh27.2
          intro y16 ee29
          have hh30 := hh28 y16 ee29
          refine ⟨fun cc31 => ?_, fun cc32 => ?_⟩
          · have hh33 := hh30.1 cc31
            exact f_wj_X5_findName_102 (fun _ _ _ v_ rv_ h_ => hK44 _ _ _ v_ (RA_tr (RA_rf u) rv_) h_) (fun _ v_ rv_ h_ => hp _ v_ (RA_tr (RA_rf u) rv_) h_) hh33
          · have hh34 := hh30.2 cc32
            exact hp _ _ (RA_rf u) hh34
theorem f_wj_X5_findName_42 {post post_ : Int32 → mS → Prop} {x2 : Int32} {x3 : Int32} {z0 : Int32} {u : mS} (hp : ∀ (b0_ : Int32) (b1_ : mS), RA u b1_ → post b0_ b1_ → post_ b0_ b1_) (h : wj_X5_findName_42 post x2 x3 z0 u) : wj_X5_findName_42 post_ x2 x3 z0 u := by
  obtain ⟨nn1, hh2⟩ := h
  refine ⟨nn1, mL4_mo RA RA_rf ?_ nn1 _ _ _ _ (RA_rf _) hh2⟩
  intro K_ K2_ z_ hz_ hK_ _ _ _ h_
  exact f_wj_X5_findName_44 (fun _ _ _ v_ rv_ h_ => hK_ _ _ _ v_ (RA_tr hz_ rv_) h_) (fun _ v_ rv_ h_ => hp _ v_ (RA_tr (RA_rf u) (RA_tr hz_ rv_)) h_) h_
theorem f_wp_X5_findName {x1 : Int32} {x2 : Int32} {x3 : Int32} {u : mS} {post post_ : Int32 → mS → Prop} (hp : ∀ (b0_ : Int32) (b1_ : mS), RA u b1_ → post b0_ b1_ → post_ b0_ b1_) (h : wp_X5_findName x1 x2 x3 u post) : wp_X5_findName x1 x2 x3 u post_ := by
  refine ⟨fun cc1 => ?_, fun cc2 => ?_⟩
  · have hh3 := h.1 cc1
    exact hp _ _ (RA_rf u) hh3
  · have hh4 := h.2 cc2
    intro y2 ee5
    have hh6 := hh4 y2 ee5
    refine ⟨fun cc7 => ?_, fun cc8 => ?_⟩
    · have hh9 := hh6.1 cc7
      exact hp _ _ (RA_rf u) hh9
    · have hh10 := hh6.2 cc8
      refine ⟨fun cc11 => ?_, fun cc12 => ?_⟩
      · have hh13 := hh10.1 cc11
        exact hp _ _ (RA_rf u) hh13
      · have hh14 := hh10.2 cc12
        refine ⟨hh14.1, ?_⟩
        have hh15 := hh14.2
        intro y5 ee16
        have hh17 := hh15 y5 ee16
        refine ⟨fun cc18 => ?_, fun cc19 => ?_⟩
        · have hh20 := hh17.1 cc18
          refine ⟨fun cc21 => ?_, fun cc22 => ?_⟩
          · have hh23 := hh20.1 cc21
            exact f_wj_X5_findName_42 (fun _ v_ rv_ h_ => hp _ v_ (RA_tr (RA_rf u) rv_) h_) hh23
          · have hh24 := hh20.2 cc22
            exact f_wj_X5_findName_42 (fun _ v_ rv_ h_ => hp _ v_ (RA_tr (RA_rf u) rv_) h_) hh24
        · have hh25 := hh17.2 cc19
          exact hp _ _ (RA_rf u) hh25
theorem f_wp_X7_bind {x1 x2 x3 x4 : Int32} {u : mS} {post post_ : Int32 → mS → Prop} (hp : ∀ (b0_ : Int32) (b1_ : mS), RA u b1_ → post b0_ b1_ → post_ b0_ b1_) (h : wp_X7_bind x1 x2 x3 x4 u post) : wp_X7_bind x1 x2 x3 x4 u post_ := by
  intro y1 e1
  have h := h y1 e1
  refine ⟨fun c => hp _ _ (RA_rf u) (h.1 c), fun c => ?_⟩
  have h := h.2 c
  intro y3 e3
  have h := h y3 e3
  refine ⟨fun c3 => ?_, fun c3 => hp _ _ (RA_rf u) (h.2 c3)⟩
  have h := h.1 c3
  intro y5 e5
  have h := h y5 e5
  refine ⟨h.1, ?_⟩
  have h := h.2
  intro u6 e6
  have h := h u6 e6
  intro y7 e7
  have h := h y7 e7
  refine ⟨h.1, ?_⟩
  have h := h.2
  intro u8 e8
  have h := h u8 e8
  intro y9 e9
  have h := h y9 e9
  refine ⟨h.1, ?_⟩
  have h := h.2
  intro u10 e10
  have h := h u10 e10
  intro y11 e11
  have h := h y11 e11
  refine ⟨h.1, ?_⟩
  have h := h.2
  intro u12 e12
  have h := h u12 e12
  intro y13 e13
  have h := h y13 e13
  intro y14 e14
  have h := h y14 e14
  intro u15 e15
  have h := h u15 e15
  refine hp _ _ ?_ h
  have a5 : u15.2 5 = upd (u.2 5) (u.1 4).toNatClampNeg x1 := by
    rw [e15, mSet_arr, e12, mPut_other (by decide : (5 : Nat) ≠ 8), e10, mPut_other (by decide : (5 : Nat) ≠ 7), e8, mPut_other (by decide : (5 : Nat) ≠ 6), e6, mPut_same, e5]
  have a0 : u15.2 0 = u.2 0 := by
    rw [e15, mSet_arr, e12, mPut_other (by decide : (0 : Nat) ≠ 8), e10, mPut_other (by decide : (0 : Nat) ≠ 7), e8, mPut_other (by decide : (0 : Nat) ≠ 6), e6, mPut_other (by decide : (0 : Nat) ≠ 5)]
  have s4 : u15.1 4 = u.1 4 + 1 := by
    rw [e15, mSet_same, e14, e13, e12, e10, e8, e6]
    rfl
  have s5 : u15.1 5 = u.1 5 := by
    rw [e15, mSet_other (by decide : (5 : Nat) ≠ 4), e12, e10, e8, e6]
    rfl
  refine ⟨a0, fun o g ho q => ?_⟩
  obtain ⟨a, ⟨n, b, c1, c2⟩, d⟩ := q
  rw [e3, b, show (40 : Int32) = nI 40 from rfl, nI_ltI (by omega) (by omega)] at c3
  refine ⟨s5.trans a, ⟨n + 1, ?_, by omega, by omega⟩, fun i hi => ?_⟩
  · rw [s4, b, nI_1]
  · rw [a5, b, nI_clamp (by omega), pk_un (by omega)]
    exact d i hi
theorem f_wp_X0_bind {x1 : Int32} {x2 : Int32} {x3 : Int32} {u : mS} {post post_ : Int32 → mS → Prop} (hp : ∀ (b0_ : Int32) (b1_ : mS), RA u b1_ → post b0_ b1_ → post_ b0_ b1_) (h : wp_X0_bind x1 x2 x3 u post) : wp_X0_bind x1 x2 x3 u post_ := by
  refine f_wp_X5_wordAt (fun r1 u2 rr2 hh1 => ?_) h
  have rr3 : RA u u2 := RA_tr (RA_rf u) rr2
  refine f_wp_X5_marksAt (fun r3 u4 rr5 hh4 => ?_) hh1
  have rr6 : RA u u4 := RA_tr rr3 rr5
  refine f_wp_X7_bind (fun r5 u6 rr8 hh7 => ?_) hh4
  have rr9 : RA u u6 := RA_tr rr6 rr8
  refine ⟨fun cc10 => ?_, fun cc11 => ?_⟩
  · have hh12 := hh7.1 cc10
    intro y8 ee13
    have hh14 := hh12 y8 ee13
    intro y9 ee15
    have hh16 := hh14 y9 ee15
    intro u10 ee17
    have hh18 := hh16 u10 ee17
    have rr19 : RA u u10 := by rw [ee17]; exact RA_set rr9 (by decide)
    exact hp _ _ rr19 hh18
  · have hh20 := hh7.2 cc11
    refine f_wp_X2_fail (fun u12 rr22 hh21 => ?_) hh20
    have rr23 : RA u u12 := RA_tr rr9 rr22
    exact hp _ _ rr23 hh21
theorem f_wp_X0_bindVariable {x1 : Int32} {x2 : Int32} {u : mS} {post post_ : mS → Prop} (hp : ∀ (b0_ : mS), RA u b0_ → post b0_ → post_ b0_) (h : wp_X0_bindVariable x1 x2 u post) : wp_X0_bindVariable x1 x2 u post_ := by
  refine f_wp_X5_findName (fun r1 u2 rr2 hh1 => ?_) h
  have rr3 : RA u u2 := RA_tr (RA_rf u) rr2
  refine ⟨fun cc4 => ?_, fun cc5 => ?_⟩
  · have hh6 := hh1.1 cc4
    intro y4 ee7
    have hh8 := hh6 y4 ee7
    refine f_wp_X0_bind (fun r5 u6 rr10 hh9 => ?_) hh8
    have rr11 : RA u u6 := RA_tr rr3 rr10
    refine ⟨fun cc12 => ?_, fun cc13 => ?_⟩
    · have hh14 := hh9.1 cc12
      exact hp _ rr11 hh14
    · have hh15 := hh9.2 cc13
      intro y8 ee16
      have hh17 := hh15 y8 ee16
      intro y9 ee18
      have hh19 := hh17 y9 ee18
      intro u10 ee20
      have hh21 := hh19 u10 ee20
      have rr22 : RA u u10 := by rw [ee20]; exact RA_set rr11 (by decide)
      exact hp _ rr22 hh21
  · have hh23 := hh1.2 cc5
    refine f_wp_X2_fail (fun u12 rr25 hh24 => ?_) hh23
    have rr26 : RA u u12 := RA_tr rr3 rr25
    exact hp _ rr26 hh24
theorem f_wj_X0_putVariables_56 {K38 K38_ : Int32 → Int32 → Int32 → mS → Prop} {post post_ : mS → Prop} {x1 : Int32} {x2 : Int32} {x3 : Int32} {u : mS} (hK38 : ∀ (b0_ : Int32) (b1_ : Int32) (b2_ : Int32) (b3_ : mS), RA u b3_ → K38 b0_ b1_ b2_ b3_ → K38_ b0_ b1_ b2_ b3_) (hp : ∀ (b0_ : mS), RA u b0_ → post b0_ → post_ b0_) (h : wj_X0_putVariables_56 K38 post x1 x2 x3 u) : wj_X0_putVariables_56 K38_ post_ x1 x2 x3 u := by
  intro y17 ee1
  have hh2 := h y17 ee1
  refine f_wp_X2_putVariable (fun u19 rr4 hh3 => ?_) hh2
  have rr5 : RA u u19 := RA_tr (RA_rf u) rr4
  intro y20 ee6
  have hh7 := hh3 y20 ee6
  exact hK38 _ _ _ _ rr5 hh7
theorem f_wj_X0_putVariables_38 {K38 K38_ : Int32 → Int32 → Int32 → mS → Prop} {post post_ : mS → Prop} {x1 : Int32} {x2 : Int32} {x3 : Int32} {u : mS} (hK38 : ∀ (b0_ : Int32) (b1_ : Int32) (b2_ : Int32) (b3_ : mS), RA u b3_ → K38 b0_ b1_ b2_ b3_ → K38_ b0_ b1_ b2_ b3_) (hp : ∀ (b0_ : mS), RA u b0_ → post b0_ → post_ b0_) (h : wj_X0_putVariables_38 K38 post x1 x2 x3 u) : wj_X0_putVariables_38 K38_ post_ x1 x2 x3 u := by
  refine ⟨fun cc1 => ?_, fun cc2 => ?_⟩
  · have hh3 := h.1 cc1
    refine f_wp_X2_put (fun u11 rr5 hh4 => ?_) hh3
    have rr6 : RA u u11 := RA_tr (RA_rf u) rr5
    refine f_wp_X2_put (fun u13 rr8 hh7 => ?_) hh4
    have rr9 : RA u u13 := RA_tr rr6 rr8
    exact hp _ rr9 hh7
  · have hh10 := h.2 cc2
    refine ⟨fun cc11 => ?_, fun cc12 => ?_⟩
    · have hh13 := hh10.1 cc11
      exact f_wj_X0_putVariables_56 (fun _ _ _ v_ rv_ h_ => hK38 _ _ _ v_ (RA_tr (RA_rf u) rv_) h_) (fun v_ rv_ h_ => hp v_ (RA_tr (RA_rf u) rv_) h_) hh13
    · have hh14 := hh10.2 cc12
      refine f_wp_X2_put (fun u16 rr16 hh15 => ?_) hh14
      have rr17 : RA u u16 := RA_tr (RA_rf u) rr16
      exact f_wj_X0_putVariables_56 (fun _ _ _ v_ rv_ h_ => hK38 _ _ _ v_ (RA_tr rr17 rv_) h_) (fun v_ rv_ h_ => hp v_ (RA_tr rr17 rv_) h_) hh15
theorem f_wp_X0_putVariables {x1 : Int32} {x2 : Int32} {u : mS} {post post_ : mS → Prop} (hp : ∀ (b0_ : mS), RA u b0_ → post b0_ → post_ b0_) (h : wp_X0_putVariables x1 x2 u post) : wp_X0_putVariables x1 x2 u post_ := by
  refine f_wp_X2_put (fun u2 rr2 hh1 => ?_) h
  have rr3 : RA u u2 := RA_tr (RA_rf u) rr2
  refine f_wp_X2_putName (fun u4 rr5 hh4 => ?_) hh1
  have rr6 : RA u u4 := RA_tr rr3 rr5
  refine f_wp_X2_put (fun u6 rr8 hh7 => ?_) hh4
  have rr9 : RA u u6 := RA_tr rr6 rr8
  refine f_wp_X2_put (fun u8 rr11 hh10 => ?_) hh7
  have rr12 : RA u u8 := RA_tr rr9 rr11
  obtain ⟨nn13, hh14⟩ := hh10
  refine ⟨nn13, mL4_mo RA RA_rf ?_ nn13 _ _ _ _ (RA_rf _) hh14⟩
  intro K_ K2_ z_ hz_ hK_ _ _ _ h_
  exact f_wj_X0_putVariables_38 (fun _ _ _ v_ rv_ h_ => hK_ _ _ _ v_ (RA_tr hz_ rv_) h_) (fun v_ rv_ h_ => hp v_ (RA_tr rr12 (RA_tr hz_ rv_)) h_) h_
theorem f_wj_X0_expandFn_34 {X X2 : Int32 → Int32 → mS → (mS → Prop) → Prop} {post post_ : mS → Prop} {u : mS} (hX : ∀ (t_ x_ : Int32) (v_ : mS) (q_ q2_ : mS → Prop), (∀ w_, RA v_ w_ → q_ w_ → q2_ w_) → X t_ x_ v_ q_ → X2 t_ x_ v_ q2_) (hp : ∀ (b0_ : mS), RA u b0_ → post b0_ → post_ b0_) (h : wj_X0_expandFn_34 X post u) : wj_X0_expandFn_34 X2 post_ u := by
  refine f_wp_X2_fail (fun u39 rr2 hh1 => ?_) h
  have rr3 : RA u u39 := RA_tr (RA_rf u) rr2
  exact hp _ rr3 hh1
theorem f_wj_X0_expandFn_133 {X X2 : Int32 → Int32 → mS → (mS → Prop) → Prop} {post post_ : mS → Prop} {x2 : Int32} {x4 : Int32} {x6 : Int32} {x7 : Int32} {u : mS} (hX : ∀ (t_ x_ : Int32) (v_ : mS) (q_ q2_ : mS → Prop), (∀ w_, RA v_ w_ → q_ w_ → q2_ w_) → X t_ x_ v_ q_ → X2 t_ x_ v_ q2_) (hp : ∀ (b0_ : mS), RA u b0_ → post b0_ → post_ b0_) (h : wj_X0_expandFn_133 X post x2 x4 x6 x7 u) : wj_X0_expandFn_133 X2 post_ x2 x4 x6 x7 u := by
  intro y30 ee1
  have hh2 := h y30 ee1
  refine ⟨fun cc3 => ?_, fun cc4 => ?_⟩
  · have hh5 := hh2.1 cc3
    refine f_wp_X0_putVariables (fun u33 rr7 hh6 => ?_) hh5
    have rr8 : RA u u33 := RA_tr (RA_rf u) rr7
    intro y34 ee9
    have hh10 := hh6 y34 ee9
    refine hX _ _ _ _ _ (fun u35 rr12 hh11 => ?_) hh10
    have rr13 : RA u u35 := RA_tr rr8 rr12
    refine f_wp_X2_put (fun u37 rr15 hh14 => ?_) hh11
    have rr16 : RA u u37 := RA_tr rr13 rr15
    exact hp _ rr16 hh14
  · have hh17 := hh2.2 cc4
    exact hp _ (RA_rf u) hh17
theorem f_wj_X0_expandFn_97 {X X2 : Int32 → Int32 → mS → (mS → Prop) → Prop} {K97 K97_ : Int32 → Int32 → Int32 → Int32 → Int32 → Int32 → mS → Prop} {post post_ : mS → Prop} {x2 : Int32} {x3 : Int32} {x4 : Int32} {x6 : Int32} {x7 : Int32} {x8 : Int32} {u : mS} (hX : ∀ (t_ x_ : Int32) (v_ : mS) (q_ q2_ : mS → Prop), (∀ w_, RA v_ w_ → q_ w_ → q2_ w_) → X t_ x_ v_ q_ → X2 t_ x_ v_ q2_) (hK97 : ∀ (b0_ : Int32) (b1_ : Int32) (b2_ : Int32) (b3_ : Int32) (b4_ : Int32) (b5_ : Int32) (b6_ : mS), RA u b6_ → K97 b0_ b1_ b2_ b3_ b4_ b5_ b6_ → K97_ b0_ b1_ b2_ b3_ b4_ b5_ b6_) (hp : ∀ (b0_ : mS), RA u b0_ → post b0_ → post_ b0_) (h : wj_X0_expandFn_97 X K97 post x2 x3 x4 x6 x7 x8 u) : wj_X0_expandFn_97 X2 K97_ post_ x2 x3 x4 x6 x7 x8 u := by
  refine ⟨fun cc1 => ?_, fun cc2 => ?_⟩
  · have hh3 := h.1 cc1
    exact f_wj_X0_expandFn_133 hX (fun v_ rv_ h_ => hp v_ (RA_tr (RA_rf u) rv_) h_) hh3
  · have hh4 := h.2 cc2
    intro y22 ee5
    have hh6 := hh4 y22 ee5
    refine ⟨fun cc7 => ?_, fun cc8 => ?_⟩
    · have hh9 := hh6.1 cc7
      exact f_wj_X0_expandFn_133 hX (fun v_ rv_ h_ => hp v_ (RA_tr (RA_rf u) rv_) h_) hh9
    · have hh10 := hh6.2 cc8
      intro y24 ee11
      have hh12 := hh10 y24 ee11
      intro y25 ee13
      have hh14 := hh12 y25 ee13
      intro y26 ee15
      have hh16 := hh14 y26 ee15
      refine f_wp_X0_bindVariable (fun u28 rr18 hh17 => ?_) hh16
      have rr19 : RA u u28 := RA_tr (RA_rf u) rr18
      intro y29 ee20
      have hh21 := hh17 y29 ee20
      exact hK97 _ _ _ _ _ _ _ rr19 hh21
theorem f_wp_X0_expandFn {X X2 : Int32 → Int32 → mS → (mS → Prop) → Prop} {x1 : Int32} {x2 : Int32} {u : mS} {post post_ : mS → Prop} (hX : ∀ (t_ x_ : Int32) (v_ : mS) (q_ q2_ : mS → Prop), (∀ w_, RA v_ w_ → q_ w_ → q2_ w_) → X t_ x_ v_ q_ → X2 t_ x_ v_ q2_) (hp : ∀ (b0_ : mS), RA u b0_ → post b0_ → post_ b0_) (h : wp_X0_expandFn X x1 x2 u post) : wp_X0_expandFn X2 x1 x2 u post_ := by
  intro y1 ee1
  have hh2 := h y1 ee1
  refine f_wp_X5_after (fun r2 u3 rr4 hh3 => ?_) hh2
  have rr5 : RA u u3 := RA_tr (RA_rf u) rr4
  refine f_wp_X5_plainLength (fun r4 u5 rr7 hh6 => ?_) hh3
  have rr8 : RA u u5 := RA_tr rr5 rr7
  refine ⟨fun cc9 => ?_, fun cc10 => ?_⟩
  · have hh11 := hh6.1 cc9
    exact f_wj_X0_expandFn_34 hX (fun v_ rv_ h_ => hp v_ (RA_tr rr8 rv_) h_) hh11
  · have hh12 := hh6.2 cc10
    refine f_wp_X0_areNames (fun r7 u8 rr14 hh13 => ?_) hh12
    have rr15 : RA u u8 := RA_tr rr8 rr14
    refine ⟨fun cc16 => ?_, fun cc17 => ?_⟩
    · have hh18 := hh13.1 cc16
      refine f_wp_X0_newScope (fun r10 u11 rr20 hh19 => ?_) hh18
      have rr21 : RA u u11 := RA_tr rr15 rr20
      refine ⟨fun cc22 => ?_, fun cc23 => ?_⟩
      · have hh24 := hh19.1 cc22
        refine f_wp_X5_turnScope (fun u14 rr26 hh25 => ?_) hh24
        have rr27 : RA u u14 := RA_tr rr21 rr26
        refine f_wp_X5_turnScope (fun u16 rr29 hh28 => ?_) hh25
        have rr30 : RA u u16 := RA_tr rr27 rr29
        intro y17 ee31
        have hh32 := hh28 y17 ee31
        intro y18 ee33
        have hh34 := hh32 y18 ee33
        refine f_wp_X5_itemsFrom (fun r19 u20 rr36 hh35 => ?_) hh34
        have rr37 : RA u u20 := RA_tr rr30 rr36
        obtain ⟨nn38, hh39⟩ := hh35
        refine ⟨nn38, mL7_mo RA RA_rf ?_ nn38 _ _ _ _ _ _ _ (RA_rf _) hh39⟩
        intro K_ K2_ z_ hz_ hK_ _ _ _ _ _ _ h_
        exact f_wj_X0_expandFn_97 hX (fun _ _ _ _ _ _ v_ rv_ h_ => hK_ _ _ _ _ _ _ v_ (RA_tr hz_ rv_) h_) (fun v_ rv_ h_ => hp v_ (RA_tr rr37 (RA_tr hz_ rv_)) h_) h_
      · have hh40 := hh19.2 cc23
        exact hp _ rr21 hh40
    · have hh41 := hh13.2 cc17
      exact f_wj_X0_expandFn_34 hX (fun v_ rv_ h_ => hp v_ (RA_tr rr15 rv_) h_) hh41
theorem f_wj_X0_expandIf_46 {X X2 : Int32 → Int32 → mS → (mS → Prop) → Prop} {K46 K46_ : Int32 → Int32 → Int32 → mS → Prop} {post post_ : mS → Prop} {x2 : Int32} {x3 : Int32} {x4 : Int32} {u : mS} (hX : ∀ (t_ x_ : Int32) (v_ : mS) (q_ q2_ : mS → Prop), (∀ w_, RA v_ w_ → q_ w_ → q2_ w_) → X t_ x_ v_ q_ → X2 t_ x_ v_ q2_) (hK46 : ∀ (b0_ : Int32) (b1_ : Int32) (b2_ : Int32) (b3_ : mS), RA u b3_ → K46 b0_ b1_ b2_ b3_ → K46_ b0_ b1_ b2_ b3_) (hp : ∀ (b0_ : mS), RA u b0_ → post b0_ → post_ b0_) (h : wj_X0_expandIf_46 X K46 post x2 x3 x4 u) : wj_X0_expandIf_46 X2 K46_ post_ x2 x3 x4 u := by
  refine ⟨fun cc1 => ?_, fun cc2 => ?_⟩
  · have hh3 := h.1 cc1
    refine f_wp_X2_put (fun u13 rr5 hh4 => ?_) hh3
    have rr6 : RA u u13 := RA_tr (RA_rf u) rr5
    exact hp _ rr6 hh4
  · have hh7 := h.2 cc2
    refine f_wp_X2_put (fun u15 rr9 hh8 => ?_) hh7
    have rr10 : RA u u15 := RA_tr (RA_rf u) rr9
    intro y16 ee11
    have hh12 := hh8 y16 ee11
    refine hX _ _ _ _ _ (fun u17 rr14 hh13 => ?_) hh12
    have rr15 : RA u u17 := RA_tr rr10 rr14
    refine f_wp_X5_after (fun r18 u19 rr17 hh16 => ?_) hh13
    have rr18 : RA u u19 := RA_tr rr15 rr17
    intro y20 ee19
    have hh20 := hh16 y20 ee19
    exact hK46 _ _ _ _ rr18 hh20
theorem f_wp_X0_expandIf {X X2 : Int32 → Int32 → mS → (mS → Prop) → Prop} {x1 : Int32} {x2 : Int32} {u : mS} {post post_ : mS → Prop} (hX : ∀ (t_ x_ : Int32) (v_ : mS) (q_ q2_ : mS → Prop), (∀ w_, RA v_ w_ → q_ w_ → q2_ w_) → X t_ x_ v_ q_ → X2 t_ x_ v_ q2_) (hp : ∀ (b0_ : mS), RA u b0_ → post b0_ → post_ b0_) (h : wp_X0_expandIf X x1 x2 u post) : wp_X0_expandIf X2 x1 x2 u post_ := by
  refine f_wp_X5_plainLength (fun r1 u2 rr2 hh1 => ?_) h
  have rr3 : RA u u2 := RA_tr (RA_rf u) rr2
  refine ⟨fun cc4 => ?_, fun cc5 => ?_⟩
  · have hh6 := hh1.1 cc4
    refine f_wp_X2_put (fun u5 rr8 hh7 => ?_) hh6
    have rr9 : RA u u5 := RA_tr rr3 rr8
    refine f_wp_X2_putName (fun u7 rr11 hh10 => ?_) hh7
    have rr12 : RA u u7 := RA_tr rr9 rr11
    intro y8 ee13
    have hh14 := hh10 y8 ee13
    obtain ⟨nn15, hh16⟩ := hh14
    refine ⟨nn15, mL4_mo RA RA_rf ?_ nn15 _ _ _ _ (RA_rf _) hh16⟩
    intro K_ K2_ z_ hz_ hK_ _ _ _ h_
    exact f_wj_X0_expandIf_46 hX (fun _ _ _ v_ rv_ h_ => hK_ _ _ _ v_ (RA_tr hz_ rv_) h_) (fun v_ rv_ h_ => hp v_ (RA_tr rr12 (RA_tr hz_ rv_)) h_) h_
  · have hh17 := hh1.2 cc5
    refine f_wp_X2_fail (fun u10 rr19 hh18 => ?_) hh17
    have rr20 : RA u u10 := RA_tr rr3 rr19
    exact hp _ rr20 hh18
theorem f_wj_X2_putWord_75 {post post_ : mS → Prop} {z0 : Int32} {u : mS} (hp : ∀ (b0_ : mS), RA u b0_ → post b0_ → post_ b0_) (h : wj_X2_putWord_75 post z0 u) : wj_X2_putWord_75 post_ z0 u := by
  refine f_wp_X2_put (fun u19 rr2 hh1 => ?_) h
  have rr3 : RA u u19 := RA_tr (RA_rf u) rr2
  exact hp _ rr3 hh1
theorem f_wp_X2_putWord {x1 : Int32} {u : mS} {post post_ : mS → Prop} (hp : ∀ (b0_ : mS), RA u b0_ → post b0_ → post_ b0_) (h : wp_X2_putWord x1 u post) : wp_X2_putWord x1 u post_ := by
  refine f_wp_X8_isName (fun r1 u2 rr2 hh1 => ?_) h
  have rr3 : RA u u2 := RA_tr (RA_rf u) rr2
  refine ⟨fun cc4 => ?_, fun cc5 => ?_⟩
  · have hh6 := hh1.1 cc4
    refine f_wp_X8_isNumber (fun r4 u5 rr8 hh7 => ?_) hh6
    have rr9 : RA u u5 := RA_tr rr3 rr8
    refine ⟨fun cc10 => ?_, fun cc11 => ?_⟩
    · have hh12 := hh7.1 cc10
      refine ⟨fun cc13 => ?_, fun cc14 => ?_⟩
      · have hh15 := hh12.1 cc13
        refine ⟨fun cc16 => ?_, fun cc17 => ?_⟩
        · have hh18 := hh15.1 cc16
          refine ⟨fun cc19 => ?_, fun cc20 => ?_⟩
          · have hh21 := hh18.1 cc19
            exact f_wj_X2_putWord_75 (fun v_ rv_ h_ => hp v_ (RA_tr rr9 rv_) h_) hh21
          · have hh22 := hh18.2 cc20
            exact f_wj_X2_putWord_75 (fun v_ rv_ h_ => hp v_ (RA_tr rr9 rv_) h_) hh22
        · have hh23 := hh15.2 cc17
          exact f_wj_X2_putWord_75 (fun v_ rv_ h_ => hp v_ (RA_tr rr9 rv_) h_) hh23
      · have hh24 := hh12.2 cc14
        refine f_wp_X2_put (fun u11 rr26 hh25 => ?_) hh24
        have rr27 : RA u u11 := RA_tr rr9 rr26
        refine f_wp_X2_put (fun u13 rr29 hh28 => ?_) hh25
        have rr30 : RA u u13 := RA_tr rr27 rr29
        exact hp _ rr30 hh28
    · have hh31 := hh7.2 cc11
      refine f_wp_X2_putNumber (fun u15 rr33 hh32 => ?_) hh31
      have rr34 : RA u u15 := RA_tr rr9 rr33
      exact hp _ rr34 hh32
  · have hh35 := hh1.2 cc5
    refine f_wp_X2_putName (fun u17 rr37 hh36 => ?_) hh35
    have rr38 : RA u u17 := RA_tr rr3 rr37
    exact hp _ rr38 hh36
theorem f_wj_X2_putTree_50 {K9 K9_ : Int32 → Int32 → Int32 → mS → Prop} {post post_ : mS → Prop} {x2 : Int32} {x3 : Int32} {x4 : Int32} {u : mS} (hK9 : ∀ (b0_ : Int32) (b1_ : Int32) (b2_ : Int32) (b3_ : mS), RA u b3_ → K9 b0_ b1_ b2_ b3_ → K9_ b0_ b1_ b2_ b3_) (hp : ∀ (b0_ : mS), RA u b0_ → post b0_ → post_ b0_) (h : wj_X2_putTree_50 K9 post x2 x3 x4 u) : wj_X2_putTree_50 K9_ post_ x2 x3 x4 u := by
  refine f_wp_X5_wordAt (fun r14 u15 rr2 hh1 => ?_) h
  have rr3 : RA u u15 := RA_tr (RA_rf u) rr2
  refine f_wp_X2_putWord (fun u17 rr5 hh4 => ?_) hh1
  have rr6 : RA u u17 := RA_tr rr3 rr5
  intro y18 ee7
  have hh8 := hh4 y18 ee7
  exact hK9 _ _ _ _ rr6 hh8
theorem f_wj_X2_putTree_9 {K9 K9_ : Int32 → Int32 → Int32 → mS → Prop} {post post_ : mS → Prop} {x2 : Int32} {x3 : Int32} {x4 : Int32} {u : mS} (hK9 : ∀ (b0_ : Int32) (b1_ : Int32) (b2_ : Int32) (b3_ : mS), RA u b3_ → K9 b0_ b1_ b2_ b3_ → K9_ b0_ b1_ b2_ b3_) (hp : ∀ (b0_ : mS), RA u b0_ → post b0_ → post_ b0_) (h : wj_X2_putTree_9 K9 post x2 x3 x4 u) : wj_X2_putTree_9 K9_ post_ x2 x3 x4 u := by
  refine ⟨fun cc1 => ?_, fun cc2 => ?_⟩
  · have hh3 := h.1 cc1
    exact hp _ (RA_rf u) hh3
  · have hh4 := h.2 cc2
    refine ⟨fun cc5 => ?_, fun cc6 => ?_⟩
    · have hh7 := hh4.1 cc5
      exact f_wj_X2_putTree_50 (fun _ _ _ v_ rv_ h_ => hK9 _ _ _ v_ (RA_tr (RA_rf u) rv_) h_) (fun v_ rv_ h_ => hp v_ (RA_tr (RA_rf u) rv_) h_) hh7
    · have hh8 := hh4.2 cc6
      refine f_wp_X5_wordAt (fun r5 u6 rr10 hh9 => ?_) hh8
      have rr11 : RA u u6 := RA_tr (RA_rf u) rr10
      refine ⟨fun cc12 => ?_, fun cc13 => ?_⟩
      · have hh14 := hh9.1 cc12
        exact f_wj_X2_putTree_50 (fun _ _ _ v_ rv_ h_ => hK9 _ _ _ v_ (RA_tr rr11 rv_) h_) (fun v_ rv_ h_ => hp v_ (RA_tr rr11 rv_) h_) hh14
      · have hh15 := hh9.2 cc13
        intro y8 ee16
        have hh17 := hh15 y8 ee16
        refine f_wp_X5_wordAt (fun r9 u10 rr19 hh18 => ?_) hh17
        have rr20 : RA u u10 := RA_tr rr11 rr19
        refine ⟨fun cc21 => ?_, fun cc22 => ?_⟩
        · have hh23 := hh18.1 cc21
          exact f_wj_X2_putTree_50 (fun _ _ _ v_ rv_ h_ => hK9 _ _ _ v_ (RA_tr rr20 rv_) h_) (fun v_ rv_ h_ => hp v_ (RA_tr rr20 rv_) h_) hh23
        · have hh24 := hh18.2 cc22
          refine f_wp_X2_put (fun u13 rr26 hh25 => ?_) hh24
          have rr27 : RA u u13 := RA_tr rr20 rr26
          exact f_wj_X2_putTree_50 (fun _ _ _ v_ rv_ h_ => hK9 _ _ _ v_ (RA_tr rr27 rv_) h_) (fun v_ rv_ h_ => hp v_ (RA_tr rr27 rv_) h_) hh25
theorem f_wp_X2_putTree {x2 : Int32} {u : mS} {post post_ : mS → Prop} (hp : ∀ (b0_ : mS), RA u b0_ → post b0_ → post_ b0_) (h : wp_X2_putTree x2 u post) : wp_X2_putTree x2 u post_ := by
  refine f_wp_X5_after (fun r1 u2 rr2 hh1 => ?_) h
  have rr3 : RA u u2 := RA_tr (RA_rf u) rr2
  obtain ⟨nn4, hh5⟩ := hh1
  refine ⟨nn4, mL4_mo RA RA_rf ?_ nn4 _ _ _ _ (RA_rf _) hh5⟩
  intro K_ K2_ z_ hz_ hK_ _ _ _ h_
  exact f_wj_X2_putTree_9 (fun _ _ _ v_ rv_ h_ => hK_ _ _ _ v_ (RA_tr hz_ rv_) h_) (fun v_ rv_ h_ => hp v_ (RA_tr rr3 (RA_tr hz_ rv_)) h_) h_
theorem f_wp_X0_expandQ {x1 : Int32} {u : mS} {post post_ : mS → Prop} (hp : ∀ (b0_ : mS), RA u b0_ → post b0_ → post_ b0_) (h : wp_X0_expandQ x1 u post) : wp_X0_expandQ x1 u post_ := by
  refine f_wp_X5_plainLength (fun r1 u2 rr2 hh1 => ?_) h
  have rr3 : RA u u2 := RA_tr (RA_rf u) rr2
  refine ⟨fun cc4 => ?_, fun cc5 => ?_⟩
  · have hh6 := hh1.1 cc4
    refine f_wp_X2_putTree (fun u5 rr8 hh7 => ?_) hh6
    have rr9 : RA u u5 := RA_tr rr3 rr8
    exact hp _ rr9 hh7
  · have hh10 := hh1.2 cc5
    refine f_wp_X2_fail (fun u7 rr12 hh11 => ?_) hh10
    have rr13 : RA u u7 := RA_tr rr3 rr12
    exact hp _ rr13 hh11
theorem f_wp_X5_isHeld {x1 : Int32} {u : mS} {post post_ : Int32 → mS → Prop} (hp : ∀ (b0_ : Int32) (b1_ : mS), RA u b1_ → post b0_ b1_ → post_ b0_ b1_) (h : wp_X5_isHeld x1 u post) : wp_X5_isHeld x1 u post_ := by
  refine ⟨fun cc1 => ?_, fun cc2 => ?_⟩
  · have hh3 := h.1 cc1
    exact hp _ _ (RA_rf u) hh3
  · have hh4 := h.2 cc2
    intro y2 ee5
    have hh6 := hh4 y2 ee5
    refine ⟨fun cc7 => ?_, fun cc8 => ?_⟩
    · have hh9 := hh6.1 cc7
      exact hp _ _ (RA_rf u) hh9
    · have hh10 := hh6.2 cc8
      refine ⟨fun cc11 => ?_, fun cc12 => ?_⟩
      · have hh13 := hh10.1 cc11
        exact hp _ _ (RA_rf u) hh13
      · have hh14 := hh10.2 cc12
        refine ⟨hh14.1, ?_⟩
        have hh15 := hh14.2
        intro y5 ee16
        have hh17 := hh15 y5 ee16
        refine ⟨fun cc18 => ?_, fun cc19 => ?_⟩
        · have hh20 := hh17.1 cc18
          refine ⟨hh20.1, ?_⟩
          have hh21 := hh20.2
          intro y7 ee22
          have hh23 := hh21 y7 ee22
          intro y8 ee24
          have hh25 := hh23 y8 ee24
          refine ⟨fun cc26 => ?_, fun cc27 => ?_⟩
          · have hh28 := hh25.1 cc26
            exact hp _ _ (RA_rf u) hh28
          · have hh29 := hh25.2 cc27
            intro y10 ee30
            have hh31 := hh29 y10 ee30
            refine ⟨fun cc32 => ?_, fun cc33 => ?_⟩
            · have hh34 := hh31.1 cc32
              exact hp _ _ (RA_rf u) hh34
            · have hh35 := hh31.2 cc33
              refine ⟨fun cc36 => ?_, fun cc37 => ?_⟩
              · have hh38 := hh35.1 cc36
                exact hp _ _ (RA_rf u) hh38
              · have hh39 := hh35.2 cc37
                refine ⟨hh39.1, ?_⟩
                have hh40 := hh39.2
                intro y13 ee41
                have hh42 := hh40 y13 ee41
                refine ⟨fun cc43 => ?_, fun cc44 => ?_⟩
                · have hh45 := hh42.1 cc43
                  exact hp _ _ (RA_rf u) hh45
                · have hh46 := hh42.2 cc44
                  exact hp _ _ (RA_rf u) hh46
        · have hh47 := hh17.2 cc19
          exact hp _ _ (RA_rf u) hh47
theorem f_wp_X8_isTree {x0 : Int32} {u : mS} {post post_ : Int32 → mS → Prop} (hp : ∀ (b0_ : Int32) (b1_ : mS), RA u b1_ → post b0_ b1_ → post_ b0_ b1_) (h : wp_X8_isTree x0 u post) : wp_X8_isTree x0 u post_ := by
  refine ⟨fun cc1 => ?_, fun cc2 => ?_⟩
  · have hh3 := h.1 cc1
    exact hp _ _ (RA_rf u) hh3
  · have hh4 := h.2 cc2
    refine ⟨fun cc5 => ?_, fun cc6 => ?_⟩
    · have hh7 := hh4.1 cc5
      exact hp _ _ (RA_rf u) hh7
    · have hh8 := hh4.2 cc6
      exact hp _ _ (RA_rf u) hh8
theorem f_wj_X5_holders_100 {K15 K15_ : Int32 → Int32 → Int32 → mS → Prop} {post post_ : Int32 → mS → Prop} {x2 : Int32} {x3 : Int32} {x4 : Int32} {u : mS} (hK15 : ∀ (b0_ : Int32) (b1_ : Int32) (b2_ : Int32) (b3_ : mS), RA u b3_ → K15 b0_ b1_ b2_ b3_ → K15_ b0_ b1_ b2_ b3_) (hp : ∀ (b0_ : Int32) (b1_ : mS), RA u b1_ → post b0_ b1_ → post_ b0_ b1_) (h : wj_X5_holders_100 K15 post x2 x3 x4 u) : wj_X5_holders_100 K15_ post_ x2 x3 x4 u := by
  intro y18 ee1
  have hh2 := h y18 ee1
  exact hK15 _ _ _ _ (RA_rf u) hh2
theorem f_wj_X5_holders_106 {post post_ : Int32 → mS → Prop} {x3 : Int32} {u : mS} (hp : ∀ (b0_ : Int32) (b1_ : mS), RA u b1_ → post b0_ b1_ → post_ b0_ b1_) (h : wj_X5_holders_106 post x3 u) : wj_X5_holders_106 post_ x3 u := by
  exact hp _ _ (RA_rf u) h
theorem f_wj_X5_holders_15 {K15 K15_ : Int32 → Int32 → Int32 → mS → Prop} {post post_ : Int32 → mS → Prop} {x2 : Int32} {x3 : Int32} {x4 : Int32} {u : mS} (hK15 : ∀ (b0_ : Int32) (b1_ : Int32) (b2_ : Int32) (b3_ : mS), RA u b3_ → K15 b0_ b1_ b2_ b3_ → K15_ b0_ b1_ b2_ b3_) (hp : ∀ (b0_ : Int32) (b1_ : mS), RA u b1_ → post b0_ b1_ → post_ b0_ b1_) (h : wj_X5_holders_15 K15 post x2 x3 x4 u) : wj_X5_holders_15 K15_ post_ x2 x3 x4 u := by
  refine ⟨fun cc1 => ?_, fun cc2 => ?_⟩
  · have hh3 := h.1 cc1
    exact f_wj_X5_holders_106 (fun _ v_ rv_ h_ => hp _ v_ (RA_tr (RA_rf u) rv_) h_) hh3
  · have hh4 := h.2 cc2
    intro y4 ee5
    have hh6 := hh4 y4 ee5
    refine ⟨fun cc7 => ?_, fun cc8 => ?_⟩
    · have hh9 := hh6.1 cc7
      exact f_wj_X5_holders_106 (fun _ v_ rv_ h_ => hp _ v_ (RA_tr (RA_rf u) rv_) h_) hh9
    · have hh10 := hh6.2 cc8
      refine ⟨fun cc11 => ?_, fun cc12 => ?_⟩
      · have hh13 := hh10.1 cc11
        exact f_wj_X5_holders_106 (fun _ v_ rv_ h_ => hp _ v_ (RA_tr (RA_rf u) rv_) h_) hh13
      · have hh14 := hh10.2 cc12
        refine ⟨hh14.1, ?_⟩
        have hh15 := hh14.2
        intro y7 ee16
        have hh17 := hh15 y7 ee16
        intro y8 ee18
        have hh19 := hh17 y8 ee18
        refine ⟨fun cc20 => ?_, fun cc21 => ?_⟩
        · have hh22 := hh19.1 cc20
          exact f_wj_X5_holders_100 (fun _ _ _ v_ rv_ h_ => hK15 _ _ _ v_ (RA_tr (RA_rf u) rv_) h_) (fun _ v_ rv_ h_ => hp _ v_ (RA_tr (RA_rf u) rv_) h_) hh22
        · have hh23 := hh19.2 cc21
          intro y10 ee24
          have hh25 := hh23 y10 ee24
          refine ⟨fun cc26 => ?_, fun cc27 => ?_⟩
          · have hh28 := hh25.1 cc26
            exact f_wj_X5_holders_100 (fun _ _ _ v_ rv_ h_ => hK15 _ _ _ v_ (RA_tr (RA_rf u) rv_) h_) (fun _ v_ rv_ h_ => hp _ v_ (RA_tr (RA_rf u) rv_) h_) hh28
          · have hh29 := hh25.2 cc27
            refine ⟨fun cc30 => ?_, fun cc31 => ?_⟩
            · have hh32 := hh29.1 cc30
              exact f_wj_X5_holders_100 (fun _ _ _ v_ rv_ h_ => hK15 _ _ _ v_ (RA_tr (RA_rf u) rv_) h_) (fun _ v_ rv_ h_ => hp _ v_ (RA_tr (RA_rf u) rv_) h_) hh32
            · have hh33 := hh29.2 cc31
              refine ⟨hh33.1, ?_⟩
              have hh34 := hh33.2
              intro y13 ee35
              have hh36 := hh34 y13 ee35
              refine ⟨fun cc37 => ?_, fun cc38 => ?_⟩
              · have hh39 := hh36.1 cc37
                exact f_wj_X5_holders_100 (fun _ _ _ v_ rv_ h_ => hK15 _ _ _ v_ (RA_tr (RA_rf u) rv_) h_) (fun _ v_ rv_ h_ => hp _ v_ (RA_tr (RA_rf u) rv_) h_) hh39
              · have hh40 := hh36.2 cc38
                refine ⟨hh40.1, ?_⟩
                have hh41 := hh40.2
                intro y15 ee42
                have hh43 := hh41 y15 ee42
                refine ⟨fun cc44 => ?_, fun cc45 => ?_⟩
                · have hh46 := hh43.1 cc44
                  exact f_wj_X5_holders_100 (fun _ _ _ v_ rv_ h_ => hK15 _ _ _ v_ (RA_tr (RA_rf u) rv_) h_) (fun _ v_ rv_ h_ => hp _ v_ (RA_tr (RA_rf u) rv_) h_) hh46
                · have hh47 := hh43.2 cc45
                  intro y17 ee48
                  have hh49 := hh47 y17 ee48
                  exact f_wj_X5_holders_100 (fun _ _ _ v_ rv_ h_ => hK15 _ _ _ v_ (RA_tr (RA_rf u) rv_) h_) (fun _ v_ rv_ h_ => hp _ v_ (RA_tr (RA_rf u) rv_) h_) hh49
theorem f_wj_X5_holders_13 {post post_ : Int32 → mS → Prop} {x2 : Int32} {x3 : Int32} {z0 : Int32} {u : mS} (hp : ∀ (b0_ : Int32) (b1_ : mS), RA u b1_ → post b0_ b1_ → post_ b0_ b1_) (h : wj_X5_holders_13 post x2 x3 z0 u) : wj_X5_holders_13 post_ x2 x3 z0 u := by
  obtain ⟨nn1, hh2⟩ := h
  refine ⟨nn1, mL4_mo RA RA_rf ?_ nn1 _ _ _ _ (RA_rf _) hh2⟩
  intro K_ K2_ z_ hz_ hK_ _ _ _ h_
  exact f_wj_X5_holders_15 (fun _ _ _ v_ rv_ h_ => hK_ _ _ _ v_ (RA_tr hz_ rv_) h_) (fun _ v_ rv_ h_ => hp _ v_ (RA_tr (RA_rf u) (RA_tr hz_ rv_)) h_) h_
theorem f_wp_X5_holders {x1 : Int32} {x2 : Int32} {u : mS} {post post_ : Int32 → mS → Prop} (hp : ∀ (b0_ : Int32) (b1_ : mS), RA u b1_ → post b0_ b1_ → post_ b0_ b1_) (h : wp_X5_holders x1 x2 u post) : wp_X5_holders x1 x2 u post_ := by
  refine ⟨fun cc1 => ?_, fun cc2 => ?_⟩
  · have hh3 := h.1 cc1
    intro y2 ee4
    have hh5 := hh3 y2 ee4
    exact f_wj_X5_holders_13 (fun _ v_ rv_ h_ => hp _ v_ (RA_tr (RA_rf u) rv_) h_) hh5
  · have hh6 := h.2 cc2
    exact f_wj_X5_holders_13 (fun _ v_ rv_ h_ => hp _ v_ (RA_tr (RA_rf u) rv_) h_) hh6
theorem f_wj_X6_isPattern_131 {K64 K64_ : Int32 → Int32 → Int32 → Int32 → mS → Prop} {post post_ : Int32 → mS → Prop} {x1 : Int32} {x3 : Int32} {x4 : Int32} {x5 : Int32} {u : mS} (hK64 : ∀ (b0_ : Int32) (b1_ : Int32) (b2_ : Int32) (b3_ : Int32) (b4_ : mS), RA u b4_ → K64 b0_ b1_ b2_ b3_ b4_ → K64_ b0_ b1_ b2_ b3_ b4_) (hp : ∀ (b0_ : Int32) (b1_ : mS), RA u b1_ → post b0_ b1_ → post_ b0_ b1_) (h : wj_X6_isPattern_131 K64 post x1 x3 x4 x5 u) : wj_X6_isPattern_131 K64_ post_ x1 x3 x4 x5 u := by
  refine f_wp_X5_findName (fun r29 u30 rr2 hh1 => ?_) h
  have rr3 : RA u u30 := RA_tr (RA_rf u) rr2
  refine ⟨fun cc4 => ?_, fun cc5 => ?_⟩
  · have hh6 := hh1.1 cc4
    intro y32 ee7
    have hh8 := hh6 y32 ee7
    exact hK64 _ _ _ _ _ rr3 hh8
  · have hh9 := hh1.2 cc5
    exact hp _ _ rr3 hh9
theorem f_wj_X6_isPattern_107 {K64 K64_ : Int32 → Int32 → Int32 → Int32 → mS → Prop} {post post_ : Int32 → mS → Prop} {x1 : Int32} {x3 : Int32} {x4 : Int32} {x5 : Int32} {x6 : Int32} {u : mS} (hK64 : ∀ (b0_ : Int32) (b1_ : Int32) (b2_ : Int32) (b3_ : Int32) (b4_ : mS), RA u b4_ → K64 b0_ b1_ b2_ b3_ b4_ → K64_ b0_ b1_ b2_ b3_ b4_) (hp : ∀ (b0_ : Int32) (b1_ : mS), RA u b1_ → post b0_ b1_ → post_ b0_ b1_) (h : wj_X6_isPattern_107 K64 post x1 x3 x4 x5 x6 u) : wj_X6_isPattern_107 K64_ post_ x1 x3 x4 x5 x6 u := by
  refine f_wp_X8_isTree (fun r23 u24 rr2 hh1 => ?_) h
  have rr3 : RA u u24 := RA_tr (RA_rf u) rr2
  refine ⟨fun cc4 => ?_, fun cc5 => ?_⟩
  · have hh6 := hh1.1 cc4
    exact f_wj_X6_isPattern_131 (fun _ _ _ _ v_ rv_ h_ => hK64 _ _ _ _ v_ (RA_tr rr3 rv_) h_) (fun _ v_ rv_ h_ => hp _ v_ (RA_tr rr3 rv_) h_) hh6
  · have hh7 := hh1.2 cc5
    refine f_wp_X5_holders (fun r26 u27 rr9 hh8 => ?_) hh7
    have rr10 : RA u u27 := RA_tr rr3 rr9
    refine ⟨fun cc11 => ?_, fun cc12 => ?_⟩
    · have hh13 := hh8.1 cc11
      exact f_wj_X6_isPattern_131 (fun _ _ _ _ v_ rv_ h_ => hK64 _ _ _ _ v_ (RA_tr rr10 rv_) h_) (fun _ v_ rv_ h_ => hp _ v_ (RA_tr rr10 rv_) h_) hh13
    · have hh14 := hh8.2 cc12
      exact hp _ _ rr10 hh14
theorem f_wj_X6_isPattern_64 {K64 K64_ : Int32 → Int32 → Int32 → Int32 → mS → Prop} {post post_ : Int32 → mS → Prop} {x1 : Int32} {x3 : Int32} {x4 : Int32} {x5 : Int32} {u : mS} (hK64 : ∀ (b0_ : Int32) (b1_ : Int32) (b2_ : Int32) (b3_ : Int32) (b4_ : mS), RA u b4_ → K64 b0_ b1_ b2_ b3_ b4_ → K64_ b0_ b1_ b2_ b3_ b4_) (hp : ∀ (b0_ : Int32) (b1_ : mS), RA u b1_ → post b0_ b1_ → post_ b0_ b1_) (h : wj_X6_isPattern_64 K64 post x1 x3 x4 x5 u) : wj_X6_isPattern_64 K64_ post_ x1 x3 x4 x5 u := by
  refine ⟨fun cc1 => ?_, fun cc2 => ?_⟩
  · have hh3 := h.1 cc1
    exact hp _ _ (RA_rf u) hh3
  · have hh4 := h.2 cc2
    refine f_wp_X5_wordAt (fun r16 u17 rr6 hh5 => ?_) hh4
    have rr7 : RA u u17 := RA_tr (RA_rf u) rr6
    refine ⟨fun cc8 => ?_, fun cc9 => ?_⟩
    · have hh10 := hh5.1 cc8
      exact f_wj_X6_isPattern_107 (fun _ _ _ _ v_ rv_ h_ => hK64 _ _ _ _ v_ (RA_tr rr7 rv_) h_) (fun _ v_ rv_ h_ => hp _ v_ (RA_tr rr7 rv_) h_) hh10
    · have hh11 := hh5.2 cc9
      intro y19 ee12
      have hh13 := hh11 y19 ee12
      refine f_wp_X5_wordAt (fun r20 u21 rr15 hh14 => ?_) hh13
      have rr16 : RA u u21 := RA_tr rr7 rr15
      refine ⟨fun cc17 => ?_, fun cc18 => ?_⟩
      · have hh19 := hh14.1 cc17
        exact f_wj_X6_isPattern_107 (fun _ _ _ _ v_ rv_ h_ => hK64 _ _ _ _ v_ (RA_tr rr16 rv_) h_) (fun _ v_ rv_ h_ => hp _ v_ (RA_tr rr16 rv_) h_) hh19
      · have hh20 := hh14.2 cc18
        exact hp _ _ rr16 hh20
theorem f_wp_X6_isPattern {x1 : Int32} {u : mS} {post post_ : Int32 → mS → Prop} (hp : ∀ (b0_ : Int32) (b1_ : mS), RA u b1_ → post b0_ b1_ → post_ b0_ b1_) (h : wp_X6_isPattern x1 u post) : wp_X6_isPattern x1 u post_ := by
  intro y1 ee1
  have hh2 := h y1 ee1
  refine f_wp_X5_wordAt (fun r2 u3 rr4 hh3 => ?_) hh2
  have rr5 : RA u u3 := RA_tr (RA_rf u) rr4
  refine ⟨fun cc6 => ?_, fun cc7 => ?_⟩
  · have hh8 := hh3.1 cc6
    exact hp _ _ rr5 hh8
  · have hh9 := hh3.2 cc7
    refine f_wp_X5_wordAt (fun r5 u6 rr11 hh10 => ?_) hh9
    have rr12 : RA u u6 := RA_tr rr5 rr11
    refine ⟨fun cc13 => ?_, fun cc14 => ?_⟩
    · have hh15 := hh10.1 cc13
      exact hp _ _ rr12 hh15
    · have hh16 := hh10.2 cc14
      refine f_wp_X5_isHeld (fun r8 u9 rr18 hh17 => ?_) hh16
      have rr19 : RA u u9 := RA_tr rr12 rr18
      refine ⟨fun cc20 => ?_, fun cc21 => ?_⟩
      · have hh22 := hh17.1 cc20
        refine f_wp_X5_after (fun r11 u12 rr24 hh23 => ?_) hh22
        have rr25 : RA u u12 := RA_tr rr19 rr24
        refine f_wp_X5_after (fun r13 u14 rr27 hh26 => ?_) hh23
        have rr28 : RA u u14 := RA_tr rr25 rr27
        obtain ⟨nn29, hh30⟩ := hh26
        refine ⟨nn29, mL5_mo RA RA_rf ?_ nn29 _ _ _ _ _ (RA_rf _) hh30⟩
        intro K_ K2_ z_ hz_ hK_ _ _ _ _ h_
        exact f_wj_X6_isPattern_64 (fun _ _ _ _ v_ rv_ h_ => hK_ _ _ _ _ v_ (RA_tr hz_ rv_) h_) (fun _ v_ rv_ h_ => hp _ v_ (RA_tr rr28 (RA_tr hz_ rv_)) h_) h_
      · have hh31 := hh17.2 cc21
        exact hp _ _ rr19 hh31
theorem f_wj_X5_setVariable_35 {post post_ : mS → Prop} {z0 : Int32} {z1 : Int32} {u : mS} (hp : ∀ (b0_ : mS), RA u b0_ → post b0_ → post_ b0_) (h : wj_X5_setVariable_35 post z0 z1 u) : wj_X5_setVariable_35 post_ z0 z1 u := by
  refine ⟨h.1, ?_⟩
  have hh1 := h.2
  intro u7 ee2
  have hh3 := hh1 u7 ee2
  have rr4 : RA u u7 := by rw [ee2]; exact RA_put (RA_rf u) (by decide)
  exact hp _ rr4 hh3
theorem f_wp_X5_setVariable {x1 : Int32} {x2 : Int32} {u : mS} {post post_ : mS → Prop} (hp : ∀ (b0_ : mS), RA u b0_ → post b0_ → post_ b0_) (h : wp_X5_setVariable x1 x2 u post) : wp_X5_setVariable x1 x2 u post_ := by
  refine ⟨fun cc1 => ?_, fun cc2 => ?_⟩
  · have hh3 := h.1 cc1
    exact hp _ (RA_rf u) hh3
  · have hh4 := h.2 cc2
    intro y2 ee5
    have hh6 := hh4 y2 ee5
    refine ⟨fun cc7 => ?_, fun cc8 => ?_⟩
    · have hh9 := hh6.1 cc7
      exact hp _ (RA_rf u) hh9
    · have hh10 := hh6.2 cc8
      refine ⟨fun cc11 => ?_, fun cc12 => ?_⟩
      · have hh13 := hh10.1 cc11
        exact hp _ (RA_rf u) hh13
      · have hh14 := hh10.2 cc12
        refine ⟨fun cc15 => ?_, fun cc16 => ?_⟩
        · have hh17 := hh14.1 cc15
          intro y6 ee18
          have hh19 := hh17 y6 ee18
          exact f_wj_X5_setVariable_35 (fun v_ rv_ h_ => hp v_ (RA_tr (RA_rf u) rv_) h_) hh19
        · have hh20 := hh14.2 cc16
          exact f_wj_X5_setVariable_35 (fun v_ rv_ h_ => hp v_ (RA_tr (RA_rf u) rv_) h_) hh20
theorem f_wj_X6_linkUses_24 {K24 K24_ : Int32 → Int32 → Int32 → Int32 → mS → Prop} {post post_ : mS → Prop} {x2 : Int32} {x3 : Int32} {x4 : Int32} {x5 : Int32} {u : mS} (hK24 : ∀ (b0_ : Int32) (b1_ : Int32) (b2_ : Int32) (b3_ : Int32) (b4_ : mS), RA u b4_ → K24 b0_ b1_ b2_ b3_ b4_ → K24_ b0_ b1_ b2_ b3_ b4_) (hp : ∀ (b0_ : mS), RA u b0_ → post b0_ → post_ b0_) (h : wj_X6_linkUses_24 K24 post x2 x3 x4 x5 u) : wj_X6_linkUses_24 K24_ post_ x2 x3 x4 x5 u := by
  refine ⟨fun cc1 => ?_, fun cc2 => ?_⟩
  · have hh3 := h.1 cc1
    exact hp _ (RA_rf u) hh3
  · have hh4 := h.2 cc2
    refine f_wp_X5_findName (fun r7 u8 rr6 hh5 => ?_) hh4
    have rr7 : RA u u8 := RA_tr (RA_rf u) rr6
    refine f_wp_X5_setVariable (fun u10 rr9 hh8 => ?_) hh5
    have rr10 : RA u u10 := RA_tr rr7 rr9
    intro y11 ee11
    have hh12 := hh8 y11 ee11
    exact hK24 _ _ _ _ _ rr10 hh12
theorem f_wp_X6_linkUses {x1 : Int32} {x2 : Int32} {u : mS} {post post_ : mS → Prop} (hp : ∀ (b0_ : mS), RA u b0_ → post b0_ → post_ b0_) (h : wp_X6_linkUses x1 x2 u post) : wp_X6_linkUses x1 x2 u post_ := by
  intro y1 ee1
  have hh2 := h y1 ee1
  refine f_wp_X5_after (fun r2 u3 rr4 hh3 => ?_) hh2
  have rr5 : RA u u3 := RA_tr (RA_rf u) rr4
  refine f_wp_X5_after (fun r4 u5 rr7 hh6 => ?_) hh3
  have rr8 : RA u u5 := RA_tr rr5 rr7
  obtain ⟨nn9, hh10⟩ := hh6
  refine ⟨nn9, mL5_mo RA RA_rf ?_ nn9 _ _ _ _ _ (RA_rf _) hh10⟩
  intro K_ K2_ z_ hz_ hK_ _ _ _ _ h_
  exact f_wj_X6_linkUses_24 (fun _ _ _ _ v_ rv_ h_ => hK_ _ _ _ _ v_ (RA_tr hz_ rv_) h_) (fun v_ rv_ h_ => hp v_ (RA_tr rr8 (RA_tr hz_ rv_)) h_) h_
theorem f_wp_X5_variableAt {x1 : Int32} {u : mS} {post post_ : Int32 → mS → Prop} (hp : ∀ (b0_ : Int32) (b1_ : mS), RA u b1_ → post b0_ b1_ → post_ b0_ b1_) (h : wp_X5_variableAt x1 u post) : wp_X5_variableAt x1 u post_ := by
  refine ⟨fun cc1 => ?_, fun cc2 => ?_⟩
  · have hh3 := h.1 cc1
    exact hp _ _ (RA_rf u) hh3
  · have hh4 := h.2 cc2
    intro y2 ee5
    have hh6 := hh4 y2 ee5
    refine ⟨fun cc7 => ?_, fun cc8 => ?_⟩
    · have hh9 := hh6.1 cc7
      exact hp _ _ (RA_rf u) hh9
    · have hh10 := hh6.2 cc8
      refine ⟨fun cc11 => ?_, fun cc12 => ?_⟩
      · have hh13 := hh10.1 cc11
        exact hp _ _ (RA_rf u) hh13
      · have hh14 := hh10.2 cc12
        refine ⟨hh14.1, ?_⟩
        have hh15 := hh14.2
        intro y5 ee16
        have hh17 := hh15 y5 ee16
        refine ⟨fun cc18 => ?_, fun cc19 => ?_⟩
        · have hh20 := hh17.1 cc18
          exact hp _ _ (RA_rf u) hh20
        · have hh21 := hh17.2 cc19
          refine ⟨hh21.1, ?_⟩
          have hh22 := hh21.2
          intro y7 ee23
          have hh24 := hh22 y7 ee23
          intro y8 ee25
          have hh26 := hh24 y8 ee25
          exact hp _ _ (RA_rf u) hh26
theorem f_wj_X5_hasUse_23 {K23 K23_ : Int32 → Int32 → mS → Prop} {post post_ : Int32 → mS → Prop} {x1 : Int32} {x2 : Int32} {u : mS} (hK23 : ∀ (b0_ : Int32) (b1_ : Int32) (b2_ : mS), RA u b2_ → K23 b0_ b1_ b2_ → K23_ b0_ b1_ b2_) (hp : ∀ (b0_ : Int32) (b1_ : mS), RA u b1_ → post b0_ b1_ → post_ b0_ b1_) (h : wj_X5_hasUse_23 K23 post x1 x2 u) : wj_X5_hasUse_23 K23_ post_ x1 x2 u := by
  refine ⟨h.1, ?_⟩
  have hh1 := h.2
  intro y5 ee2
  have hh3 := hh1 y5 ee2
  intro y6 ee4
  have hh5 := hh3 y6 ee4
  refine ⟨fun cc6 => ?_, fun cc7 => ?_⟩
  · have hh8 := hh5.1 cc6
    exact hp _ _ (RA_rf u) hh8
  · have hh9 := hh5.2 cc7
    intro y8 ee10
    have hh11 := hh9 y8 ee10
    refine ⟨fun cc12 => ?_, fun cc13 => ?_⟩
    · have hh14 := hh11.1 cc12
      exact hp _ _ (RA_rf u) hh14
    · have hh15 := hh11.2 cc13
      refine ⟨fun cc16 => ?_, fun cc17 => ?_⟩
      · have hh18 := hh15.1 cc16
        exact hp _ _ (RA_rf u) hh18
      · have hh19 := hh15.2 cc17
        refine ⟨hh19.1, ?_⟩
        have hh20 := hh19.2
        intro y11 ee21
        have hh22 := hh20 y11 ee21
        refine ⟨fun cc23 => ?_, fun cc24 => ?_⟩
        · have hh25 := hh22.1 cc23
          intro y13 ee26
          have hh27 := hh25 y13 ee26
          exact hK23 _ _ _ (RA_rf u) hh27
        · have hh28 := hh22.2 cc24
          exact hp _ _ (RA_rf u) hh28
theorem f_wp_X5_hasUse {x1 : Int32} {u : mS} {post post_ : Int32 → mS → Prop} (hp : ∀ (b0_ : Int32) (b1_ : mS), RA u b1_ → post b0_ b1_ → post_ b0_ b1_) (h : wp_X5_hasUse x1 u post) : wp_X5_hasUse x1 u post_ := by
  refine ⟨fun cc1 => ?_, fun cc2 => ?_⟩
  · have hh3 := h.1 cc1
    exact hp _ _ (RA_rf u) hh3
  · have hh4 := h.2 cc2
    intro y2 ee5
    have hh6 := hh4 y2 ee5
    refine ⟨fun cc7 => ?_, fun cc8 => ?_⟩
    · have hh9 := hh6.1 cc7
      exact hp _ _ (RA_rf u) hh9
    · have hh10 := hh6.2 cc8
      refine ⟨fun cc11 => ?_, fun cc12 => ?_⟩
      · have hh13 := hh10.1 cc11
        obtain ⟨nn14, hh15⟩ := hh13
        refine ⟨nn14, mL3_mo RA RA_rf ?_ nn14 _ _ _ (RA_rf _) hh15⟩
        intro K_ K2_ z_ hz_ hK_ _ _ h_
        exact f_wj_X5_hasUse_23 (fun _ _ v_ rv_ h_ => hK_ _ _ v_ (RA_tr hz_ rv_) h_) (fun _ v_ rv_ h_ => hp _ v_ (RA_tr (RA_rf u) (RA_tr hz_ rv_)) h_) h_
      · have hh16 := hh10.2 cc12
        exact hp _ _ (RA_rf u) hh16
theorem f_wj_X6_isTemplate_85 {K12 K12_ : Int32 → Int32 → Int32 → Int32 → mS → Prop} {post post_ : Int32 → mS → Prop} {x1 : Int32} {x2 : Int32} {x3 : Int32} {x4 : Int32} {u : mS} (hK12 : ∀ (b0_ : Int32) (b1_ : Int32) (b2_ : Int32) (b3_ : Int32) (b4_ : mS), RA u b4_ → K12 b0_ b1_ b2_ b3_ b4_ → K12_ b0_ b1_ b2_ b3_ b4_) (hp : ∀ (b0_ : Int32) (b1_ : mS), RA u b1_ → post b0_ b1_ → post_ b0_ b1_) (h : wj_X6_isTemplate_85 K12 post x1 x2 x3 x4 u) : wj_X6_isTemplate_85 K12_ post_ x1 x2 x3 x4 u := by
  intro y18 ee1
  have hh2 := h y18 ee1
  exact hK12 _ _ _ _ _ (RA_rf u) hh2
theorem f_wj_X6_isTemplate_59 {K12 K12_ : Int32 → Int32 → Int32 → Int32 → mS → Prop} {post post_ : Int32 → mS → Prop} {x1 : Int32} {x2 : Int32} {x3 : Int32} {x4 : Int32} {u : mS} (hK12 : ∀ (b0_ : Int32) (b1_ : Int32) (b2_ : Int32) (b3_ : Int32) (b4_ : mS), RA u b4_ → K12 b0_ b1_ b2_ b3_ b4_ → K12_ b0_ b1_ b2_ b3_ b4_) (hp : ∀ (b0_ : Int32) (b1_ : mS), RA u b1_ → post b0_ b1_ → post_ b0_ b1_) (h : wj_X6_isTemplate_59 K12 post x1 x2 x3 x4 u) : wj_X6_isTemplate_59 K12_ post_ x1 x2 x3 x4 u := by
  refine f_wp_X5_isHeld (fun r12 u13 rr2 hh1 => ?_) h
  have rr3 : RA u u13 := RA_tr (RA_rf u) rr2
  refine ⟨fun cc4 => ?_, fun cc5 => ?_⟩
  · have hh6 := hh1.1 cc4
    exact f_wj_X6_isTemplate_85 (fun _ _ _ _ v_ rv_ h_ => hK12 _ _ _ _ v_ (RA_tr rr3 rv_) h_) (fun _ v_ rv_ h_ => hp _ v_ (RA_tr rr3 rv_) h_) hh6
  · have hh7 := hh1.2 cc5
    refine f_wp_X5_hasUse (fun r15 u16 rr9 hh8 => ?_) hh7
    have rr10 : RA u u16 := RA_tr rr3 rr9
    refine ⟨fun cc11 => ?_, fun cc12 => ?_⟩
    · have hh13 := hh8.1 cc11
      exact f_wj_X6_isTemplate_85 (fun _ _ _ _ v_ rv_ h_ => hK12 _ _ _ _ v_ (RA_tr rr10 rv_) h_) (fun _ v_ rv_ h_ => hp _ v_ (RA_tr rr10 rv_) h_) hh13
    · have hh14 := hh8.2 cc12
      exact hp _ _ rr10 hh14
theorem f_wj_X6_isTemplate_12 {K12 K12_ : Int32 → Int32 → Int32 → Int32 → mS → Prop} {post post_ : Int32 → mS → Prop} {x1 : Int32} {x2 : Int32} {x3 : Int32} {x4 : Int32} {u : mS} (hK12 : ∀ (b0_ : Int32) (b1_ : Int32) (b2_ : Int32) (b3_ : Int32) (b4_ : mS), RA u b4_ → K12 b0_ b1_ b2_ b3_ b4_ → K12_ b0_ b1_ b2_ b3_ b4_) (hp : ∀ (b0_ : Int32) (b1_ : mS), RA u b1_ → post b0_ b1_ → post_ b0_ b1_) (h : wj_X6_isTemplate_12 K12 post x1 x2 x3 x4 u) : wj_X6_isTemplate_12 K12_ post_ x1 x2 x3 x4 u := by
  refine ⟨fun cc1 => ?_, fun cc2 => ?_⟩
  · have hh3 := h.1 cc1
    exact hp _ _ (RA_rf u) hh3
  · have hh4 := h.2 cc2
    refine f_wp_X5_variableAt (fun r4 u5 rr6 hh5 => ?_) hh4
    have rr7 : RA u u5 := RA_tr (RA_rf u) rr6
    refine ⟨fun cc8 => ?_, fun cc9 => ?_⟩
    · have hh10 := hh5.1 cc8
      exact f_wj_X6_isTemplate_59 (fun _ _ _ _ v_ rv_ h_ => hK12 _ _ _ _ v_ (RA_tr rr7 rv_) h_) (fun _ v_ rv_ h_ => hp _ v_ (RA_tr rr7 rv_) h_) hh10
    · have hh11 := hh5.2 cc9
      refine f_wp_X5_holders (fun r7 u8 rr13 hh12 => ?_) hh11
      have rr14 : RA u u8 := RA_tr rr7 rr13
      refine f_wp_X5_holders (fun r9 u10 rr16 hh15 => ?_) hh12
      have rr17 : RA u u10 := RA_tr rr14 rr16
      refine ⟨fun cc18 => ?_, fun cc19 => ?_⟩
      · have hh20 := hh15.1 cc18
        exact f_wj_X6_isTemplate_59 (fun _ _ _ _ v_ rv_ h_ => hK12 _ _ _ _ v_ (RA_tr rr17 rv_) h_) (fun _ v_ rv_ h_ => hp _ v_ (RA_tr rr17 rv_) h_) hh20
      · have hh21 := hh15.2 cc19
        exact hp _ _ rr17 hh21
theorem f_wp_X6_isTemplate {x1 : Int32} {x2 : Int32} {u : mS} {post post_ : Int32 → mS → Prop} (hp : ∀ (b0_ : Int32) (b1_ : mS), RA u b1_ → post b0_ b1_ → post_ b0_ b1_) (h : wp_X6_isTemplate x1 x2 u post) : wp_X6_isTemplate x1 x2 u post_ := by
  refine f_wp_X5_after (fun r1 u2 rr2 hh1 => ?_) h
  have rr3 : RA u u2 := RA_tr (RA_rf u) rr2
  obtain ⟨nn4, hh5⟩ := hh1
  refine ⟨nn4, mL5_mo RA RA_rf ?_ nn4 _ _ _ _ _ (RA_rf _) hh5⟩
  intro K_ K2_ z_ hz_ hK_ _ _ _ _ h_
  exact f_wj_X6_isTemplate_12 (fun _ _ _ _ v_ rv_ h_ => hK_ _ _ _ _ v_ (RA_tr hz_ rv_) h_) (fun _ v_ rv_ h_ => hp _ v_ (RA_tr rr3 (RA_tr hz_ rv_)) h_) h_
theorem f_wp_X6_isRule {x1 : Int32} {u : mS} {post post_ : Int32 → mS → Prop} (hp : ∀ (b0_ : Int32) (b1_ : mS), RA u b1_ → post b0_ b1_ → post_ b0_ b1_) (h : wp_X6_isRule x1 u post) : wp_X6_isRule x1 u post_ := by
  refine f_wp_X5_plainLength (fun r1 u2 rr2 hh1 => ?_) h
  have rr3 : RA u u2 := RA_tr (RA_rf u) rr2
  refine ⟨fun cc4 => ?_, fun cc5 => ?_⟩
  · have hh6 := hh1.1 cc4
    intro y4 ee7
    have hh8 := hh6 y4 ee7
    refine f_wp_X5_after (fun r5 u6 rr10 hh9 => ?_) hh8
    have rr11 : RA u u6 := RA_tr rr3 rr10
    refine f_wp_X6_isPattern (fun r7 u8 rr13 hh12 => ?_) hh9
    have rr14 : RA u u8 := RA_tr rr11 rr13
    refine ⟨fun cc15 => ?_, fun cc16 => ?_⟩
    · have hh17 := hh12.1 cc15
      refine f_wp_X6_linkUses (fun u11 rr19 hh18 => ?_) hh17
      have rr20 : RA u u11 := RA_tr rr14 rr19
      refine f_wp_X6_isTemplate (fun r12 u13 rr22 hh21 => ?_) hh18
      have rr23 : RA u u13 := RA_tr rr20 rr22
      exact hp _ _ rr23 hh21
    · have hh24 := hh12.2 cc16
      exact hp _ _ rr14 hh24
  · have hh25 := hh1.2 cc5
    exact hp _ _ rr3 hh25
theorem f_wj_X6_isNameWithRules_39 {K39 K39_ : Int32 → Int32 → Int32 → mS → Prop} {post post_ : Int32 → mS → Prop} {x2 : Int32} {x3 : Int32} {x4 : Int32} {u : mS} (hK39 : ∀ (b0_ : Int32) (b1_ : Int32) (b2_ : Int32) (b3_ : mS), RA u b3_ → K39 b0_ b1_ b2_ b3_ → K39_ b0_ b1_ b2_ b3_) (hp : ∀ (b0_ : Int32) (b1_ : mS), RA u b1_ → post b0_ b1_ → post_ b0_ b1_) (h : wj_X6_isNameWithRules_39 K39 post x2 x3 x4 u) : wj_X6_isNameWithRules_39 K39_ post_ x2 x3 x4 u := by
  refine ⟨fun cc1 => ?_, fun cc2 => ?_⟩
  · have hh3 := h.1 cc1
    exact hp _ _ (RA_rf u) hh3
  · have hh4 := h.2 cc2
    refine f_wp_X6_isRule (fun r12 u13 rr6 hh5 => ?_) hh4
    have rr7 : RA u u13 := RA_tr (RA_rf u) rr6
    refine ⟨fun cc8 => ?_, fun cc9 => ?_⟩
    · have hh10 := hh5.1 cc8
      refine f_wp_X5_after (fun r15 u16 rr12 hh11 => ?_) hh10
      have rr13 : RA u u16 := RA_tr rr7 rr12
      intro y17 ee14
      have hh15 := hh11 y17 ee14
      exact hK39 _ _ _ _ rr13 hh15
    · have hh16 := hh5.2 cc9
      exact hp _ _ rr7 hh16
theorem f_wp_X6_isNameWithRules {x1 : Int32} {u : mS} {post post_ : Int32 → mS → Prop} (hp : ∀ (b0_ : Int32) (b1_ : mS), RA u b1_ → post b0_ b1_ → post_ b0_ b1_) (h : wp_X6_isNameWithRules x1 u post) : wp_X6_isNameWithRules x1 u post_ := by
  refine f_wp_X5_plainLength (fun r1 u2 rr2 hh1 => ?_) h
  have rr3 : RA u u2 := RA_tr (RA_rf u) rr2
  refine ⟨fun cc4 => ?_, fun cc5 => ?_⟩
  · have hh6 := hh1.1 cc4
    exact hp _ _ rr3 hh6
  · have hh7 := hh1.2 cc5
    intro y4 ee8
    have hh9 := hh7 y4 ee8
    refine f_wp_X5_wordAt (fun r5 u6 rr11 hh10 => ?_) hh9
    have rr12 : RA u u6 := RA_tr rr3 rr11
    refine f_wp_X8_isName (fun r7 u8 rr14 hh13 => ?_) hh10
    have rr15 : RA u u8 := RA_tr rr12 rr14
    refine ⟨fun cc16 => ?_, fun cc17 => ?_⟩
    · have hh18 := hh13.1 cc16
      intro y10 ee19
      have hh20 := hh18 y10 ee19
      obtain ⟨nn21, hh22⟩ := hh20
      refine ⟨nn21, mL4_mo RA RA_rf ?_ nn21 _ _ _ _ (RA_rf _) hh22⟩
      intro K_ K2_ z_ hz_ hK_ _ _ _ h_
      exact f_wj_X6_isNameWithRules_39 (fun _ _ _ v_ rv_ h_ => hK_ _ _ _ v_ (RA_tr hz_ rv_) h_) (fun _ v_ rv_ h_ => hp _ v_ (RA_tr rr15 (RA_tr hz_ rv_)) h_) h_
    · have hh23 := hh13.2 cc17
      exact hp _ _ rr15 hh23
theorem f_wj_X0_expandLs_37 {X X2 : Int32 → Int32 → mS → (mS → Prop) → Prop} {post post_ : mS → Prop} {u : mS} (hX : ∀ (t_ x_ : Int32) (v_ : mS) (q_ q2_ : mS → Prop), (∀ w_, RA v_ w_ → q_ w_ → q2_ w_) → X t_ x_ v_ q_ → X2 t_ x_ v_ q2_) (hp : ∀ (b0_ : mS), RA u b0_ → post b0_ → post_ b0_) (h : wj_X0_expandLs_37 X post u) : wj_X0_expandLs_37 X2 post_ u := by
  refine f_wp_X2_fail (fun u25 rr2 hh1 => ?_) h
  have rr3 : RA u u25 := RA_tr (RA_rf u) rr2
  exact hp _ rr3 hh1
theorem f_wp_X0_expandLs {X X2 : Int32 → Int32 → mS → (mS → Prop) → Prop} {x1 : Int32} {x2 : Int32} {u : mS} {post post_ : mS → Prop} (hX : ∀ (t_ x_ : Int32) (v_ : mS) (q_ q2_ : mS → Prop), (∀ w_, RA v_ w_ → q_ w_ → q2_ w_) → X t_ x_ v_ q_ → X2 t_ x_ v_ q2_) (hp : ∀ (b0_ : mS), RA u b0_ → post b0_ → post_ b0_) (h : wp_X0_expandLs X x1 x2 u post) : wp_X0_expandLs X2 x1 x2 u post_ := by
  intro y1 ee1
  have hh2 := h y1 ee1
  refine f_wp_X5_after (fun r2 u3 rr4 hh3 => ?_) hh2
  have rr5 : RA u u3 := RA_tr (RA_rf u) rr4
  refine f_wp_X5_plainLength (fun r4 u5 rr7 hh6 => ?_) hh3
  have rr8 : RA u u5 := RA_tr rr5 rr7
  refine ⟨fun cc9 => ?_, fun cc10 => ?_⟩
  · have hh11 := hh6.1 cc9
    exact f_wj_X0_expandLs_37 hX (fun v_ rv_ h_ => hp v_ (RA_tr rr8 rv_) h_) hh11
  · have hh12 := hh6.2 cc10
    refine f_wp_X6_isNameWithRules (fun r7 u8 rr14 hh13 => ?_) hh12
    have rr15 : RA u u8 := RA_tr rr8 rr14
    refine ⟨fun cc16 => ?_, fun cc17 => ?_⟩
    · have hh18 := hh13.1 cc16
      refine f_wp_X0_newScope (fun r10 u11 rr20 hh19 => ?_) hh18
      have rr21 : RA u u11 := RA_tr rr15 rr20
      refine ⟨fun cc22 => ?_, fun cc23 => ?_⟩
      · have hh24 := hh19.1 cc22
        intro y13 ee25
        have hh26 := hh24 y13 ee25
        refine f_wp_X5_turnScope (fun u15 rr28 hh27 => ?_) hh26
        have rr29 : RA u u15 := RA_tr rr21 rr28
        refine f_wp_X5_turnScope (fun u17 rr31 hh30 => ?_) hh27
        have rr32 : RA u u17 := RA_tr rr29 rr31
        intro y18 ee33
        have hh34 := hh30 y18 ee33
        refine f_wp_X0_bind (fun r19 u20 rr36 hh35 => ?_) hh34
        have rr37 : RA u u20 := RA_tr rr32 rr36
        refine ⟨fun cc38 => ?_, fun cc39 => ?_⟩
        · have hh40 := hh35.1 cc38
          exact hp _ rr37 hh40
        · have hh41 := hh35.2 cc39
          intro y22 ee42
          have hh43 := hh41 y22 ee42
          refine hX _ _ _ _ _ (fun u23 rr45 hh44 => ?_) hh43
          have rr46 : RA u u23 := RA_tr rr37 rr45
          exact hp _ rr46 hh44
      · have hh47 := hh19.2 cc23
        exact hp _ rr21 hh47
    · have hh48 := hh13.2 cc17
      exact f_wj_X0_expandLs_37 hX (fun v_ rv_ h_ => hp v_ (RA_tr rr15 rv_) h_) hh48
theorem f_wp_X1_hasRoomFor {x1 : Int32} {x2 : Int32} {u : mS} {post post_ : Int32 → mS → Prop} (hp : ∀ (b0_ : Int32) (b1_ : mS), RA u b1_ → post b0_ b1_ → post_ b0_ b1_) (h : wp_X1_hasRoomFor x1 x2 u post) : wp_X1_hasRoomFor x1 x2 u post_ := by
  refine f_wp_X5_plainLength (fun r1 u2 rr2 hh1 => ?_) h
  have rr3 : RA u u2 := RA_tr (RA_rf u) rr2
  intro y3 ee4
  have hh5 := hh1 y3 ee4
  refine f_wp_X5_itemsFrom (fun r4 u5 rr7 hh6 => ?_) hh5
  have rr8 : RA u u5 := RA_tr rr3 rr7
  refine f_wp_X5_hasDots (fun r6 u7 rr10 hh9 => ?_) hh6
  have rr11 : RA u u7 := RA_tr rr8 rr10
  refine ⟨fun cc12 => ?_, fun cc13 => ?_⟩
  · have hh14 := hh9.1 cc12
    refine ⟨fun cc15 => ?_, fun cc16 => ?_⟩
    · have hh17 := hh14.1 cc15
      exact hp _ _ rr11 hh17
    · have hh18 := hh14.2 cc16
      exact hp _ _ rr11 hh18
  · have hh19 := hh9.2 cc13
    intro y10 ee20
    have hh21 := hh19 y10 ee20
    refine ⟨fun cc22 => ?_, fun cc23 => ?_⟩
    · have hh24 := hh21.1 cc22
      exact hp _ _ rr11 hh24
    · have hh25 := hh21.2 cc23
      exact hp _ _ rr11 hh25
theorem f_wp_X4_clear {u : mS} {post post_ : mS → Prop} (hp : ∀ (b0_ : mS), RA u b0_ → post b0_ → post_ b0_) (h : wp_X4_clear u post) : wp_X4_clear u post_ := by
  intro u1 ee1
  have hh2 := h u1 ee1
  have rr3 : RA u u1 := by rw [ee1]; exact RA_set (RA_rf u) (by decide)
  exact hp _ rr3 hh2
theorem f_wp_X4_hasInner {u : mS} {post post_ : Int32 → mS → Prop} (hp : ∀ (b0_ : Int32) (b1_ : mS), RA u b1_ → post b0_ b1_ → post_ b0_ b1_) (h : wp_X4_hasInner u post) : wp_X4_hasInner u post_ := by
  intro y1 ee1
  have hh2 := h y1 ee1
  refine ⟨fun cc3 => ?_, fun cc4 => ?_⟩
  · have hh5 := hh2.1 cc3
    exact hp _ _ (RA_rf u) hh5
  · have hh6 := hh2.2 cc4
    intro y3 ee7
    have hh8 := hh6 y3 ee7
    refine ⟨fun cc9 => ?_, fun cc10 => ?_⟩
    · have hh11 := hh8.1 cc9
      exact hp _ _ (RA_rf u) hh11
    · have hh12 := hh8.2 cc10
      exact hp _ _ (RA_rf u) hh12
theorem f_wp_X4_isIn {x1 : Int32} {u : mS} {post post_ : Int32 → mS → Prop} (hp : ∀ (b0_ : Int32) (b1_ : mS), RA u b1_ → post b0_ b1_ → post_ b0_ b1_) (h : wp_X4_isIn x1 u post) : wp_X4_isIn x1 u post_ := by
  refine f_wp_X4_hasInner (fun r1 u2 rr2 hh1 => ?_) h
  have rr3 : RA u u2 := RA_tr (RA_rf u) rr2
  refine ⟨fun cc4 => ?_, fun cc5 => ?_⟩
  · have hh6 := hh1.1 cc4
    exact hp _ _ rr3 hh6
  · have hh7 := hh1.2 cc5
    intro y4 ee8
    have hh9 := hh7 y4 ee8
    intro y5 ee10
    have hh11 := hh9 y5 ee10
    refine ⟨hh11.1, ?_⟩
    have hh12 := hh11.2
    intro y6 ee13
    have hh14 := hh12 y6 ee13
    refine ⟨fun cc15 => ?_, fun cc16 => ?_⟩
    · have hh17 := hh14.1 cc15
      exact hp _ _ rr3 hh17
    · have hh18 := hh14.2 cc16
      exact hp _ _ rr3 hh18
theorem f_wp_X4_enter {x1 : Int32} {x2 : Int32} {u : mS} {post post_ : mS → Prop} (hp : ∀ (b0_ : mS), RA u b0_ → post b0_ → post_ b0_) (h : wp_X4_enter x1 x2 u post) : wp_X4_enter x1 x2 u post_ := by
  intro y1 ee1
  have hh2 := h y1 ee1
  refine ⟨fun cc3 => ?_, fun cc4 => ?_⟩
  · have hh5 := hh2.1 cc3
    exact hp _ (RA_rf u) hh5
  · have hh6 := hh2.2 cc4
    intro y3 ee7
    have hh8 := hh6 y3 ee7
    refine ⟨fun cc9 => ?_, fun cc10 => ?_⟩
    · have hh11 := hh8.1 cc9
      exact hp _ (RA_rf u) hh11
    · have hh12 := hh8.2 cc10
      intro y5 ee13
      have hh14 := hh12 y5 ee13
      refine ⟨hh14.1, ?_⟩
      have hh15 := hh14.2
      intro u6 ee16
      have hh17 := hh15 u6 ee16
      have rr18 : RA u u6 := by rw [ee16]; exact RA_put (RA_rf u) (by decide)
      intro y7 ee19
      have hh20 := hh17 y7 ee19
      refine ⟨hh20.1, ?_⟩
      have hh21 := hh20.2
      intro u8 ee22
      have hh23 := hh21 u8 ee22
      have rr24 : RA u u8 := by rw [ee22]; exact RA_put rr18 (by decide)
      intro y9 ee25
      have hh26 := hh23 y9 ee25
      refine ⟨hh26.1, ?_⟩
      have hh27 := hh26.2
      intro u10 ee28
      have hh29 := hh27 u10 ee28
      have rr30 : RA u u10 := by rw [ee28]; exact RA_put rr24 (by decide)
      intro y11 ee31
      have hh32 := hh29 y11 ee31
      intro y12 ee33
      have hh34 := hh32 y12 ee33
      intro u13 ee35
      have hh36 := hh34 u13 ee35
      have rr37 : RA u u13 := by rw [ee35]; exact RA_set rr30 (by decide)
      exact hp _ rr37 hh36
theorem f_wp_X4_leave {x1 : Int32} {u : mS} {post post_ : Int32 → mS → Prop} (hp : ∀ (b0_ : Int32) (b1_ : mS), RA u b1_ → post b0_ b1_ → post_ b0_ b1_) (h : wp_X4_leave x1 u post) : wp_X4_leave x1 u post_ := by
  refine f_wp_X4_hasInner (fun r1 u2 rr2 hh1 => ?_) h
  have rr3 : RA u u2 := RA_tr (RA_rf u) rr2
  refine ⟨fun cc4 => ?_, fun cc5 => ?_⟩
  · have hh6 := hh1.1 cc4
    intro y4 ee7
    have hh8 := hh6 y4 ee7
    intro y5 ee9
    have hh10 := hh8 y5 ee9
    refine ⟨hh10.1, ?_⟩
    have hh11 := hh10.2
    intro y6 ee12
    have hh13 := hh11 y6 ee12
    intro y7 ee14
    have hh15 := hh13 y7 ee14
    refine ⟨hh15.1, ?_⟩
    have hh16 := hh15.2
    intro u8 ee17
    have hh18 := hh16 u8 ee17
    have rr19 : RA u u8 := by rw [ee17]; exact RA_put rr3 (by decide)
    intro y9 ee20
    have hh21 := hh18 y9 ee20
    intro y10 ee22
    have hh23 := hh21 y10 ee22
    refine ⟨hh23.1, ?_⟩
    have hh24 := hh23.2
    intro y11 ee25
    have hh26 := hh24 y11 ee25
    intro y12 ee27
    have hh28 := hh26 y12 ee27
    intro y13 ee29
    have hh30 := hh28 y13 ee29
    refine ⟨hh30.1, ?_⟩
    have hh31 := hh30.2
    intro y14 ee32
    have hh33 := hh31 y14 ee32
    refine ⟨fun cc34 => ?_, fun cc35 => ?_⟩
    · have hh36 := hh33.1 cc34
      intro y16 ee37
      have hh38 := hh36 y16 ee37
      intro y17 ee39
      have hh40 := hh38 y17 ee39
      intro u18 ee41
      have hh42 := hh40 u18 ee41
      have rr43 : RA u u18 := by rw [ee41]; exact RA_set rr19 (by decide)
      intro y19 ee44
      have hh45 := hh42 y19 ee44
      exact hp _ _ rr43 hh45
    · have hh46 := hh33.2 cc35
      intro y20 ee47
      have hh48 := hh46 y20 ee47
      intro y21 ee49
      have hh50 := hh48 y21 ee49
      refine ⟨hh50.1, ?_⟩
      have hh51 := hh50.2
      intro y22 ee52
      have hh53 := hh51 y22 ee52
      exact hp _ _ rr19 hh53
  · have hh54 := hh1.2 cc5
    intro y23 ee55
    have hh56 := hh54 y23 ee55
    exact hp _ _ rr3 hh56
theorem f_wj_X1_matches_243 {K54 K54_ : Int32 → Int32 → Int32 → Int32 → mS → Prop} {post post_ : Int32 → mS → Prop} {x3 : Int32} {x4 : Int32} {x5 : Int32} {x6 : Int32} {u : mS} (hK54 : ∀ (b0_ : Int32) (b1_ : Int32) (b2_ : Int32) (b3_ : Int32) (b4_ : mS), RA u b4_ → K54 b0_ b1_ b2_ b3_ b4_ → K54_ b0_ b1_ b2_ b3_ b4_) (hp : ∀ (b0_ : Int32) (b1_ : mS), RA u b1_ → post b0_ b1_ → post_ b0_ b1_) (h : wj_X1_matches_243 K54 post x3 x4 x5 x6 u) : wj_X1_matches_243 K54_ post_ x3 x4 x5 x6 u := by
  intro y30 ee1
  have hh2 := h y30 ee1
  exact hK54 _ _ _ _ _ (RA_rf u) hh2
theorem f_wj_X1_matches_181 {K54 K54_ : Int32 → Int32 → Int32 → Int32 → mS → Prop} {post post_ : Int32 → mS → Prop} {x3 : Int32} {x4 : Int32} {x5 : Int32} {x6 : Int32} {u : mS} (hK54 : ∀ (b0_ : Int32) (b1_ : Int32) (b2_ : Int32) (b3_ : Int32) (b4_ : mS), RA u b4_ → K54 b0_ b1_ b2_ b3_ b4_ → K54_ b0_ b1_ b2_ b3_ b4_) (hp : ∀ (b0_ : Int32) (b1_ : mS), RA u b1_ → post b0_ b1_ → post_ b0_ b1_) (h : wj_X1_matches_181 K54 post x3 x4 x5 x6 u) : wj_X1_matches_181 K54_ post_ x3 x4 x5 x6 u := by
  intro y49 ee1
  have hh2 := h y49 ee1
  refine f_wp_X5_after (fun r50 u51 rr4 hh3 => ?_) hh2
  have rr5 : RA u u51 := RA_tr (RA_rf u) rr4
  exact f_wj_X1_matches_243 (fun _ _ _ _ v_ rv_ h_ => hK54 _ _ _ _ v_ (RA_tr rr5 rv_) h_) (fun _ v_ rv_ h_ => hp _ v_ (RA_tr rr5 rv_) h_) hh3
theorem f_wj_X1_matches_232 {K54 K54_ : Int32 → Int32 → Int32 → Int32 → mS → Prop} {post post_ : Int32 → mS → Prop} {x3 : Int32} {x4 : Int32} {x5 : Int32} {x6 : Int32} {u : mS} (hK54 : ∀ (b0_ : Int32) (b1_ : Int32) (b2_ : Int32) (b3_ : Int32) (b4_ : mS), RA u b4_ → K54 b0_ b1_ b2_ b3_ b4_ → K54_ b0_ b1_ b2_ b3_ b4_) (hp : ∀ (b0_ : Int32) (b1_ : mS), RA u b1_ → post b0_ b1_ → post_ b0_ b1_) (h : wj_X1_matches_232 K54 post x3 x4 x5 x6 u) : wj_X1_matches_232 K54_ post_ x3 x4 x5 x6 u := by
  intro y47 ee1
  have hh2 := h y47 ee1
  intro y48 ee3
  have hh4 := hh2 y48 ee3
  exact f_wj_X1_matches_243 (fun _ _ _ _ v_ rv_ h_ => hK54 _ _ _ _ v_ (RA_tr (RA_rf u) rv_) h_) (fun _ v_ rv_ h_ => hp _ v_ (RA_tr (RA_rf u) rv_) h_) hh4
theorem f_wj_X1_matches_134 {K54 K54_ : Int32 → Int32 → Int32 → Int32 → mS → Prop} {post post_ : Int32 → mS → Prop} {x3 : Int32} {x4 : Int32} {x5 : Int32} {x6 : Int32} {u : mS} (hK54 : ∀ (b0_ : Int32) (b1_ : Int32) (b2_ : Int32) (b3_ : Int32) (b4_ : mS), RA u b4_ → K54 b0_ b1_ b2_ b3_ b4_ → K54_ b0_ b1_ b2_ b3_ b4_) (hp : ∀ (b0_ : Int32) (b1_ : mS), RA u b1_ → post b0_ b1_ → post_ b0_ b1_) (h : wj_X1_matches_134 K54 post x3 x4 x5 x6 u) : wj_X1_matches_134 K54_ post_ x3 x4 x5 x6 u := by
  refine f_wp_X5_wordAt (fun r31 u32 rr2 hh1 => ?_) h
  have rr3 : RA u u32 := RA_tr (RA_rf u) rr2
  refine ⟨fun cc4 => ?_, fun cc5 => ?_⟩
  · have hh6 := hh1.1 cc4
    refine f_wp_X8_isName (fun r34 u35 rr8 hh7 => ?_) hh6
    have rr9 : RA u u35 := RA_tr rr3 rr8
    refine ⟨fun cc10 => ?_, fun cc11 => ?_⟩
    · have hh12 := hh7.1 cc10
      exact f_wj_X1_matches_181 (fun _ _ _ _ v_ rv_ h_ => hK54 _ _ _ _ v_ (RA_tr rr9 rv_) h_) (fun _ v_ rv_ h_ => hp _ v_ (RA_tr rr9 rv_) h_) hh12
    · have hh13 := hh7.2 cc11
      refine ⟨fun cc14 => ?_, fun cc15 => ?_⟩
      · have hh16 := hh13.1 cc14
        refine ⟨fun cc17 => ?_, fun cc18 => ?_⟩
        · have hh19 := hh16.1 cc17
          refine f_wp_X5_wordAt (fun r39 u40 rr21 hh20 => ?_) hh19
          have rr22 : RA u u40 := RA_tr rr9 rr21
          refine ⟨fun cc23 => ?_, fun cc24 => ?_⟩
          · have hh25 := hh20.1 cc23
            exact hp _ _ rr22 hh25
          · have hh26 := hh20.2 cc24
            exact f_wj_X1_matches_232 (fun _ _ _ _ v_ rv_ h_ => hK54 _ _ _ _ v_ (RA_tr rr22 rv_) h_) (fun _ v_ rv_ h_ => hp _ v_ (RA_tr rr22 rv_) h_) hh26
        · have hh27 := hh16.2 cc18
          refine f_wp_X1_hasRoomFor (fun r42 u43 rr29 hh28 => ?_) hh27
          have rr30 : RA u u43 := RA_tr rr9 rr29
          refine ⟨fun cc31 => ?_, fun cc32 => ?_⟩
          · have hh33 := hh28.1 cc31
            exact hp _ _ rr30 hh33
          · have hh34 := hh28.2 cc32
            exact f_wj_X1_matches_232 (fun _ _ _ _ v_ rv_ h_ => hK54 _ _ _ _ v_ (RA_tr rr30 rv_) h_) (fun _ v_ rv_ h_ => hp _ v_ (RA_tr rr30 rv_) h_) hh34
      · have hh35 := hh13.2 cc15
        exact f_wj_X1_matches_181 (fun _ _ _ _ v_ rv_ h_ => hK54 _ _ _ _ v_ (RA_tr rr9 rv_) h_) (fun _ v_ rv_ h_ => hp _ v_ (RA_tr rr9 rv_) h_) hh35
  · have hh36 := hh1.2 cc5
    refine f_wp_X4_leave (fun r45 u46 rr38 hh37 => ?_) hh36
    have rr39 : RA u u46 := RA_tr rr3 rr38
    exact f_wj_X1_matches_243 (fun _ _ _ _ v_ rv_ h_ => hK54 _ _ _ _ v_ (RA_tr rr39 rv_) h_) (fun _ v_ rv_ h_ => hp _ v_ (RA_tr rr39 rv_) h_) hh37
theorem f_wj_X1_matches_54 {K54 K54_ : Int32 → Int32 → Int32 → Int32 → mS → Prop} {post post_ : Int32 → mS → Prop} {x3 : Int32} {x4 : Int32} {x5 : Int32} {x6 : Int32} {u : mS} (hK54 : ∀ (b0_ : Int32) (b1_ : Int32) (b2_ : Int32) (b3_ : Int32) (b4_ : mS), RA u b4_ → K54 b0_ b1_ b2_ b3_ b4_ → K54_ b0_ b1_ b2_ b3_ b4_) (hp : ∀ (b0_ : Int32) (b1_ : mS), RA u b1_ → post b0_ b1_ → post_ b0_ b1_) (h : wj_X1_matches_54 K54 post x3 x4 x5 x6 u) : wj_X1_matches_54 K54_ post_ x3 x4 x5 x6 u := by
  refine ⟨fun cc1 => ?_, fun cc2 => ?_⟩
  · have hh3 := h.1 cc1
    exact hp _ _ (RA_rf u) hh3
  · have hh4 := h.2 cc2
    refine ⟨fun cc5 => ?_, fun cc6 => ?_⟩
    · have hh7 := hh4.1 cc5
      exact hp _ _ (RA_rf u) hh7
    · have hh8 := hh4.2 cc6
      refine f_wp_X5_isHeld (fun r16 u17 rr10 hh9 => ?_) hh8
      have rr11 : RA u u17 := RA_tr (RA_rf u) rr10
      refine ⟨fun cc12 => ?_, fun cc13 => ?_⟩
      · have hh14 := hh9.1 cc12
        exact f_wj_X1_matches_134 (fun _ _ _ _ v_ rv_ h_ => hK54 _ _ _ _ v_ (RA_tr rr11 rv_) h_) (fun _ v_ rv_ h_ => hp _ v_ (RA_tr rr11 rv_) h_) hh14
      · have hh15 := hh9.2 cc13
        refine f_wp_X4_isIn (fun r19 u20 rr17 hh16 => ?_) hh15
        have rr18 : RA u u20 := RA_tr rr11 rr17
        refine ⟨fun cc19 => ?_, fun cc20 => ?_⟩
        · have hh21 := hh16.1 cc19
          exact f_wj_X1_matches_134 (fun _ _ _ _ v_ rv_ h_ => hK54 _ _ _ _ v_ (RA_tr rr18 rv_) h_) (fun _ v_ rv_ h_ => hp _ v_ (RA_tr rr18 rv_) h_) hh21
        · have hh22 := hh16.2 cc20
          refine f_wp_X5_itemsFrom (fun r22 u23 rr24 hh23 => ?_) hh22
          have rr25 : RA u u23 := RA_tr rr18 rr24
          refine ⟨fun cc26 => ?_, fun cc27 => ?_⟩
          · have hh28 := hh23.1 cc26
            refine f_wp_X4_enter (fun u26 rr30 hh29 => ?_) hh28
            have rr31 : RA u u26 := RA_tr rr25 rr30
            exact f_wj_X1_matches_134 (fun _ _ _ _ v_ rv_ h_ => hK54 _ _ _ _ v_ (RA_tr rr31 rv_) h_) (fun _ v_ rv_ h_ => hp _ v_ (RA_tr rr31 rv_) h_) hh29
          · have hh32 := hh23.2 cc27
            refine f_wp_X5_after (fun r27 u28 rr34 hh33 => ?_) hh32
            have rr35 : RA u u28 := RA_tr rr25 rr34
            intro y29 ee36
            have hh37 := hh33 y29 ee36
            exact f_wj_X1_matches_243 (fun _ _ _ _ v_ rv_ h_ => hK54 _ _ _ _ v_ (RA_tr rr35 rv_) h_) (fun _ v_ rv_ h_ => hp _ v_ (RA_tr rr35 rv_) h_) hh37
theorem f_wp_X1_matches {x1 : Int32} {x2 : Int32} {u : mS} {post post_ : Int32 → mS → Prop} (hp : ∀ (b0_ : Int32) (b1_ : mS), RA u b1_ → post b0_ b1_ → post_ b0_ b1_) (h : wp_X1_matches x1 x2 u post) : wp_X1_matches x1 x2 u post_ := by
  refine f_wp_X1_hasRoomFor (fun r1 u2 rr2 hh1 => ?_) h
  have rr3 : RA u u2 := RA_tr (RA_rf u) rr2
  refine ⟨fun cc4 => ?_, fun cc5 => ?_⟩
  · have hh6 := hh1.1 cc4
    refine f_wp_X4_clear (fun u5 rr8 hh7 => ?_) hh6
    have rr9 : RA u u5 := RA_tr rr3 rr8
    refine f_wp_X5_after (fun r6 u7 rr11 hh10 => ?_) hh7
    have rr12 : RA u u7 := RA_tr rr9 rr11
    intro y8 ee13
    have hh14 := hh10 y8 ee13
    refine f_wp_X5_after (fun r9 u10 rr16 hh15 => ?_) hh14
    have rr17 : RA u u10 := RA_tr rr12 rr16
    intro y11 ee18
    have hh19 := hh15 y11 ee18
    refine f_wp_X5_after (fun r12 u13 rr21 hh20 => ?_) hh19
    have rr22 : RA u u13 := RA_tr rr17 rr21
    obtain ⟨nn23, hh24⟩ := hh20
    refine ⟨nn23, mL5_mo RA RA_rf ?_ nn23 _ _ _ _ _ (RA_rf _) hh24⟩
    intro K_ K2_ z_ hz_ hK_ _ _ _ _ h_
    exact f_wj_X1_matches_54 (fun _ _ _ _ v_ rv_ h_ => hK_ _ _ _ _ v_ (RA_tr hz_ rv_) h_) (fun _ v_ rv_ h_ => hp _ v_ (RA_tr rr22 (RA_tr hz_ rv_)) h_) h_
  · have hh25 := hh1.2 cc5
    exact hp _ _ rr3 hh25
theorem f_wj_X1_firstRule_17 {K17 K17_ : Int32 → Int32 → Int32 → Int32 → mS → Prop} {post post_ : Int32 → mS → Prop} {x2 : Int32} {x3 : Int32} {x4 : Int32} {x5 : Int32} {u : mS} (hK17 : ∀ (b0_ : Int32) (b1_ : Int32) (b2_ : Int32) (b3_ : Int32) (b4_ : mS), RA u b4_ → K17 b0_ b1_ b2_ b3_ b4_ → K17_ b0_ b1_ b2_ b3_ b4_) (hp : ∀ (b0_ : Int32) (b1_ : mS), RA u b1_ → post b0_ b1_ → post_ b0_ b1_) (h : wj_X1_firstRule_17 K17 post x2 x3 x4 x5 u) : wj_X1_firstRule_17 K17_ post_ x2 x3 x4 x5 u := by
  refine ⟨fun cc1 => ?_, fun cc2 => ?_⟩
  · have hh3 := h.1 cc1
    exact hp _ _ (RA_rf u) hh3
  · have hh4 := h.2 cc2
    intro y5 ee5
    have hh6 := hh4 y5 ee5
    refine f_wp_X1_matches (fun r6 u7 rr8 hh7 => ?_) hh6
    have rr9 : RA u u7 := RA_tr (RA_rf u) rr8
    refine ⟨fun cc10 => ?_, fun cc11 => ?_⟩
    · have hh12 := hh7.1 cc10
      refine f_wp_X5_after (fun r9 u10 rr14 hh13 => ?_) hh12
      have rr15 : RA u u10 := RA_tr rr9 rr14
      intro y11 ee16
      have hh17 := hh13 y11 ee16
      exact hK17 _ _ _ _ _ rr15 hh17
    · have hh18 := hh7.2 cc11
      exact hp _ _ rr9 hh18
theorem f_wp_X1_firstRule {x1 : Int32} {x2 : Int32} {u : mS} {post post_ : Int32 → mS → Prop} (hp : ∀ (b0_ : Int32) (b1_ : mS), RA u b1_ → post b0_ b1_ → post_ b0_ b1_) (h : wp_X1_firstRule x1 x2 u post) : wp_X1_firstRule x1 x2 u post_ := by
  refine f_wp_X5_plainLength (fun r1 u2 rr2 hh1 => ?_) h
  have rr3 : RA u u2 := RA_tr (RA_rf u) rr2
  intro y3 ee4
  have hh5 := hh1 y3 ee4
  obtain ⟨nn6, hh7⟩ := hh5
  refine ⟨nn6, mL5_mo RA RA_rf ?_ nn6 _ _ _ _ _ (RA_rf _) hh7⟩
  intro K_ K2_ z_ hz_ hK_ _ _ _ _ h_
  exact f_wj_X1_firstRule_17 (fun _ _ _ _ v_ rv_ h_ => hK_ _ _ _ _ v_ (RA_tr hz_ rv_) h_) (fun _ v_ rv_ h_ => hp _ v_ (RA_tr rr3 (RA_tr hz_ rv_)) h_) h_
theorem f_wp_X5_startTree {u : mS} {post post_ : Int32 → mS → Prop} (hp : ∀ (b0_ : Int32) (b1_ : mS), RA u b1_ → post b0_ b1_ → post_ b0_ b1_) (h : wp_X5_startTree u post) : wp_X5_startTree u post_ := by
  intro u1 ee1
  have hh2 := h u1 ee1
  have rr3 : RA u u1 := by rw [ee1]; exact RA_set (RA_rf u) (by decide)
  intro y2 ee4
  have hh5 := hh2 y2 ee4
  exact hp _ _ rr3 hh5
theorem f_wp_X4_roundOf {x1 : Int32} {u : mS} {post post_ : Int32 → mS → Prop} (hp : ∀ (b0_ : Int32) (b1_ : mS), RA u b1_ → post b0_ b1_ → post_ b0_ b1_) (h : wp_X4_roundOf x1 u post) : wp_X4_roundOf x1 u post_ := by
  refine ⟨fun cc1 => ?_, fun cc2 => ?_⟩
  · have hh3 := h.1 cc1
    exact hp _ _ (RA_rf u) hh3
  · have hh4 := h.2 cc2
    intro y2 ee5
    have hh6 := hh4 y2 ee5
    refine ⟨fun cc7 => ?_, fun cc8 => ?_⟩
    · have hh9 := hh6.1 cc7
      exact hp _ _ (RA_rf u) hh9
    · have hh10 := hh6.2 cc8
      refine ⟨fun cc11 => ?_, fun cc12 => ?_⟩
      · have hh13 := hh10.1 cc11
        exact hp _ _ (RA_rf u) hh13
      · have hh14 := hh10.2 cc12
        refine ⟨hh14.1, ?_⟩
        have hh15 := hh14.2
        intro y5 ee16
        have hh17 := hh15 y5 ee16
        exact hp _ _ (RA_rf u) hh17
theorem f_wj_X1_matchOf_134 {K17 K17_ : Int32 → Int32 → Int32 → Int32 → Int32 → Int32 → mS → Prop} {post post_ : Int32 → mS → Prop} {x1 : Int32} {x2 : Int32} {x3 : Int32} {x4 : Int32} {x5 : Int32} {x6 : Int32} {u : mS} (hK17 : ∀ (b0_ : Int32) (b1_ : Int32) (b2_ : Int32) (b3_ : Int32) (b4_ : Int32) (b5_ : Int32) (b6_ : mS), RA u b6_ → K17 b0_ b1_ b2_ b3_ b4_ b5_ b6_ → K17_ b0_ b1_ b2_ b3_ b4_ b5_ b6_) (hp : ∀ (b0_ : Int32) (b1_ : mS), RA u b1_ → post b0_ b1_ → post_ b0_ b1_) (h : wj_X1_matchOf_134 K17 post x1 x2 x3 x4 x5 x6 u) : wj_X1_matchOf_134 K17_ post_ x1 x2 x3 x4 x5 x6 u := by
  intro y17 ee1
  have hh2 := h y17 ee1
  exact hK17 _ _ _ _ _ _ _ (RA_rf u) hh2
theorem f_wj_X1_matchOf_140 {post post_ : Int32 → mS → Prop} {x4 : Int32} {u : mS} (hp : ∀ (b0_ : Int32) (b1_ : mS), RA u b1_ → post b0_ b1_ → post_ b0_ b1_) (h : wj_X1_matchOf_140 post x4 u) : wj_X1_matchOf_140 post_ x4 u := by
  exact hp _ _ (RA_rf u) h
theorem f_wj_X1_matchOf_120 {K17 K17_ : Int32 → Int32 → Int32 → Int32 → Int32 → Int32 → mS → Prop} {post post_ : Int32 → mS → Prop} {x1 : Int32} {x2 : Int32} {x3 : Int32} {x4 : Int32} {x5 : Int32} {x6 : Int32} {u : mS} (hK17 : ∀ (b0_ : Int32) (b1_ : Int32) (b2_ : Int32) (b3_ : Int32) (b4_ : Int32) (b5_ : Int32) (b6_ : mS), RA u b6_ → K17 b0_ b1_ b2_ b3_ b4_ b5_ b6_ → K17_ b0_ b1_ b2_ b3_ b4_ b5_ b6_) (hp : ∀ (b0_ : Int32) (b1_ : mS), RA u b1_ → post b0_ b1_ → post_ b0_ b1_) (h : wj_X1_matchOf_120 K17 post x1 x2 x3 x4 x5 x6 u) : wj_X1_matchOf_120 K17_ post_ x1 x2 x3 x4 x5 x6 u := by
  refine ⟨fun cc1 => ?_, fun cc2 => ?_⟩
  · have hh3 := h.1 cc1
    intro y24 ee4
    have hh5 := hh3 y24 ee4
    intro y25 ee6
    have hh7 := hh5 y25 ee6
    exact f_wj_X1_matchOf_134 (fun _ _ _ _ _ _ v_ rv_ h_ => hK17 _ _ _ _ _ _ v_ (RA_tr (RA_rf u) rv_) h_) (fun _ v_ rv_ h_ => hp _ v_ (RA_tr (RA_rf u) rv_) h_) hh7
  · have hh8 := h.2 cc2
    exact f_wj_X1_matchOf_140 (fun _ v_ rv_ h_ => hp _ v_ (RA_tr (RA_rf u) rv_) h_) hh8
theorem f_wj_X1_matchOf_93 {K93 K93_ : Int32 → Int32 → Int32 → Int32 → Int32 → Int32 → Int32 → Int32 → mS → Prop} {K17 K17_ : Int32 → Int32 → Int32 → Int32 → Int32 → Int32 → mS → Prop} {post post_ : Int32 → mS → Prop} {x1 : Int32} {x2 : Int32} {x3 : Int32} {x4 : Int32} {x5 : Int32} {x6 : Int32} {x7 : Int32} {x8 : Int32} {u : mS} (hK93 : ∀ (b0_ : Int32) (b1_ : Int32) (b2_ : Int32) (b3_ : Int32) (b4_ : Int32) (b5_ : Int32) (b6_ : Int32) (b7_ : Int32) (b8_ : mS), RA u b8_ → K93 b0_ b1_ b2_ b3_ b4_ b5_ b6_ b7_ b8_ → K93_ b0_ b1_ b2_ b3_ b4_ b5_ b6_ b7_ b8_) (hK17 : ∀ (b0_ : Int32) (b1_ : Int32) (b2_ : Int32) (b3_ : Int32) (b4_ : Int32) (b5_ : Int32) (b6_ : mS), RA u b6_ → K17 b0_ b1_ b2_ b3_ b4_ b5_ b6_ → K17_ b0_ b1_ b2_ b3_ b4_ b5_ b6_) (hp : ∀ (b0_ : Int32) (b1_ : mS), RA u b1_ → post b0_ b1_ → post_ b0_ b1_) (h : wj_X1_matchOf_93 K93 K17 post x1 x2 x3 x4 x5 x6 x7 x8 u) : wj_X1_matchOf_93 K93_ K17_ post_ x1 x2 x3 x4 x5 x6 x7 x8 u := by
  refine ⟨fun cc1 => ?_, fun cc2 => ?_⟩
  · have hh3 := h.1 cc1
    intro y19 ee4
    have hh5 := hh3 y19 ee4
    exact f_wj_X1_matchOf_120 (fun _ _ _ _ _ _ v_ rv_ h_ => hK17 _ _ _ _ _ _ v_ (RA_tr (RA_rf u) rv_) h_) (fun _ v_ rv_ h_ => hp _ v_ (RA_tr (RA_rf u) rv_) h_) hh5
  · have hh6 := h.2 cc2
    refine f_wp_X5_after (fun r20 u21 rr8 hh7 => ?_) hh6
    have rr9 : RA u u21 := RA_tr (RA_rf u) rr8
    intro y22 ee10
    have hh11 := hh7 y22 ee10
    exact hK93 _ _ _ _ _ _ _ _ _ rr9 hh11
theorem f_wj_X1_matchOf_17 {K17 K17_ : Int32 → Int32 → Int32 → Int32 → Int32 → Int32 → mS → Prop} {post post_ : Int32 → mS → Prop} {x1 : Int32} {x2 : Int32} {x3 : Int32} {x4 : Int32} {x5 : Int32} {x6 : Int32} {u : mS} (hK17 : ∀ (b0_ : Int32) (b1_ : Int32) (b2_ : Int32) (b3_ : Int32) (b4_ : Int32) (b5_ : Int32) (b6_ : mS), RA u b6_ → K17 b0_ b1_ b2_ b3_ b4_ b5_ b6_ → K17_ b0_ b1_ b2_ b3_ b4_ b5_ b6_) (hp : ∀ (b0_ : Int32) (b1_ : mS), RA u b1_ → post b0_ b1_ → post_ b0_ b1_) (h : wj_X1_matchOf_17 K17 post x1 x2 x3 x4 x5 x6 u) : wj_X1_matchOf_17 K17_ post_ x1 x2 x3 x4 x5 x6 u := by
  refine ⟨fun cc1 => ?_, fun cc2 => ?_⟩
  · have hh3 := h.1 cc1
    exact f_wj_X1_matchOf_140 (fun _ v_ rv_ h_ => hp _ v_ (RA_tr (RA_rf u) rv_) h_) hh3
  · have hh4 := h.2 cc2
    refine f_wp_X5_after (fun r4 u5 rr6 hh5 => ?_) hh4
    have rr7 : RA u u5 := RA_tr (RA_rf u) rr6
    refine ⟨fun cc8 => ?_, fun cc9 => ?_⟩
    · have hh10 := hh5.1 cc8
      refine f_wp_X5_isHeld (fun r7 u8 rr12 hh11 => ?_) hh10
      have rr13 : RA u u8 := RA_tr rr7 rr12
      refine ⟨fun cc14 => ?_, fun cc15 => ?_⟩
      · have hh16 := hh11.1 cc14
        exact f_wj_X1_matchOf_120 (fun _ _ _ _ _ _ v_ rv_ h_ => hK17 _ _ _ _ _ _ v_ (RA_tr rr13 rv_) h_) (fun _ v_ rv_ h_ => hp _ v_ (RA_tr rr13 rv_) h_) hh16
      · have hh17 := hh11.2 cc15
        refine ⟨fun cc18 => ?_, fun cc19 => ?_⟩
        · have hh20 := hh17.1 cc18
          refine f_wp_X4_roundOf (fun r11 u12 rr22 hh21 => ?_) hh20
          have rr23 : RA u u12 := RA_tr rr13 rr22
          obtain ⟨nn24, hh25⟩ := hh21
          refine ⟨nn24, mL9_mo RA RA_rf ?_ nn24 _ _ _ _ _ _ _ _ _ (RA_rf _) hh25⟩
          intro K_ K2_ z_ hz_ hK_ _ _ _ _ _ _ _ _ h_
          exact f_wj_X1_matchOf_93 (fun _ _ _ _ _ _ _ _ v_ rv_ h_ => hK_ _ _ _ _ _ _ _ _ v_ (RA_tr hz_ rv_) h_) (fun _ _ _ _ _ _ v_ rv_ h_ => hK17 _ _ _ _ _ _ v_ (RA_tr rr23 (RA_tr hz_ rv_)) h_) (fun _ v_ rv_ h_ => hp _ v_ (RA_tr rr23 (RA_tr hz_ rv_)) h_) h_
        · have hh26 := hh17.2 cc19
          exact f_wj_X1_matchOf_140 (fun _ v_ rv_ h_ => hp _ v_ (RA_tr rr13 rv_) h_) hh26
    · have hh27 := hh5.2 cc9
      refine f_wp_X5_after (fun r13 u14 rr29 hh28 => ?_) hh27
      have rr30 : RA u u14 := RA_tr rr7 rr29
      refine f_wp_X5_after (fun r15 u16 rr32 hh31 => ?_) hh28
      have rr33 : RA u u16 := RA_tr rr30 rr32
      exact f_wj_X1_matchOf_134 (fun _ _ _ _ _ _ v_ rv_ h_ => hK17 _ _ _ _ _ _ v_ (RA_tr rr33 rv_) h_) (fun _ v_ rv_ h_ => hp _ v_ (RA_tr rr33 rv_) h_) hh31
theorem f_wp_X1_matchOf {x1 : Int32} {x2 : Int32} {u : mS} {post post_ : Int32 → mS → Prop} (hp : ∀ (b0_ : Int32) (b1_ : mS), RA u b1_ → post b0_ b1_ → post_ b0_ b1_) (h : wp_X1_matchOf x1 x2 u post) : wp_X1_matchOf x1 x2 u post_ := by
  intro y1 ee1
  have hh2 := h y1 ee1
  intro y2 ee3
  have hh4 := hh2 y2 ee3
  obtain ⟨nn5, hh6⟩ := hh4
  refine ⟨nn5, mL7_mo RA RA_rf ?_ nn5 _ _ _ _ _ _ _ (RA_rf _) hh6⟩
  intro K_ K2_ z_ hz_ hK_ _ _ _ _ _ _ h_
  exact f_wj_X1_matchOf_17 (fun _ _ _ _ _ _ v_ rv_ h_ => hK_ _ _ _ _ _ _ v_ (RA_tr hz_ rv_) h_) (fun _ v_ rv_ h_ => hp _ v_ (RA_tr (RA_rf u) (RA_tr hz_ rv_)) h_) h_
theorem f_wj_X1_roundsFor_81 {K14 K14_ : Int32 → Int32 → Int32 → mS → Prop} {post post_ : Int32 → mS → Prop} {x2 : Int32} {x3 : Int32} {x4 : Int32} {u : mS} (hK14 : ∀ (b0_ : Int32) (b1_ : Int32) (b2_ : Int32) (b3_ : mS), RA u b3_ → K14 b0_ b1_ b2_ b3_ → K14_ b0_ b1_ b2_ b3_) (hp : ∀ (b0_ : Int32) (b1_ : mS), RA u b1_ → post b0_ b1_ → post_ b0_ b1_) (h : wj_X1_roundsFor_81 K14 post x2 x3 x4 u) : wj_X1_roundsFor_81 K14_ post_ x2 x3 x4 u := by
  intro y17 ee1
  have hh2 := h y17 ee1
  exact hK14 _ _ _ _ (RA_rf u) hh2
theorem f_wj_X1_roundsFor_78 {K14 K14_ : Int32 → Int32 → Int32 → mS → Prop} {post post_ : Int32 → mS → Prop} {x3 : Int32} {x4 : Int32} {x6 : Int32} {u : mS} (hK14 : ∀ (b0_ : Int32) (b1_ : Int32) (b2_ : Int32) (b3_ : mS), RA u b3_ → K14 b0_ b1_ b2_ b3_ → K14_ b0_ b1_ b2_ b3_) (hp : ∀ (b0_ : Int32) (b1_ : mS), RA u b1_ → post b0_ b1_ → post_ b0_ b1_) (h : wj_X1_roundsFor_78 K14 post x3 x4 x6 u) : wj_X1_roundsFor_78 K14_ post_ x3 x4 x6 u := by
  exact f_wj_X1_roundsFor_81 (fun _ _ _ v_ rv_ h_ => hK14 _ _ _ v_ (RA_tr (RA_rf u) rv_) h_) (fun _ v_ rv_ h_ => hp _ v_ (RA_tr (RA_rf u) rv_) h_) h
theorem f_wj_X1_roundsFor_14 {K14 K14_ : Int32 → Int32 → Int32 → mS → Prop} {post post_ : Int32 → mS → Prop} {x2 : Int32} {x3 : Int32} {x4 : Int32} {u : mS} (hK14 : ∀ (b0_ : Int32) (b1_ : Int32) (b2_ : Int32) (b3_ : mS), RA u b3_ → K14 b0_ b1_ b2_ b3_ → K14_ b0_ b1_ b2_ b3_) (hp : ∀ (b0_ : Int32) (b1_ : mS), RA u b1_ → post b0_ b1_ → post_ b0_ b1_) (h : wj_X1_roundsFor_14 K14 post x2 x3 x4 u) : wj_X1_roundsFor_14 K14_ post_ x2 x3 x4 u := by
  refine ⟨fun cc1 => ?_, fun cc2 => ?_⟩
  · have hh3 := h.1 cc1
    intro y4 ee4
    have hh5 := hh3 y4 ee4
    exact hp _ _ (RA_rf u) hh5
  · have hh6 := h.2 cc2
    refine f_wp_X5_variableAt (fun r5 u6 rr8 hh7 => ?_) hh6
    have rr9 : RA u u6 := RA_tr (RA_rf u) rr8
    refine ⟨fun cc10 => ?_, fun cc11 => ?_⟩
    · have hh12 := hh7.1 cc10
      exact f_wj_X1_roundsFor_81 (fun _ _ _ v_ rv_ h_ => hK14 _ _ _ v_ (RA_tr rr9 rv_) h_) (fun _ v_ rv_ h_ => hp _ v_ (RA_tr rr9 rv_) h_) hh12
    · have hh13 := hh7.2 cc11
      intro y8 ee14
      have hh15 := hh13 y8 ee14
      refine f_wp_X1_matchOf (fun r9 u10 rr17 hh16 => ?_) hh15
      have rr18 : RA u u10 := RA_tr rr9 rr17
      refine f_wp_X5_itemsFrom (fun r11 u12 rr20 hh19 => ?_) hh16
      have rr21 : RA u u12 := RA_tr rr18 rr20
      refine ⟨fun cc22 => ?_, fun cc23 => ?_⟩
      · have hh24 := hh19.1 cc22
        exact f_wj_X1_roundsFor_78 (fun _ _ _ v_ rv_ h_ => hK14 _ _ _ v_ (RA_tr rr21 rv_) h_) (fun _ v_ rv_ h_ => hp _ v_ (RA_tr rr21 rv_) h_) hh24
      · have hh25 := hh19.2 cc23
        refine ⟨fun cc26 => ?_, fun cc27 => ?_⟩
        · have hh28 := hh25.1 cc26
          exact f_wj_X1_roundsFor_78 (fun _ _ _ v_ rv_ h_ => hK14 _ _ _ v_ (RA_tr rr21 rv_) h_) (fun _ v_ rv_ h_ => hp _ v_ (RA_tr rr21 rv_) h_) hh28
        · have hh29 := hh25.2 cc27
          refine f_wp_X2_fail (fun u16 rr31 hh30 => ?_) hh29
          have rr32 : RA u u16 := RA_tr rr21 rr31
          exact hp _ _ rr32 hh30
theorem f_wp_X1_roundsFor {x1 : Int32} {u : mS} {post post_ : Int32 → mS → Prop} (hp : ∀ (b0_ : Int32) (b1_ : mS), RA u b1_ → post b0_ b1_ → post_ b0_ b1_) (h : wp_X1_roundsFor x1 u post) : wp_X1_roundsFor x1 u post_ := by
  refine f_wp_X5_after (fun r1 u2 rr2 hh1 => ?_) h
  have rr3 : RA u u2 := RA_tr (RA_rf u) rr2
  obtain ⟨nn4, hh5⟩ := hh1
  refine ⟨nn4, mL4_mo RA RA_rf ?_ nn4 _ _ _ _ (RA_rf _) hh5⟩
  intro K_ K2_ z_ hz_ hK_ _ _ _ h_
  exact f_wj_X1_roundsFor_14 (fun _ _ _ v_ rv_ h_ => hK_ _ _ _ v_ (RA_tr hz_ rv_) h_) (fun _ v_ rv_ h_ => hp _ v_ (RA_tr rr3 (RA_tr hz_ rv_)) h_) h_
theorem f_wp_X5_closeBracket {u : mS} {post post_ : mS → Prop} (hp : ∀ (b0_ : mS), RA u b0_ → post b0_ → post_ b0_) (h : wp_X5_closeBracket u post) : wp_X5_closeBracket u post_ := by
  intro y1 ee1
  have hh2 := h y1 ee1
  refine ⟨fun cc3 => ?_, fun cc4 => ?_⟩
  · have hh5 := hh2.1 cc3
    exact hp _ (RA_rf u) hh5
  · have hh6 := hh2.2 cc4
    intro y3 ee7
    have hh8 := hh6 y3 ee7
    refine ⟨fun cc9 => ?_, fun cc10 => ?_⟩
    · have hh11 := hh8.1 cc9
      intro y5 ee12
      have hh13 := hh11 y5 ee12
      refine ⟨hh13.1, ?_⟩
      have hh14 := hh13.2
      intro y6 ee15
      have hh16 := hh14 y6 ee15
      intro y7 ee17
      have hh18 := hh16 y7 ee17
      intro y8 ee19
      have hh20 := hh18 y8 ee19
      intro y9 ee21
      have hh22 := hh20 y9 ee21
      intro y10 ee23
      have hh24 := hh22 y10 ee23
      intro y11 ee25
      have hh26 := hh24 y11 ee25
      refine ⟨hh26.1, ?_⟩
      have hh27 := hh26.2
      intro u12 ee28
      have hh29 := hh27 u12 ee28
      have rr30 : RA u u12 := by rw [ee28]; exact RA_put (RA_rf u) (by decide)
      intro u13 ee31
      have hh32 := hh29 u13 ee31
      have rr33 : RA u u13 := by rw [ee31]; exact RA_set rr30 (by decide)
      exact hp _ rr33 hh32
    · have hh34 := hh8.2 cc10
      exact hp _ (RA_rf u) hh34
theorem f_wj_X5_add_97 {post post_ : mS → Prop} {u : mS} (hp : ∀ (b0_ : mS), RA u b0_ → post b0_ → post_ b0_) (h : wj_X5_add_97 post u) : wj_X5_add_97 post_ u := by
  intro y22 ee1
  have hh2 := h y22 ee1
  intro y23 ee3
  have hh4 := hh2 y23 ee3
  intro u24 ee5
  have hh6 := hh4 u24 ee5
  have rr7 : RA u u24 := by rw [ee5]; exact RA_set (RA_rf u) (by decide)
  exact hp _ rr7 hh6
theorem f_wp_X5_add {x1 : Int32} {x2 : Int32} {u : mS} {post post_ : mS → Prop} (hp : ∀ (b0_ : mS), RA u b0_ → post b0_ → post_ b0_) (h : wp_X5_add x1 x2 u post) : wp_X5_add x1 x2 u post_ := by
  intro y1 ee1
  have hh2 := h y1 ee1
  refine ⟨fun cc3 => ?_, fun cc4 => ?_⟩
  · have hh5 := hh2.1 cc3
    exact hp _ (RA_rf u) hh5
  · have hh6 := hh2.2 cc4
    intro y3 ee7
    have hh8 := hh6 y3 ee7
    refine ⟨fun cc9 => ?_, fun cc10 => ?_⟩
    · have hh11 := hh8.1 cc9
      intro y5 ee12
      have hh13 := hh11 y5 ee12
      refine ⟨hh13.1, ?_⟩
      have hh14 := hh13.2
      intro u6 ee15
      have hh16 := hh14 u6 ee15
      have rr17 : RA u u6 := by rw [ee15]; exact RA_put (RA_rf u) (by decide)
      intro y7 ee18
      have hh19 := hh16 y7 ee18
      refine ⟨hh19.1, ?_⟩
      have hh20 := hh19.2
      intro u8 ee21
      have hh22 := hh20 u8 ee21
      have rr23 : RA u u8 := by rw [ee21]; exact RA_put rr17 (by decide)
      intro y9 ee24
      have hh25 := hh22 y9 ee24
      refine ⟨hh25.1, ?_⟩
      have hh26 := hh25.2
      intro u10 ee27
      have hh28 := hh26 u10 ee27
      have rr29 : RA u u10 := by rw [ee27]; exact RA_put rr23 (by decide)
      intro y11 ee30
      have hh31 := hh28 y11 ee30
      refine ⟨hh31.1, ?_⟩
      have hh32 := hh31.2
      intro u12 ee33
      have hh34 := hh32 u12 ee33
      have rr35 : RA u u12 := by rw [ee33]; exact RA_put rr29 (by decide)
      refine ⟨fun cc36 => ?_, fun cc37 => ?_⟩
      · have hh38 := hh34.1 cc36
        refine ⟨fun cc39 => ?_, fun cc40 => ?_⟩
        · have hh41 := hh38.1 cc39
          exact f_wj_X5_add_97 (fun v_ rv_ h_ => hp v_ (RA_tr rr35 rv_) h_) hh41
        · have hh42 := hh38.2 cc40
          refine f_wp_X5_closeBracket (fun u16 rr44 hh43 => ?_) hh42
          have rr45 : RA u u16 := RA_tr rr35 rr44
          exact f_wj_X5_add_97 (fun v_ rv_ h_ => hp v_ (RA_tr rr45 rv_) h_) hh43
      · have hh46 := hh34.2 cc37
        intro y17 ee47
        have hh48 := hh46 y17 ee47
        intro y18 ee49
        have hh50 := hh48 y18 ee49
        refine ⟨hh50.1, ?_⟩
        have hh51 := hh50.2
        intro u19 ee52
        have hh53 := hh51 u19 ee52
        have rr54 : RA u u19 := by rw [ee52]; exact RA_put rr35 (by decide)
        intro y20 ee55
        have hh56 := hh53 y20 ee55
        intro u21 ee57
        have hh58 := hh56 u21 ee57
        have rr59 : RA u u21 := by rw [ee57]; exact RA_set rr54 (by decide)
        exact f_wj_X5_add_97 (fun v_ rv_ h_ => hp v_ (RA_tr rr59 rv_) h_) hh58
    · have hh60 := hh8.2 cc10
      exact hp _ (RA_rf u) hh60
theorem f_wj_X1_fillToken_79 {K47 K47_ : Int32 → Int32 → mS → Prop} {post post_ : mS → Prop} {x4 : Int32} {x5 : Int32} {z0 : Int32} {z1 : Int32} {u : mS} (hK47 : ∀ (b0_ : Int32) (b1_ : Int32) (b2_ : mS), RA u b2_ → K47 b0_ b1_ b2_ → K47_ b0_ b1_ b2_) (hp : ∀ (b0_ : mS), RA u b0_ → post b0_ → post_ b0_) (h : wj_X1_fillToken_79 K47 post x4 x5 z0 z1 u) : wj_X1_fillToken_79 K47_ post_ x4 x5 z0 z1 u := by
  intro y17 ee1
  have hh2 := h y17 ee1
  intro u18 ee3
  have hh4 := hh2 u18 ee3
  have rr5 : RA u u18 := by rw [ee3]; exact RA_set (RA_rf u) (by decide)
  intro y19 ee6
  have hh7 := hh4 y19 ee6
  refine ⟨fun cc8 => ?_, fun cc9 => ?_⟩
  · have hh10 := hh7.1 cc8
    refine f_wp_X5_wordAt (fun r21 u22 rr12 hh11 => ?_) hh10
    have rr13 : RA u u22 := RA_tr rr5 rr12
    refine f_wp_X5_marksAt (fun r23 u24 rr15 hh14 => ?_) hh11
    have rr16 : RA u u24 := RA_tr rr13 rr15
    refine f_wp_X5_add (fun u26 rr18 hh17 => ?_) hh14
    have rr19 : RA u u26 := RA_tr rr16 rr18
    intro y27 ee20
    have hh21 := hh17 y27 ee20
    exact hK47 _ _ _ rr19 hh21
  · have hh22 := hh7.2 cc9
    refine f_wp_X2_fail (fun u29 rr24 hh23 => ?_) hh22
    have rr25 : RA u u29 := RA_tr rr5 rr24
    exact hp _ rr25 hh23
theorem f_wj_X1_fillToken_47 {K47 K47_ : Int32 → Int32 → mS → Prop} {post post_ : mS → Prop} {x4 : Int32} {x5 : Int32} {u : mS} (hK47 : ∀ (b0_ : Int32) (b1_ : Int32) (b2_ : mS), RA u b2_ → K47 b0_ b1_ b2_ → K47_ b0_ b1_ b2_) (hp : ∀ (b0_ : mS), RA u b0_ → post b0_ → post_ b0_) (h : wj_X1_fillToken_47 K47 post x4 x5 u) : wj_X1_fillToken_47 K47_ post_ x4 x5 u := by
  refine ⟨fun cc1 => ?_, fun cc2 => ?_⟩
  · have hh3 := h.1 cc1
    exact hp _ (RA_rf u) hh3
  · have hh4 := h.2 cc2
    intro y11 ee5
    have hh6 := hh4 y11 ee5
    refine f_wp_X5_wordAt (fun r12 u13 rr8 hh7 => ?_) hh6
    have rr9 : RA u u13 := RA_tr (RA_rf u) rr8
    refine f_wp_X8_isTree (fun r14 u15 rr11 hh10 => ?_) hh7
    have rr12 : RA u u15 := RA_tr rr9 rr11
    refine ⟨fun cc13 => ?_, fun cc14 => ?_⟩
    · have hh15 := hh10.1 cc13
      exact f_wj_X1_fillToken_79 (fun _ _ v_ rv_ h_ => hK47 _ _ v_ (RA_tr rr12 rv_) h_) (fun v_ rv_ h_ => hp v_ (RA_tr rr12 rv_) h_) hh15
    · have hh16 := hh10.2 cc14
      exact f_wj_X1_fillToken_79 (fun _ _ v_ rv_ h_ => hK47 _ _ v_ (RA_tr rr12 rv_) h_) (fun v_ rv_ h_ => hp v_ (RA_tr rr12 rv_) h_) hh16
theorem f_wj_X1_fillToken_42 {post post_ : mS → Prop} {x3 : Int32} {z0 : Int32} {u : mS} (hp : ∀ (b0_ : mS), RA u b0_ → post b0_ → post_ b0_) (h : wj_X1_fillToken_42 post x3 z0 u) : wj_X1_fillToken_42 post_ x3 z0 u := by
  obtain ⟨nn1, hh2⟩ := h
  refine ⟨nn1, mL3_mo RA RA_rf ?_ nn1 _ _ _ (RA_rf _) hh2⟩
  intro K_ K2_ z_ hz_ hK_ _ _ h_
  exact f_wj_X1_fillToken_47 (fun _ _ v_ rv_ h_ => hK_ _ _ v_ (RA_tr hz_ rv_) h_) (fun v_ rv_ h_ => hp v_ (RA_tr (RA_rf u) (RA_tr hz_ rv_)) h_) h_
theorem f_wj_X1_fillToken_23 {post post_ : mS → Prop} {x1 : Int32} {x2 : Int32} {z0 : Int32} {u : mS} (hp : ∀ (b0_ : mS), RA u b0_ → post b0_ → post_ b0_) (h : wj_X1_fillToken_23 post x1 x2 z0 u) : wj_X1_fillToken_23 post_ x1 x2 z0 u := by
  refine ⟨fun cc1 => ?_, fun cc2 => ?_⟩
  · have hh3 := h.1 cc1
    refine f_wp_X5_after (fun r7 u8 rr5 hh4 => ?_) hh3
    have rr6 : RA u u8 := RA_tr (RA_rf u) rr5
    exact f_wj_X1_fillToken_42 (fun v_ rv_ h_ => hp v_ (RA_tr rr6 rv_) h_) hh4
  · have hh7 := h.2 cc2
    intro y9 ee8
    have hh9 := hh7 y9 ee8
    exact f_wj_X1_fillToken_42 (fun v_ rv_ h_ => hp v_ (RA_tr (RA_rf u) rv_) h_) hh9
theorem f_wp_X1_fillToken {x1 : Int32} {u : mS} {post post_ : mS → Prop} (hp : ∀ (b0_ : mS), RA u b0_ → post b0_ → post_ b0_) (h : wp_X1_fillToken x1 u post) : wp_X1_fillToken x1 u post_ := by
  refine f_wp_X5_variableAt (fun r1 u2 rr2 hh1 => ?_) h
  have rr3 : RA u u2 := RA_tr (RA_rf u) rr2
  refine ⟨fun cc4 => ?_, fun cc5 => ?_⟩
  · have hh6 := hh1.1 cc4
    refine f_wp_X1_matchOf (fun r4 u5 rr8 hh7 => ?_) hh6
    have rr9 : RA u u5 := RA_tr rr3 rr8
    exact f_wj_X1_fillToken_23 (fun v_ rv_ h_ => hp v_ (RA_tr rr9 rv_) h_) hh7
  · have hh10 := hh1.2 cc5
    exact f_wj_X1_fillToken_23 (fun v_ rv_ h_ => hp v_ (RA_tr rr3 rv_) h_) hh10
theorem f_wj_X1_fill_184 {K59 K59_ : Int32 → Int32 → Int32 → Int32 → mS → Prop} {post post_ : Int32 → mS → Prop} {x3 : Int32} {x4 : Int32} {x5 : Int32} {x6 : Int32} {u : mS} (hK59 : ∀ (b0_ : Int32) (b1_ : Int32) (b2_ : Int32) (b3_ : Int32) (b4_ : mS), RA u b4_ → K59 b0_ b1_ b2_ b3_ b4_ → K59_ b0_ b1_ b2_ b3_ b4_) (hp : ∀ (b0_ : Int32) (b1_ : mS), RA u b1_ → post b0_ b1_ → post_ b0_ b1_) (h : wj_X1_fill_184 K59 post x3 x4 x5 x6 u) : wj_X1_fill_184 K59_ post_ x3 x4 x5 x6 u := by
  intro y32 ee1
  have hh2 := h y32 ee1
  exact hK59 _ _ _ _ _ (RA_rf u) hh2
theorem f_wj_X1_fill_147 {K59 K59_ : Int32 → Int32 → Int32 → Int32 → mS → Prop} {post post_ : Int32 → mS → Prop} {x3 : Int32} {x4 : Int32} {x5 : Int32} {x6 : Int32} {u : mS} (hK59 : ∀ (b0_ : Int32) (b1_ : Int32) (b2_ : Int32) (b3_ : Int32) (b4_ : mS), RA u b4_ → K59 b0_ b1_ b2_ b3_ b4_ → K59_ b0_ b1_ b2_ b3_ b4_) (hp : ∀ (b0_ : Int32) (b1_ : mS), RA u b1_ → post b0_ b1_ → post_ b0_ b1_) (h : wj_X1_fill_147 K59 post x3 x4 x5 x6 u) : wj_X1_fill_147 K59_ post_ x3 x4 x5 x6 u := by
  refine f_wp_X5_wordAt (fun r33 u34 rr2 hh1 => ?_) h
  have rr3 : RA u u34 := RA_tr (RA_rf u) rr2
  refine ⟨fun cc4 => ?_, fun cc5 => ?_⟩
  · have hh6 := hh1.1 cc4
    refine f_wp_X1_fillToken (fun u37 rr8 hh7 => ?_) hh6
    have rr9 : RA u u37 := RA_tr rr3 rr8
    intro y38 ee10
    have hh11 := hh7 y38 ee10
    exact f_wj_X1_fill_184 (fun _ _ _ _ v_ rv_ h_ => hK59 _ _ _ _ v_ (RA_tr rr9 rv_) h_) (fun _ v_ rv_ h_ => hp _ v_ (RA_tr rr9 rv_) h_) hh11
  · have hh12 := hh1.2 cc5
    refine f_wp_X4_leave (fun r39 u40 rr14 hh13 => ?_) hh12
    have rr15 : RA u u40 := RA_tr rr3 rr14
    exact f_wj_X1_fill_184 (fun _ _ _ _ v_ rv_ h_ => hK59 _ _ _ _ v_ (RA_tr rr15 rv_) h_) (fun _ v_ rv_ h_ => hp _ v_ (RA_tr rr15 rv_) h_) hh13
theorem f_wj_X1_fill_190 {post post_ : Int32 → mS → Prop} {x3 : Int32} {u : mS} (hp : ∀ (b0_ : Int32) (b1_ : mS), RA u b1_ → post b0_ b1_ → post_ b0_ b1_) (h : wj_X1_fill_190 post x3 u) : wj_X1_fill_190 post_ x3 u := by
  exact hp _ _ (RA_rf u) h
theorem f_wj_X1_fill_59 {K59 K59_ : Int32 → Int32 → Int32 → Int32 → mS → Prop} {post post_ : Int32 → mS → Prop} {x3 : Int32} {x4 : Int32} {x5 : Int32} {x6 : Int32} {u : mS} (hK59 : ∀ (b0_ : Int32) (b1_ : Int32) (b2_ : Int32) (b3_ : Int32) (b4_ : mS), RA u b4_ → K59 b0_ b1_ b2_ b3_ b4_ → K59_ b0_ b1_ b2_ b3_ b4_) (hp : ∀ (b0_ : Int32) (b1_ : mS), RA u b1_ → post b0_ b1_ → post_ b0_ b1_) (h : wj_X1_fill_59 K59 post x3 x4 x5 x6 u) : wj_X1_fill_59 K59_ post_ x3 x4 x5 x6 u := by
  refine ⟨fun cc1 => ?_, fun cc2 => ?_⟩
  · have hh3 := h.1 cc1
    exact f_wj_X1_fill_190 (fun _ v_ rv_ h_ => hp _ v_ (RA_tr (RA_rf u) rv_) h_) hh3
  · have hh4 := h.2 cc2
    refine ⟨fun cc5 => ?_, fun cc6 => ?_⟩
    · have hh7 := hh4.1 cc5
      exact f_wj_X1_fill_190 (fun _ v_ rv_ h_ => hp _ v_ (RA_tr (RA_rf u) rv_) h_) hh7
    · have hh8 := hh4.2 cc6
      intro y16 ee9
      have hh10 := hh8 y16 ee9
      refine ⟨fun cc11 => ?_, fun cc12 => ?_⟩
      · have hh13 := hh10.1 cc11
        exact f_wj_X1_fill_190 (fun _ v_ rv_ h_ => hp _ v_ (RA_tr (RA_rf u) rv_) h_) hh13
      · have hh14 := hh10.2 cc12
        refine f_wp_X5_isHeld (fun r18 u19 rr16 hh15 => ?_) hh14
        have rr17 : RA u u19 := RA_tr (RA_rf u) rr16
        refine ⟨fun cc18 => ?_, fun cc19 => ?_⟩
        · have hh20 := hh15.1 cc18
          exact f_wj_X1_fill_147 (fun _ _ _ _ v_ rv_ h_ => hK59 _ _ _ _ v_ (RA_tr rr17 rv_) h_) (fun _ v_ rv_ h_ => hp _ v_ (RA_tr rr17 rv_) h_) hh20
        · have hh21 := hh15.2 cc19
          refine f_wp_X4_isIn (fun r21 u22 rr23 hh22 => ?_) hh21
          have rr24 : RA u u22 := RA_tr rr17 rr23
          refine ⟨fun cc25 => ?_, fun cc26 => ?_⟩
          · have hh27 := hh22.1 cc25
            exact f_wj_X1_fill_147 (fun _ _ _ _ v_ rv_ h_ => hK59 _ _ _ _ v_ (RA_tr rr24 rv_) h_) (fun _ v_ rv_ h_ => hp _ v_ (RA_tr rr24 rv_) h_) hh27
          · have hh28 := hh22.2 cc26
            refine f_wp_X1_roundsFor (fun r24 u25 rr30 hh29 => ?_) hh28
            have rr31 : RA u u25 := RA_tr rr24 rr30
            refine ⟨fun cc32 => ?_, fun cc33 => ?_⟩
            · have hh34 := hh29.1 cc32
              refine f_wp_X4_enter (fun u28 rr36 hh35 => ?_) hh34
              have rr37 : RA u u28 := RA_tr rr31 rr36
              exact f_wj_X1_fill_147 (fun _ _ _ _ v_ rv_ h_ => hK59 _ _ _ _ v_ (RA_tr rr37 rv_) h_) (fun _ v_ rv_ h_ => hp _ v_ (RA_tr rr37 rv_) h_) hh35
            · have hh38 := hh29.2 cc33
              refine f_wp_X5_after (fun r29 u30 rr40 hh39 => ?_) hh38
              have rr41 : RA u u30 := RA_tr rr31 rr40
              intro y31 ee42
              have hh43 := hh39 y31 ee42
              exact f_wj_X1_fill_184 (fun _ _ _ _ v_ rv_ h_ => hK59 _ _ _ _ v_ (RA_tr rr41 rv_) h_) (fun _ v_ rv_ h_ => hp _ v_ (RA_tr rr41 rv_) h_) hh43
theorem f_wp_X1_fill {x1 : Int32} {x2 : Int32} {u : mS} {post post_ : Int32 → mS → Prop} (hp : ∀ (b0_ : Int32) (b1_ : mS), RA u b1_ → post b0_ b1_ → post_ b0_ b1_) (h : wp_X1_fill x1 x2 u post) : wp_X1_fill x1 x2 u post_ := by
  intro y1 ee1
  have hh2 := h y1 ee1
  intro u2 ee3
  have hh4 := hh2 u2 ee3
  have rr5 : RA u u2 := by rw [ee3]; exact RA_set (RA_rf u) (by decide)
  intro u3 ee6
  have hh7 := hh4 u3 ee6
  have rr8 : RA u u3 := by rw [ee6]; exact RA_set rr5 (by decide)
  intro u4 ee9
  have hh10 := hh7 u4 ee9
  have rr11 : RA u u4 := by rw [ee9]; exact RA_set rr8 (by decide)
  refine f_wp_X4_clear (fun u6 rr13 hh12 => ?_) hh10
  have rr14 : RA u u6 := RA_tr rr11 rr13
  refine f_wp_X5_startTree (fun r7 u8 rr16 hh15 => ?_) hh12
  have rr17 : RA u u8 := RA_tr rr14 rr16
  intro y9 ee18
  have hh19 := hh15 y9 ee18
  refine f_wp_X5_after (fun r10 u11 rr21 hh20 => ?_) hh19
  have rr22 : RA u u11 := RA_tr rr17 rr21
  refine f_wp_X5_after (fun r12 u13 rr24 hh23 => ?_) hh20
  have rr25 : RA u u13 := RA_tr rr22 rr24
  obtain ⟨nn26, hh27⟩ := hh23
  refine ⟨nn26, mL5_mo RA RA_rf ?_ nn26 _ _ _ _ _ (RA_rf _) hh27⟩
  intro K_ K2_ z_ hz_ hK_ _ _ _ _ h_
  exact f_wj_X1_fill_59 (fun _ _ _ _ v_ rv_ h_ => hK_ _ _ _ _ v_ (RA_tr hz_ rv_) h_) (fun _ v_ rv_ h_ => hp _ v_ (RA_tr rr25 (RA_tr hz_ rv_)) h_) h_
theorem f_wp_X0_expandByRules {X X2 : Int32 → Int32 → mS → (mS → Prop) → Prop} {x1 : Int32} {x2 : Int32} {x3 : Int32} {u : mS} {post post_ : mS → Prop} (hX : ∀ (t_ x_ : Int32) (v_ : mS) (q_ q2_ : mS → Prop), (∀ w_, RA v_ w_ → q_ w_ → q2_ w_) → X t_ x_ v_ q_ → X2 t_ x_ v_ q2_) (hp : ∀ (b0_ : mS), RA u b0_ → post b0_ → post_ b0_) (h : wp_X0_expandByRules X x1 x2 x3 u post) : wp_X0_expandByRules X2 x1 x2 x3 u post_ := by
  intro y1 ee1
  have hh2 := h y1 ee1
  refine ⟨fun cc3 => ?_, fun cc4 => ?_⟩
  · have hh5 := hh2.1 cc3
    intro y3 ee6
    have hh7 := hh5 y3 ee6
    intro y4 ee8
    have hh9 := hh7 y4 ee8
    intro u5 ee10
    have hh11 := hh9 u5 ee10
    have rr12 : RA u u5 := by rw [ee10]; exact RA_set (RA_rf u) (by decide)
    refine f_wp_X0_newScope (fun r6 u7 rr14 hh13 => ?_) hh11
    have rr15 : RA u u7 := RA_tr rr12 rr14
    refine ⟨fun cc16 => ?_, fun cc17 => ?_⟩
    · have hh18 := hh13.1 cc16
      refine f_wp_X5_turnScope (fun u10 rr20 hh19 => ?_) hh18
      have rr21 : RA u u10 := RA_tr rr15 rr20
      refine f_wp_X1_firstRule (fun r11 u12 rr23 hh22 => ?_) hh19
      have rr24 : RA u u12 := RA_tr rr21 rr23
      refine ⟨fun cc25 => ?_, fun cc26 => ?_⟩
      · have hh27 := hh22.1 cc25
        refine f_wp_X1_fill (fun r14 u15 rr29 hh28 => ?_) hh27
        have rr30 : RA u u15 := RA_tr rr24 rr29
        intro y16 ee31
        have hh32 := hh28 y16 ee31
        refine ⟨fun cc33 => ?_, fun cc34 => ?_⟩
        · have hh35 := hh32.1 cc33
          refine f_wp_X5_turnScope (fun u19 rr37 hh36 => ?_) hh35
          have rr38 : RA u u19 := RA_tr rr30 rr37
          refine hX _ _ _ _ _ (fun u20 rr40 hh39 => ?_) hh36
          have rr41 : RA u u20 := RA_tr rr38 rr40
          exact hp _ rr41 hh39
        · have hh42 := hh32.2 cc34
          exact hp _ rr30 hh42
      · have hh43 := hh22.2 cc26
        refine f_wp_X2_fail (fun u22 rr45 hh44 => ?_) hh43
        have rr46 : RA u u22 := RA_tr rr24 rr45
        exact hp _ rr46 hh44
    · have hh47 := hh13.2 cc17
      exact hp _ rr15 hh47
  · have hh48 := hh2.2 cc4
    refine f_wp_X2_fail (fun u24 rr50 hh49 => ?_) hh48
    have rr51 : RA u u24 := RA_tr (RA_rf u) rr50
    exact hp _ rr51 hh49
theorem f_wj_X0_expandEach_58 {X X2 : Int32 → Int32 → mS → (mS → Prop) → Prop} {K28 K28_ : Int32 → Int32 → Int32 → Int32 → mS → Prop} {post post_ : mS → Prop} {x2 : Int32} {x3 : Int32} {x4 : Int32} {x5 : Int32} {u : mS} (hX : ∀ (t_ x_ : Int32) (v_ : mS) (q_ q2_ : mS → Prop), (∀ w_, RA v_ w_ → q_ w_ → q2_ w_) → X t_ x_ v_ q_ → X2 t_ x_ v_ q2_) (hK28 : ∀ (b0_ : Int32) (b1_ : Int32) (b2_ : Int32) (b3_ : Int32) (b4_ : mS), RA u b4_ → K28 b0_ b1_ b2_ b3_ b4_ → K28_ b0_ b1_ b2_ b3_ b4_) (hp : ∀ (b0_ : mS), RA u b0_ → post b0_ → post_ b0_) (h : wj_X0_expandEach_58 X K28 post x2 x3 x4 x5 u) : wj_X0_expandEach_58 X2 K28_ post_ x2 x3 x4 x5 u := by
  intro y13 ee1
  have hh2 := h y13 ee1
  refine hX _ _ _ _ _ (fun u14 rr4 hh3 => ?_) hh2
  have rr5 : RA u u14 := RA_tr (RA_rf u) rr4
  refine f_wp_X5_after (fun r15 u16 rr7 hh6 => ?_) hh3
  have rr8 : RA u u16 := RA_tr rr5 rr7
  intro y17 ee9
  have hh10 := hh6 y17 ee9
  exact hK28 _ _ _ _ _ rr8 hh10
theorem f_wj_X0_expandEach_84 {X X2 : Int32 → Int32 → mS → (mS → Prop) → Prop} {post post_ : mS → Prop} {u : mS} (hX : ∀ (t_ x_ : Int32) (v_ : mS) (q_ q2_ : mS → Prop), (∀ w_, RA v_ w_ → q_ w_ → q2_ w_) → X t_ x_ v_ q_ → X2 t_ x_ v_ q2_) (hp : ∀ (b0_ : mS), RA u b0_ → post b0_ → post_ b0_) (h : wj_X0_expandEach_84 X post u) : wj_X0_expandEach_84 X2 post_ u := by
  refine f_wp_X2_put (fun u19 rr2 hh1 => ?_) h
  have rr3 : RA u u19 := RA_tr (RA_rf u) rr2
  exact hp _ rr3 hh1
theorem f_wj_X0_expandEach_28 {X X2 : Int32 → Int32 → mS → (mS → Prop) → Prop} {K28 K28_ : Int32 → Int32 → Int32 → Int32 → mS → Prop} {post post_ : mS → Prop} {x2 : Int32} {x3 : Int32} {x4 : Int32} {x5 : Int32} {u : mS} (hX : ∀ (t_ x_ : Int32) (v_ : mS) (q_ q2_ : mS → Prop), (∀ w_, RA v_ w_ → q_ w_ → q2_ w_) → X t_ x_ v_ q_ → X2 t_ x_ v_ q2_) (hK28 : ∀ (b0_ : Int32) (b1_ : Int32) (b2_ : Int32) (b3_ : Int32) (b4_ : mS), RA u b4_ → K28 b0_ b1_ b2_ b3_ b4_ → K28_ b0_ b1_ b2_ b3_ b4_) (hp : ∀ (b0_ : mS), RA u b0_ → post b0_ → post_ b0_) (h : wj_X0_expandEach_28 X K28 post x2 x3 x4 x5 u) : wj_X0_expandEach_28 X2 K28_ post_ x2 x3 x4 x5 u := by
  refine ⟨fun cc1 => ?_, fun cc2 => ?_⟩
  · have hh3 := h.1 cc1
    exact f_wj_X0_expandEach_84 hX (fun v_ rv_ h_ => hp v_ (RA_tr (RA_rf u) rv_) h_) hh3
  · have hh4 := h.2 cc2
    intro y8 ee5
    have hh6 := hh4 y8 ee5
    refine ⟨fun cc7 => ?_, fun cc8 => ?_⟩
    · have hh9 := hh6.1 cc7
      exact f_wj_X0_expandEach_84 hX (fun v_ rv_ h_ => hp v_ (RA_tr (RA_rf u) rv_) h_) hh9
    · have hh10 := hh6.2 cc8
      refine ⟨fun cc11 => ?_, fun cc12 => ?_⟩
      · have hh13 := hh10.1 cc11
        exact f_wj_X0_expandEach_58 hX (fun _ _ _ _ v_ rv_ h_ => hK28 _ _ _ _ v_ (RA_tr (RA_rf u) rv_) h_) (fun v_ rv_ h_ => hp v_ (RA_tr (RA_rf u) rv_) h_) hh13
      · have hh14 := hh10.2 cc12
        refine f_wp_X2_put (fun u12 rr16 hh15 => ?_) hh14
        have rr17 : RA u u12 := RA_tr (RA_rf u) rr16
        exact f_wj_X0_expandEach_58 hX (fun _ _ _ _ v_ rv_ h_ => hK28 _ _ _ _ v_ (RA_tr rr17 rv_) h_) (fun v_ rv_ h_ => hp v_ (RA_tr rr17 rv_) h_) hh15
theorem f_wp_X0_expandEach {X X2 : Int32 → Int32 → mS → (mS → Prop) → Prop} {x1 : Int32} {x2 : Int32} {u : mS} {post post_ : mS → Prop} (hX : ∀ (t_ x_ : Int32) (v_ : mS) (q_ q2_ : mS → Prop), (∀ w_, RA v_ w_ → q_ w_ → q2_ w_) → X t_ x_ v_ q_ → X2 t_ x_ v_ q2_) (hp : ∀ (b0_ : mS), RA u b0_ → post b0_ → post_ b0_) (h : wp_X0_expandEach X x1 x2 u post) : wp_X0_expandEach X2 x1 x2 u post_ := by
  intro y1 ee1
  have hh2 := h y1 ee1
  refine f_wp_X5_itemsFrom (fun r2 u3 rr4 hh3 => ?_) hh2
  have rr5 : RA u u3 := RA_tr (RA_rf u) rr4
  intro y4 ee6
  have hh7 := hh3 y4 ee6
  refine f_wp_X2_put (fun u6 rr9 hh8 => ?_) hh7
  have rr10 : RA u u6 := RA_tr rr5 rr9
  obtain ⟨nn11, hh12⟩ := hh8
  refine ⟨nn11, mL5_mo RA RA_rf ?_ nn11 _ _ _ _ _ (RA_rf _) hh12⟩
  intro K_ K2_ z_ hz_ hK_ _ _ _ _ h_
  exact f_wj_X0_expandEach_28 hX (fun _ _ _ _ v_ rv_ h_ => hK_ _ _ _ _ v_ (RA_tr hz_ rv_) h_) (fun v_ rv_ h_ => hp v_ (RA_tr rr10 (RA_tr hz_ rv_)) h_) h_
theorem f_wj_X0_expandList_60 {X X2 : Int32 → Int32 → mS → (mS → Prop) → Prop} {post post_ : mS → Prop} {x1 : Int32} {x2 : Int32} {z0 : Int32} {u : mS} (hX : ∀ (t_ x_ : Int32) (v_ : mS) (q_ q2_ : mS → Prop), (∀ w_, RA v_ w_ → q_ w_ → q2_ w_) → X t_ x_ v_ q_ → X2 t_ x_ v_ q2_) (hp : ∀ (b0_ : mS), RA u b0_ → post b0_ → post_ b0_) (h : wj_X0_expandList_60 X post x1 x2 z0 u) : wj_X0_expandList_60 X2 post_ x1 x2 z0 u := by
  intro y16 ee1
  have hh2 := h y16 ee1
  refine ⟨fun cc3 => ?_, fun cc4 => ?_⟩
  · have hh5 := hh2.1 cc3
    refine f_wp_X7_kindOf (fun r18 u19 rr7 hh6 => ?_) hh5
    have rr8 : RA u u19 := RA_tr (RA_rf u) rr7
    refine ⟨fun cc9 => ?_, fun cc10 => ?_, fun cc11 => ?_, fun cc12 => ?_, fun cc13 => ?_, fun cc14 cc15 cc16 cc17 cc18 => ?_⟩
    · have hh19 := hh6.1 cc9
      refine f_wp_X0_expandFn hX (fun u21 rr21 hh20 => ?_) hh19
      have rr22 : RA u u21 := RA_tr rr8 rr21
      exact hp _ rr22 hh20
    · have hh23 := hh6.2.1 cc10
      refine f_wp_X0_expandIf hX (fun u23 rr25 hh24 => ?_) hh23
      have rr26 : RA u u23 := RA_tr rr8 rr25
      exact hp _ rr26 hh24
    · have hh27 := hh6.2.2.1 cc11
      refine f_wp_X0_expandQ (fun u25 rr29 hh28 => ?_) hh27
      have rr30 : RA u u25 := RA_tr rr8 rr29
      exact hp _ rr30 hh28
    · have hh31 := hh6.2.2.2.1 cc12
      refine f_wp_X0_expandLs hX (fun u27 rr33 hh32 => ?_) hh31
      have rr34 : RA u u27 := RA_tr rr8 rr33
      exact hp _ rr34 hh32
    · have hh35 := hh6.2.2.2.2.1 cc13
      refine f_wp_X7_valueOf (fun r28 u29 rr37 hh36 => ?_) hh35
      have rr38 : RA u u29 := RA_tr rr8 rr37
      refine f_wp_X0_expandByRules hX (fun u31 rr40 hh39 => ?_) hh36
      have rr41 : RA u u31 := RA_tr rr38 rr40
      exact hp _ rr41 hh39
    · have hh42 := hh6.2.2.2.2.2 cc14 cc15 cc16 cc17 cc18
      refine f_wp_X0_expandEach hX (fun u33 rr44 hh43 => ?_) hh42
      have rr45 : RA u u33 := RA_tr rr8 rr44
      exact hp _ rr45 hh43
  · have hh46 := hh2.2 cc4
    exact hp _ (RA_rf u) hh46
theorem f_wp_X0_expandList {X X2 : Int32 → Int32 → mS → (mS → Prop) → Prop} {x1 : Int32} {x2 : Int32} {u : mS} {post post_ : mS → Prop} (hX : ∀ (t_ x_ : Int32) (v_ : mS) (q_ q2_ : mS → Prop), (∀ w_, RA v_ w_ → q_ w_ → q2_ w_) → X t_ x_ v_ q_ → X2 t_ x_ v_ q2_) (hp : ∀ (b0_ : mS), RA u b0_ → post b0_ → post_ b0_) (h : wp_X0_expandList X x1 x2 u post) : wp_X0_expandList X2 x1 x2 u post_ := by
  intro y1 ee1
  have hh2 := h y1 ee1
  refine f_wp_X5_wordAt (fun r2 u3 rr4 hh3 => ?_) hh2
  have rr5 : RA u u3 := RA_tr (RA_rf u) rr4
  refine ⟨fun cc6 => ?_, fun cc7 => ?_⟩
  · have hh8 := hh3.1 cc6
    refine ⟨fun cc9 => ?_, fun cc10 => ?_⟩
    · have hh11 := hh8.1 cc9
      refine f_wp_X8_isName (fun r6 u7 rr13 hh12 => ?_) hh11
      have rr14 : RA u u7 := RA_tr rr5 rr13
      refine ⟨fun cc15 => ?_, fun cc16 => ?_⟩
      · have hh17 := hh12.1 cc15
        exact f_wj_X0_expandList_60 hX (fun v_ rv_ h_ => hp v_ (RA_tr rr14 rv_) h_) hh17
      · have hh18 := hh12.2 cc16
        intro y9 ee19
        have hh20 := hh18 y9 ee19
        refine f_wp_X0_meaningOf (fun r10 u11 rr22 hh21 => ?_) hh20
        have rr23 : RA u u11 := RA_tr rr14 rr22
        exact f_wj_X0_expandList_60 hX (fun v_ rv_ h_ => hp v_ (RA_tr rr23 rv_) h_) hh21
    · have hh24 := hh8.2 cc10
      refine f_wp_X2_fail (fun u13 rr26 hh25 => ?_) hh24
      have rr27 : RA u u13 := RA_tr rr5 rr26
      exact hp _ rr27 hh25
  · have hh28 := hh3.2 cc7
    refine f_wp_X2_fail (fun u15 rr30 hh29 => ?_) hh28
    have rr31 : RA u u15 := RA_tr rr5 rr30
    exact hp _ rr31 hh29
theorem f_wp_X0_expandTree {X X2 : Int32 → Int32 → mS → (mS → Prop) → Prop} {x1 : Int32} {x2 : Int32} {u : mS} {post post_ : mS → Prop} (hX : ∀ (t_ x_ : Int32) (v_ : mS) (q_ q2_ : mS → Prop), (∀ w_, RA v_ w_ → q_ w_ → q2_ w_) → X t_ x_ v_ q_ → X2 t_ x_ v_ q2_) (hp : ∀ (b0_ : mS), RA u b0_ → post b0_ → post_ b0_) (h : wp_X0_expandTree X x1 x2 u post) : wp_X0_expandTree X2 x1 x2 u post_ := by
  intro y1 ee1
  have hh2 := h y1 ee1
  refine ⟨fun cc3 => ?_, fun cc4 => ?_⟩
  · have hh5 := hh2.1 cc3
    refine f_wp_X5_wordAt (fun r3 u4 rr7 hh6 => ?_) hh5
    have rr8 : RA u u4 := RA_tr (RA_rf u) rr7
    refine ⟨fun cc9 => ?_, fun cc10 => ?_⟩
    · have hh11 := hh6.1 cc9
      refine f_wp_X8_isName (fun r6 u7 rr13 hh12 => ?_) hh11
      have rr14 : RA u u7 := RA_tr rr8 rr13
      refine ⟨fun cc15 => ?_, fun cc16 => ?_⟩
      · have hh17 := hh12.1 cc15
        refine f_wp_X8_isNumber (fun r9 u10 rr19 hh18 => ?_) hh17
        have rr20 : RA u u10 := RA_tr rr14 rr19
        refine ⟨fun cc21 => ?_, fun cc22 => ?_⟩
        · have hh23 := hh18.1 cc21
          refine f_wp_X2_fail (fun u13 rr25 hh24 => ?_) hh23
          have rr26 : RA u u13 := RA_tr rr20 rr25
          exact hp _ rr26 hh24
        · have hh27 := hh18.2 cc22
          refine f_wp_X2_putNumber (fun u15 rr29 hh28 => ?_) hh27
          have rr30 : RA u u15 := RA_tr rr20 rr29
          exact hp _ rr30 hh28
      · have hh31 := hh12.2 cc16
        refine f_wp_X0_expandName (fun u17 rr33 hh32 => ?_) hh31
        have rr34 : RA u u17 := RA_tr rr14 rr33
        exact hp _ rr34 hh32
    · have hh35 := hh6.2 cc10
      refine f_wp_X0_expandList hX (fun u19 rr37 hh36 => ?_) hh35
      have rr38 : RA u u19 := RA_tr rr8 rr37
      exact hp _ rr38 hh36
  · have hh39 := hh2.2 cc4
    exact hp _ (RA_rf u) hh39
theorem f_wpT : ∀ (d : Nat) (t x : Int32) (u : mS) (q q2 : mS → Prop), (∀ w, RA u w → q w → q2 w) → wpT d t x u q → wpT d t x u q2
  | 0, _, _, _, _, _, _, h => h.elim
  | d + 1, _, _, _, _, _, hp, h => f_wp_X0_expandTree (fun t x v q q2 hq h => f_wpT d t x v q q2 hq h) hp h
theorem f_wpT24 (t x : Int32) (u : mS) (q q2 : mS → Prop) (hp : ∀ w, RA u w → q w → q2 w) (h : wpT 24 t x u q) : wpT 24 t x u q2 := f_wpT 24 t x u q q2 hp h
theorem f_wp_X5_restart {u : mS} {post post_ : mS → Prop} (hp : ∀ (b0_ : mS), RA u b0_ → post b0_ → post_ b0_) (h : wp_X5_restart u post) : wp_X5_restart u post_ := by
  intro u1 ee1
  have hh2 := h u1 ee1
  have rr3 : RA u u1 := by rw [ee1]; exact RA_set (RA_rf u) (by decide)
  intro u2 ee4
  have hh5 := hh2 u2 ee4
  have rr6 : RA u u2 := by rw [ee4]; exact RA_set rr3 (by decide)
  exact hp _ rr6 hh5
theorem f_wp_X3_isWhole {u : mS} {post post_ : Int32 → mS → Prop} (hp : ∀ (b0_ : Int32) (b1_ : mS), RA u b1_ → post b0_ b1_ → post_ b0_ b1_) (h : wp_X3_isWhole u post) : wp_X3_isWhole u post_ := by
  intro y1 ee1
  have hh2 := h y1 ee1
  refine ⟨fun cc3 => ?_, fun cc4 => ?_⟩
  · have hh5 := hh2.1 cc3
    exact hp _ _ (RA_rf u) hh5
  · have hh6 := hh2.2 cc4
    intro y3 ee7
    have hh8 := hh6 y3 ee7
    refine ⟨fun cc9 => ?_, fun cc10 => ?_⟩
    · have hh11 := hh8.1 cc9
      exact hp _ _ (RA_rf u) hh11
    · have hh12 := hh8.2 cc10
      exact hp _ _ (RA_rf u) hh12
theorem f_wj_X3_runLength_1_56 {post post_ : Int32 → mS → Prop} {x5 : Int32} {u : mS} (hp : ∀ (b0_ : Int32) (b1_ : mS), RA u b1_ → post b0_ b1_ → post_ b0_ b1_) (h : wj_X3_runLength_1_56 post x5 u) : wj_X3_runLength_1_56 post_ x5 u := by
  exact hp _ _ (RA_rf u) h
theorem f_wj_X3_runLength_1_14 {K14 K14_ : Int32 → Int32 → Int32 → Int32 → Int32 → mS → Prop} {post post_ : Int32 → mS → Prop} {x1 : Int32} {x3 : Int32} {x4 : Int32} {x5 : Int32} {x6 : Int32} {u : mS} (hK14 : ∀ (b0_ : Int32) (b1_ : Int32) (b2_ : Int32) (b3_ : Int32) (b4_ : Int32) (b5_ : mS), RA u b5_ → K14 b0_ b1_ b2_ b3_ b4_ b5_ → K14_ b0_ b1_ b2_ b3_ b4_ b5_) (hp : ∀ (b0_ : Int32) (b1_ : mS), RA u b1_ → post b0_ b1_ → post_ b0_ b1_) (h : wj_X3_runLength_1_14 K14 post x1 x3 x4 x5 x6 u) : wj_X3_runLength_1_14 K14_ post_ x1 x3 x4 x5 x6 u := by
  refine ⟨fun cc1 => ?_, fun cc2 => ?_⟩
  · have hh3 := h.1 cc1
    exact f_wj_X3_runLength_1_56 (fun _ v_ rv_ h_ => hp _ v_ (RA_tr (RA_rf u) rv_) h_) hh3
  · have hh4 := h.2 cc2
    refine ⟨fun cc5 => ?_, fun cc6 => ?_⟩
    · have hh7 := hh4.1 cc5
      exact f_wj_X3_runLength_1_56 (fun _ v_ rv_ h_ => hp _ v_ (RA_tr (RA_rf u) rv_) h_) hh7
    · have hh8 := hh4.2 cc6
      refine ⟨hh8.1, ?_⟩
      have hh9 := hh8.2
      intro y4 ee10
      have hh11 := hh9 y4 ee10
      refine ⟨fun cc12 => ?_, fun cc13 => ?_⟩
      · have hh14 := hh11.1 cc12
        exact f_wj_X3_runLength_1_56 (fun _ v_ rv_ h_ => hp _ v_ (RA_tr (RA_rf u) rv_) h_) hh14
      · have hh15 := hh11.2 cc13
        refine ⟨hh15.1, ?_⟩
        have hh16 := hh15.2
        intro y6 ee17
        have hh18 := hh16 y6 ee17
        refine ⟨fun cc19 => ?_, fun cc20 => ?_⟩
        · have hh21 := hh18.1 cc19
          intro y8 ee22
          have hh23 := hh21 y8 ee22
          intro y9 ee24
          have hh25 := hh23 y9 ee24
          exact hK14 _ _ _ _ _ _ (RA_rf u) hh25
        · have hh26 := hh18.2 cc20
          exact f_wj_X3_runLength_1_56 (fun _ v_ rv_ h_ => hp _ v_ (RA_tr (RA_rf u) rv_) h_) hh26
theorem f_wj_X3_runLength_1_12 {post post_ : Int32 → mS → Prop} {x1 : Int32} {x3 : Int32} {x4 : Int32} {x5 : Int32} {z0 : Int32} {u : mS} (hp : ∀ (b0_ : Int32) (b1_ : mS), RA u b1_ → post b0_ b1_ → post_ b0_ b1_) (h : wj_X3_runLength_1_12 post x1 x3 x4 x5 z0 u) : wj_X3_runLength_1_12 post_ x1 x3 x4 x5 z0 u := by
  obtain ⟨nn1, hh2⟩ := h
  refine ⟨nn1, mL6_mo RA RA_rf ?_ nn1 _ _ _ _ _ _ (RA_rf _) hh2⟩
  intro K_ K2_ z_ hz_ hK_ _ _ _ _ _ h_
  exact f_wj_X3_runLength_1_14 (fun _ _ _ _ _ v_ rv_ h_ => hK_ _ _ _ _ _ v_ (RA_tr hz_ rv_) h_) (fun _ v_ rv_ h_ => hp _ v_ (RA_tr (RA_rf u) (RA_tr hz_ rv_)) h_) h_
theorem f_wp_X3_runLength_1 {x1 : Int32} {x2 : Int32} {x3 : Int32} {x4 : Int32} {u : mS} {post post_ : Int32 → mS → Prop} (hp : ∀ (b0_ : Int32) (b1_ : mS), RA u b1_ → post b0_ b1_ → post_ b0_ b1_) (h : wp_X3_runLength_1 x1 x2 x3 x4 u post) : wp_X3_runLength_1 x1 x2 x3 x4 u post_ := by
  refine ⟨fun cc1 => ?_, fun cc2 => ?_⟩
  · have hh3 := h.1 cc1
    exact f_wj_X3_runLength_1_12 (fun _ v_ rv_ h_ => hp _ v_ (RA_tr (RA_rf u) rv_) h_) hh3
  · have hh4 := h.2 cc2
    exact f_wj_X3_runLength_1_12 (fun _ v_ rv_ h_ => hp _ v_ (RA_tr (RA_rf u) rv_) h_) hh4
theorem f_wj_X3_readName_1_54 {post post_ : Int32 → mS → Prop} {x3 : Int32} {x4 : Int32} {u : mS} (hp : ∀ (b0_ : Int32) (b1_ : mS), RA u b1_ → post b0_ b1_ → post_ b0_ b1_) (h : wj_X3_readName_1_54 post x3 x4 u) : wj_X3_readName_1_54 post_ x3 x4 u := by
  refine f_wp_X5_add (fun u11 rr2 hh1 => ?_) h
  have rr3 : RA u u11 := RA_tr (RA_rf u) rr2
  exact hp _ _ rr3 hh1
theorem f_wj_X3_readName_1_21 {K21 K21_ : Int32 → Int32 → Int32 → Int32 → mS → Prop} {post post_ : Int32 → mS → Prop} {x2 : Int32} {x3 : Int32} {x4 : Int32} {x5 : Int32} {u : mS} (hK21 : ∀ (b0_ : Int32) (b1_ : Int32) (b2_ : Int32) (b3_ : Int32) (b4_ : mS), RA u b4_ → K21 b0_ b1_ b2_ b3_ b4_ → K21_ b0_ b1_ b2_ b3_ b4_) (hp : ∀ (b0_ : Int32) (b1_ : mS), RA u b1_ → post b0_ b1_ → post_ b0_ b1_) (h : wj_X3_readName_1_21 K21 post x2 x3 x4 x5 u) : wj_X3_readName_1_21 K21_ post_ x2 x3 x4 x5 u := by
  intro y3 ee1
  have hh2 := h y3 ee1
  refine ⟨fun cc3 => ?_, fun cc4 => ?_⟩
  · have hh5 := hh2.1 cc3
    exact f_wj_X3_readName_1_54 (fun _ v_ rv_ h_ => hp _ v_ (RA_tr (RA_rf u) rv_) h_) hh5
  · have hh6 := hh2.2 cc4
    refine ⟨fun cc7 => ?_, fun cc8 => ?_⟩
    · have hh9 := hh6.1 cc7
      exact f_wj_X3_readName_1_54 (fun _ v_ rv_ h_ => hp _ v_ (RA_tr (RA_rf u) rv_) h_) hh9
    · have hh10 := hh6.2 cc8
      intro y6 ee11
      have hh12 := hh10 y6 ee11
      refine ⟨hh12.1, ?_⟩
      have hh13 := hh12.2
      intro y7 ee14
      have hh15 := hh13 y7 ee14
      intro y8 ee16
      have hh17 := hh15 y8 ee16
      intro y9 ee18
      have hh19 := hh17 y9 ee18
      exact hK21 _ _ _ _ _ (RA_rf u) hh19
theorem f_wj_X3_readName_1_19 {post post_ : Int32 → mS → Prop} {x2 : Int32} {x3 : Int32} {x4 : Int32} {z0 : Int32} {u : mS} (hp : ∀ (b0_ : Int32) (b1_ : mS), RA u b1_ → post b0_ b1_ → post_ b0_ b1_) (h : wj_X3_readName_1_19 post x2 x3 x4 z0 u) : wj_X3_readName_1_19 post_ x2 x3 x4 z0 u := by
  obtain ⟨nn1, hh2⟩ := h
  refine ⟨nn1, mL5_mo RA RA_rf ?_ nn1 _ _ _ _ _ (RA_rf _) hh2⟩
  intro K_ K2_ z_ hz_ hK_ _ _ _ _ h_
  exact f_wj_X3_readName_1_21 (fun _ _ _ _ v_ rv_ h_ => hK_ _ _ _ _ v_ (RA_tr hz_ rv_) h_) (fun _ v_ rv_ h_ => hp _ v_ (RA_tr (RA_rf u) (RA_tr hz_ rv_)) h_) h_
theorem f_wp_X3_readName_1 {x2 : Int32} {x3 : Int32} {u : mS} {post post_ : Int32 → mS → Prop} (hp : ∀ (b0_ : Int32) (b1_ : mS), RA u b1_ → post b0_ b1_ → post_ b0_ b1_) (h : wp_X3_readName_1 x2 x3 u post) : wp_X3_readName_1 x2 x3 u post_ := by
  refine ⟨fun cc1 => ?_, fun cc2 => ?_⟩
  · have hh3 := h.1 cc1
    refine ⟨fun cc4 => ?_, fun cc5 => ?_⟩
    · have hh6 := hh3.1 cc4
      exact f_wj_X3_readName_1_19 (fun _ v_ rv_ h_ => hp _ v_ (RA_tr (RA_rf u) rv_) h_) hh6
    · have hh7 := hh3.2 cc5
      exact f_wj_X3_readName_1_19 (fun _ v_ rv_ h_ => hp _ v_ (RA_tr (RA_rf u) rv_) h_) hh7
  · have hh8 := h.2 cc2
    exact hp _ _ (RA_rf u) hh8
theorem f_wj_X3_readNumber_1_72 {post post_ : Int32 → mS → Prop} {x3 : Int32} {x4 : Int32} {u : mS} (hp : ∀ (b0_ : Int32) (b1_ : mS), RA u b1_ → post b0_ b1_ → post_ b0_ b1_) (h : wj_X3_readNumber_1_72 post x3 x4 u) : wj_X3_readNumber_1_72 post_ x3 x4 u := by
  refine f_wp_X5_add (fun u16 rr2 hh1 => ?_) h
  have rr3 : RA u u16 := RA_tr (RA_rf u) rr2
  exact hp _ _ rr3 hh1
theorem f_wj_X3_readNumber_1_36 {K36 K36_ : Int32 → Int32 → Int32 → Int32 → mS → Prop} {post post_ : Int32 → mS → Prop} {x2 : Int32} {x3 : Int32} {x4 : Int32} {x5 : Int32} {u : mS} (hK36 : ∀ (b0_ : Int32) (b1_ : Int32) (b2_ : Int32) (b3_ : Int32) (b4_ : mS), RA u b4_ → K36 b0_ b1_ b2_ b3_ b4_ → K36_ b0_ b1_ b2_ b3_ b4_) (hp : ∀ (b0_ : Int32) (b1_ : mS), RA u b1_ → post b0_ b1_ → post_ b0_ b1_) (h : wj_X3_readNumber_1_36 K36 post x2 x3 x4 x5 u) : wj_X3_readNumber_1_36 K36_ post_ x2 x3 x4 x5 u := by
  intro y7 ee1
  have hh2 := h y7 ee1
  refine ⟨fun cc3 => ?_, fun cc4 => ?_⟩
  · have hh5 := hh2.1 cc3
    exact f_wj_X3_readNumber_1_72 (fun _ v_ rv_ h_ => hp _ v_ (RA_tr (RA_rf u) rv_) h_) hh5
  · have hh6 := hh2.2 cc4
    refine ⟨fun cc7 => ?_, fun cc8 => ?_⟩
    · have hh9 := hh6.1 cc7
      exact f_wj_X3_readNumber_1_72 (fun _ v_ rv_ h_ => hp _ v_ (RA_tr (RA_rf u) rv_) h_) hh9
    · have hh10 := hh6.2 cc8
      intro y10 ee11
      have hh12 := hh10 y10 ee11
      refine ⟨hh12.1, ?_⟩
      have hh13 := hh12.2
      intro y11 ee14
      have hh15 := hh13 y11 ee14
      intro y12 ee16
      have hh17 := hh15 y12 ee16
      intro y13 ee18
      have hh19 := hh17 y13 ee18
      intro y14 ee20
      have hh21 := hh19 y14 ee20
      exact hK36 _ _ _ _ _ (RA_rf u) hh21
theorem f_wj_X3_readNumber_1_30 {post post_ : Int32 → mS → Prop} {x2 : Int32} {x3 : Int32} {u : mS} (hp : ∀ (b0_ : Int32) (b1_ : mS), RA u b1_ → post b0_ b1_ → post_ b0_ b1_) (h : wj_X3_readNumber_1_30 post x2 x3 u) : wj_X3_readNumber_1_30 post_ x2 x3 u := by
  obtain ⟨nn1, hh2⟩ := h
  refine ⟨nn1, mL5_mo RA RA_rf ?_ nn1 _ _ _ _ _ (RA_rf _) hh2⟩
  intro K_ K2_ z_ hz_ hK_ _ _ _ _ h_
  exact f_wj_X3_readNumber_1_36 (fun _ _ _ _ v_ rv_ h_ => hK_ _ _ _ _ v_ (RA_tr hz_ rv_) h_) (fun _ v_ rv_ h_ => hp _ v_ (RA_tr (RA_rf u) (RA_tr hz_ rv_)) h_) h_
theorem f_wp_X3_readNumber_1 {x2 : Int32} {x3 : Int32} {u : mS} {post post_ : Int32 → mS → Prop} (hp : ∀ (b0_ : Int32) (b1_ : mS), RA u b1_ → post b0_ b1_ → post_ b0_ b1_) (h : wp_X3_readNumber_1 x2 x3 u post) : wp_X3_readNumber_1 x2 x3 u post_ := by
  refine ⟨fun cc1 => ?_, fun cc2 => ?_⟩
  · have hh3 := h.1 cc1
    exact hp _ _ (RA_rf u) hh3
  · have hh4 := h.2 cc2
    refine ⟨fun cc5 => ?_, fun cc6 => ?_⟩
    · have hh7 := hh4.1 cc5
      exact hp _ _ (RA_rf u) hh7
    · have hh8 := hh4.2 cc6
      refine ⟨fun cc9 => ?_, fun cc10 => ?_⟩
      · have hh11 := hh8.1 cc9
        exact hp _ _ (RA_rf u) hh11
      · have hh12 := hh8.2 cc10
        refine ⟨fun cc13 => ?_, fun cc14 => ?_⟩
        · have hh15 := hh12.1 cc13
          exact f_wj_X3_readNumber_1_30 (fun _ v_ rv_ h_ => hp _ v_ (RA_tr (RA_rf u) rv_) h_) hh15
        · have hh16 := hh12.2 cc14
          refine ⟨hh16.1, ?_⟩
          have hh17 := hh16.2
          intro y5 ee18
          have hh19 := hh17 y5 ee18
          refine ⟨fun cc20 => ?_, fun cc21 => ?_⟩
          · have hh22 := hh19.1 cc20
            exact f_wj_X3_readNumber_1_30 (fun _ v_ rv_ h_ => hp _ v_ (RA_tr (RA_rf u) rv_) h_) hh22
          · have hh23 := hh19.2 cc21
            exact hp _ _ (RA_rf u) hh23
theorem f_wp_X3_readOpen {u : mS} {post post_ : Int32 → mS → Prop} (hp : ∀ (b0_ : Int32) (b1_ : mS), RA u b1_ → post b0_ b1_ → post_ b0_ b1_) (h : wp_X3_readOpen u post) : wp_X3_readOpen u post_ := by
  intro y1 ee1
  have hh2 := h y1 ee1
  refine ⟨fun cc3 => ?_, fun cc4 => ?_⟩
  · have hh5 := hh2.1 cc3
    intro y3 ee6
    have hh7 := hh5 y3 ee6
    intro y4 ee8
    have hh9 := hh7 y4 ee8
    intro u5 ee10
    have hh11 := hh9 u5 ee10
    have rr12 : RA u u5 := by rw [ee10]; exact RA_set (RA_rf u) (by decide)
    refine f_wp_X5_add (fun u7 rr14 hh13 => ?_) hh11
    have rr15 : RA u u7 := RA_tr rr12 rr14
    exact hp _ _ rr15 hh13
  · have hh16 := hh2.2 cc4
    exact hp _ _ (RA_rf u) hh16
theorem f_wp_X3_readClose {u : mS} {post post_ : Int32 → mS → Prop} (hp : ∀ (b0_ : Int32) (b1_ : mS), RA u b1_ → post b0_ b1_ → post_ b0_ b1_) (h : wp_X3_readClose u post) : wp_X3_readClose u post_ := by
  intro y1 ee1
  have hh2 := h y1 ee1
  refine ⟨fun cc3 => ?_, fun cc4 => ?_⟩
  · have hh5 := hh2.1 cc3
    intro y3 ee6
    have hh7 := hh5 y3 ee6
    intro y4 ee8
    have hh9 := hh7 y4 ee8
    intro u5 ee10
    have hh11 := hh9 u5 ee10
    have rr12 : RA u u5 := by rw [ee10]; exact RA_set (RA_rf u) (by decide)
    refine f_wp_X5_add (fun u7 rr14 hh13 => ?_) hh11
    have rr15 : RA u u7 := RA_tr rr12 rr14
    exact hp _ _ rr15 hh13
  · have hh16 := hh2.2 cc4
    exact hp _ _ (RA_rf u) hh16
theorem f_wp_X3_readDots {x1 : Int32} {u : mS} {post post_ : Int32 → mS → Prop} (hp : ∀ (b0_ : Int32) (b1_ : mS), RA u b1_ → post b0_ b1_ → post_ b0_ b1_) (h : wp_X3_readDots x1 u post) : wp_X3_readDots x1 u post_ := by
  intro y1 ee1
  have hh2 := h y1 ee1
  intro y2 ee3
  have hh4 := hh2 y2 ee3
  refine f_wp_X5_wordAt (fun r3 u4 rr6 hh5 => ?_) hh4
  have rr7 : RA u u4 := RA_tr (RA_rf u) rr6
  refine ⟨fun cc8 => ?_, fun cc9 => ?_⟩
  · have hh10 := hh5.1 cc8
    exact hp _ _ rr7 hh10
  · have hh11 := hh5.2 cc9
    intro y6 ee12
    have hh13 := hh11 y6 ee12
    refine ⟨fun cc14 => ?_, fun cc15 => ?_⟩
    · have hh16 := hh13.1 cc14
      exact hp _ _ rr7 hh16
    · have hh17 := hh13.2 cc15
      refine ⟨fun cc18 => ?_, fun cc19 => ?_⟩
      · have hh20 := hh17.1 cc18
        exact hp _ _ rr7 hh20
      · have hh21 := hh17.2 cc19
        refine ⟨fun cc22 => ?_, fun cc23 => ?_⟩
        · have hh24 := hh21.1 cc22
          refine f_wp_X5_add (fun u11 rr26 hh25 => ?_) hh24
          have rr27 : RA u u11 := RA_tr rr7 rr26
          exact hp _ _ rr27 hh25
        · have hh28 := hh21.2 cc23
          exact hp _ _ rr7 hh28
theorem f_wj_X3_readToken_1_86 {post post_ : Int32 → mS → Prop} {x2 : Int32} {x3 : Int32} {x4 : Int32} {u : mS} (hp : ∀ (b0_ : Int32) (b1_ : mS), RA u b1_ → post b0_ b1_ → post_ b0_ b1_) (h : wj_X3_readToken_1_86 post x2 x3 x4 u) : wj_X3_readToken_1_86 post_ x2 x3 x4 u := by
  refine ⟨fun cc1 => ?_, fun cc2 => ?_, fun cc3 => ?_, fun cc4 => ?_, fun cc5 => ?_, fun cc6 => ?_, fun cc7 => ?_, fun cc8 => ?_, fun cc9 cc10 cc11 cc12 cc13 cc14 cc15 cc16 => ?_⟩
  · have hh17 := h.1 cc1
    refine f_wp_X3_readOpen (fun r19 u20 rr19 hh18 => ?_) hh17
    have rr20 : RA u u20 := RA_tr (RA_rf u) rr19
    exact hp _ _ rr20 hh18
  · have hh21 := h.2.1 cc2
    refine f_wp_X3_readClose (fun r21 u22 rr23 hh22 => ?_) hh21
    have rr24 : RA u u22 := RA_tr (RA_rf u) rr23
    exact hp _ _ rr24 hh22
  · have hh25 := h.2.2.1 cc3
    refine f_wp_X3_readName_1 (fun r23 u24 rr27 hh26 => ?_) hh25
    have rr28 : RA u u24 := RA_tr (RA_rf u) rr27
    exact hp _ _ rr28 hh26
  · have hh29 := h.2.2.2.1 cc4
    refine f_wp_X3_readName_1 (fun r25 u26 rr31 hh30 => ?_) hh29
    have rr32 : RA u u26 := RA_tr (RA_rf u) rr31
    exact hp _ _ rr32 hh30
  · have hh33 := h.2.2.2.2.1 cc5
    refine f_wp_X3_runLength_1 (fun r27 u28 rr35 hh34 => ?_) hh33
    have rr36 : RA u u28 := RA_tr (RA_rf u) rr35
    refine f_wp_X3_readDots (fun r29 u30 rr38 hh37 => ?_) hh34
    have rr39 : RA u u30 := RA_tr rr36 rr38
    exact hp _ _ rr39 hh37
  · have hh40 := h.2.2.2.2.2.1 cc6
    refine f_wp_X3_readName_1 (fun r31 u32 rr42 hh41 => ?_) hh40
    have rr43 : RA u u32 := RA_tr (RA_rf u) rr42
    exact hp _ _ rr43 hh41
  · have hh44 := h.2.2.2.2.2.2.1 cc7
    refine f_wp_X3_readName_1 (fun r33 u34 rr46 hh45 => ?_) hh44
    have rr47 : RA u u34 := RA_tr (RA_rf u) rr46
    exact hp _ _ rr47 hh45
  · have hh48 := h.2.2.2.2.2.2.2.1 cc8
    refine f_wp_X5_add (fun u36 rr50 hh49 => ?_) hh48
    have rr51 : RA u u36 := RA_tr (RA_rf u) rr50
    exact hp _ _ rr51 hh49
  · have hh52 := h.2.2.2.2.2.2.2.2 cc9 cc10 cc11 cc12 cc13 cc14 cc15 cc16
    exact hp _ _ (RA_rf u) hh52
theorem f_wj_X3_readToken_1_55 {post post_ : Int32 → mS → Prop} {x2 : Int32} {x3 : Int32} {x4 : Int32} {u : mS} (hp : ∀ (b0_ : Int32) (b1_ : mS), RA u b1_ → post b0_ b1_ → post_ b0_ b1_) (h : wj_X3_readToken_1_55 post x2 x3 x4 u) : wj_X3_readToken_1_55 post_ x2 x3 x4 u := by
  refine ⟨fun cc1 => ?_, fun cc2 => ?_⟩
  · have hh3 := h.1 cc1
    exact f_wj_X3_readToken_1_86 (fun _ v_ rv_ h_ => hp _ v_ (RA_tr (RA_rf u) rv_) h_) hh3
  · have hh4 := h.2 cc2
    refine ⟨fun cc5 => ?_, fun cc6 => ?_⟩
    · have hh7 := hh4.1 cc5
      exact f_wj_X3_readToken_1_86 (fun _ v_ rv_ h_ => hp _ v_ (RA_tr (RA_rf u) rv_) h_) hh7
    · have hh8 := hh4.2 cc6
      refine f_wp_X3_runLength_1 (fun r15 u16 rr10 hh9 => ?_) hh8
      have rr11 : RA u u16 := RA_tr (RA_rf u) rr10
      refine f_wp_X3_readNumber_1 (fun r17 u18 rr13 hh12 => ?_) hh9
      have rr14 : RA u u18 := RA_tr rr11 rr13
      exact hp _ _ rr14 hh12
theorem f_wp_X3_readToken_1 {x2 : Int32} {x3 : Int32} {u : mS} {post post_ : Int32 → mS → Prop} (hp : ∀ (b0_ : Int32) (b1_ : mS), RA u b1_ → post b0_ b1_ → post_ b0_ b1_) (h : wp_X3_readToken_1 x2 x3 u post) : wp_X3_readToken_1 x2 x3 u post_ := by
  refine f_wp_X3_isWhole (fun r1 u2 rr2 hh1 => ?_) h
  have rr3 : RA u u2 := RA_tr (RA_rf u) rr2
  refine ⟨fun cc4 => ?_, fun cc5 => ?_⟩
  · have hh6 := hh1.1 cc4
    exact hp _ _ rr3 hh6
  · have hh7 := hh1.2 cc5
    refine ⟨fun cc8 => ?_, fun cc9 => ?_⟩
    · have hh10 := hh7.1 cc8
      exact hp _ _ rr3 hh10
    · have hh11 := hh7.2 cc9
      refine ⟨fun cc12 => ?_, fun cc13 => ?_⟩
      · have hh14 := hh11.1 cc12
        refine ⟨hh14.1, ?_⟩
        have hh15 := hh14.2
        intro y6 ee16
        have hh17 := hh15 y6 ee16
        refine ⟨fun cc18 => ?_, fun cc19 => ?_⟩
        · have hh20 := hh17.1 cc18
          exact f_wj_X3_readToken_1_55 (fun _ v_ rv_ h_ => hp _ v_ (RA_tr rr3 rv_) h_) hh20
        · have hh21 := hh17.2 cc19
          refine ⟨fun cc22 => ?_, fun cc23 => ?_⟩
          · have hh24 := hh21.1 cc22
            exact f_wj_X3_readToken_1_55 (fun _ v_ rv_ h_ => hp _ v_ (RA_tr rr3 rv_) h_) hh24
          · have hh25 := hh21.2 cc23
            refine f_wp_X3_runLength_1 (fun r9 u10 rr27 hh26 => ?_) hh25
            have rr28 : RA u u10 := RA_tr rr3 rr27
            refine f_wp_X3_readName_1 (fun r11 u12 rr30 hh29 => ?_) hh26
            have rr31 : RA u u12 := RA_tr rr28 rr30
            exact hp _ _ rr31 hh29
      · have hh32 := hh11.2 cc13
        exact hp _ _ rr3 hh32
theorem f_wj_X3_read_1_59 {K25 K25_ : Int32 → Int32 → Int32 → mS → Prop} {post post_ : Int32 → mS → Prop} {x3 : Int32} {x4 : Int32} {x5 : Int32} {z0 : Int32} {u : mS} (hK25 : ∀ (b0_ : Int32) (b1_ : Int32) (b2_ : Int32) (b3_ : mS), RA u b3_ → K25 b0_ b1_ b2_ b3_ → K25_ b0_ b1_ b2_ b3_) (hp : ∀ (b0_ : Int32) (b1_ : mS), RA u b1_ → post b0_ b1_ → post_ b0_ b1_) (h : wj_X3_read_1_59 K25 post x3 x4 x5 z0 u) : wj_X3_read_1_59 K25_ post_ x3 x4 x5 z0 u := by
  refine ⟨fun cc1 => ?_, fun cc2 => ?_⟩
  · have hh3 := h.1 cc1
    intro y12 ee4
    have hh5 := hh3 y12 ee4
    intro y13 ee6
    have hh7 := hh5 y13 ee6
    exact hK25 _ _ _ _ (RA_rf u) hh7
  · have hh8 := h.2 cc2
    exact hp _ _ (RA_rf u) hh8
theorem f_wj_X3_read_1_82 {post post_ : Int32 → mS → Prop} {x3 : Int32} {u : mS} (hp : ∀ (b0_ : Int32) (b1_ : mS), RA u b1_ → post b0_ b1_ → post_ b0_ b1_) (h : wj_X3_read_1_82 post x3 u) : wj_X3_read_1_82 post_ x3 u := by
  refine f_wp_X3_isWhole (fun r14 u15 rr2 hh1 => ?_) h
  have rr3 : RA u u15 := RA_tr (RA_rf u) rr2
  refine ⟨fun cc4 => ?_, fun cc5 => ?_⟩
  · have hh6 := hh1.1 cc4
    exact hp _ _ rr3 hh6
  · have hh7 := hh1.2 cc5
    exact hp _ _ rr3 hh7
theorem f_wj_X3_read_1_25 {K25 K25_ : Int32 → Int32 → Int32 → mS → Prop} {post post_ : Int32 → mS → Prop} {x3 : Int32} {x4 : Int32} {x5 : Int32} {u : mS} (hK25 : ∀ (b0_ : Int32) (b1_ : Int32) (b2_ : Int32) (b3_ : mS), RA u b3_ → K25 b0_ b1_ b2_ b3_ → K25_ b0_ b1_ b2_ b3_) (hp : ∀ (b0_ : Int32) (b1_ : mS), RA u b1_ → post b0_ b1_ → post_ b0_ b1_) (h : wj_X3_read_1_25 K25 post x3 x4 x5 u) : wj_X3_read_1_25 K25_ post_ x3 x4 x5 u := by
  refine ⟨fun cc1 => ?_, fun cc2 => ?_⟩
  · have hh3 := h.1 cc1
    exact f_wj_X3_read_1_82 (fun _ v_ rv_ h_ => hp _ v_ (RA_tr (RA_rf u) rv_) h_) hh3
  · have hh4 := h.2 cc2
    refine ⟨fun cc5 => ?_, fun cc6 => ?_⟩
    · have hh7 := hh4.1 cc5
      exact f_wj_X3_read_1_82 (fun _ v_ rv_ h_ => hp _ v_ (RA_tr (RA_rf u) rv_) h_) hh7
    · have hh8 := hh4.2 cc6
      refine ⟨hh8.1, ?_⟩
      have hh9 := hh8.2
      intro y7 ee10
      have hh11 := hh9 y7 ee10
      refine ⟨fun cc12 => ?_, fun cc13 => ?_⟩
      · have hh14 := hh11.1 cc12
        refine f_wp_X3_readToken_1 (fun r9 u10 rr16 hh15 => ?_) hh14
        have rr17 : RA u u10 := RA_tr (RA_rf u) rr16
        exact f_wj_X3_read_1_59 (fun _ _ _ v_ rv_ h_ => hK25 _ _ _ v_ (RA_tr rr17 rv_) h_) (fun _ v_ rv_ h_ => hp _ v_ (RA_tr rr17 rv_) h_) hh15
      · have hh18 := hh11.2 cc13
        exact f_wj_X3_read_1_59 (fun _ _ _ v_ rv_ h_ => hK25 _ _ _ v_ (RA_tr (RA_rf u) rv_) h_) (fun _ v_ rv_ h_ => hp _ v_ (RA_tr (RA_rf u) rv_) h_) hh18
theorem f_wp_X3_read_1 {x2 : Int32} {u : mS} {post post_ : Int32 → mS → Prop} (hp : ∀ (b0_ : Int32) (b1_ : mS), RA u b1_ → post b0_ b1_ → post_ b0_ b1_) (h : wp_X3_read_1 x2 u post) : wp_X3_read_1 x2 u post_ := by
  refine f_wp_X5_restart (fun u2 rr2 hh1 => ?_) h
  have rr3 : RA u u2 := RA_tr (RA_rf u) rr2
  intro u3 ee4
  have hh5 := hh1 u3 ee4
  have rr6 : RA u u3 := by rw [ee4]; exact RA_set rr3 (by decide)
  intro y4 ee7
  have hh8 := hh5 y4 ee7
  obtain ⟨nn9, hh10⟩ := hh8
  refine ⟨nn9, mL4_mo RA RA_rf ?_ nn9 _ _ _ _ (RA_rf _) hh10⟩
  intro K_ K2_ z_ hz_ hK_ _ _ _ h_
  exact f_wj_X3_read_1_25 (fun _ _ _ v_ rv_ h_ => hK_ _ _ _ v_ (RA_tr hz_ rv_) h_) (fun _ v_ rv_ h_ => hp _ v_ (RA_tr rr6 (RA_tr hz_ rv_)) h_) h_
theorem f_wp_X8_takeTyped {u : mS} {post post_ : Int32 → mS → Prop} (hp : ∀ (b0_ : Int32) (b1_ : mS), RA u b1_ → post b0_ b1_ → post_ b0_ b1_) (h : wp_X8_takeTyped u post) : wp_X8_takeTyped u post_ := by
  intro y1 ee1
  have hh2 := h y1 ee1
  refine f_wp_X3_read_1 (fun r2 u3 rr4 hh3 => ?_) hh2
  have rr5 : RA u u3 := RA_tr (RA_rf u) rr4
  intro u4 ee6
  have hh7 := hh3 u4 ee6
  have rr8 : RA u u4 := by rw [ee6]; exact RA_set rr5 (by decide)
  exact hp _ _ rr8 hh7
theorem f_wp_X7_forgetExpansion {u : mS} {post post_ : mS → Prop} (hp : ∀ (b0_ : mS), RA u b0_ → post b0_ → post_ b0_) (h : wp_X7_forgetExpansion u post) : wp_X7_forgetExpansion u post_ := by
  intro y1 e1
  have h := h y1 e1
  intro y2 e2
  have h := h y2 e2
  intro u3 e3
  have h := h u3 e3
  refine hp _ ⟨by rw [e3, mSet_arr], fun o g ho q => ?_⟩ h
  obtain ⟨a, ⟨n, b, c1, c2⟩, d⟩ := q
  refine ⟨by rw [e3, mSet_other (by decide : (5 : Nat) ≠ 4)]; exact a, ⟨8 + o, ?_, by omega, by omega⟩, fun i hi => ?_⟩
  · rw [e3, mSet_same, e2, e1, a, show (8 : Int32) = nI 8 from rfl, nI_add]
  · rw [e3, mSet_arr]; exact d i hi
theorem f_wp_X2_clear {u : mS} {post post_ : mS → Prop} (hp : ∀ (b0_ : mS), RA u b0_ → post b0_ → post_ b0_) (h : wp_X2_clear u post) : wp_X2_clear u post_ := by
  intro u1 ee1
  have hh2 := h u1 ee1
  have rr3 : RA u u1 := by rw [ee1]; exact RA_set (RA_rf u) (by decide)
  intro u2 ee4
  have hh5 := hh2 u2 ee4
  have rr6 : RA u u2 := by rw [ee4]; exact RA_set rr3 (by decide)
  exact hp _ rr6 hh5
theorem f_wp_X0_start {x1 : Int32} {u : mS} {post post_ : mS → Prop} (hp : ∀ (b0_ : mS), RA u b0_ → post b0_ → post_ b0_) (h : wp_X0_start x1 u post) : wp_X0_start x1 u post_ := by
  intro u1 ee1
  have hh2 := h u1 ee1
  have rr3 : RA u u1 := by rw [ee1]; exact RA_set (RA_rf u) (by decide)
  intro u2 ee4
  have hh5 := hh2 u2 ee4
  have rr6 : RA u u2 := by rw [ee4]; exact RA_set rr3 (by decide)
  intro u3 ee7
  have hh8 := hh5 u3 ee7
  have rr9 : RA u u3 := by rw [ee7]; exact RA_set rr6 (by decide)
  intro u4 ee10
  have hh11 := hh8 u4 ee10
  have rr12 : RA u u4 := by rw [ee10]; exact RA_set rr9 (by decide)
  refine f_wp_X7_forgetExpansion (fun u6 rr14 hh13 => ?_) hh11
  have rr15 : RA u u6 := RA_tr rr12 rr14
  exact hp _ rr15 hh13
theorem f_wj_X8_expand_10 {post post_ : Int32 → mS → Prop} {u : mS} (hp : ∀ (b0_ : Int32) (b1_ : mS), RA u b1_ → post b0_ b1_ → post_ b0_ b1_) (h : wj_X8_expand_10 post u) : wj_X8_expand_10 post_ u := by
  exact hp _ _ (RA_rf u) h
theorem f_wj_X8_expand_39 {post post_ : Int32 → mS → Prop} {x2 : Int32} {z0 : Int32} {u : mS} (hp : ∀ (b0_ : Int32) (b1_ : mS), RA u b1_ → post b0_ b1_ → post_ b0_ b1_) (h : wj_X8_expand_39 post x2 z0 u) : wj_X8_expand_39 post_ x2 z0 u := by
  refine f_wp_X0_start (fun u9 rr2 hh1 => ?_) h
  have rr3 : RA u u9 := RA_tr (RA_rf u) rr2
  refine ⟨fun cc4 => ?_, fun cc5 => ?_⟩
  · have hh6 := hh1.1 cc4
    refine f_wp_X0_expandTree f_wpT24 (fun u12 rr8 hh7 => ?_) hh6
    have rr9 : RA u u12 := RA_tr rr3 rr8
    intro y13 ee10
    have hh11 := hh7 y13 ee10
    refine ⟨fun cc12 => ?_, fun cc13 => ?_⟩
    · have hh14 := hh11.1 cc12
      intro y15 ee15
      have hh16 := hh14 y15 ee15
      exact hp _ _ rr9 hh16
    · have hh17 := hh11.2 cc13
      intro u16 ee18
      have hh19 := hh17 u16 ee18
      have rr20 : RA u u16 := by rw [ee18]; exact RA_set rr9 (by decide)
      intro y17 ee21
      have hh22 := hh19 y17 ee21
      intro y18 ee23
      have hh24 := hh22 y18 ee23
      exact hp _ _ rr20 hh24
  · have hh25 := hh1.2 cc5
    intro y19 ee26
    have hh27 := hh25 y19 ee26
    exact hp _ _ rr3 hh27
theorem f_wp_X8_expand {x1 : Int32} {u : mS} {post post_ : Int32 → mS → Prop} (hp : ∀ (b0_ : Int32) (b1_ : mS), RA u b1_ → post b0_ b1_ → post_ b0_ b1_) (h : wp_X8_expand x1 u post) : wp_X8_expand x1 u post_ := by
  refine ⟨fun cc1 => ?_, fun cc2 => ?_⟩
  · have hh3 := h.1 cc1
    exact f_wj_X8_expand_10 (fun _ v_ rv_ h_ => hp _ v_ (RA_tr (RA_rf u) rv_) h_) hh3
  · have hh4 := h.2 cc2
    refine ⟨fun cc5 => ?_, fun cc6 => ?_⟩
    · have hh7 := hh4.1 cc5
      refine f_wp_X8_takeTyped (fun r3 u4 rr9 hh8 => ?_) hh7
      have rr10 : RA u u4 := RA_tr (RA_rf u) rr9
      refine f_wp_X2_clear (fun u6 rr12 hh11 => ?_) hh8
      have rr13 : RA u u6 := RA_tr rr10 rr12
      refine ⟨fun cc14 => ?_, fun cc15 => ?_⟩
      · have hh16 := hh11.1 cc14
        exact f_wj_X8_expand_39 (fun _ v_ rv_ h_ => hp _ v_ (RA_tr rr13 rv_) h_) hh16
      · have hh17 := hh11.2 cc15
        exact f_wj_X8_expand_39 (fun _ v_ rv_ h_ => hp _ v_ (RA_tr rr13 rv_) h_) hh17
    · have hh18 := hh4.2 cc6
      exact f_wj_X8_expand_10 (fun _ v_ rv_ h_ => hp _ v_ (RA_tr (RA_rf u) rv_) h_) hh18
theorem f_wp_X2_charAt {x1 : Int32} {u : mS} {post post_ : Int32 → mS → Prop} (hp : ∀ (b0_ : Int32) (b1_ : mS), RA u b1_ → post b0_ b1_ → post_ b0_ b1_) (h : wp_X2_charAt x1 u post) : wp_X2_charAt x1 u post_ := by
  refine ⟨fun cc1 => ?_, fun cc2 => ?_⟩
  · have hh3 := h.1 cc1
    exact hp _ _ (RA_rf u) hh3
  · have hh4 := h.2 cc2
    intro y2 ee5
    have hh6 := hh4 y2 ee5
    refine ⟨fun cc7 => ?_, fun cc8 => ?_⟩
    · have hh9 := hh6.1 cc7
      exact hp _ _ (RA_rf u) hh9
    · have hh10 := hh6.2 cc8
      refine ⟨fun cc11 => ?_, fun cc12 => ?_⟩
      · have hh13 := hh10.1 cc11
        exact hp _ _ (RA_rf u) hh13
      · have hh14 := hh10.2 cc12
        refine ⟨hh14.1, ?_⟩
        have hh15 := hh14.2
        intro y5 ee16
        have hh17 := hh15 y5 ee16
        exact hp _ _ (RA_rf u) hh17
theorem f_wp_X8_at {x1 : Int32} {u : mS} {post post_ : Int32 → mS → Prop} (hp : ∀ (b0_ : Int32) (b1_ : mS), RA u b1_ → post b0_ b1_ → post_ b0_ b1_) (h : wp_X8_at x1 u post) : wp_X8_at x1 u post_ := by
  refine f_wp_X2_charAt (fun r1 u2 rr2 hh1 => ?_) h
  have rr3 : RA u u2 := RA_tr (RA_rf u) rr2
  exact hp _ _ rr3 hh1
theorem f_wp_X8_count {x1 : Int32} {u : mS} {post post_ : Int32 → mS → Prop} (hp : ∀ (b0_ : Int32) (b1_ : mS), RA u b1_ → post b0_ b1_ → post_ b0_ b1_) (h : wp_X8_count x1 u post) : wp_X8_count x1 u post_ := by
  refine ⟨fun cc1 => ?_, fun cc2 => ?_, fun cc3 => ?_, fun cc4 => ?_, fun cc5 cc6 cc7 cc8 => ?_⟩
  · have hh9 := h.1 cc1
    intro y1 ee10
    have hh11 := hh9 y1 ee10
    exact hp _ _ (RA_rf u) hh11
  · have hh12 := h.2.1 cc2
    intro y2 ee13
    have hh14 := hh12 y2 ee13
    exact hp _ _ (RA_rf u) hh14
  · have hh15 := h.2.2.1 cc3
    intro y3 ee16
    have hh17 := hh15 y3 ee16
    exact hp _ _ (RA_rf u) hh17
  · have hh18 := h.2.2.2.1 cc4
    intro y4 ee19
    have hh20 := hh18 y4 ee19
    exact hp _ _ (RA_rf u) hh20
  · have hh21 := h.2.2.2.2 cc5 cc6 cc7 cc8
    exact hp _ _ (RA_rf u) hh21
