theorem mL1_j {A1 : Type} {F F1 F2 : (A1 → Prop) → A1 → Prop} (hs : ∀ (K K1 K2 : A1 → Prop), (∀ b1, K b1 → K1 b1 → K2 b1) → ∀ a1, F K a1 → F1 K1 a1 → F2 K2 a1) : ∀ (n m : Nat) (a1 : A1), mL1 F n a1 → mL1 F1 m a1 → mL1 F2 n a1
  | 0, _, _, h, _ => h.elim
  | _ + 1, 0, _, _, g => g.elim
  | n + 1, m + 1, a1, h, g => hs (mL1 F n) (mL1 F1 m) (mL1 F2 n) (fun b1 p q => mL1_j hs n m b1 p q) a1 h g
theorem mL2_j {A1 A2 : Type} {F F1 F2 : (A1 → A2 → Prop) → A1 → A2 → Prop} (hs : ∀ (K K1 K2 : A1 → A2 → Prop), (∀ b1 b2, K b1 b2 → K1 b1 b2 → K2 b1 b2) → ∀ a1 a2, F K a1 a2 → F1 K1 a1 a2 → F2 K2 a1 a2) : ∀ (n m : Nat) (a1 : A1) (a2 : A2), mL2 F n a1 a2 → mL2 F1 m a1 a2 → mL2 F2 n a1 a2
  | 0, _, _, _, h, _ => h.elim
  | _ + 1, 0, _, _, _, g => g.elim
  | n + 1, m + 1, a1, a2, h, g => hs (mL2 F n) (mL2 F1 m) (mL2 F2 n) (fun b1 b2 p q => mL2_j hs n m b1 b2 p q) a1 a2 h g
theorem mL3_j {A1 A2 A3 : Type} {F F1 F2 : (A1 → A2 → A3 → Prop) → A1 → A2 → A3 → Prop} (hs : ∀ (K K1 K2 : A1 → A2 → A3 → Prop), (∀ b1 b2 b3, K b1 b2 b3 → K1 b1 b2 b3 → K2 b1 b2 b3) → ∀ a1 a2 a3, F K a1 a2 a3 → F1 K1 a1 a2 a3 → F2 K2 a1 a2 a3) : ∀ (n m : Nat) (a1 : A1) (a2 : A2) (a3 : A3), mL3 F n a1 a2 a3 → mL3 F1 m a1 a2 a3 → mL3 F2 n a1 a2 a3
  | 0, _, _, _, _, h, _ => h.elim
  | _ + 1, 0, _, _, _, _, g => g.elim
  | n + 1, m + 1, a1, a2, a3, h, g => hs (mL3 F n) (mL3 F1 m) (mL3 F2 n) (fun b1 b2 b3 p q => mL3_j hs n m b1 b2 b3 p q) a1 a2 a3 h g
theorem mL4_j {A1 A2 A3 A4 : Type} {F F1 F2 : (A1 → A2 → A3 → A4 → Prop) → A1 → A2 → A3 → A4 → Prop} (hs : ∀ (K K1 K2 : A1 → A2 → A3 → A4 → Prop), (∀ b1 b2 b3 b4, K b1 b2 b3 b4 → K1 b1 b2 b3 b4 → K2 b1 b2 b3 b4) → ∀ a1 a2 a3 a4, F K a1 a2 a3 a4 → F1 K1 a1 a2 a3 a4 → F2 K2 a1 a2 a3 a4) : ∀ (n m : Nat) (a1 : A1) (a2 : A2) (a3 : A3) (a4 : A4), mL4 F n a1 a2 a3 a4 → mL4 F1 m a1 a2 a3 a4 → mL4 F2 n a1 a2 a3 a4
  | 0, _, _, _, _, _, h, _ => h.elim
  | _ + 1, 0, _, _, _, _, _, g => g.elim
  | n + 1, m + 1, a1, a2, a3, a4, h, g => hs (mL4 F n) (mL4 F1 m) (mL4 F2 n) (fun b1 b2 b3 b4 p q => mL4_j hs n m b1 b2 b3 b4 p q) a1 a2 a3 a4 h g
theorem mL5_j {A1 A2 A3 A4 A5 : Type} {F F1 F2 : (A1 → A2 → A3 → A4 → A5 → Prop) → A1 → A2 → A3 → A4 → A5 → Prop} (hs : ∀ (K K1 K2 : A1 → A2 → A3 → A4 → A5 → Prop), (∀ b1 b2 b3 b4 b5, K b1 b2 b3 b4 b5 → K1 b1 b2 b3 b4 b5 → K2 b1 b2 b3 b4 b5) → ∀ a1 a2 a3 a4 a5, F K a1 a2 a3 a4 a5 → F1 K1 a1 a2 a3 a4 a5 → F2 K2 a1 a2 a3 a4 a5) : ∀ (n m : Nat) (a1 : A1) (a2 : A2) (a3 : A3) (a4 : A4) (a5 : A5), mL5 F n a1 a2 a3 a4 a5 → mL5 F1 m a1 a2 a3 a4 a5 → mL5 F2 n a1 a2 a3 a4 a5
  | 0, _, _, _, _, _, _, h, _ => h.elim
  | _ + 1, 0, _, _, _, _, _, _, g => g.elim
  | n + 1, m + 1, a1, a2, a3, a4, a5, h, g => hs (mL5 F n) (mL5 F1 m) (mL5 F2 n) (fun b1 b2 b3 b4 b5 p q => mL5_j hs n m b1 b2 b3 b4 b5 p q) a1 a2 a3 a4 a5 h g
theorem mL6_j {A1 A2 A3 A4 A5 A6 : Type} {F F1 F2 : (A1 → A2 → A3 → A4 → A5 → A6 → Prop) → A1 → A2 → A3 → A4 → A5 → A6 → Prop} (hs : ∀ (K K1 K2 : A1 → A2 → A3 → A4 → A5 → A6 → Prop), (∀ b1 b2 b3 b4 b5 b6, K b1 b2 b3 b4 b5 b6 → K1 b1 b2 b3 b4 b5 b6 → K2 b1 b2 b3 b4 b5 b6) → ∀ a1 a2 a3 a4 a5 a6, F K a1 a2 a3 a4 a5 a6 → F1 K1 a1 a2 a3 a4 a5 a6 → F2 K2 a1 a2 a3 a4 a5 a6) : ∀ (n m : Nat) (a1 : A1) (a2 : A2) (a3 : A3) (a4 : A4) (a5 : A5) (a6 : A6), mL6 F n a1 a2 a3 a4 a5 a6 → mL6 F1 m a1 a2 a3 a4 a5 a6 → mL6 F2 n a1 a2 a3 a4 a5 a6
  | 0, _, _, _, _, _, _, _, h, _ => h.elim
  | _ + 1, 0, _, _, _, _, _, _, _, g => g.elim
  | n + 1, m + 1, a1, a2, a3, a4, a5, a6, h, g => hs (mL6 F n) (mL6 F1 m) (mL6 F2 n) (fun b1 b2 b3 b4 b5 b6 p q => mL6_j hs n m b1 b2 b3 b4 b5 b6 p q) a1 a2 a3 a4 a5 a6 h g
theorem mL7_j {A1 A2 A3 A4 A5 A6 A7 : Type} {F F1 F2 : (A1 → A2 → A3 → A4 → A5 → A6 → A7 → Prop) → A1 → A2 → A3 → A4 → A5 → A6 → A7 → Prop} (hs : ∀ (K K1 K2 : A1 → A2 → A3 → A4 → A5 → A6 → A7 → Prop), (∀ b1 b2 b3 b4 b5 b6 b7, K b1 b2 b3 b4 b5 b6 b7 → K1 b1 b2 b3 b4 b5 b6 b7 → K2 b1 b2 b3 b4 b5 b6 b7) → ∀ a1 a2 a3 a4 a5 a6 a7, F K a1 a2 a3 a4 a5 a6 a7 → F1 K1 a1 a2 a3 a4 a5 a6 a7 → F2 K2 a1 a2 a3 a4 a5 a6 a7) : ∀ (n m : Nat) (a1 : A1) (a2 : A2) (a3 : A3) (a4 : A4) (a5 : A5) (a6 : A6) (a7 : A7), mL7 F n a1 a2 a3 a4 a5 a6 a7 → mL7 F1 m a1 a2 a3 a4 a5 a6 a7 → mL7 F2 n a1 a2 a3 a4 a5 a6 a7
  | 0, _, _, _, _, _, _, _, _, h, _ => h.elim
  | _ + 1, 0, _, _, _, _, _, _, _, _, g => g.elim
  | n + 1, m + 1, a1, a2, a3, a4, a5, a6, a7, h, g => hs (mL7 F n) (mL7 F1 m) (mL7 F2 n) (fun b1 b2 b3 b4 b5 b6 b7 p q => mL7_j hs n m b1 b2 b3 b4 b5 b6 b7 p q) a1 a2 a3 a4 a5 a6 a7 h g
theorem mL8_j {A1 A2 A3 A4 A5 A6 A7 A8 : Type} {F F1 F2 : (A1 → A2 → A3 → A4 → A5 → A6 → A7 → A8 → Prop) → A1 → A2 → A3 → A4 → A5 → A6 → A7 → A8 → Prop} (hs : ∀ (K K1 K2 : A1 → A2 → A3 → A4 → A5 → A6 → A7 → A8 → Prop), (∀ b1 b2 b3 b4 b5 b6 b7 b8, K b1 b2 b3 b4 b5 b6 b7 b8 → K1 b1 b2 b3 b4 b5 b6 b7 b8 → K2 b1 b2 b3 b4 b5 b6 b7 b8) → ∀ a1 a2 a3 a4 a5 a6 a7 a8, F K a1 a2 a3 a4 a5 a6 a7 a8 → F1 K1 a1 a2 a3 a4 a5 a6 a7 a8 → F2 K2 a1 a2 a3 a4 a5 a6 a7 a8) : ∀ (n m : Nat) (a1 : A1) (a2 : A2) (a3 : A3) (a4 : A4) (a5 : A5) (a6 : A6) (a7 : A7) (a8 : A8), mL8 F n a1 a2 a3 a4 a5 a6 a7 a8 → mL8 F1 m a1 a2 a3 a4 a5 a6 a7 a8 → mL8 F2 n a1 a2 a3 a4 a5 a6 a7 a8
  | 0, _, _, _, _, _, _, _, _, _, h, _ => h.elim
  | _ + 1, 0, _, _, _, _, _, _, _, _, _, g => g.elim
  | n + 1, m + 1, a1, a2, a3, a4, a5, a6, a7, a8, h, g => hs (mL8 F n) (mL8 F1 m) (mL8 F2 n) (fun b1 b2 b3 b4 b5 b6 b7 b8 p q => mL8_j hs n m b1 b2 b3 b4 b5 b6 b7 b8 p q) a1 a2 a3 a4 a5 a6 a7 a8 h g
theorem mL9_j {A1 A2 A3 A4 A5 A6 A7 A8 A9 : Type} {F F1 F2 : (A1 → A2 → A3 → A4 → A5 → A6 → A7 → A8 → A9 → Prop) → A1 → A2 → A3 → A4 → A5 → A6 → A7 → A8 → A9 → Prop} (hs : ∀ (K K1 K2 : A1 → A2 → A3 → A4 → A5 → A6 → A7 → A8 → A9 → Prop), (∀ b1 b2 b3 b4 b5 b6 b7 b8 b9, K b1 b2 b3 b4 b5 b6 b7 b8 b9 → K1 b1 b2 b3 b4 b5 b6 b7 b8 b9 → K2 b1 b2 b3 b4 b5 b6 b7 b8 b9) → ∀ a1 a2 a3 a4 a5 a6 a7 a8 a9, F K a1 a2 a3 a4 a5 a6 a7 a8 a9 → F1 K1 a1 a2 a3 a4 a5 a6 a7 a8 a9 → F2 K2 a1 a2 a3 a4 a5 a6 a7 a8 a9) : ∀ (n m : Nat) (a1 : A1) (a2 : A2) (a3 : A3) (a4 : A4) (a5 : A5) (a6 : A6) (a7 : A7) (a8 : A8) (a9 : A9), mL9 F n a1 a2 a3 a4 a5 a6 a7 a8 a9 → mL9 F1 m a1 a2 a3 a4 a5 a6 a7 a8 a9 → mL9 F2 n a1 a2 a3 a4 a5 a6 a7 a8 a9
  | 0, _, _, _, _, _, _, _, _, _, _, h, _ => h.elim
  | _ + 1, 0, _, _, _, _, _, _, _, _, _, _, g => g.elim
  | n + 1, m + 1, a1, a2, a3, a4, a5, a6, a7, a8, a9, h, g => hs (mL9 F n) (mL9 F1 m) (mL9 F2 n) (fun b1 b2 b3 b4 b5 b6 b7 b8 b9 p q => mL9_j hs n m b1 b2 b3 b4 b5 b6 b7 b8 b9 p q) a1 a2 a3 a4 a5 a6 a7 a8 a9 h g
theorem mL10_j {A1 A2 A3 A4 A5 A6 A7 A8 A9 A10 : Type} {F F1 F2 : (A1 → A2 → A3 → A4 → A5 → A6 → A7 → A8 → A9 → A10 → Prop) → A1 → A2 → A3 → A4 → A5 → A6 → A7 → A8 → A9 → A10 → Prop} (hs : ∀ (K K1 K2 : A1 → A2 → A3 → A4 → A5 → A6 → A7 → A8 → A9 → A10 → Prop), (∀ b1 b2 b3 b4 b5 b6 b7 b8 b9 b10, K b1 b2 b3 b4 b5 b6 b7 b8 b9 b10 → K1 b1 b2 b3 b4 b5 b6 b7 b8 b9 b10 → K2 b1 b2 b3 b4 b5 b6 b7 b8 b9 b10) → ∀ a1 a2 a3 a4 a5 a6 a7 a8 a9 a10, F K a1 a2 a3 a4 a5 a6 a7 a8 a9 a10 → F1 K1 a1 a2 a3 a4 a5 a6 a7 a8 a9 a10 → F2 K2 a1 a2 a3 a4 a5 a6 a7 a8 a9 a10) : ∀ (n m : Nat) (a1 : A1) (a2 : A2) (a3 : A3) (a4 : A4) (a5 : A5) (a6 : A6) (a7 : A7) (a8 : A8) (a9 : A9) (a10 : A10), mL10 F n a1 a2 a3 a4 a5 a6 a7 a8 a9 a10 → mL10 F1 m a1 a2 a3 a4 a5 a6 a7 a8 a9 a10 → mL10 F2 n a1 a2 a3 a4 a5 a6 a7 a8 a9 a10
  | 0, _, _, _, _, _, _, _, _, _, _, _, h, _ => h.elim
  | _ + 1, 0, _, _, _, _, _, _, _, _, _, _, _, g => g.elim
  | n + 1, m + 1, a1, a2, a3, a4, a5, a6, a7, a8, a9, a10, h, g => hs (mL10 F n) (mL10 F1 m) (mL10 F2 n) (fun b1 b2 b3 b4 b5 b6 b7 b8 b9 b10 p q => mL10_j hs n m b1 b2 b3 b4 b5 b6 b7 b8 b9 b10 p q) a1 a2 a3 a4 a5 a6 a7 a8 a9 a10 h g
theorem j_wp_X5_wordAt {x1 : Int32} {u : mS} {post post1 post2 : Int32 → mS → Prop} (h : wp_X5_wordAt x1 u post) (g : wp_X5_wordAt x1 u post1) (hp : ∀ (b0_ : Int32) (b1_ : mS), post b0_ b1_ → post1 b0_ b1_ → post2 b0_ b1_) : wp_X5_wordAt x1 u post2 := by
  refine ⟨fun c1 => ?_, fun c2 => ?_⟩
  · have h3 := h.1 c1
    have g4 := g.1 c1
    exact hp _ _ h3 g4
  · have h5 := h.2 c2
    have g6 := g.2 c2
    intro y7 e8
    have h9 := h5 y7 e8
    have g10 := g6 y7 e8
    refine ⟨fun c11 => ?_, fun c12 => ?_⟩
    · have h13 := h9.1 c11
      have g14 := g10.1 c11
      exact hp _ _ h13 g14
    · have h15 := h9.2 c12
      have g16 := g10.2 c12
      refine ⟨fun c17 => ?_, fun c18 => ?_⟩
      · have h19 := h15.1 c17
        have g20 := g16.1 c17
        exact hp _ _ h19 g20
      · have h21 := h15.2 c18
        have g22 := g16.2 c18
        refine ⟨h21.1, ?_⟩
        have h23 := h21.2
        have g24 := g22.2
        intro y25 e26
        have h27 := h23 y25 e26
        have g28 := g24 y25 e26
        exact hp _ _ h27 g28
theorem j_wp_X8_isName {x0 : Int32} {u : mS} {post post1 post2 : Int32 → mS → Prop} (h : wp_X8_isName x0 u post) (g : wp_X8_isName x0 u post1) (hp : ∀ (b0_ : Int32) (b1_ : mS), post b0_ b1_ → post1 b0_ b1_ → post2 b0_ b1_) : wp_X8_isName x0 u post2 := by
  refine ⟨fun c1 => ?_, fun c2 => ?_⟩
  · have h3 := h.1 c1
    have g4 := g.1 c1
    exact hp _ _ h3 g4
  · have h5 := h.2 c2
    have g6 := g.2 c2
    exact hp _ _ h5 g6
theorem j_wp_X8_isNumber {x0 : Int32} {u : mS} {post post1 post2 : Int32 → mS → Prop} (h : wp_X8_isNumber x0 u post) (g : wp_X8_isNumber x0 u post1) (hp : ∀ (b0_ : Int32) (b1_ : mS), post b0_ b1_ → post1 b0_ b1_ → post2 b0_ b1_) : wp_X8_isNumber x0 u post2 := by
  refine ⟨fun c1 => ?_, fun c2 => ?_⟩
  · have h3 := h.1 c1
    have g4 := g.1 c1
    exact hp _ _ h3 g4
  · have h5 := h.2 c2
    have g6 := g.2 c2
    refine ⟨fun c7 => ?_, fun c8 => ?_⟩
    · have h9 := h5.1 c7
      have g10 := g6.1 c7
      exact hp _ _ h9 g10
    · have h11 := h5.2 c8
      have g12 := g6.2 c8
      exact hp _ _ h11 g12
theorem j_wp_X2_fail {x1 : Int32} {u : mS} {post post1 post2 : mS → Prop} (h : wp_X2_fail x1 u post) (g : wp_X2_fail x1 u post1) (hp : ∀ (b0_ : mS), post b0_ → post1 b0_ → post2 b0_) : wp_X2_fail x1 u post2 := by
  intro y1 e2
  have h3 := h y1 e2
  have g4 := g y1 e2
  refine ⟨fun c5 => ?_, fun c6 => ?_⟩
  · have h7 := h3.1 c5
    have g8 := g4.1 c5
    exact hp _ h7 g8
  · have h9 := h3.2 c6
    have g10 := g4.2 c6
    intro y11 e12
    have h13 := h9 y11 e12
    have g14 := g10 y11 e12
    exact hp _ h13 g14
theorem j_wj_X2_put_25 {post post1 post2 : mS → Prop} {u : mS} (h : wj_X2_put_25 post u) (g : wj_X2_put_25 post1 u) (hp : ∀ (b0_ : mS), post b0_ → post1 b0_ → post2 b0_) : wj_X2_put_25 post2 u := by
  intro y1 e2
  have h3 := h y1 e2
  have g4 := g y1 e2
  exact hp _ h3 g4
theorem j_wp_X2_put {x1 : Int32} {u : mS} {post post1 post2 : mS → Prop} (h : wp_X2_put x1 u post) (g : wp_X2_put x1 u post1) (hp : ∀ (b0_ : mS), post b0_ → post1 b0_ → post2 b0_) : wp_X2_put x1 u post2 := by
  intro y1 e2
  have h3 := h y1 e2
  have g4 := g y1 e2
  refine ⟨fun c5 => ?_, fun c6 => ?_⟩
  · have h7 := h3.1 c5
    have g8 := g4.1 c5
    intro y9 e10
    have h11 := h7 y9 e10
    have g12 := g8 y9 e10
    refine ⟨fun c13 => ?_, fun c14 => ?_⟩
    · have h15 := h11.1 c13
      have g16 := g12.1 c13
      exact j_wj_X2_put_25 h15 g16 hp
    · have h17 := h11.2 c14
      have g18 := g12.2 c14
      intro y19 e20
      have h21 := h17 y19 e20
      have g22 := g18 y19 e20
      refine ⟨fun c23 => ?_, fun c24 => ?_⟩
      · have h25 := h21.1 c23
        have g26 := g22.1 c23
        intro y27 e28
        have h29 := h25 y27 e28
        have g30 := g26 y27 e28
        refine ⟨h29.1, ?_⟩
        have h31 := h29.2
        have g32 := g30.2
        intro y33 e34
        have h35 := h31 y33 e34
        have g36 := g32 y33 e34
        intro y37 e38
        have h39 := h35 y37 e38
        have g40 := g36 y37 e38
        intro y41 e42
        have h43 := h39 y41 e42
        have g44 := g40 y41 e42
        intro y45 e46
        have h47 := h43 y45 e46
        have g48 := g44 y45 e46
        exact hp _ h47 g48
      · have h49 := h21.2 c24
        have g50 := g22.2 c24
        exact j_wj_X2_put_25 h49 g50 hp
  · have h51 := h3.2 c6
    have g52 := g4.2 c6
    exact hp _ h51 g52
theorem j_wj_X2_putNumber_17 {post post1 post2 : mS → Prop} {x1 : Int32} {u : mS} (h : wj_X2_putNumber_17 post x1 u) (g : wj_X2_putNumber_17 post1 x1 u) (hp : ∀ (b0_ : mS), post b0_ → post1 b0_ → post2 b0_) : wj_X2_putNumber_17 post2 x1 u := by
  intro y1 e2
  have h3 := h y1 e2
  have g4 := g y1 e2
  intro y5 e6
  have h7 := h3 y5 e6
  have g8 := g4 y5 e6
  refine j_wp_X2_put h7 g8 (fun w11 h9 g10 => ?_)
  exact hp _ h9 g10
theorem j_wp_X2_putNumber {x1 : Int32} {u : mS} {post post1 post2 : mS → Prop} (h : wp_X2_putNumber x1 u post) (g : wp_X2_putNumber x1 u post1) (hp : ∀ (b0_ : mS), post b0_ → post1 b0_ → post2 b0_) : wp_X2_putNumber x1 u post2 := by
  refine ⟨fun c1 => ?_, fun c2 => ?_⟩
  · have h3 := h.1 c1
    have g4 := g.1 c1
    exact j_wj_X2_putNumber_17 h3 g4 hp
  · have h5 := h.2 c2
    have g6 := g.2 c2
    intro y7 e8
    have h9 := h5 y7 e8
    have g10 := g6 y7 e8
    intro y11 e12
    have h13 := h9 y11 e12
    have g14 := g10 y11 e12
    refine j_wp_X2_put h13 g14 (fun w17 h15 g16 => ?_)
    exact j_wj_X2_putNumber_17 h15 g16 hp
theorem j_wp_X5_marksAt {x1 : Int32} {u : mS} {post post1 post2 : Int32 → mS → Prop} (h : wp_X5_marksAt x1 u post) (g : wp_X5_marksAt x1 u post1) (hp : ∀ (b0_ : Int32) (b1_ : mS), post b0_ b1_ → post1 b0_ b1_ → post2 b0_ b1_) : wp_X5_marksAt x1 u post2 := by
  refine ⟨fun c1 => ?_, fun c2 => ?_⟩
  · have h3 := h.1 c1
    have g4 := g.1 c1
    exact hp _ _ h3 g4
  · have h5 := h.2 c2
    have g6 := g.2 c2
    intro y7 e8
    have h9 := h5 y7 e8
    have g10 := g6 y7 e8
    refine ⟨fun c11 => ?_, fun c12 => ?_⟩
    · have h13 := h9.1 c11
      have g14 := g10.1 c11
      exact hp _ _ h13 g14
    · have h15 := h9.2 c12
      have g16 := g10.2 c12
      refine ⟨fun c17 => ?_, fun c18 => ?_⟩
      · have h19 := h15.1 c17
        have g20 := g16.1 c17
        exact hp _ _ h19 g20
      · have h21 := h15.2 c18
        have g22 := g16.2 c18
        refine ⟨h21.1, ?_⟩
        have h23 := h21.2
        have g24 := g22.2
        intro y25 e26
        have h27 := h23 y25 e26
        have g28 := g24 y25 e26
        exact hp _ _ h27 g28
theorem j_wp_J6_bitCount_0f7a4 {x0 : Int32} {u : mS} {post post1 post2 : Int32 → mS → Prop} (h : wp_J6_bitCount_0f7a4 x0 u post) (g : wp_J6_bitCount_0f7a4 x0 u post1) (hp : ∀ (b0_ : Int32) (b1_ : mS), post b0_ b1_ → post1 b0_ b1_ → post2 b0_ b1_) : wp_J6_bitCount_0f7a4 x0 u post2 := by
  intro y1 e2
  have h3 := h y1 e2
  have g4 := g y1 e2
  intro y5 e6
  have h7 := h3 y5 e6
  have g8 := g4 y5 e6
  intro y9 e10
  have h11 := h7 y9 e10
  have g12 := g8 y9 e10
  intro y13 e14
  have h15 := h11 y13 e14
  have g16 := g12 y13 e14
  intro y17 e18
  have h19 := h15 y17 e18
  have g20 := g16 y17 e18
  intro y21 e22
  have h23 := h19 y21 e22
  have g24 := g20 y21 e22
  intro y25 e26
  have h27 := h23 y25 e26
  have g28 := g24 y25 e26
  intro y29 e30
  have h31 := h27 y29 e30
  have g32 := g28 y29 e30
  intro y33 e34
  have h35 := h31 y33 e34
  have g36 := g32 y33 e34
  intro y37 e38
  have h39 := h35 y37 e38
  have g40 := g36 y37 e38
  intro y41 e42
  have h43 := h39 y41 e42
  have g44 := g40 y41 e42
  intro y45 e46
  have h47 := h43 y45 e46
  have g48 := g44 y45 e46
  intro y49 e50
  have h51 := h47 y49 e50
  have g52 := g48 y49 e50
  intro y53 e54
  have h55 := h51 y53 e54
  have g56 := g52 y53 e54
  intro y57 e58
  have h59 := h55 y57 e58
  have g60 := g56 y57 e58
  exact hp _ _ h59 g60
theorem j_wj_X7_holdsAllOthers_88 {K14 K141 K142 : Int32 → Int32 → Int32 → mS → Prop} {post post1 post2 : Int32 → mS → Prop} {x1 : Int32} {x2 : Int32} {x3 : Int32} {u : mS} (h : wj_X7_holdsAllOthers_88 K14 post x1 x2 x3 u) (g : wj_X7_holdsAllOthers_88 K141 post1 x1 x2 x3 u) (hK14 : ∀ (b0_ : Int32) (b1_ : Int32) (b2_ : Int32) (b3_ : mS), K14 b0_ b1_ b2_ b3_ → K141 b0_ b1_ b2_ b3_ → K142 b0_ b1_ b2_ b3_) (hp : ∀ (b0_ : Int32) (b1_ : mS), post b0_ b1_ → post1 b0_ b1_ → post2 b0_ b1_) : wj_X7_holdsAllOthers_88 K142 post2 x1 x2 x3 u := by
  intro y1 e2
  have h3 := h y1 e2
  have g4 := g y1 e2
  exact hK14 _ _ _ _ h3 g4
theorem j_wj_X7_holdsAllOthers_61 {K14 K141 K142 : Int32 → Int32 → Int32 → mS → Prop} {post post1 post2 : Int32 → mS → Prop} {x1 : Int32} {x2 : Int32} {x3 : Int32} {z0 : Int32} {u : mS} (h : wj_X7_holdsAllOthers_61 K14 post x1 x2 x3 z0 u) (g : wj_X7_holdsAllOthers_61 K141 post1 x1 x2 x3 z0 u) (hK14 : ∀ (b0_ : Int32) (b1_ : Int32) (b2_ : Int32) (b3_ : mS), K14 b0_ b1_ b2_ b3_ → K141 b0_ b1_ b2_ b3_ → K142 b0_ b1_ b2_ b3_) (hp : ∀ (b0_ : Int32) (b1_ : mS), post b0_ b1_ → post1 b0_ b1_ → post2 b0_ b1_) : wj_X7_holdsAllOthers_61 K142 post2 x1 x2 x3 z0 u := by
  refine ⟨fun c1 => ?_, fun c2 => ?_⟩
  · have h3 := h.1 c1
    have g4 := g.1 c1
    exact j_wj_X7_holdsAllOthers_88 h3 g4 hK14 hp
  · have h5 := h.2 c2
    have g6 := g.2 c2
    refine ⟨h5.1, ?_⟩
    have h7 := h5.2
    have g8 := g6.2
    intro y9 e10
    have h11 := h7 y9 e10
    have g12 := g8 y9 e10
    refine ⟨h11.1, ?_⟩
    have h13 := h11.2
    have g14 := g12.2
    intro y15 e16
    have h17 := h13 y15 e16
    have g18 := g14 y15 e16
    intro y19 e20
    have h21 := h17 y19 e20
    have g22 := g18 y19 e20
    intro y23 e24
    have h25 := h21 y23 e24
    have g26 := g22 y23 e24
    refine ⟨fun c27 => ?_, fun c28 => ?_⟩
    · have h29 := h25.1 c27
      have g30 := g26.1 c27
      exact j_wj_X7_holdsAllOthers_88 h29 g30 hK14 hp
    · have h31 := h25.2 c28
      have g32 := g26.2 c28
      exact hp _ _ h31 g32
theorem j_wj_X7_holdsAllOthers_60 {K14 K141 K142 : Int32 → Int32 → Int32 → mS → Prop} {post post1 post2 : Int32 → mS → Prop} {x1 : Int32} {x2 : Int32} {x3 : Int32} {u : mS} (h : wj_X7_holdsAllOthers_60 K14 post x1 x2 x3 u) (g : wj_X7_holdsAllOthers_60 K141 post1 x1 x2 x3 u) (hK14 : ∀ (b0_ : Int32) (b1_ : Int32) (b2_ : Int32) (b3_ : mS), K14 b0_ b1_ b2_ b3_ → K141 b0_ b1_ b2_ b3_ → K142 b0_ b1_ b2_ b3_) (hp : ∀ (b0_ : Int32) (b1_ : mS), post b0_ b1_ → post1 b0_ b1_ → post2 b0_ b1_) : wj_X7_holdsAllOthers_60 K142 post2 x1 x2 x3 u := by
  exact j_wj_X7_holdsAllOthers_61 h g hK14 hp
theorem j_wj_X7_holdsAllOthers_14 {K14 K141 K142 : Int32 → Int32 → Int32 → mS → Prop} {post post1 post2 : Int32 → mS → Prop} {x1 : Int32} {x2 : Int32} {x3 : Int32} {u : mS} (h : wj_X7_holdsAllOthers_14 K14 post x1 x2 x3 u) (g : wj_X7_holdsAllOthers_14 K141 post1 x1 x2 x3 u) (hK14 : ∀ (b0_ : Int32) (b1_ : Int32) (b2_ : Int32) (b3_ : mS), K14 b0_ b1_ b2_ b3_ → K141 b0_ b1_ b2_ b3_ → K142 b0_ b1_ b2_ b3_) (hp : ∀ (b0_ : Int32) (b1_ : mS), post b0_ b1_ → post1 b0_ b1_ → post2 b0_ b1_) : wj_X7_holdsAllOthers_14 K142 post2 x1 x2 x3 u := by
  intro y1 e2
  have h3 := h y1 e2
  have g4 := g y1 e2
  refine ⟨fun c5 => ?_, fun c6 => ?_⟩
  · have h7 := h3.1 c5
    have g8 := g4.1 c5
    exact hp _ _ h7 g8
  · have h9 := h3.2 c6
    have g10 := g4.2 c6
    refine ⟨fun c11 => ?_, fun c12 => ?_⟩
    · have h13 := h9.1 c11
      have g14 := g10.1 c11
      exact hp _ _ h13 g14
    · have h15 := h9.2 c12
      have g16 := g10.2 c12
      refine ⟨h15.1, ?_⟩
      have h17 := h15.2
      have g18 := g16.2
      intro y19 e20
      have h21 := h17 y19 e20
      have g22 := g18 y19 e20
      refine ⟨h21.1, ?_⟩
      have h23 := h21.2
      have g24 := g22.2
      intro y25 e26
      have h27 := h23 y25 e26
      have g28 := g24 y25 e26
      refine ⟨fun c29 => ?_, fun c30 => ?_⟩
      · have h31 := h27.1 c29
        have g32 := g28.1 c29
        exact j_wj_X7_holdsAllOthers_60 h31 g32 hK14 hp
      · have h33 := h27.2 c30
        have g34 := g28.2 c30
        refine ⟨h33.1, ?_⟩
        have h35 := h33.2
        have g36 := g34.2
        intro y37 e38
        have h39 := h35 y37 e38
        have g40 := g36 y37 e38
        intro y41 e42
        have h43 := h39 y41 e42
        have g44 := g40 y41 e42
        intro y45 e46
        have h47 := h43 y45 e46
        have g48 := g44 y45 e46
        refine ⟨fun c49 => ?_, fun c50 => ?_⟩
        · have h51 := h47.1 c49
          have g52 := g48.1 c49
          exact j_wj_X7_holdsAllOthers_60 h51 g52 hK14 hp
        · have h53 := h47.2 c50
          have g54 := g48.2 c50
          exact j_wj_X7_holdsAllOthers_61 h53 g54 hK14 hp
theorem j_wp_X7_holdsAllOthers {x1 : Int32} {x2 : Int32} {u : mS} {post post1 post2 : Int32 → mS → Prop} (h : wp_X7_holdsAllOthers x1 x2 u post) (g : wp_X7_holdsAllOthers x1 x2 u post1) (hp : ∀ (b0_ : Int32) (b1_ : mS), post b0_ b1_ → post1 b0_ b1_ → post2 b0_ b1_) : wp_X7_holdsAllOthers x1 x2 u post2 := by
  refine ⟨fun c1 => ?_, fun c2 => ?_⟩
  · have h3 := h.1 c1
    have g4 := g.1 c1
    exact hp _ _ h3 g4
  · have h5 := h.2 c2
    have g6 := g.2 c2
    refine ⟨fun c7 => ?_, fun c8 => ?_⟩
    · have h9 := h5.1 c7
      have g10 := g6.1 c7
      obtain ⟨n11, h13⟩ := h9
      obtain ⟨m12, g14⟩ := g10
      refine ⟨n11, mL4_j ?_ n11 m12 _ _ _ _ h13 g14⟩
      intro K_ L_ M_ hK_ _ _ _ _ a_ b_
      exact j_wj_X7_holdsAllOthers_14 a_ b_ hK_ hp
    · have h15 := h5.2 c8
      have g16 := g6.2 c8
      exact hp _ _ h15 g16
theorem j_wj_X7_meaning_79 {K8 K81 K82 : Int32 → Int32 → Int32 → Int32 → Int32 → mS → Prop} {post post1 post2 : Int32 → mS → Prop} {x1 : Int32} {x2 : Int32} {x3 : Int32} {x4 : Int32} {x5 : Int32} {u : mS} (h : wj_X7_meaning_79 K8 post x1 x2 x3 x4 x5 u) (g : wj_X7_meaning_79 K81 post1 x1 x2 x3 x4 x5 u) (hK8 : ∀ (b0_ : Int32) (b1_ : Int32) (b2_ : Int32) (b3_ : Int32) (b4_ : Int32) (b5_ : mS), K8 b0_ b1_ b2_ b3_ b4_ b5_ → K81 b0_ b1_ b2_ b3_ b4_ b5_ → K82 b0_ b1_ b2_ b3_ b4_ b5_) (hp : ∀ (b0_ : Int32) (b1_ : mS), post b0_ b1_ → post1 b0_ b1_ → post2 b0_ b1_) : wj_X7_meaning_79 K82 post2 x1 x2 x3 x4 x5 u := by
  intro y1 e2
  have h3 := h y1 e2
  have g4 := g y1 e2
  exact hK8 _ _ _ _ _ _ h3 g4
theorem j_wj_X7_meaning_98 {post post1 post2 : Int32 → mS → Prop} {x3 : Int32} {u : mS} (h : wj_X7_meaning_98 post x3 u) (g : wj_X7_meaning_98 post1 x3 u) (hp : ∀ (b0_ : Int32) (b1_ : mS), post b0_ b1_ → post1 b0_ b1_ → post2 b0_ b1_) : wj_X7_meaning_98 post2 x3 u := by
  exact hp _ _ h g
theorem j_wj_X7_meaning_85 {post post1 post2 : Int32 → mS → Prop} {x2 : Int32} {x3 : Int32} {u : mS} (h : wj_X7_meaning_85 post x2 x3 u) (g : wj_X7_meaning_85 post1 x2 x3 u) (hp : ∀ (b0_ : Int32) (b1_ : mS), post b0_ b1_ → post1 b0_ b1_ → post2 b0_ b1_) : wj_X7_meaning_85 post2 x2 x3 u := by
  refine ⟨fun c1 => ?_, fun c2 => ?_⟩
  · have h3 := h.1 c1
    have g4 := g.1 c1
    exact j_wj_X7_meaning_98 h3 g4 hp
  · have h5 := h.2 c2
    have g6 := g.2 c2
    refine j_wp_X7_holdsAllOthers h5 g6 (fun w9 w10 h7 g8 => ?_)
    refine ⟨fun c11 => ?_, fun c12 => ?_⟩
    · have h13 := h7.1 c11
      have g14 := g8.1 c11
      exact hp _ _ h13 g14
    · have h15 := h7.2 c12
      have g16 := g8.2 c12
      exact j_wj_X7_meaning_98 h15 g16 hp
theorem j_wj_X7_meaning_8 {K8 K81 K82 : Int32 → Int32 → Int32 → Int32 → Int32 → mS → Prop} {post post1 post2 : Int32 → mS → Prop} {x1 : Int32} {x2 : Int32} {x3 : Int32} {x4 : Int32} {x5 : Int32} {u : mS} (h : wj_X7_meaning_8 K8 post x1 x2 x3 x4 x5 u) (g : wj_X7_meaning_8 K81 post1 x1 x2 x3 x4 x5 u) (hK8 : ∀ (b0_ : Int32) (b1_ : Int32) (b2_ : Int32) (b3_ : Int32) (b4_ : Int32) (b5_ : mS), K8 b0_ b1_ b2_ b3_ b4_ b5_ → K81 b0_ b1_ b2_ b3_ b4_ b5_ → K82 b0_ b1_ b2_ b3_ b4_ b5_) (hp : ∀ (b0_ : Int32) (b1_ : mS), post b0_ b1_ → post1 b0_ b1_ → post2 b0_ b1_) : wj_X7_meaning_8 K82 post2 x1 x2 x3 x4 x5 u := by
  intro y1 e2
  have h3 := h y1 e2
  have g4 := g y1 e2
  refine ⟨fun c5 => ?_, fun c6 => ?_⟩
  · have h7 := h3.1 c5
    have g8 := g4.1 c5
    exact j_wj_X7_meaning_85 h7 g8 hp
  · have h9 := h3.2 c6
    have g10 := g4.2 c6
    refine ⟨fun c11 => ?_, fun c12 => ?_⟩
    · have h13 := h9.1 c11
      have g14 := g10.1 c11
      exact j_wj_X7_meaning_85 h13 g14 hp
    · have h15 := h9.2 c12
      have g16 := g10.2 c12
      refine ⟨h15.1, ?_⟩
      have h17 := h15.2
      have g18 := g16.2
      intro y19 e20
      have h21 := h17 y19 e20
      have g22 := g18 y19 e20
      refine ⟨fun c23 => ?_, fun c24 => ?_⟩
      · have h25 := h21.1 c23
        have g26 := g22.1 c23
        exact j_wj_X7_meaning_79 h25 g26 hK8 hp
      · have h27 := h21.2 c24
        have g28 := g22.2 c24
        refine ⟨h27.1, ?_⟩
        have h29 := h27.2
        have g30 := g28.2
        intro y31 e32
        have h33 := h29 y31 e32
        have g34 := g30 y31 e32
        intro y35 e36
        have h37 := h33 y35 e36
        have g38 := g34 y35 e36
        intro y39 e40
        have h41 := h37 y39 e40
        have g42 := g38 y39 e40
        refine ⟨fun c43 => ?_, fun c44 => ?_⟩
        · have h45 := h41.1 c43
          have g46 := g42.1 c43
          exact j_wj_X7_meaning_79 h45 g46 hK8 hp
        · have h47 := h41.2 c44
          have g48 := g42.2 c44
          refine ⟨h47.1, ?_⟩
          have h49 := h47.2
          have g50 := g48.2
          intro y51 e52
          have h53 := h49 y51 e52
          have g54 := g50 y51 e52
          refine j_wp_J6_bitCount_0f7a4 h53 g54 (fun w57 w58 h55 g56 => ?_)
          refine ⟨fun c59 => ?_, fun c60 => ?_⟩
          · have h61 := h55.1 c59
            have g62 := g56.1 c59
            exact j_wj_X7_meaning_79 h61 g62 hK8 hp
          · have h63 := h55.2 c60
            have g64 := g56.2 c60
            refine ⟨h63.1, ?_⟩
            have h65 := h63.2
            have g66 := g64.2
            intro y67 e68
            have h69 := h65 y67 e68
            have g70 := g66 y67 e68
            refine j_wp_J6_bitCount_0f7a4 h69 g70 (fun w73 w74 h71 g72 => ?_)
            exact j_wj_X7_meaning_79 h71 g72 hK8 hp
theorem j_wp_X7_meaning {x1 : Int32} {x2 : Int32} {u : mS} {post post1 post2 : Int32 → mS → Prop} (h : wp_X7_meaning x1 x2 u post) (g : wp_X7_meaning x1 x2 u post1) (hp : ∀ (b0_ : Int32) (b1_ : mS), post b0_ b1_ → post1 b0_ b1_ → post2 b0_ b1_) : wp_X7_meaning x1 x2 u post2 := by
  obtain ⟨n1, h3⟩ := h
  obtain ⟨m2, g4⟩ := g
  refine ⟨n1, mL6_j ?_ n1 m2 _ _ _ _ _ _ h3 g4⟩
  intro K_ L_ M_ hK_ _ _ _ _ _ _ a_ b_
  exact j_wj_X7_meaning_8 a_ b_ hK_ hp
theorem j_wj_X0_meaningOf_43 {post post1 post2 : Int32 → mS → Prop} {z0 : Int32} {u : mS} (h : wj_X0_meaningOf_43 post z0 u) (g : wj_X0_meaningOf_43 post1 z0 u) (hp : ∀ (b0_ : Int32) (b1_ : mS), post b0_ b1_ → post1 b0_ b1_ → post2 b0_ b1_) : wj_X0_meaningOf_43 post2 z0 u := by
  refine j_wp_X2_fail h g (fun w3 h1 g2 => ?_)
  exact hp _ _ h1 g2
theorem j_wp_X0_meaningOf {x1 : Int32} {u : mS} {post post1 post2 : Int32 → mS → Prop} (h : wp_X0_meaningOf x1 u post) (g : wp_X0_meaningOf x1 u post1) (hp : ∀ (b0_ : Int32) (b1_ : mS), post b0_ b1_ → post1 b0_ b1_ → post2 b0_ b1_) : wp_X0_meaningOf x1 u post2 := by
  refine j_wp_X5_wordAt h g (fun w3 w4 h1 g2 => ?_)
  refine j_wp_X5_marksAt h1 g2 (fun w7 w8 h5 g6 => ?_)
  refine j_wp_X7_meaning h5 g6 (fun w11 w12 h9 g10 => ?_)
  refine ⟨fun c13 => ?_, fun c14 => ?_⟩
  · have h15 := h9.1 c13
    have g16 := g10.1 c13
    exact hp _ _ h15 g16
  · have h17 := h9.2 c14
    have g18 := g10.2 c14
    refine ⟨fun c19 => ?_, fun c20 => ?_⟩
    · have h21 := h17.1 c19
      have g22 := g18.1 c19
      exact j_wj_X0_meaningOf_43 h21 g22 hp
    · have h23 := h17.2 c20
      have g24 := g18.2 c20
      exact j_wj_X0_meaningOf_43 h23 g24 hp
theorem j_wp_X7_kindOf {x1 : Int32} {u : mS} {post post1 post2 : Int32 → mS → Prop} (h : wp_X7_kindOf x1 u post) (g : wp_X7_kindOf x1 u post1) (hp : ∀ (b0_ : Int32) (b1_ : mS), post b0_ b1_ → post1 b0_ b1_ → post2 b0_ b1_) : wp_X7_kindOf x1 u post2 := by
  refine ⟨fun c1 => ?_, fun c2 => ?_⟩
  · have h3 := h.1 c1
    have g4 := g.1 c1
    exact hp _ _ h3 g4
  · have h5 := h.2 c2
    have g6 := g.2 c2
    refine ⟨fun c7 => ?_, fun c8 => ?_⟩
    · have h9 := h5.1 c7
      have g10 := g6.1 c7
      exact hp _ _ h9 g10
    · have h11 := h5.2 c8
      have g12 := g6.2 c8
      refine ⟨h11.1, ?_⟩
      have h13 := h11.2
      have g14 := g12.2
      intro y15 e16
      have h17 := h13 y15 e16
      have g18 := g14 y15 e16
      exact hp _ _ h17 g18
theorem j_wp_X7_valueOf {x1 : Int32} {u : mS} {post post1 post2 : Int32 → mS → Prop} (h : wp_X7_valueOf x1 u post) (g : wp_X7_valueOf x1 u post1) (hp : ∀ (b0_ : Int32) (b1_ : mS), post b0_ b1_ → post1 b0_ b1_ → post2 b0_ b1_) : wp_X7_valueOf x1 u post2 := by
  refine ⟨fun c1 => ?_, fun c2 => ?_⟩
  · have h3 := h.1 c1
    have g4 := g.1 c1
    exact hp _ _ h3 g4
  · have h5 := h.2 c2
    have g6 := g.2 c2
    refine ⟨fun c7 => ?_, fun c8 => ?_⟩
    · have h9 := h5.1 c7
      have g10 := g6.1 c7
      exact hp _ _ h9 g10
    · have h11 := h5.2 c8
      have g12 := g6.2 c8
      refine ⟨h11.1, ?_⟩
      have h13 := h11.2
      have g14 := g12.2
      intro y15 e16
      have h17 := h13 y15 e16
      have g18 := g14 y15 e16
      exact hp _ _ h17 g18
theorem j_wp_X2_putVariable {x1 : Int32} {u : mS} {post post1 post2 : mS → Prop} (h : wp_X2_putVariable x1 u post) (g : wp_X2_putVariable x1 u post1) (hp : ∀ (b0_ : mS), post b0_ → post1 b0_ → post2 b0_) : wp_X2_putVariable x1 u post2 := by
  refine j_wp_X2_put h g (fun w3 h1 g2 => ?_)
  refine j_wp_X2_putNumber h1 g2 (fun w6 h4 g5 => ?_)
  exact hp _ h4 g5
theorem j_wj_X2_putName_27 {K3 K31 K32 : Int32 → Int32 → mS → Prop} {post post1 post2 : mS → Prop} {x1 : Int32} {x2 : Int32} {u : mS} (h : wj_X2_putName_27 K3 post x1 x2 u) (g : wj_X2_putName_27 K31 post1 x1 x2 u) (hK3 : ∀ (b0_ : Int32) (b1_ : Int32) (b2_ : mS), K3 b0_ b1_ b2_ → K31 b0_ b1_ b2_ → K32 b0_ b1_ b2_) (hp : ∀ (b0_ : mS), post b0_ → post1 b0_ → post2 b0_) : wj_X2_putName_27 K32 post2 x1 x2 u := by
  intro y1 e2
  have h3 := h y1 e2
  have g4 := g y1 e2
  exact hK3 _ _ _ h3 g4
theorem j_wj_X2_putName_3 {K3 K31 K32 : Int32 → Int32 → mS → Prop} {post post1 post2 : mS → Prop} {x1 : Int32} {x2 : Int32} {u : mS} (h : wj_X2_putName_3 K3 post x1 x2 u) (g : wj_X2_putName_3 K31 post1 x1 x2 u) (hK3 : ∀ (b0_ : Int32) (b1_ : Int32) (b2_ : mS), K3 b0_ b1_ b2_ → K31 b0_ b1_ b2_ → K32 b0_ b1_ b2_) (hp : ∀ (b0_ : mS), post b0_ → post1 b0_ → post2 b0_) : wj_X2_putName_3 K32 post2 x1 x2 u := by
  refine ⟨fun c1 => ?_, fun c2 => ?_⟩
  · have h3 := h.1 c1
    have g4 := g.1 c1
    exact hp _ h3 g4
  · have h5 := h.2 c2
    have g6 := g.2 c2
    intro y7 e8
    have h9 := h5 y7 e8
    have g10 := g6 y7 e8
    refine ⟨fun c11 => ?_, fun c12 => ?_⟩
    · have h13 := h9.1 c11
      have g14 := g10.1 c11
      exact j_wj_X2_putName_27 h13 g14 hK3 hp
    · have h15 := h9.2 c12
      have g16 := g10.2 c12
      intro y17 e18
      have h19 := h15 y17 e18
      have g20 := g16 y17 e18
      intro y21 e22
      have h23 := h19 y21 e22
      have g24 := g20 y21 e22
      refine j_wp_X2_put h23 g24 (fun w27 h25 g26 => ?_)
      exact j_wj_X2_putName_27 h25 g26 hK3 hp
theorem j_wp_X2_putName {x1 : Int32} {u : mS} {post post1 post2 : mS → Prop} (h : wp_X2_putName x1 u post) (g : wp_X2_putName x1 u post1) (hp : ∀ (b0_ : mS), post b0_ → post1 b0_ → post2 b0_) : wp_X2_putName x1 u post2 := by
  obtain ⟨n1, h3⟩ := h
  obtain ⟨m2, g4⟩ := g
  refine ⟨n1, mL3_j ?_ n1 m2 _ _ _ h3 g4⟩
  intro K_ L_ M_ hK_ _ _ _ a_ b_
  exact j_wj_X2_putName_3 a_ b_ hK_ hp
theorem j_wp_X0_expandName {x1 : Int32} {u : mS} {post post1 post2 : mS → Prop} (h : wp_X0_expandName x1 u post) (g : wp_X0_expandName x1 u post1) (hp : ∀ (b0_ : mS), post b0_ → post1 b0_ → post2 b0_) : wp_X0_expandName x1 u post2 := by
  refine j_wp_X0_meaningOf h g (fun w3 w4 h1 g2 => ?_)
  refine ⟨fun c5 => ?_, fun c6 => ?_⟩
  · have h7 := h1.1 c5
    have g8 := g2.1 c5
    refine j_wp_X7_kindOf h7 g8 (fun w11 w12 h9 g10 => ?_)
    refine ⟨fun c13 => ?_, fun c14 => ?_⟩
    · have h15 := h9.1 c13
      have g16 := g10.1 c13
      refine ⟨fun c17 => ?_, fun c18 => ?_⟩
      · have h19 := h15.1 c17
        have g20 := g16.1 c17
        refine j_wp_X2_fail h19 g20 (fun w23 h21 g22 => ?_)
        exact hp _ h21 g22
      · have h24 := h15.2 c18
        have g25 := g16.2 c18
        refine j_wp_X7_valueOf h24 g25 (fun w28 w29 h26 g27 => ?_)
        refine j_wp_X2_putVariable h26 g27 (fun w32 h30 g31 => ?_)
        exact hp _ h30 g31
    · have h33 := h9.2 c14
      have g34 := g10.2 c14
      refine j_wp_X5_wordAt h33 g34 (fun w37 w38 h35 g36 => ?_)
      refine j_wp_X2_putName h35 g36 (fun w41 h39 g40 => ?_)
      exact hp _ h39 g40
  · have h42 := h1.2 c6
    have g43 := g2.2 c6
    exact hp _ h42 g43
theorem j_wj_X5_after_40 {post post1 post2 : Int32 → mS → Prop} {x1 : Int32} {u : mS} (h : wj_X5_after_40 post x1 u) (g : wj_X5_after_40 post1 x1 u) (hp : ∀ (b0_ : Int32) (b1_ : mS), post b0_ b1_ → post1 b0_ b1_ → post2 b0_ b1_) : wj_X5_after_40 post2 x1 u := by
  intro y1 e2
  have h3 := h y1 e2
  have g4 := g y1 e2
  exact hp _ _ h3 g4
theorem j_wp_X5_after {x1 : Int32} {u : mS} {post post1 post2 : Int32 → mS → Prop} (h : wp_X5_after x1 u post) (g : wp_X5_after x1 u post1) (hp : ∀ (b0_ : Int32) (b1_ : mS), post b0_ b1_ → post1 b0_ b1_ → post2 b0_ b1_) : wp_X5_after x1 u post2 := by
  refine ⟨fun c1 => ?_, fun c2 => ?_⟩
  · have h3 := h.1 c1
    have g4 := g.1 c1
    exact j_wj_X5_after_40 h3 g4 hp
  · have h5 := h.2 c2
    have g6 := g.2 c2
    intro y7 e8
    have h9 := h5 y7 e8
    have g10 := g6 y7 e8
    refine ⟨fun c11 => ?_, fun c12 => ?_⟩
    · have h13 := h9.1 c11
      have g14 := g10.1 c11
      exact j_wj_X5_after_40 h13 g14 hp
    · have h15 := h9.2 c12
      have g16 := g10.2 c12
      refine ⟨fun c17 => ?_, fun c18 => ?_⟩
      · have h19 := h15.1 c17
        have g20 := g16.1 c17
        exact j_wj_X5_after_40 h19 g20 hp
      · have h21 := h15.2 c18
        have g22 := g16.2 c18
        refine ⟨h21.1, ?_⟩
        have h23 := h21.2
        have g24 := g22.2
        intro y25 e26
        have h27 := h23 y25 e26
        have g28 := g24 y25 e26
        refine ⟨fun c29 => ?_, fun c30 => ?_⟩
        · have h31 := h27.1 c29
          have g32 := g28.1 c29
          exact j_wj_X5_after_40 h31 g32 hp
        · have h33 := h27.2 c30
          have g34 := g28.2 c30
          refine ⟨h33.1, ?_⟩
          have h35 := h33.2
          have g36 := g34.2
          intro y37 e38
          have h39 := h35 y37 e38
          have g40 := g36 y37 e38
          intro y41 e42
          have h43 := h39 y41 e42
          have g44 := g40 y41 e42
          exact hp _ _ h43 g44
theorem j_wj_X5_hasDots_81 {K14 K141 K142 : Int32 → Int32 → mS → Prop} {post post1 post2 : Int32 → mS → Prop} {x3 : Int32} {z0 : Int32} {z1 : Int32} {u : mS} (h : wj_X5_hasDots_81 K14 post x3 z0 z1 u) (g : wj_X5_hasDots_81 K141 post1 x3 z0 z1 u) (hK14 : ∀ (b0_ : Int32) (b1_ : Int32) (b2_ : mS), K14 b0_ b1_ b2_ → K141 b0_ b1_ b2_ → K142 b0_ b1_ b2_) (hp : ∀ (b0_ : Int32) (b1_ : mS), post b0_ b1_ → post1 b0_ b1_ → post2 b0_ b1_) : wj_X5_hasDots_81 K142 post2 x3 z0 z1 u := by
  intro y1 e2
  have h3 := h y1 e2
  have g4 := g y1 e2
  intro y5 e6
  have h7 := h3 y5 e6
  have g8 := g4 y5 e6
  exact hK14 _ _ _ h7 g8
theorem j_wj_X5_hasDots_50 {K14 K141 K142 : Int32 → Int32 → mS → Prop} {post post1 post2 : Int32 → mS → Prop} {x2 : Int32} {x3 : Int32} {u : mS} (h : wj_X5_hasDots_50 K14 post x2 x3 u) (g : wj_X5_hasDots_50 K141 post1 x2 x3 u) (hK14 : ∀ (b0_ : Int32) (b1_ : Int32) (b2_ : mS), K14 b0_ b1_ b2_ → K141 b0_ b1_ b2_ → K142 b0_ b1_ b2_) (hp : ∀ (b0_ : Int32) (b1_ : mS), post b0_ b1_ → post1 b0_ b1_ → post2 b0_ b1_) : wj_X5_hasDots_50 K142 post2 x2 x3 u := by
  refine ⟨h.1, ?_⟩
  have h1 := h.2
  have g2 := g.2
  intro y3 e4
  have h5 := h1 y3 e4
  have g6 := g2 y3 e4
  refine ⟨fun c7 => ?_, fun c8 => ?_⟩
  · have h9 := h5.1 c7
    have g10 := g6.1 c7
    refine ⟨h9.1, ?_⟩
    have h11 := h9.2
    have g12 := g10.2
    intro y13 e14
    have h15 := h11 y13 e14
    have g16 := g12 y13 e14
    refine ⟨fun c17 => ?_, fun c18 => ?_⟩
    · have h19 := h15.1 c17
      have g20 := g16.1 c17
      exact j_wj_X5_hasDots_81 h19 g20 hK14 hp
    · have h21 := h15.2 c18
      have g22 := g16.2 c18
      exact j_wj_X5_hasDots_81 h21 g22 hK14 hp
  · have h23 := h5.2 c8
    have g24 := g6.2 c8
    exact j_wj_X5_hasDots_81 h23 g24 hK14 hp
theorem j_wj_X5_hasDots_14 {K14 K141 K142 : Int32 → Int32 → mS → Prop} {post post1 post2 : Int32 → mS → Prop} {x2 : Int32} {x3 : Int32} {u : mS} (h : wj_X5_hasDots_14 K14 post x2 x3 u) (g : wj_X5_hasDots_14 K141 post1 x2 x3 u) (hK14 : ∀ (b0_ : Int32) (b1_ : Int32) (b2_ : mS), K14 b0_ b1_ b2_ → K141 b0_ b1_ b2_ → K142 b0_ b1_ b2_) (hp : ∀ (b0_ : Int32) (b1_ : mS), post b0_ b1_ → post1 b0_ b1_ → post2 b0_ b1_) : wj_X5_hasDots_14 K142 post2 x2 x3 u := by
  intro y1 e2
  have h3 := h y1 e2
  have g4 := g y1 e2
  refine ⟨fun c5 => ?_, fun c6 => ?_⟩
  · have h7 := h3.1 c5
    have g8 := g4.1 c5
    exact hp _ _ h7 g8
  · have h9 := h3.2 c6
    have g10 := g4.2 c6
    refine ⟨fun c11 => ?_, fun c12 => ?_⟩
    · have h13 := h9.1 c11
      have g14 := g10.1 c11
      exact hp _ _ h13 g14
    · have h15 := h9.2 c12
      have g16 := g10.2 c12
      refine ⟨fun c17 => ?_, fun c18 => ?_⟩
      · have h19 := h15.1 c17
        have g20 := g16.1 c17
        exact hp _ _ h19 g20
      · have h21 := h15.2 c18
        have g22 := g16.2 c18
        refine ⟨h21.1, ?_⟩
        have h23 := h21.2
        have g24 := g22.2
        intro y25 e26
        have h27 := h23 y25 e26
        have g28 := g24 y25 e26
        refine ⟨fun c29 => ?_, fun c30 => ?_⟩
        · have h31 := h27.1 c29
          have g32 := g28.1 c29
          exact j_wj_X5_hasDots_50 h31 g32 hK14 hp
        · have h33 := h27.2 c30
          have g34 := g28.2 c30
          refine ⟨fun c35 => ?_, fun c36 => ?_⟩
          · have h37 := h33.1 c35
            have g38 := g34.1 c35
            exact j_wj_X5_hasDots_50 h37 g38 hK14 hp
          · have h39 := h33.2 c36
            have g40 := g34.2 c36
            exact hp _ _ h39 g40
theorem j_wj_X5_hasDots_13 {post post1 post2 : Int32 → mS → Prop} {x2 : Int32} {z0 : Int32} {u : mS} (h : wj_X5_hasDots_13 post x2 z0 u) (g : wj_X5_hasDots_13 post1 x2 z0 u) (hp : ∀ (b0_ : Int32) (b1_ : mS), post b0_ b1_ → post1 b0_ b1_ → post2 b0_ b1_) : wj_X5_hasDots_13 post2 x2 z0 u := by
  obtain ⟨n1, h3⟩ := h
  obtain ⟨m2, g4⟩ := g
  refine ⟨n1, mL3_j ?_ n1 m2 _ _ _ h3 g4⟩
  intro K_ L_ M_ hK_ _ _ _ a_ b_
  exact j_wj_X5_hasDots_14 a_ b_ hK_ hp
theorem j_wp_X5_hasDots {x1 : Int32} {u : mS} {post post1 post2 : Int32 → mS → Prop} (h : wp_X5_hasDots x1 u post) (g : wp_X5_hasDots x1 u post1) (hp : ∀ (b0_ : Int32) (b1_ : mS), post b0_ b1_ → post1 b0_ b1_ → post2 b0_ b1_) : wp_X5_hasDots x1 u post2 := by
  refine ⟨fun c1 => ?_, fun c2 => ?_⟩
  · have h3 := h.1 c1
    have g4 := g.1 c1
    intro y5 e6
    have h7 := h3 y5 e6
    have g8 := g4 y5 e6
    exact j_wj_X5_hasDots_13 h7 g8 hp
  · have h9 := h.2 c2
    have g10 := g.2 c2
    exact j_wj_X5_hasDots_13 h9 g10 hp
theorem j_wj_X5_itemsFrom_85 {K15 K151 K152 : Int32 → Int32 → Int32 → mS → Prop} {post post1 post2 : Int32 → mS → Prop} {x2 : Int32} {x3 : Int32} {x4 : Int32} {u : mS} (h : wj_X5_itemsFrom_85 K15 post x2 x3 x4 u) (g : wj_X5_itemsFrom_85 K151 post1 x2 x3 x4 u) (hK15 : ∀ (b0_ : Int32) (b1_ : Int32) (b2_ : Int32) (b3_ : mS), K15 b0_ b1_ b2_ b3_ → K151 b0_ b1_ b2_ b3_ → K152 b0_ b1_ b2_ b3_) (hp : ∀ (b0_ : Int32) (b1_ : mS), post b0_ b1_ → post1 b0_ b1_ → post2 b0_ b1_) : wj_X5_itemsFrom_85 K152 post2 x2 x3 x4 u := by
  intro y1 e2
  have h3 := h y1 e2
  have g4 := g y1 e2
  exact hK15 _ _ _ _ h3 g4
theorem j_wj_X5_itemsFrom_83 {K15 K151 K152 : Int32 → Int32 → Int32 → mS → Prop} {post post1 post2 : Int32 → mS → Prop} {x2 : Int32} {x4 : Int32} {z0 : Int32} {z1 : Int32} {u : mS} (h : wj_X5_itemsFrom_83 K15 post x2 x4 z0 z1 u) (g : wj_X5_itemsFrom_83 K151 post1 x2 x4 z0 z1 u) (hK15 : ∀ (b0_ : Int32) (b1_ : Int32) (b2_ : Int32) (b3_ : mS), K15 b0_ b1_ b2_ b3_ → K151 b0_ b1_ b2_ b3_ → K152 b0_ b1_ b2_ b3_) (hp : ∀ (b0_ : Int32) (b1_ : mS), post b0_ b1_ → post1 b0_ b1_ → post2 b0_ b1_) : wj_X5_itemsFrom_83 K152 post2 x2 x4 z0 z1 u := by
  intro y1 e2
  have h3 := h y1 e2
  have g4 := g y1 e2
  exact j_wj_X5_itemsFrom_85 h3 g4 hK15 hp
theorem j_wj_X5_itemsFrom_64 {K15 K151 K152 : Int32 → Int32 → Int32 → mS → Prop} {post post1 post2 : Int32 → mS → Prop} {x3 : Int32} {x4 : Int32} {z0 : Int32} {z1 : Int32} {u : mS} (h : wj_X5_itemsFrom_64 K15 post x3 x4 z0 z1 u) (g : wj_X5_itemsFrom_64 K151 post1 x3 x4 z0 z1 u) (hK15 : ∀ (b0_ : Int32) (b1_ : Int32) (b2_ : Int32) (b3_ : mS), K15 b0_ b1_ b2_ b3_ → K151 b0_ b1_ b2_ b3_ → K152 b0_ b1_ b2_ b3_) (hp : ∀ (b0_ : Int32) (b1_ : mS), post b0_ b1_ → post1 b0_ b1_ → post2 b0_ b1_) : wj_X5_itemsFrom_64 K152 post2 x3 x4 z0 z1 u := by
  intro y1 e2
  have h3 := h y1 e2
  have g4 := g y1 e2
  refine ⟨h3.1, ?_⟩
  have h5 := h3.2
  have g6 := g4.2
  intro y7 e8
  have h9 := h5 y7 e8
  have g10 := g6 y7 e8
  refine ⟨fun c11 => ?_, fun c12 => ?_⟩
  · have h13 := h9.1 c11
    have g14 := g10.1 c11
    exact j_wj_X5_itemsFrom_83 h13 g14 hK15 hp
  · have h15 := h9.2 c12
    have g16 := g10.2 c12
    exact j_wj_X5_itemsFrom_83 h15 g16 hK15 hp
theorem j_wj_X5_itemsFrom_91 {post post1 post2 : Int32 → mS → Prop} {x2 : Int32} {u : mS} (h : wj_X5_itemsFrom_91 post x2 u) (g : wj_X5_itemsFrom_91 post1 x2 u) (hp : ∀ (b0_ : Int32) (b1_ : mS), post b0_ b1_ → post1 b0_ b1_ → post2 b0_ b1_) : wj_X5_itemsFrom_91 post2 x2 u := by
  exact hp _ _ h g
theorem j_wj_X5_itemsFrom_15 {K15 K151 K152 : Int32 → Int32 → Int32 → mS → Prop} {post post1 post2 : Int32 → mS → Prop} {x2 : Int32} {x3 : Int32} {x4 : Int32} {u : mS} (h : wj_X5_itemsFrom_15 K15 post x2 x3 x4 u) (g : wj_X5_itemsFrom_15 K151 post1 x2 x3 x4 u) (hK15 : ∀ (b0_ : Int32) (b1_ : Int32) (b2_ : Int32) (b3_ : mS), K15 b0_ b1_ b2_ b3_ → K151 b0_ b1_ b2_ b3_ → K152 b0_ b1_ b2_ b3_) (hp : ∀ (b0_ : Int32) (b1_ : mS), post b0_ b1_ → post1 b0_ b1_ → post2 b0_ b1_) : wj_X5_itemsFrom_15 K152 post2 x2 x3 x4 u := by
  intro y1 e2
  have h3 := h y1 e2
  have g4 := g y1 e2
  refine ⟨fun c5 => ?_, fun c6 => ?_⟩
  · have h7 := h3.1 c5
    have g8 := g4.1 c5
    exact j_wj_X5_itemsFrom_91 h7 g8 hp
  · have h9 := h3.2 c6
    have g10 := g4.2 c6
    refine ⟨fun c11 => ?_, fun c12 => ?_⟩
    · have h13 := h9.1 c11
      have g14 := g10.1 c11
      exact j_wj_X5_itemsFrom_91 h13 g14 hp
    · have h15 := h9.2 c12
      have g16 := g10.2 c12
      refine ⟨fun c17 => ?_, fun c18 => ?_⟩
      · have h19 := h15.1 c17
        have g20 := g16.1 c17
        exact j_wj_X5_itemsFrom_91 h19 g20 hp
      · have h21 := h15.2 c18
        have g22 := g16.2 c18
        refine ⟨h21.1, ?_⟩
        have h23 := h21.2
        have g24 := g22.2
        intro y25 e26
        have h27 := h23 y25 e26
        have g28 := g24 y25 e26
        refine ⟨fun c29 => ?_, fun c30 => ?_⟩
        · have h31 := h27.1 c29
          have g32 := g28.1 c29
          refine ⟨fun c33 => ?_, fun c34 => ?_⟩
          · have h35 := h31.1 c33
            have g36 := g32.1 c33
            exact j_wj_X5_itemsFrom_64 h35 g36 hK15 hp
          · have h37 := h31.2 c34
            have g38 := g32.2 c34
            exact j_wj_X5_itemsFrom_64 h37 g38 hK15 hp
        · have h39 := h27.2 c30
          have g40 := g28.2 c30
          intro y41 e42
          have h43 := h39 y41 e42
          have g44 := g40 y41 e42
          exact j_wj_X5_itemsFrom_85 h43 g44 hK15 hp
theorem j_wj_X5_itemsFrom_13 {post post1 post2 : Int32 → mS → Prop} {x2 : Int32} {x3 : Int32} {z0 : Int32} {u : mS} (h : wj_X5_itemsFrom_13 post x2 x3 z0 u) (g : wj_X5_itemsFrom_13 post1 x2 x3 z0 u) (hp : ∀ (b0_ : Int32) (b1_ : mS), post b0_ b1_ → post1 b0_ b1_ → post2 b0_ b1_) : wj_X5_itemsFrom_13 post2 x2 x3 z0 u := by
  obtain ⟨n1, h3⟩ := h
  obtain ⟨m2, g4⟩ := g
  refine ⟨n1, mL4_j ?_ n1 m2 _ _ _ _ h3 g4⟩
  intro K_ L_ M_ hK_ _ _ _ _ a_ b_
  exact j_wj_X5_itemsFrom_15 a_ b_ hK_ hp
theorem j_wp_X5_itemsFrom {x1 : Int32} {u : mS} {post post1 post2 : Int32 → mS → Prop} (h : wp_X5_itemsFrom x1 u post) (g : wp_X5_itemsFrom x1 u post1) (hp : ∀ (b0_ : Int32) (b1_ : mS), post b0_ b1_ → post1 b0_ b1_ → post2 b0_ b1_) : wp_X5_itemsFrom x1 u post2 := by
  refine ⟨fun c1 => ?_, fun c2 => ?_⟩
  · have h3 := h.1 c1
    have g4 := g.1 c1
    exact j_wj_X5_itemsFrom_13 h3 g4 hp
  · have h5 := h.2 c2
    have g6 := g.2 c2
    exact j_wj_X5_itemsFrom_13 h5 g6 hp
theorem j_wj_X5_plainLength_17 {post post1 post2 : Int32 → mS → Prop} {u : mS} (h : wj_X5_plainLength_17 post u) (g : wj_X5_plainLength_17 post1 u) (hp : ∀ (b0_ : Int32) (b1_ : mS), post b0_ b1_ → post1 b0_ b1_ → post2 b0_ b1_) : wj_X5_plainLength_17 post2 u := by
  exact hp _ _ h g
theorem j_wp_X5_plainLength {x1 : Int32} {u : mS} {post post1 post2 : Int32 → mS → Prop} (h : wp_X5_plainLength x1 u post) (g : wp_X5_plainLength x1 u post1) (hp : ∀ (b0_ : Int32) (b1_ : mS), post b0_ b1_ → post1 b0_ b1_ → post2 b0_ b1_) : wp_X5_plainLength x1 u post2 := by
  refine j_wp_X5_wordAt h g (fun w3 w4 h1 g2 => ?_)
  refine ⟨fun c5 => ?_, fun c6 => ?_⟩
  · have h7 := h1.1 c5
    have g8 := g2.1 c5
    exact j_wj_X5_plainLength_17 h7 g8 hp
  · have h9 := h1.2 c6
    have g10 := g2.2 c6
    refine j_wp_X5_hasDots h9 g10 (fun w13 w14 h11 g12 => ?_)
    refine ⟨fun c15 => ?_, fun c16 => ?_⟩
    · have h17 := h11.1 c15
      have g18 := g12.1 c15
      intro y19 e20
      have h21 := h17 y19 e20
      have g22 := g18 y19 e20
      refine j_wp_X5_itemsFrom h21 g22 (fun w25 w26 h23 g24 => ?_)
      exact hp _ _ h23 g24
    · have h27 := h11.2 c16
      have g28 := g12.2 c16
      exact j_wj_X5_plainLength_17 h27 g28 hp
theorem j_wj_X0_areNames_11 {K11 K111 K112 : Int32 → Int32 → Int32 → mS → Prop} {post post1 post2 : Int32 → mS → Prop} {x1 : Int32} {x2 : Int32} {x3 : Int32} {u : mS} (h : wj_X0_areNames_11 K11 post x1 x2 x3 u) (g : wj_X0_areNames_11 K111 post1 x1 x2 x3 u) (hK11 : ∀ (b0_ : Int32) (b1_ : Int32) (b2_ : Int32) (b3_ : mS), K11 b0_ b1_ b2_ b3_ → K111 b0_ b1_ b2_ b3_ → K112 b0_ b1_ b2_ b3_) (hp : ∀ (b0_ : Int32) (b1_ : mS), post b0_ b1_ → post1 b0_ b1_ → post2 b0_ b1_) : wj_X0_areNames_11 K112 post2 x1 x2 x3 u := by
  refine ⟨fun c1 => ?_, fun c2 => ?_⟩
  · have h3 := h.1 c1
    have g4 := g.1 c1
    refine ⟨fun c5 => ?_, fun c6 => ?_⟩
    · have h7 := h3.1 c5
      have g8 := g4.1 c5
      exact hp _ _ h7 g8
    · have h9 := h3.2 c6
      have g10 := g4.2 c6
      exact hp _ _ h9 g10
  · have h11 := h.2 c2
    have g12 := g.2 c2
    intro y13 e14
    have h15 := h11 y13 e14
    have g16 := g12 y13 e14
    intro y17 e18
    have h19 := h15 y17 e18
    have g20 := g16 y17 e18
    refine j_wp_X5_wordAt h19 g20 (fun w23 w24 h21 g22 => ?_)
    refine j_wp_X8_isName h21 g22 (fun w27 w28 h25 g26 => ?_)
    refine ⟨fun c29 => ?_, fun c30 => ?_⟩
    · have h31 := h25.1 c29
      have g32 := g26.1 c29
      intro y33 e34
      have h35 := h31 y33 e34
      have g36 := g32 y33 e34
      exact hK11 _ _ _ _ h35 g36
    · have h37 := h25.2 c30
      have g38 := g26.2 c30
      exact hp _ _ h37 g38
theorem j_wp_X0_areNames {x1 : Int32} {u : mS} {post post1 post2 : Int32 → mS → Prop} (h : wp_X0_areNames x1 u post) (g : wp_X0_areNames x1 u post1) (hp : ∀ (b0_ : Int32) (b1_ : mS), post b0_ b1_ → post1 b0_ b1_ → post2 b0_ b1_) : wp_X0_areNames x1 u post2 := by
  refine j_wp_X5_plainLength h g (fun w3 w4 h1 g2 => ?_)
  obtain ⟨n5, h7⟩ := h1
  obtain ⟨m6, g8⟩ := g2
  refine ⟨n5, mL4_j ?_ n5 m6 _ _ _ _ h7 g8⟩
  intro K_ L_ M_ hK_ _ _ _ _ a_ b_
  exact j_wj_X0_areNames_11 a_ b_ hK_ hp
theorem j_wp_X0_newScope {u : mS} {post post1 post2 : Int32 → mS → Prop} (h : wp_X0_newScope u post) (g : wp_X0_newScope u post1) (hp : ∀ (b0_ : Int32) (b1_ : mS), post b0_ b1_ → post1 b0_ b1_ → post2 b0_ b1_) : wp_X0_newScope u post2 := by
  intro y1 e2
  have h3 := h y1 e2
  have g4 := g y1 e2
  refine ⟨fun c5 => ?_, fun c6 => ?_⟩
  · have h7 := h3.1 c5
    have g8 := g4.1 c5
    intro y9 e10
    have h11 := h7 y9 e10
    have g12 := g8 y9 e10
    intro y13 e14
    have h15 := h11 y13 e14
    have g16 := g12 y13 e14
    intro y17 e18
    have h19 := h15 y17 e18
    have g20 := g16 y17 e18
    intro y21 e22
    have h23 := h19 y21 e22
    have g24 := g20 y21 e22
    intro y25 e26
    have h27 := h23 y25 e26
    have g28 := g24 y25 e26
    exact hp _ _ h27 g28
  · have h29 := h3.2 c6
    have g30 := g4.2 c6
    refine j_wp_X2_fail h29 g30 (fun w33 h31 g32 => ?_)
    exact hp _ _ h31 g32
theorem j_wj_X5_turnScope_66 {K17 K171 K172 : Int32 → Int32 → Int32 → mS → Prop} {post post1 post2 : mS → Prop} {x2 : Int32} {x3 : Int32} {x4 : Int32} {u : mS} (h : wj_X5_turnScope_66 K17 post x2 x3 x4 u) (g : wj_X5_turnScope_66 K171 post1 x2 x3 x4 u) (hK17 : ∀ (b0_ : Int32) (b1_ : Int32) (b2_ : Int32) (b3_ : mS), K17 b0_ b1_ b2_ b3_ → K171 b0_ b1_ b2_ b3_ → K172 b0_ b1_ b2_ b3_) (hp : ∀ (b0_ : mS), post b0_ → post1 b0_ → post2 b0_) : wj_X5_turnScope_66 K172 post2 x2 x3 x4 u := by
  intro y1 e2
  have h3 := h y1 e2
  have g4 := g y1 e2
  exact hK17 _ _ _ _ h3 g4
theorem j_wj_X5_turnScope_17 {K17 K171 K172 : Int32 → Int32 → Int32 → mS → Prop} {post post1 post2 : mS → Prop} {x2 : Int32} {x3 : Int32} {x4 : Int32} {u : mS} (h : wj_X5_turnScope_17 K17 post x2 x3 x4 u) (g : wj_X5_turnScope_17 K171 post1 x2 x3 x4 u) (hK17 : ∀ (b0_ : Int32) (b1_ : Int32) (b2_ : Int32) (b3_ : mS), K17 b0_ b1_ b2_ b3_ → K171 b0_ b1_ b2_ b3_ → K172 b0_ b1_ b2_ b3_) (hp : ∀ (b0_ : mS), post b0_ → post1 b0_ → post2 b0_) : wj_X5_turnScope_17 K172 post2 x2 x3 x4 u := by
  refine ⟨fun c1 => ?_, fun c2 => ?_⟩
  · have h3 := h.1 c1
    have g4 := g.1 c1
    exact hp _ h3 g4
  · have h5 := h.2 c2
    have g6 := g.2 c2
    intro y7 e8
    have h9 := h5 y7 e8
    have g10 := g6 y7 e8
    refine ⟨fun c11 => ?_, fun c12 => ?_⟩
    · have h13 := h9.1 c11
      have g14 := g10.1 c11
      exact hp _ h13 g14
    · have h15 := h9.2 c12
      have g16 := g10.2 c12
      refine ⟨fun c17 => ?_, fun c18 => ?_⟩
      · have h19 := h15.1 c17
        have g20 := g16.1 c17
        exact hp _ h19 g20
      · have h21 := h15.2 c18
        have g22 := g16.2 c18
        refine ⟨h21.1, ?_⟩
        have h23 := h21.2
        have g24 := g22.2
        intro y25 e26
        have h27 := h23 y25 e26
        have g28 := g24 y25 e26
        refine j_wp_X8_isName h27 g28 (fun w31 w32 h29 g30 => ?_)
        refine ⟨fun c33 => ?_, fun c34 => ?_⟩
        · have h35 := h29.1 c33
          have g36 := g30.1 c33
          exact j_wj_X5_turnScope_66 h35 g36 hK17 hp
        · have h37 := h29.2 c34
          have g38 := g30.2 c34
          refine ⟨h37.1, ?_⟩
          have h39 := h37.2
          have g40 := g38.2
          intro y41 e42
          have h43 := h39 y41 e42
          have g44 := g40 y41 e42
          intro y45 e46
          have h47 := h43 y45 e46
          have g48 := g44 y45 e46
          intro y49 e50
          have h51 := h47 y49 e50
          have g52 := g48 y49 e50
          refine ⟨h51.1, ?_⟩
          have h53 := h51.2
          have g54 := g52.2
          intro y55 e56
          have h57 := h53 y55 e56
          have g58 := g54 y55 e56
          exact j_wj_X5_turnScope_66 h57 g58 hK17 hp
theorem j_wj_X5_turnScope_15 {post post1 post2 : mS → Prop} {x2 : Int32} {x3 : Int32} {z0 : Int32} {u : mS} (h : wj_X5_turnScope_15 post x2 x3 z0 u) (g : wj_X5_turnScope_15 post1 x2 x3 z0 u) (hp : ∀ (b0_ : mS), post b0_ → post1 b0_ → post2 b0_) : wj_X5_turnScope_15 post2 x2 x3 z0 u := by
  obtain ⟨n1, h3⟩ := h
  obtain ⟨m2, g4⟩ := g
  refine ⟨n1, mL4_j ?_ n1 m2 _ _ _ _ h3 g4⟩
  intro K_ L_ M_ hK_ _ _ _ _ a_ b_
  exact j_wj_X5_turnScope_17 a_ b_ hK_ hp
theorem j_wp_X5_turnScope {x1 : Int32} {x2 : Int32} {u : mS} {post post1 post2 : mS → Prop} (h : wp_X5_turnScope x1 x2 u post) (g : wp_X5_turnScope x1 x2 u post1) (hp : ∀ (b0_ : mS), post b0_ → post1 b0_ → post2 b0_) : wp_X5_turnScope x1 x2 u post2 := by
  refine j_wp_X5_after h g (fun w3 w4 h1 g2 => ?_)
  refine ⟨fun c5 => ?_, fun c6 => ?_⟩
  · have h7 := h1.1 c5
    have g8 := g2.1 c5
    exact j_wj_X5_turnScope_15 h7 g8 hp
  · have h9 := h1.2 c6
    have g10 := g2.2 c6
    exact j_wj_X5_turnScope_15 h9 g10 hp
theorem j_wj_X5_findName_102 {K44 K441 K442 : Int32 → Int32 → Int32 → mS → Prop} {post post1 post2 : Int32 → mS → Prop} {x2 : Int32} {x3 : Int32} {x4 : Int32} {u : mS} (h : wj_X5_findName_102 K44 post x2 x3 x4 u) (g : wj_X5_findName_102 K441 post1 x2 x3 x4 u) (hK44 : ∀ (b0_ : Int32) (b1_ : Int32) (b2_ : Int32) (b3_ : mS), K44 b0_ b1_ b2_ b3_ → K441 b0_ b1_ b2_ b3_ → K442 b0_ b1_ b2_ b3_) (hp : ∀ (b0_ : Int32) (b1_ : mS), post b0_ b1_ → post1 b0_ b1_ → post2 b0_ b1_) : wj_X5_findName_102 K442 post2 x2 x3 x4 u := by
  intro y1 e2
  have h3 := h y1 e2
  have g4 := g y1 e2
  exact hK44 _ _ _ _ h3 g4
theorem j_wj_X5_findName_44 {K44 K441 K442 : Int32 → Int32 → Int32 → mS → Prop} {post post1 post2 : Int32 → mS → Prop} {x2 : Int32} {x3 : Int32} {x4 : Int32} {u : mS} (h : wj_X5_findName_44 K44 post x2 x3 x4 u) (g : wj_X5_findName_44 K441 post1 x2 x3 x4 u) (hK44 : ∀ (b0_ : Int32) (b1_ : Int32) (b2_ : Int32) (b3_ : mS), K44 b0_ b1_ b2_ b3_ → K441 b0_ b1_ b2_ b3_ → K442 b0_ b1_ b2_ b3_) (hp : ∀ (b0_ : Int32) (b1_ : mS), post b0_ b1_ → post1 b0_ b1_ → post2 b0_ b1_) : wj_X5_findName_44 K442 post2 x2 x3 x4 u := by
  refine ⟨fun c1 => ?_, fun c2 => ?_⟩
  · have h3 := h.1 c1
    have g4 := g.1 c1
    exact hp _ _ h3 g4
  · have h5 := h.2 c2
    have g6 := g.2 c2
    intro y7 e8
    have h9 := h5 y7 e8
    have g10 := g6 y7 e8
    refine ⟨fun c11 => ?_, fun c12 => ?_⟩
    · have h13 := h9.1 c11
      have g14 := g10.1 c11
      exact hp _ _ h13 g14
    · have h15 := h9.2 c12
      have g16 := g10.2 c12
      refine ⟨fun c17 => ?_, fun c18 => ?_⟩
      · have h19 := h15.1 c17
        have g20 := g16.1 c17
        exact hp _ _ h19 g20
      · have h21 := h15.2 c18
        have g22 := g16.2 c18
        refine ⟨h21.1, ?_⟩
        have h23 := h21.2
        have g24 := g22.2
        intro y25 e26
        have h27 := h23 y25 e26
        have g28 := g24 y25 e26
        refine ⟨h27.1, ?_⟩
        have h29 := h27.2
        have g30 := g28.2
        intro y31 e32
        have h33 := h29 y31 e32
        have g34 := g30 y31 e32
        refine ⟨fun c35 => ?_, fun c36 => ?_⟩
        · have h37 := h33.1 c35
          have g38 := g34.1 c35
          exact j_wj_X5_findName_102 h37 g38 hK44 hp
        · have h39 := h33.2 c36
          have g40 := g34.2 c36
          refine ⟨h39.1, ?_⟩
          have h41 := h39.2
          have g42 := g40.2
          intro y43 e44
          have h45 := h41 y43 e44
          have g46 := g42 y43 e44
          refine ⟨h45.1, ?_⟩
          have h47 := h45.2
          have g48 := g46.2
          intro y49 e50
          have h51 := h47 y49 e50
          have g52 := g48 y49 e50
          refine ⟨fun c53 => ?_, fun c54 => ?_⟩
          · have h55 := h51.1 c53
            have g56 := g52.1 c53
            exact j_wj_X5_findName_102 h55 g56 hK44 hp
          · have h57 := h51.2 c54
            have g58 := g52.2 c54
            exact hp _ _ h57 g58
theorem j_wj_X5_findName_42 {post post1 post2 : Int32 → mS → Prop} {x2 : Int32} {x3 : Int32} {z0 : Int32} {u : mS} (h : wj_X5_findName_42 post x2 x3 z0 u) (g : wj_X5_findName_42 post1 x2 x3 z0 u) (hp : ∀ (b0_ : Int32) (b1_ : mS), post b0_ b1_ → post1 b0_ b1_ → post2 b0_ b1_) : wj_X5_findName_42 post2 x2 x3 z0 u := by
  obtain ⟨n1, h3⟩ := h
  obtain ⟨m2, g4⟩ := g
  refine ⟨n1, mL4_j ?_ n1 m2 _ _ _ _ h3 g4⟩
  intro K_ L_ M_ hK_ _ _ _ _ a_ b_
  exact j_wj_X5_findName_44 a_ b_ hK_ hp
theorem j_wp_X5_findName {x1 : Int32} {x2 : Int32} {x3 : Int32} {u : mS} {post post1 post2 : Int32 → mS → Prop} (h : wp_X5_findName x1 x2 x3 u post) (g : wp_X5_findName x1 x2 x3 u post1) (hp : ∀ (b0_ : Int32) (b1_ : mS), post b0_ b1_ → post1 b0_ b1_ → post2 b0_ b1_) : wp_X5_findName x1 x2 x3 u post2 := by
  refine ⟨fun c1 => ?_, fun c2 => ?_⟩
  · have h3 := h.1 c1
    have g4 := g.1 c1
    exact hp _ _ h3 g4
  · have h5 := h.2 c2
    have g6 := g.2 c2
    intro y7 e8
    have h9 := h5 y7 e8
    have g10 := g6 y7 e8
    refine ⟨fun c11 => ?_, fun c12 => ?_⟩
    · have h13 := h9.1 c11
      have g14 := g10.1 c11
      exact hp _ _ h13 g14
    · have h15 := h9.2 c12
      have g16 := g10.2 c12
      refine ⟨fun c17 => ?_, fun c18 => ?_⟩
      · have h19 := h15.1 c17
        have g20 := g16.1 c17
        exact hp _ _ h19 g20
      · have h21 := h15.2 c18
        have g22 := g16.2 c18
        refine ⟨h21.1, ?_⟩
        have h23 := h21.2
        have g24 := g22.2
        intro y25 e26
        have h27 := h23 y25 e26
        have g28 := g24 y25 e26
        refine ⟨fun c29 => ?_, fun c30 => ?_⟩
        · have h31 := h27.1 c29
          have g32 := g28.1 c29
          refine ⟨fun c33 => ?_, fun c34 => ?_⟩
          · have h35 := h31.1 c33
            have g36 := g32.1 c33
            exact j_wj_X5_findName_42 h35 g36 hp
          · have h37 := h31.2 c34
            have g38 := g32.2 c34
            exact j_wj_X5_findName_42 h37 g38 hp
        · have h39 := h27.2 c30
          have g40 := g28.2 c30
          exact hp _ _ h39 g40
theorem j_wp_X7_bind {x1 : Int32} {x2 : Int32} {x3 : Int32} {x4 : Int32} {u : mS} {post post1 post2 : Int32 → mS → Prop} (h : wp_X7_bind x1 x2 x3 x4 u post) (g : wp_X7_bind x1 x2 x3 x4 u post1) (hp : ∀ (b0_ : Int32) (b1_ : mS), post b0_ b1_ → post1 b0_ b1_ → post2 b0_ b1_) : wp_X7_bind x1 x2 x3 x4 u post2 := by
  intro y1 e2
  have h3 := h y1 e2
  have g4 := g y1 e2
  refine ⟨fun c5 => ?_, fun c6 => ?_⟩
  · have h7 := h3.1 c5
    have g8 := g4.1 c5
    exact hp _ _ h7 g8
  · have h9 := h3.2 c6
    have g10 := g4.2 c6
    intro y11 e12
    have h13 := h9 y11 e12
    have g14 := g10 y11 e12
    refine ⟨fun c15 => ?_, fun c16 => ?_⟩
    · have h17 := h13.1 c15
      have g18 := g14.1 c15
      intro y19 e20
      have h21 := h17 y19 e20
      have g22 := g18 y19 e20
      refine ⟨h21.1, ?_⟩
      have h23 := h21.2
      have g24 := g22.2
      intro y25 e26
      have h27 := h23 y25 e26
      have g28 := g24 y25 e26
      intro y29 e30
      have h31 := h27 y29 e30
      have g32 := g28 y29 e30
      refine ⟨h31.1, ?_⟩
      have h33 := h31.2
      have g34 := g32.2
      intro y35 e36
      have h37 := h33 y35 e36
      have g38 := g34 y35 e36
      intro y39 e40
      have h41 := h37 y39 e40
      have g42 := g38 y39 e40
      refine ⟨h41.1, ?_⟩
      have h43 := h41.2
      have g44 := g42.2
      intro y45 e46
      have h47 := h43 y45 e46
      have g48 := g44 y45 e46
      intro y49 e50
      have h51 := h47 y49 e50
      have g52 := g48 y49 e50
      refine ⟨h51.1, ?_⟩
      have h53 := h51.2
      have g54 := g52.2
      intro y55 e56
      have h57 := h53 y55 e56
      have g58 := g54 y55 e56
      intro y59 e60
      have h61 := h57 y59 e60
      have g62 := g58 y59 e60
      intro y63 e64
      have h65 := h61 y63 e64
      have g66 := g62 y63 e64
      intro y67 e68
      have h69 := h65 y67 e68
      have g70 := g66 y67 e68
      exact hp _ _ h69 g70
    · have h71 := h13.2 c16
      have g72 := g14.2 c16
      exact hp _ _ h71 g72
theorem j_wp_X0_bind {x1 : Int32} {x2 : Int32} {x3 : Int32} {u : mS} {post post1 post2 : Int32 → mS → Prop} (h : wp_X0_bind x1 x2 x3 u post) (g : wp_X0_bind x1 x2 x3 u post1) (hp : ∀ (b0_ : Int32) (b1_ : mS), post b0_ b1_ → post1 b0_ b1_ → post2 b0_ b1_) : wp_X0_bind x1 x2 x3 u post2 := by
  refine j_wp_X5_wordAt h g (fun w3 w4 h1 g2 => ?_)
  refine j_wp_X5_marksAt h1 g2 (fun w7 w8 h5 g6 => ?_)
  refine j_wp_X7_bind h5 g6 (fun w11 w12 h9 g10 => ?_)
  refine ⟨fun c13 => ?_, fun c14 => ?_⟩
  · have h15 := h9.1 c13
    have g16 := g10.1 c13
    intro y17 e18
    have h19 := h15 y17 e18
    have g20 := g16 y17 e18
    intro y21 e22
    have h23 := h19 y21 e22
    have g24 := g20 y21 e22
    intro y25 e26
    have h27 := h23 y25 e26
    have g28 := g24 y25 e26
    exact hp _ _ h27 g28
  · have h29 := h9.2 c14
    have g30 := g10.2 c14
    refine j_wp_X2_fail h29 g30 (fun w33 h31 g32 => ?_)
    exact hp _ _ h31 g32
theorem j_wp_X0_bindVariable {x1 : Int32} {x2 : Int32} {u : mS} {post post1 post2 : mS → Prop} (h : wp_X0_bindVariable x1 x2 u post) (g : wp_X0_bindVariable x1 x2 u post1) (hp : ∀ (b0_ : mS), post b0_ → post1 b0_ → post2 b0_) : wp_X0_bindVariable x1 x2 u post2 := by
  refine j_wp_X5_findName h g (fun w3 w4 h1 g2 => ?_)
  refine ⟨fun c5 => ?_, fun c6 => ?_⟩
  · have h7 := h1.1 c5
    have g8 := g2.1 c5
    intro y9 e10
    have h11 := h7 y9 e10
    have g12 := g8 y9 e10
    refine j_wp_X0_bind h11 g12 (fun w15 w16 h13 g14 => ?_)
    refine ⟨fun c17 => ?_, fun c18 => ?_⟩
    · have h19 := h13.1 c17
      have g20 := g14.1 c17
      exact hp _ h19 g20
    · have h21 := h13.2 c18
      have g22 := g14.2 c18
      intro y23 e24
      have h25 := h21 y23 e24
      have g26 := g22 y23 e24
      intro y27 e28
      have h29 := h25 y27 e28
      have g30 := g26 y27 e28
      intro y31 e32
      have h33 := h29 y31 e32
      have g34 := g30 y31 e32
      exact hp _ h33 g34
  · have h35 := h1.2 c6
    have g36 := g2.2 c6
    refine j_wp_X2_fail h35 g36 (fun w39 h37 g38 => ?_)
    exact hp _ h37 g38
theorem j_wj_X0_putVariables_56 {K38 K381 K382 : Int32 → Int32 → Int32 → mS → Prop} {post post1 post2 : mS → Prop} {x1 : Int32} {x2 : Int32} {x3 : Int32} {u : mS} (h : wj_X0_putVariables_56 K38 post x1 x2 x3 u) (g : wj_X0_putVariables_56 K381 post1 x1 x2 x3 u) (hK38 : ∀ (b0_ : Int32) (b1_ : Int32) (b2_ : Int32) (b3_ : mS), K38 b0_ b1_ b2_ b3_ → K381 b0_ b1_ b2_ b3_ → K382 b0_ b1_ b2_ b3_) (hp : ∀ (b0_ : mS), post b0_ → post1 b0_ → post2 b0_) : wj_X0_putVariables_56 K382 post2 x1 x2 x3 u := by
  intro y1 e2
  have h3 := h y1 e2
  have g4 := g y1 e2
  refine j_wp_X2_putVariable h3 g4 (fun w7 h5 g6 => ?_)
  intro y8 e9
  have h10 := h5 y8 e9
  have g11 := g6 y8 e9
  exact hK38 _ _ _ _ h10 g11
theorem j_wj_X0_putVariables_38 {K38 K381 K382 : Int32 → Int32 → Int32 → mS → Prop} {post post1 post2 : mS → Prop} {x1 : Int32} {x2 : Int32} {x3 : Int32} {u : mS} (h : wj_X0_putVariables_38 K38 post x1 x2 x3 u) (g : wj_X0_putVariables_38 K381 post1 x1 x2 x3 u) (hK38 : ∀ (b0_ : Int32) (b1_ : Int32) (b2_ : Int32) (b3_ : mS), K38 b0_ b1_ b2_ b3_ → K381 b0_ b1_ b2_ b3_ → K382 b0_ b1_ b2_ b3_) (hp : ∀ (b0_ : mS), post b0_ → post1 b0_ → post2 b0_) : wj_X0_putVariables_38 K382 post2 x1 x2 x3 u := by
  refine ⟨fun c1 => ?_, fun c2 => ?_⟩
  · have h3 := h.1 c1
    have g4 := g.1 c1
    refine j_wp_X2_put h3 g4 (fun w7 h5 g6 => ?_)
    refine j_wp_X2_put h5 g6 (fun w10 h8 g9 => ?_)
    exact hp _ h8 g9
  · have h11 := h.2 c2
    have g12 := g.2 c2
    refine ⟨fun c13 => ?_, fun c14 => ?_⟩
    · have h15 := h11.1 c13
      have g16 := g12.1 c13
      exact j_wj_X0_putVariables_56 h15 g16 hK38 hp
    · have h17 := h11.2 c14
      have g18 := g12.2 c14
      refine j_wp_X2_put h17 g18 (fun w21 h19 g20 => ?_)
      exact j_wj_X0_putVariables_56 h19 g20 hK38 hp
theorem j_wp_X0_putVariables {x1 : Int32} {x2 : Int32} {u : mS} {post post1 post2 : mS → Prop} (h : wp_X0_putVariables x1 x2 u post) (g : wp_X0_putVariables x1 x2 u post1) (hp : ∀ (b0_ : mS), post b0_ → post1 b0_ → post2 b0_) : wp_X0_putVariables x1 x2 u post2 := by
  refine j_wp_X2_put h g (fun w3 h1 g2 => ?_)
  refine j_wp_X2_putName h1 g2 (fun w6 h4 g5 => ?_)
  refine j_wp_X2_put h4 g5 (fun w9 h7 g8 => ?_)
  refine j_wp_X2_put h7 g8 (fun w12 h10 g11 => ?_)
  obtain ⟨n13, h15⟩ := h10
  obtain ⟨m14, g16⟩ := g11
  refine ⟨n13, mL4_j ?_ n13 m14 _ _ _ _ h15 g16⟩
  intro K_ L_ M_ hK_ _ _ _ _ a_ b_
  exact j_wj_X0_putVariables_38 a_ b_ hK_ hp
theorem j_wj_X0_expandFn_34 {X : Int32 → Int32 → mS → (mS → Prop) → Prop} {post post1 post2 : mS → Prop} {u : mS} (hX : ∀ {t_ x_ : Int32} {v_ : mS} {q1_ q2_ q3_ : mS → Prop}, X t_ x_ v_ q1_ → X t_ x_ v_ q2_ → (∀ w_, q1_ w_ → q2_ w_ → q3_ w_) → X t_ x_ v_ q3_) (h : wj_X0_expandFn_34 X post u) (g : wj_X0_expandFn_34 X post1 u) (hp : ∀ (b0_ : mS), post b0_ → post1 b0_ → post2 b0_) : wj_X0_expandFn_34 X post2 u := by
  refine j_wp_X2_fail h g (fun w3 h1 g2 => ?_)
  exact hp _ h1 g2
theorem j_wj_X0_expandFn_133 {X : Int32 → Int32 → mS → (mS → Prop) → Prop} {post post1 post2 : mS → Prop} {x2 : Int32} {x4 : Int32} {x6 : Int32} {x7 : Int32} {u : mS} (hX : ∀ {t_ x_ : Int32} {v_ : mS} {q1_ q2_ q3_ : mS → Prop}, X t_ x_ v_ q1_ → X t_ x_ v_ q2_ → (∀ w_, q1_ w_ → q2_ w_ → q3_ w_) → X t_ x_ v_ q3_) (h : wj_X0_expandFn_133 X post x2 x4 x6 x7 u) (g : wj_X0_expandFn_133 X post1 x2 x4 x6 x7 u) (hp : ∀ (b0_ : mS), post b0_ → post1 b0_ → post2 b0_) : wj_X0_expandFn_133 X post2 x2 x4 x6 x7 u := by
  intro y1 e2
  have h3 := h y1 e2
  have g4 := g y1 e2
  refine ⟨fun c5 => ?_, fun c6 => ?_⟩
  · have h7 := h3.1 c5
    have g8 := g4.1 c5
    refine j_wp_X0_putVariables h7 g8 (fun w11 h9 g10 => ?_)
    intro y12 e13
    have h14 := h9 y12 e13
    have g15 := g10 y12 e13
    refine hX h14 g15 (fun w18 h16 g17 => ?_)
    refine j_wp_X2_put h16 g17 (fun w21 h19 g20 => ?_)
    exact hp _ h19 g20
  · have h22 := h3.2 c6
    have g23 := g4.2 c6
    exact hp _ h22 g23
theorem j_wj_X0_expandFn_97 {X : Int32 → Int32 → mS → (mS → Prop) → Prop} {K97 K971 K972 : Int32 → Int32 → Int32 → Int32 → Int32 → Int32 → mS → Prop} {post post1 post2 : mS → Prop} {x2 : Int32} {x3 : Int32} {x4 : Int32} {x6 : Int32} {x7 : Int32} {x8 : Int32} {u : mS} (hX : ∀ {t_ x_ : Int32} {v_ : mS} {q1_ q2_ q3_ : mS → Prop}, X t_ x_ v_ q1_ → X t_ x_ v_ q2_ → (∀ w_, q1_ w_ → q2_ w_ → q3_ w_) → X t_ x_ v_ q3_) (h : wj_X0_expandFn_97 X K97 post x2 x3 x4 x6 x7 x8 u) (g : wj_X0_expandFn_97 X K971 post1 x2 x3 x4 x6 x7 x8 u) (hK97 : ∀ (b0_ : Int32) (b1_ : Int32) (b2_ : Int32) (b3_ : Int32) (b4_ : Int32) (b5_ : Int32) (b6_ : mS), K97 b0_ b1_ b2_ b3_ b4_ b5_ b6_ → K971 b0_ b1_ b2_ b3_ b4_ b5_ b6_ → K972 b0_ b1_ b2_ b3_ b4_ b5_ b6_) (hp : ∀ (b0_ : mS), post b0_ → post1 b0_ → post2 b0_) : wj_X0_expandFn_97 X K972 post2 x2 x3 x4 x6 x7 x8 u := by
  refine ⟨fun c1 => ?_, fun c2 => ?_⟩
  · have h3 := h.1 c1
    have g4 := g.1 c1
    exact j_wj_X0_expandFn_133 (hX := hX) h3 g4 hp
  · have h5 := h.2 c2
    have g6 := g.2 c2
    intro y7 e8
    have h9 := h5 y7 e8
    have g10 := g6 y7 e8
    refine ⟨fun c11 => ?_, fun c12 => ?_⟩
    · have h13 := h9.1 c11
      have g14 := g10.1 c11
      exact j_wj_X0_expandFn_133 (hX := hX) h13 g14 hp
    · have h15 := h9.2 c12
      have g16 := g10.2 c12
      intro y17 e18
      have h19 := h15 y17 e18
      have g20 := g16 y17 e18
      intro y21 e22
      have h23 := h19 y21 e22
      have g24 := g20 y21 e22
      intro y25 e26
      have h27 := h23 y25 e26
      have g28 := g24 y25 e26
      refine j_wp_X0_bindVariable h27 g28 (fun w31 h29 g30 => ?_)
      intro y32 e33
      have h34 := h29 y32 e33
      have g35 := g30 y32 e33
      exact hK97 _ _ _ _ _ _ _ h34 g35
theorem j_wp_X0_expandFn {X : Int32 → Int32 → mS → (mS → Prop) → Prop} {x1 : Int32} {x2 : Int32} {u : mS} {post post1 post2 : mS → Prop} (hX : ∀ {t_ x_ : Int32} {v_ : mS} {q1_ q2_ q3_ : mS → Prop}, X t_ x_ v_ q1_ → X t_ x_ v_ q2_ → (∀ w_, q1_ w_ → q2_ w_ → q3_ w_) → X t_ x_ v_ q3_) (h : wp_X0_expandFn X x1 x2 u post) (g : wp_X0_expandFn X x1 x2 u post1) (hp : ∀ (b0_ : mS), post b0_ → post1 b0_ → post2 b0_) : wp_X0_expandFn X x1 x2 u post2 := by
  intro y1 e2
  have h3 := h y1 e2
  have g4 := g y1 e2
  refine j_wp_X5_after h3 g4 (fun w7 w8 h5 g6 => ?_)
  refine j_wp_X5_plainLength h5 g6 (fun w11 w12 h9 g10 => ?_)
  refine ⟨fun c13 => ?_, fun c14 => ?_⟩
  · have h15 := h9.1 c13
    have g16 := g10.1 c13
    exact j_wj_X0_expandFn_34 (hX := hX) h15 g16 hp
  · have h17 := h9.2 c14
    have g18 := g10.2 c14
    refine j_wp_X0_areNames h17 g18 (fun w21 w22 h19 g20 => ?_)
    refine ⟨fun c23 => ?_, fun c24 => ?_⟩
    · have h25 := h19.1 c23
      have g26 := g20.1 c23
      refine j_wp_X0_newScope h25 g26 (fun w29 w30 h27 g28 => ?_)
      refine ⟨fun c31 => ?_, fun c32 => ?_⟩
      · have h33 := h27.1 c31
        have g34 := g28.1 c31
        refine j_wp_X5_turnScope h33 g34 (fun w37 h35 g36 => ?_)
        refine j_wp_X5_turnScope h35 g36 (fun w40 h38 g39 => ?_)
        intro y41 e42
        have h43 := h38 y41 e42
        have g44 := g39 y41 e42
        intro y45 e46
        have h47 := h43 y45 e46
        have g48 := g44 y45 e46
        refine j_wp_X5_itemsFrom h47 g48 (fun w51 w52 h49 g50 => ?_)
        obtain ⟨n53, h55⟩ := h49
        obtain ⟨m54, g56⟩ := g50
        refine ⟨n53, mL7_j ?_ n53 m54 _ _ _ _ _ _ _ h55 g56⟩
        intro K_ L_ M_ hK_ _ _ _ _ _ _ _ a_ b_
        exact j_wj_X0_expandFn_97 (hX := hX) a_ b_ hK_ hp
      · have h57 := h27.2 c32
        have g58 := g28.2 c32
        exact hp _ h57 g58
    · have h59 := h19.2 c24
      have g60 := g20.2 c24
      exact j_wj_X0_expandFn_34 (hX := hX) h59 g60 hp
theorem j_wj_X0_expandIf_46 {X : Int32 → Int32 → mS → (mS → Prop) → Prop} {K46 K461 K462 : Int32 → Int32 → Int32 → mS → Prop} {post post1 post2 : mS → Prop} {x2 : Int32} {x3 : Int32} {x4 : Int32} {u : mS} (hX : ∀ {t_ x_ : Int32} {v_ : mS} {q1_ q2_ q3_ : mS → Prop}, X t_ x_ v_ q1_ → X t_ x_ v_ q2_ → (∀ w_, q1_ w_ → q2_ w_ → q3_ w_) → X t_ x_ v_ q3_) (h : wj_X0_expandIf_46 X K46 post x2 x3 x4 u) (g : wj_X0_expandIf_46 X K461 post1 x2 x3 x4 u) (hK46 : ∀ (b0_ : Int32) (b1_ : Int32) (b2_ : Int32) (b3_ : mS), K46 b0_ b1_ b2_ b3_ → K461 b0_ b1_ b2_ b3_ → K462 b0_ b1_ b2_ b3_) (hp : ∀ (b0_ : mS), post b0_ → post1 b0_ → post2 b0_) : wj_X0_expandIf_46 X K462 post2 x2 x3 x4 u := by
  refine ⟨fun c1 => ?_, fun c2 => ?_⟩
  · have h3 := h.1 c1
    have g4 := g.1 c1
    refine j_wp_X2_put h3 g4 (fun w7 h5 g6 => ?_)
    exact hp _ h5 g6
  · have h8 := h.2 c2
    have g9 := g.2 c2
    refine j_wp_X2_put h8 g9 (fun w12 h10 g11 => ?_)
    intro y13 e14
    have h15 := h10 y13 e14
    have g16 := g11 y13 e14
    refine hX h15 g16 (fun w19 h17 g18 => ?_)
    refine j_wp_X5_after h17 g18 (fun w22 w23 h20 g21 => ?_)
    intro y24 e25
    have h26 := h20 y24 e25
    have g27 := g21 y24 e25
    exact hK46 _ _ _ _ h26 g27
theorem j_wp_X0_expandIf {X : Int32 → Int32 → mS → (mS → Prop) → Prop} {x1 : Int32} {x2 : Int32} {u : mS} {post post1 post2 : mS → Prop} (hX : ∀ {t_ x_ : Int32} {v_ : mS} {q1_ q2_ q3_ : mS → Prop}, X t_ x_ v_ q1_ → X t_ x_ v_ q2_ → (∀ w_, q1_ w_ → q2_ w_ → q3_ w_) → X t_ x_ v_ q3_) (h : wp_X0_expandIf X x1 x2 u post) (g : wp_X0_expandIf X x1 x2 u post1) (hp : ∀ (b0_ : mS), post b0_ → post1 b0_ → post2 b0_) : wp_X0_expandIf X x1 x2 u post2 := by
  refine j_wp_X5_plainLength h g (fun w3 w4 h1 g2 => ?_)
  refine ⟨fun c5 => ?_, fun c6 => ?_⟩
  · have h7 := h1.1 c5
    have g8 := g2.1 c5
    refine j_wp_X2_put h7 g8 (fun w11 h9 g10 => ?_)
    refine j_wp_X2_putName h9 g10 (fun w14 h12 g13 => ?_)
    intro y15 e16
    have h17 := h12 y15 e16
    have g18 := g13 y15 e16
    obtain ⟨n19, h21⟩ := h17
    obtain ⟨m20, g22⟩ := g18
    refine ⟨n19, mL4_j ?_ n19 m20 _ _ _ _ h21 g22⟩
    intro K_ L_ M_ hK_ _ _ _ _ a_ b_
    exact j_wj_X0_expandIf_46 (hX := hX) a_ b_ hK_ hp
  · have h23 := h1.2 c6
    have g24 := g2.2 c6
    refine j_wp_X2_fail h23 g24 (fun w27 h25 g26 => ?_)
    exact hp _ h25 g26
theorem j_wj_X2_putWord_75 {post post1 post2 : mS → Prop} {z0 : Int32} {u : mS} (h : wj_X2_putWord_75 post z0 u) (g : wj_X2_putWord_75 post1 z0 u) (hp : ∀ (b0_ : mS), post b0_ → post1 b0_ → post2 b0_) : wj_X2_putWord_75 post2 z0 u := by
  refine j_wp_X2_put h g (fun w3 h1 g2 => ?_)
  exact hp _ h1 g2
theorem j_wp_X2_putWord {x1 : Int32} {u : mS} {post post1 post2 : mS → Prop} (h : wp_X2_putWord x1 u post) (g : wp_X2_putWord x1 u post1) (hp : ∀ (b0_ : mS), post b0_ → post1 b0_ → post2 b0_) : wp_X2_putWord x1 u post2 := by
  refine j_wp_X8_isName h g (fun w3 w4 h1 g2 => ?_)
  refine ⟨fun c5 => ?_, fun c6 => ?_⟩
  · have h7 := h1.1 c5
    have g8 := g2.1 c5
    refine j_wp_X8_isNumber h7 g8 (fun w11 w12 h9 g10 => ?_)
    refine ⟨fun c13 => ?_, fun c14 => ?_⟩
    · have h15 := h9.1 c13
      have g16 := g10.1 c13
      refine ⟨fun c17 => ?_, fun c18 => ?_⟩
      · have h19 := h15.1 c17
        have g20 := g16.1 c17
        refine ⟨fun c21 => ?_, fun c22 => ?_⟩
        · have h23 := h19.1 c21
          have g24 := g20.1 c21
          refine ⟨fun c25 => ?_, fun c26 => ?_⟩
          · have h27 := h23.1 c25
            have g28 := g24.1 c25
            exact j_wj_X2_putWord_75 h27 g28 hp
          · have h29 := h23.2 c26
            have g30 := g24.2 c26
            exact j_wj_X2_putWord_75 h29 g30 hp
        · have h31 := h19.2 c22
          have g32 := g20.2 c22
          exact j_wj_X2_putWord_75 h31 g32 hp
      · have h33 := h15.2 c18
        have g34 := g16.2 c18
        refine j_wp_X2_put h33 g34 (fun w37 h35 g36 => ?_)
        refine j_wp_X2_put h35 g36 (fun w40 h38 g39 => ?_)
        exact hp _ h38 g39
    · have h41 := h9.2 c14
      have g42 := g10.2 c14
      refine j_wp_X2_putNumber h41 g42 (fun w45 h43 g44 => ?_)
      exact hp _ h43 g44
  · have h46 := h1.2 c6
    have g47 := g2.2 c6
    refine j_wp_X2_putName h46 g47 (fun w50 h48 g49 => ?_)
    exact hp _ h48 g49
theorem j_wj_X2_putTree_50 {K9 K91 K92 : Int32 → Int32 → Int32 → mS → Prop} {post post1 post2 : mS → Prop} {x2 : Int32} {x3 : Int32} {x4 : Int32} {u : mS} (h : wj_X2_putTree_50 K9 post x2 x3 x4 u) (g : wj_X2_putTree_50 K91 post1 x2 x3 x4 u) (hK9 : ∀ (b0_ : Int32) (b1_ : Int32) (b2_ : Int32) (b3_ : mS), K9 b0_ b1_ b2_ b3_ → K91 b0_ b1_ b2_ b3_ → K92 b0_ b1_ b2_ b3_) (hp : ∀ (b0_ : mS), post b0_ → post1 b0_ → post2 b0_) : wj_X2_putTree_50 K92 post2 x2 x3 x4 u := by
  refine j_wp_X5_wordAt h g (fun w3 w4 h1 g2 => ?_)
  refine j_wp_X2_putWord h1 g2 (fun w7 h5 g6 => ?_)
  intro y8 e9
  have h10 := h5 y8 e9
  have g11 := g6 y8 e9
  exact hK9 _ _ _ _ h10 g11
theorem j_wj_X2_putTree_9 {K9 K91 K92 : Int32 → Int32 → Int32 → mS → Prop} {post post1 post2 : mS → Prop} {x2 : Int32} {x3 : Int32} {x4 : Int32} {u : mS} (h : wj_X2_putTree_9 K9 post x2 x3 x4 u) (g : wj_X2_putTree_9 K91 post1 x2 x3 x4 u) (hK9 : ∀ (b0_ : Int32) (b1_ : Int32) (b2_ : Int32) (b3_ : mS), K9 b0_ b1_ b2_ b3_ → K91 b0_ b1_ b2_ b3_ → K92 b0_ b1_ b2_ b3_) (hp : ∀ (b0_ : mS), post b0_ → post1 b0_ → post2 b0_) : wj_X2_putTree_9 K92 post2 x2 x3 x4 u := by
  refine ⟨fun c1 => ?_, fun c2 => ?_⟩
  · have h3 := h.1 c1
    have g4 := g.1 c1
    exact hp _ h3 g4
  · have h5 := h.2 c2
    have g6 := g.2 c2
    refine ⟨fun c7 => ?_, fun c8 => ?_⟩
    · have h9 := h5.1 c7
      have g10 := g6.1 c7
      exact j_wj_X2_putTree_50 h9 g10 hK9 hp
    · have h11 := h5.2 c8
      have g12 := g6.2 c8
      refine j_wp_X5_wordAt h11 g12 (fun w15 w16 h13 g14 => ?_)
      refine ⟨fun c17 => ?_, fun c18 => ?_⟩
      · have h19 := h13.1 c17
        have g20 := g14.1 c17
        exact j_wj_X2_putTree_50 h19 g20 hK9 hp
      · have h21 := h13.2 c18
        have g22 := g14.2 c18
        intro y23 e24
        have h25 := h21 y23 e24
        have g26 := g22 y23 e24
        refine j_wp_X5_wordAt h25 g26 (fun w29 w30 h27 g28 => ?_)
        refine ⟨fun c31 => ?_, fun c32 => ?_⟩
        · have h33 := h27.1 c31
          have g34 := g28.1 c31
          exact j_wj_X2_putTree_50 h33 g34 hK9 hp
        · have h35 := h27.2 c32
          have g36 := g28.2 c32
          refine j_wp_X2_put h35 g36 (fun w39 h37 g38 => ?_)
          exact j_wj_X2_putTree_50 h37 g38 hK9 hp
theorem j_wp_X2_putTree {x2 : Int32} {u : mS} {post post1 post2 : mS → Prop} (h : wp_X2_putTree x2 u post) (g : wp_X2_putTree x2 u post1) (hp : ∀ (b0_ : mS), post b0_ → post1 b0_ → post2 b0_) : wp_X2_putTree x2 u post2 := by
  refine j_wp_X5_after h g (fun w3 w4 h1 g2 => ?_)
  obtain ⟨n5, h7⟩ := h1
  obtain ⟨m6, g8⟩ := g2
  refine ⟨n5, mL4_j ?_ n5 m6 _ _ _ _ h7 g8⟩
  intro K_ L_ M_ hK_ _ _ _ _ a_ b_
  exact j_wj_X2_putTree_9 a_ b_ hK_ hp
theorem j_wp_X0_expandQ {x1 : Int32} {u : mS} {post post1 post2 : mS → Prop} (h : wp_X0_expandQ x1 u post) (g : wp_X0_expandQ x1 u post1) (hp : ∀ (b0_ : mS), post b0_ → post1 b0_ → post2 b0_) : wp_X0_expandQ x1 u post2 := by
  refine j_wp_X5_plainLength h g (fun w3 w4 h1 g2 => ?_)
  refine ⟨fun c5 => ?_, fun c6 => ?_⟩
  · have h7 := h1.1 c5
    have g8 := g2.1 c5
    refine j_wp_X2_putTree h7 g8 (fun w11 h9 g10 => ?_)
    exact hp _ h9 g10
  · have h12 := h1.2 c6
    have g13 := g2.2 c6
    refine j_wp_X2_fail h12 g13 (fun w16 h14 g15 => ?_)
    exact hp _ h14 g15
theorem j_wp_X5_isHeld {x1 : Int32} {u : mS} {post post1 post2 : Int32 → mS → Prop} (h : wp_X5_isHeld x1 u post) (g : wp_X5_isHeld x1 u post1) (hp : ∀ (b0_ : Int32) (b1_ : mS), post b0_ b1_ → post1 b0_ b1_ → post2 b0_ b1_) : wp_X5_isHeld x1 u post2 := by
  refine ⟨fun c1 => ?_, fun c2 => ?_⟩
  · have h3 := h.1 c1
    have g4 := g.1 c1
    exact hp _ _ h3 g4
  · have h5 := h.2 c2
    have g6 := g.2 c2
    intro y7 e8
    have h9 := h5 y7 e8
    have g10 := g6 y7 e8
    refine ⟨fun c11 => ?_, fun c12 => ?_⟩
    · have h13 := h9.1 c11
      have g14 := g10.1 c11
      exact hp _ _ h13 g14
    · have h15 := h9.2 c12
      have g16 := g10.2 c12
      refine ⟨fun c17 => ?_, fun c18 => ?_⟩
      · have h19 := h15.1 c17
        have g20 := g16.1 c17
        exact hp _ _ h19 g20
      · have h21 := h15.2 c18
        have g22 := g16.2 c18
        refine ⟨h21.1, ?_⟩
        have h23 := h21.2
        have g24 := g22.2
        intro y25 e26
        have h27 := h23 y25 e26
        have g28 := g24 y25 e26
        refine ⟨fun c29 => ?_, fun c30 => ?_⟩
        · have h31 := h27.1 c29
          have g32 := g28.1 c29
          refine ⟨h31.1, ?_⟩
          have h33 := h31.2
          have g34 := g32.2
          intro y35 e36
          have h37 := h33 y35 e36
          have g38 := g34 y35 e36
          intro y39 e40
          have h41 := h37 y39 e40
          have g42 := g38 y39 e40
          refine ⟨fun c43 => ?_, fun c44 => ?_⟩
          · have h45 := h41.1 c43
            have g46 := g42.1 c43
            exact hp _ _ h45 g46
          · have h47 := h41.2 c44
            have g48 := g42.2 c44
            intro y49 e50
            have h51 := h47 y49 e50
            have g52 := g48 y49 e50
            refine ⟨fun c53 => ?_, fun c54 => ?_⟩
            · have h55 := h51.1 c53
              have g56 := g52.1 c53
              exact hp _ _ h55 g56
            · have h57 := h51.2 c54
              have g58 := g52.2 c54
              refine ⟨fun c59 => ?_, fun c60 => ?_⟩
              · have h61 := h57.1 c59
                have g62 := g58.1 c59
                exact hp _ _ h61 g62
              · have h63 := h57.2 c60
                have g64 := g58.2 c60
                refine ⟨h63.1, ?_⟩
                have h65 := h63.2
                have g66 := g64.2
                intro y67 e68
                have h69 := h65 y67 e68
                have g70 := g66 y67 e68
                refine ⟨fun c71 => ?_, fun c72 => ?_⟩
                · have h73 := h69.1 c71
                  have g74 := g70.1 c71
                  exact hp _ _ h73 g74
                · have h75 := h69.2 c72
                  have g76 := g70.2 c72
                  exact hp _ _ h75 g76
        · have h77 := h27.2 c30
          have g78 := g28.2 c30
          exact hp _ _ h77 g78
theorem j_wp_X8_isTree {x0 : Int32} {u : mS} {post post1 post2 : Int32 → mS → Prop} (h : wp_X8_isTree x0 u post) (g : wp_X8_isTree x0 u post1) (hp : ∀ (b0_ : Int32) (b1_ : mS), post b0_ b1_ → post1 b0_ b1_ → post2 b0_ b1_) : wp_X8_isTree x0 u post2 := by
  refine ⟨fun c1 => ?_, fun c2 => ?_⟩
  · have h3 := h.1 c1
    have g4 := g.1 c1
    exact hp _ _ h3 g4
  · have h5 := h.2 c2
    have g6 := g.2 c2
    refine ⟨fun c7 => ?_, fun c8 => ?_⟩
    · have h9 := h5.1 c7
      have g10 := g6.1 c7
      exact hp _ _ h9 g10
    · have h11 := h5.2 c8
      have g12 := g6.2 c8
      exact hp _ _ h11 g12
theorem j_wj_X5_holders_100 {K15 K151 K152 : Int32 → Int32 → Int32 → mS → Prop} {post post1 post2 : Int32 → mS → Prop} {x2 : Int32} {x3 : Int32} {x4 : Int32} {u : mS} (h : wj_X5_holders_100 K15 post x2 x3 x4 u) (g : wj_X5_holders_100 K151 post1 x2 x3 x4 u) (hK15 : ∀ (b0_ : Int32) (b1_ : Int32) (b2_ : Int32) (b3_ : mS), K15 b0_ b1_ b2_ b3_ → K151 b0_ b1_ b2_ b3_ → K152 b0_ b1_ b2_ b3_) (hp : ∀ (b0_ : Int32) (b1_ : mS), post b0_ b1_ → post1 b0_ b1_ → post2 b0_ b1_) : wj_X5_holders_100 K152 post2 x2 x3 x4 u := by
  intro y1 e2
  have h3 := h y1 e2
  have g4 := g y1 e2
  exact hK15 _ _ _ _ h3 g4
theorem j_wj_X5_holders_106 {post post1 post2 : Int32 → mS → Prop} {x3 : Int32} {u : mS} (h : wj_X5_holders_106 post x3 u) (g : wj_X5_holders_106 post1 x3 u) (hp : ∀ (b0_ : Int32) (b1_ : mS), post b0_ b1_ → post1 b0_ b1_ → post2 b0_ b1_) : wj_X5_holders_106 post2 x3 u := by
  exact hp _ _ h g
theorem j_wj_X5_holders_15 {K15 K151 K152 : Int32 → Int32 → Int32 → mS → Prop} {post post1 post2 : Int32 → mS → Prop} {x2 : Int32} {x3 : Int32} {x4 : Int32} {u : mS} (h : wj_X5_holders_15 K15 post x2 x3 x4 u) (g : wj_X5_holders_15 K151 post1 x2 x3 x4 u) (hK15 : ∀ (b0_ : Int32) (b1_ : Int32) (b2_ : Int32) (b3_ : mS), K15 b0_ b1_ b2_ b3_ → K151 b0_ b1_ b2_ b3_ → K152 b0_ b1_ b2_ b3_) (hp : ∀ (b0_ : Int32) (b1_ : mS), post b0_ b1_ → post1 b0_ b1_ → post2 b0_ b1_) : wj_X5_holders_15 K152 post2 x2 x3 x4 u := by
  refine ⟨fun c1 => ?_, fun c2 => ?_⟩
  · have h3 := h.1 c1
    have g4 := g.1 c1
    exact j_wj_X5_holders_106 h3 g4 hp
  · have h5 := h.2 c2
    have g6 := g.2 c2
    intro y7 e8
    have h9 := h5 y7 e8
    have g10 := g6 y7 e8
    refine ⟨fun c11 => ?_, fun c12 => ?_⟩
    · have h13 := h9.1 c11
      have g14 := g10.1 c11
      exact j_wj_X5_holders_106 h13 g14 hp
    · have h15 := h9.2 c12
      have g16 := g10.2 c12
      refine ⟨fun c17 => ?_, fun c18 => ?_⟩
      · have h19 := h15.1 c17
        have g20 := g16.1 c17
        exact j_wj_X5_holders_106 h19 g20 hp
      · have h21 := h15.2 c18
        have g22 := g16.2 c18
        refine ⟨h21.1, ?_⟩
        have h23 := h21.2
        have g24 := g22.2
        intro y25 e26
        have h27 := h23 y25 e26
        have g28 := g24 y25 e26
        intro y29 e30
        have h31 := h27 y29 e30
        have g32 := g28 y29 e30
        refine ⟨fun c33 => ?_, fun c34 => ?_⟩
        · have h35 := h31.1 c33
          have g36 := g32.1 c33
          exact j_wj_X5_holders_100 h35 g36 hK15 hp
        · have h37 := h31.2 c34
          have g38 := g32.2 c34
          intro y39 e40
          have h41 := h37 y39 e40
          have g42 := g38 y39 e40
          refine ⟨fun c43 => ?_, fun c44 => ?_⟩
          · have h45 := h41.1 c43
            have g46 := g42.1 c43
            exact j_wj_X5_holders_100 h45 g46 hK15 hp
          · have h47 := h41.2 c44
            have g48 := g42.2 c44
            refine ⟨fun c49 => ?_, fun c50 => ?_⟩
            · have h51 := h47.1 c49
              have g52 := g48.1 c49
              exact j_wj_X5_holders_100 h51 g52 hK15 hp
            · have h53 := h47.2 c50
              have g54 := g48.2 c50
              refine ⟨h53.1, ?_⟩
              have h55 := h53.2
              have g56 := g54.2
              intro y57 e58
              have h59 := h55 y57 e58
              have g60 := g56 y57 e58
              refine ⟨fun c61 => ?_, fun c62 => ?_⟩
              · have h63 := h59.1 c61
                have g64 := g60.1 c61
                exact j_wj_X5_holders_100 h63 g64 hK15 hp
              · have h65 := h59.2 c62
                have g66 := g60.2 c62
                refine ⟨h65.1, ?_⟩
                have h67 := h65.2
                have g68 := g66.2
                intro y69 e70
                have h71 := h67 y69 e70
                have g72 := g68 y69 e70
                refine ⟨fun c73 => ?_, fun c74 => ?_⟩
                · have h75 := h71.1 c73
                  have g76 := g72.1 c73
                  exact j_wj_X5_holders_100 h75 g76 hK15 hp
                · have h77 := h71.2 c74
                  have g78 := g72.2 c74
                  intro y79 e80
                  have h81 := h77 y79 e80
                  have g82 := g78 y79 e80
                  exact j_wj_X5_holders_100 h81 g82 hK15 hp
theorem j_wj_X5_holders_13 {post post1 post2 : Int32 → mS → Prop} {x2 : Int32} {x3 : Int32} {z0 : Int32} {u : mS} (h : wj_X5_holders_13 post x2 x3 z0 u) (g : wj_X5_holders_13 post1 x2 x3 z0 u) (hp : ∀ (b0_ : Int32) (b1_ : mS), post b0_ b1_ → post1 b0_ b1_ → post2 b0_ b1_) : wj_X5_holders_13 post2 x2 x3 z0 u := by
  obtain ⟨n1, h3⟩ := h
  obtain ⟨m2, g4⟩ := g
  refine ⟨n1, mL4_j ?_ n1 m2 _ _ _ _ h3 g4⟩
  intro K_ L_ M_ hK_ _ _ _ _ a_ b_
  exact j_wj_X5_holders_15 a_ b_ hK_ hp
theorem j_wp_X5_holders {x1 : Int32} {x2 : Int32} {u : mS} {post post1 post2 : Int32 → mS → Prop} (h : wp_X5_holders x1 x2 u post) (g : wp_X5_holders x1 x2 u post1) (hp : ∀ (b0_ : Int32) (b1_ : mS), post b0_ b1_ → post1 b0_ b1_ → post2 b0_ b1_) : wp_X5_holders x1 x2 u post2 := by
  refine ⟨fun c1 => ?_, fun c2 => ?_⟩
  · have h3 := h.1 c1
    have g4 := g.1 c1
    intro y5 e6
    have h7 := h3 y5 e6
    have g8 := g4 y5 e6
    exact j_wj_X5_holders_13 h7 g8 hp
  · have h9 := h.2 c2
    have g10 := g.2 c2
    exact j_wj_X5_holders_13 h9 g10 hp
theorem j_wj_X6_isPattern_131 {K64 K641 K642 : Int32 → Int32 → Int32 → Int32 → mS → Prop} {post post1 post2 : Int32 → mS → Prop} {x1 : Int32} {x3 : Int32} {x4 : Int32} {x5 : Int32} {u : mS} (h : wj_X6_isPattern_131 K64 post x1 x3 x4 x5 u) (g : wj_X6_isPattern_131 K641 post1 x1 x3 x4 x5 u) (hK64 : ∀ (b0_ : Int32) (b1_ : Int32) (b2_ : Int32) (b3_ : Int32) (b4_ : mS), K64 b0_ b1_ b2_ b3_ b4_ → K641 b0_ b1_ b2_ b3_ b4_ → K642 b0_ b1_ b2_ b3_ b4_) (hp : ∀ (b0_ : Int32) (b1_ : mS), post b0_ b1_ → post1 b0_ b1_ → post2 b0_ b1_) : wj_X6_isPattern_131 K642 post2 x1 x3 x4 x5 u := by
  refine j_wp_X5_findName h g (fun w3 w4 h1 g2 => ?_)
  refine ⟨fun c5 => ?_, fun c6 => ?_⟩
  · have h7 := h1.1 c5
    have g8 := g2.1 c5
    intro y9 e10
    have h11 := h7 y9 e10
    have g12 := g8 y9 e10
    exact hK64 _ _ _ _ _ h11 g12
  · have h13 := h1.2 c6
    have g14 := g2.2 c6
    exact hp _ _ h13 g14
theorem j_wj_X6_isPattern_107 {K64 K641 K642 : Int32 → Int32 → Int32 → Int32 → mS → Prop} {post post1 post2 : Int32 → mS → Prop} {x1 : Int32} {x3 : Int32} {x4 : Int32} {x5 : Int32} {x6 : Int32} {u : mS} (h : wj_X6_isPattern_107 K64 post x1 x3 x4 x5 x6 u) (g : wj_X6_isPattern_107 K641 post1 x1 x3 x4 x5 x6 u) (hK64 : ∀ (b0_ : Int32) (b1_ : Int32) (b2_ : Int32) (b3_ : Int32) (b4_ : mS), K64 b0_ b1_ b2_ b3_ b4_ → K641 b0_ b1_ b2_ b3_ b4_ → K642 b0_ b1_ b2_ b3_ b4_) (hp : ∀ (b0_ : Int32) (b1_ : mS), post b0_ b1_ → post1 b0_ b1_ → post2 b0_ b1_) : wj_X6_isPattern_107 K642 post2 x1 x3 x4 x5 x6 u := by
  refine j_wp_X8_isTree h g (fun w3 w4 h1 g2 => ?_)
  refine ⟨fun c5 => ?_, fun c6 => ?_⟩
  · have h7 := h1.1 c5
    have g8 := g2.1 c5
    exact j_wj_X6_isPattern_131 h7 g8 hK64 hp
  · have h9 := h1.2 c6
    have g10 := g2.2 c6
    refine j_wp_X5_holders h9 g10 (fun w13 w14 h11 g12 => ?_)
    refine ⟨fun c15 => ?_, fun c16 => ?_⟩
    · have h17 := h11.1 c15
      have g18 := g12.1 c15
      exact j_wj_X6_isPattern_131 h17 g18 hK64 hp
    · have h19 := h11.2 c16
      have g20 := g12.2 c16
      exact hp _ _ h19 g20
theorem j_wj_X6_isPattern_64 {K64 K641 K642 : Int32 → Int32 → Int32 → Int32 → mS → Prop} {post post1 post2 : Int32 → mS → Prop} {x1 : Int32} {x3 : Int32} {x4 : Int32} {x5 : Int32} {u : mS} (h : wj_X6_isPattern_64 K64 post x1 x3 x4 x5 u) (g : wj_X6_isPattern_64 K641 post1 x1 x3 x4 x5 u) (hK64 : ∀ (b0_ : Int32) (b1_ : Int32) (b2_ : Int32) (b3_ : Int32) (b4_ : mS), K64 b0_ b1_ b2_ b3_ b4_ → K641 b0_ b1_ b2_ b3_ b4_ → K642 b0_ b1_ b2_ b3_ b4_) (hp : ∀ (b0_ : Int32) (b1_ : mS), post b0_ b1_ → post1 b0_ b1_ → post2 b0_ b1_) : wj_X6_isPattern_64 K642 post2 x1 x3 x4 x5 u := by
  refine ⟨fun c1 => ?_, fun c2 => ?_⟩
  · have h3 := h.1 c1
    have g4 := g.1 c1
    exact hp _ _ h3 g4
  · have h5 := h.2 c2
    have g6 := g.2 c2
    refine j_wp_X5_wordAt h5 g6 (fun w9 w10 h7 g8 => ?_)
    refine ⟨fun c11 => ?_, fun c12 => ?_⟩
    · have h13 := h7.1 c11
      have g14 := g8.1 c11
      exact j_wj_X6_isPattern_107 h13 g14 hK64 hp
    · have h15 := h7.2 c12
      have g16 := g8.2 c12
      intro y17 e18
      have h19 := h15 y17 e18
      have g20 := g16 y17 e18
      refine j_wp_X5_wordAt h19 g20 (fun w23 w24 h21 g22 => ?_)
      refine ⟨fun c25 => ?_, fun c26 => ?_⟩
      · have h27 := h21.1 c25
        have g28 := g22.1 c25
        exact j_wj_X6_isPattern_107 h27 g28 hK64 hp
      · have h29 := h21.2 c26
        have g30 := g22.2 c26
        exact hp _ _ h29 g30
theorem j_wp_X6_isPattern {x1 : Int32} {u : mS} {post post1 post2 : Int32 → mS → Prop} (h : wp_X6_isPattern x1 u post) (g : wp_X6_isPattern x1 u post1) (hp : ∀ (b0_ : Int32) (b1_ : mS), post b0_ b1_ → post1 b0_ b1_ → post2 b0_ b1_) : wp_X6_isPattern x1 u post2 := by
  intro y1 e2
  have h3 := h y1 e2
  have g4 := g y1 e2
  refine j_wp_X5_wordAt h3 g4 (fun w7 w8 h5 g6 => ?_)
  refine ⟨fun c9 => ?_, fun c10 => ?_⟩
  · have h11 := h5.1 c9
    have g12 := g6.1 c9
    exact hp _ _ h11 g12
  · have h13 := h5.2 c10
    have g14 := g6.2 c10
    refine j_wp_X5_wordAt h13 g14 (fun w17 w18 h15 g16 => ?_)
    refine ⟨fun c19 => ?_, fun c20 => ?_⟩
    · have h21 := h15.1 c19
      have g22 := g16.1 c19
      exact hp _ _ h21 g22
    · have h23 := h15.2 c20
      have g24 := g16.2 c20
      refine j_wp_X5_isHeld h23 g24 (fun w27 w28 h25 g26 => ?_)
      refine ⟨fun c29 => ?_, fun c30 => ?_⟩
      · have h31 := h25.1 c29
        have g32 := g26.1 c29
        refine j_wp_X5_after h31 g32 (fun w35 w36 h33 g34 => ?_)
        refine j_wp_X5_after h33 g34 (fun w39 w40 h37 g38 => ?_)
        obtain ⟨n41, h43⟩ := h37
        obtain ⟨m42, g44⟩ := g38
        refine ⟨n41, mL5_j ?_ n41 m42 _ _ _ _ _ h43 g44⟩
        intro K_ L_ M_ hK_ _ _ _ _ _ a_ b_
        exact j_wj_X6_isPattern_64 a_ b_ hK_ hp
      · have h45 := h25.2 c30
        have g46 := g26.2 c30
        exact hp _ _ h45 g46
theorem j_wj_X5_setVariable_35 {post post1 post2 : mS → Prop} {z0 : Int32} {z1 : Int32} {u : mS} (h : wj_X5_setVariable_35 post z0 z1 u) (g : wj_X5_setVariable_35 post1 z0 z1 u) (hp : ∀ (b0_ : mS), post b0_ → post1 b0_ → post2 b0_) : wj_X5_setVariable_35 post2 z0 z1 u := by
  refine ⟨h.1, ?_⟩
  have h1 := h.2
  have g2 := g.2
  intro y3 e4
  have h5 := h1 y3 e4
  have g6 := g2 y3 e4
  exact hp _ h5 g6
theorem j_wp_X5_setVariable {x1 : Int32} {x2 : Int32} {u : mS} {post post1 post2 : mS → Prop} (h : wp_X5_setVariable x1 x2 u post) (g : wp_X5_setVariable x1 x2 u post1) (hp : ∀ (b0_ : mS), post b0_ → post1 b0_ → post2 b0_) : wp_X5_setVariable x1 x2 u post2 := by
  refine ⟨fun c1 => ?_, fun c2 => ?_⟩
  · have h3 := h.1 c1
    have g4 := g.1 c1
    exact hp _ h3 g4
  · have h5 := h.2 c2
    have g6 := g.2 c2
    intro y7 e8
    have h9 := h5 y7 e8
    have g10 := g6 y7 e8
    refine ⟨fun c11 => ?_, fun c12 => ?_⟩
    · have h13 := h9.1 c11
      have g14 := g10.1 c11
      exact hp _ h13 g14
    · have h15 := h9.2 c12
      have g16 := g10.2 c12
      refine ⟨fun c17 => ?_, fun c18 => ?_⟩
      · have h19 := h15.1 c17
        have g20 := g16.1 c17
        exact hp _ h19 g20
      · have h21 := h15.2 c18
        have g22 := g16.2 c18
        refine ⟨fun c23 => ?_, fun c24 => ?_⟩
        · have h25 := h21.1 c23
          have g26 := g22.1 c23
          intro y27 e28
          have h29 := h25 y27 e28
          have g30 := g26 y27 e28
          exact j_wj_X5_setVariable_35 h29 g30 hp
        · have h31 := h21.2 c24
          have g32 := g22.2 c24
          exact j_wj_X5_setVariable_35 h31 g32 hp
theorem j_wj_X6_linkUses_24 {K24 K241 K242 : Int32 → Int32 → Int32 → Int32 → mS → Prop} {post post1 post2 : mS → Prop} {x2 : Int32} {x3 : Int32} {x4 : Int32} {x5 : Int32} {u : mS} (h : wj_X6_linkUses_24 K24 post x2 x3 x4 x5 u) (g : wj_X6_linkUses_24 K241 post1 x2 x3 x4 x5 u) (hK24 : ∀ (b0_ : Int32) (b1_ : Int32) (b2_ : Int32) (b3_ : Int32) (b4_ : mS), K24 b0_ b1_ b2_ b3_ b4_ → K241 b0_ b1_ b2_ b3_ b4_ → K242 b0_ b1_ b2_ b3_ b4_) (hp : ∀ (b0_ : mS), post b0_ → post1 b0_ → post2 b0_) : wj_X6_linkUses_24 K242 post2 x2 x3 x4 x5 u := by
  refine ⟨fun c1 => ?_, fun c2 => ?_⟩
  · have h3 := h.1 c1
    have g4 := g.1 c1
    exact hp _ h3 g4
  · have h5 := h.2 c2
    have g6 := g.2 c2
    refine j_wp_X5_findName h5 g6 (fun w9 w10 h7 g8 => ?_)
    refine j_wp_X5_setVariable h7 g8 (fun w13 h11 g12 => ?_)
    intro y14 e15
    have h16 := h11 y14 e15
    have g17 := g12 y14 e15
    exact hK24 _ _ _ _ _ h16 g17
theorem j_wp_X6_linkUses {x1 : Int32} {x2 : Int32} {u : mS} {post post1 post2 : mS → Prop} (h : wp_X6_linkUses x1 x2 u post) (g : wp_X6_linkUses x1 x2 u post1) (hp : ∀ (b0_ : mS), post b0_ → post1 b0_ → post2 b0_) : wp_X6_linkUses x1 x2 u post2 := by
  intro y1 e2
  have h3 := h y1 e2
  have g4 := g y1 e2
  refine j_wp_X5_after h3 g4 (fun w7 w8 h5 g6 => ?_)
  refine j_wp_X5_after h5 g6 (fun w11 w12 h9 g10 => ?_)
  obtain ⟨n13, h15⟩ := h9
  obtain ⟨m14, g16⟩ := g10
  refine ⟨n13, mL5_j ?_ n13 m14 _ _ _ _ _ h15 g16⟩
  intro K_ L_ M_ hK_ _ _ _ _ _ a_ b_
  exact j_wj_X6_linkUses_24 a_ b_ hK_ hp
theorem j_wp_X5_variableAt {x1 : Int32} {u : mS} {post post1 post2 : Int32 → mS → Prop} (h : wp_X5_variableAt x1 u post) (g : wp_X5_variableAt x1 u post1) (hp : ∀ (b0_ : Int32) (b1_ : mS), post b0_ b1_ → post1 b0_ b1_ → post2 b0_ b1_) : wp_X5_variableAt x1 u post2 := by
  refine ⟨fun c1 => ?_, fun c2 => ?_⟩
  · have h3 := h.1 c1
    have g4 := g.1 c1
    exact hp _ _ h3 g4
  · have h5 := h.2 c2
    have g6 := g.2 c2
    intro y7 e8
    have h9 := h5 y7 e8
    have g10 := g6 y7 e8
    refine ⟨fun c11 => ?_, fun c12 => ?_⟩
    · have h13 := h9.1 c11
      have g14 := g10.1 c11
      exact hp _ _ h13 g14
    · have h15 := h9.2 c12
      have g16 := g10.2 c12
      refine ⟨fun c17 => ?_, fun c18 => ?_⟩
      · have h19 := h15.1 c17
        have g20 := g16.1 c17
        exact hp _ _ h19 g20
      · have h21 := h15.2 c18
        have g22 := g16.2 c18
        refine ⟨h21.1, ?_⟩
        have h23 := h21.2
        have g24 := g22.2
        intro y25 e26
        have h27 := h23 y25 e26
        have g28 := g24 y25 e26
        refine ⟨fun c29 => ?_, fun c30 => ?_⟩
        · have h31 := h27.1 c29
          have g32 := g28.1 c29
          exact hp _ _ h31 g32
        · have h33 := h27.2 c30
          have g34 := g28.2 c30
          refine ⟨h33.1, ?_⟩
          have h35 := h33.2
          have g36 := g34.2
          intro y37 e38
          have h39 := h35 y37 e38
          have g40 := g36 y37 e38
          intro y41 e42
          have h43 := h39 y41 e42
          have g44 := g40 y41 e42
          exact hp _ _ h43 g44
theorem j_wj_X5_hasUse_23 {K23 K231 K232 : Int32 → Int32 → mS → Prop} {post post1 post2 : Int32 → mS → Prop} {x1 : Int32} {x2 : Int32} {u : mS} (h : wj_X5_hasUse_23 K23 post x1 x2 u) (g : wj_X5_hasUse_23 K231 post1 x1 x2 u) (hK23 : ∀ (b0_ : Int32) (b1_ : Int32) (b2_ : mS), K23 b0_ b1_ b2_ → K231 b0_ b1_ b2_ → K232 b0_ b1_ b2_) (hp : ∀ (b0_ : Int32) (b1_ : mS), post b0_ b1_ → post1 b0_ b1_ → post2 b0_ b1_) : wj_X5_hasUse_23 K232 post2 x1 x2 u := by
  refine ⟨h.1, ?_⟩
  have h1 := h.2
  have g2 := g.2
  intro y3 e4
  have h5 := h1 y3 e4
  have g6 := g2 y3 e4
  intro y7 e8
  have h9 := h5 y7 e8
  have g10 := g6 y7 e8
  refine ⟨fun c11 => ?_, fun c12 => ?_⟩
  · have h13 := h9.1 c11
    have g14 := g10.1 c11
    exact hp _ _ h13 g14
  · have h15 := h9.2 c12
    have g16 := g10.2 c12
    intro y17 e18
    have h19 := h15 y17 e18
    have g20 := g16 y17 e18
    refine ⟨fun c21 => ?_, fun c22 => ?_⟩
    · have h23 := h19.1 c21
      have g24 := g20.1 c21
      exact hp _ _ h23 g24
    · have h25 := h19.2 c22
      have g26 := g20.2 c22
      refine ⟨fun c27 => ?_, fun c28 => ?_⟩
      · have h29 := h25.1 c27
        have g30 := g26.1 c27
        exact hp _ _ h29 g30
      · have h31 := h25.2 c28
        have g32 := g26.2 c28
        refine ⟨h31.1, ?_⟩
        have h33 := h31.2
        have g34 := g32.2
        intro y35 e36
        have h37 := h33 y35 e36
        have g38 := g34 y35 e36
        refine ⟨fun c39 => ?_, fun c40 => ?_⟩
        · have h41 := h37.1 c39
          have g42 := g38.1 c39
          intro y43 e44
          have h45 := h41 y43 e44
          have g46 := g42 y43 e44
          exact hK23 _ _ _ h45 g46
        · have h47 := h37.2 c40
          have g48 := g38.2 c40
          exact hp _ _ h47 g48
theorem j_wp_X5_hasUse {x1 : Int32} {u : mS} {post post1 post2 : Int32 → mS → Prop} (h : wp_X5_hasUse x1 u post) (g : wp_X5_hasUse x1 u post1) (hp : ∀ (b0_ : Int32) (b1_ : mS), post b0_ b1_ → post1 b0_ b1_ → post2 b0_ b1_) : wp_X5_hasUse x1 u post2 := by
  refine ⟨fun c1 => ?_, fun c2 => ?_⟩
  · have h3 := h.1 c1
    have g4 := g.1 c1
    exact hp _ _ h3 g4
  · have h5 := h.2 c2
    have g6 := g.2 c2
    intro y7 e8
    have h9 := h5 y7 e8
    have g10 := g6 y7 e8
    refine ⟨fun c11 => ?_, fun c12 => ?_⟩
    · have h13 := h9.1 c11
      have g14 := g10.1 c11
      exact hp _ _ h13 g14
    · have h15 := h9.2 c12
      have g16 := g10.2 c12
      refine ⟨fun c17 => ?_, fun c18 => ?_⟩
      · have h19 := h15.1 c17
        have g20 := g16.1 c17
        obtain ⟨n21, h23⟩ := h19
        obtain ⟨m22, g24⟩ := g20
        refine ⟨n21, mL3_j ?_ n21 m22 _ _ _ h23 g24⟩
        intro K_ L_ M_ hK_ _ _ _ a_ b_
        exact j_wj_X5_hasUse_23 a_ b_ hK_ hp
      · have h25 := h15.2 c18
        have g26 := g16.2 c18
        exact hp _ _ h25 g26
theorem j_wj_X6_isTemplate_85 {K12 K121 K122 : Int32 → Int32 → Int32 → Int32 → mS → Prop} {post post1 post2 : Int32 → mS → Prop} {x1 : Int32} {x2 : Int32} {x3 : Int32} {x4 : Int32} {u : mS} (h : wj_X6_isTemplate_85 K12 post x1 x2 x3 x4 u) (g : wj_X6_isTemplate_85 K121 post1 x1 x2 x3 x4 u) (hK12 : ∀ (b0_ : Int32) (b1_ : Int32) (b2_ : Int32) (b3_ : Int32) (b4_ : mS), K12 b0_ b1_ b2_ b3_ b4_ → K121 b0_ b1_ b2_ b3_ b4_ → K122 b0_ b1_ b2_ b3_ b4_) (hp : ∀ (b0_ : Int32) (b1_ : mS), post b0_ b1_ → post1 b0_ b1_ → post2 b0_ b1_) : wj_X6_isTemplate_85 K122 post2 x1 x2 x3 x4 u := by
  intro y1 e2
  have h3 := h y1 e2
  have g4 := g y1 e2
  exact hK12 _ _ _ _ _ h3 g4
theorem j_wj_X6_isTemplate_59 {K12 K121 K122 : Int32 → Int32 → Int32 → Int32 → mS → Prop} {post post1 post2 : Int32 → mS → Prop} {x1 : Int32} {x2 : Int32} {x3 : Int32} {x4 : Int32} {u : mS} (h : wj_X6_isTemplate_59 K12 post x1 x2 x3 x4 u) (g : wj_X6_isTemplate_59 K121 post1 x1 x2 x3 x4 u) (hK12 : ∀ (b0_ : Int32) (b1_ : Int32) (b2_ : Int32) (b3_ : Int32) (b4_ : mS), K12 b0_ b1_ b2_ b3_ b4_ → K121 b0_ b1_ b2_ b3_ b4_ → K122 b0_ b1_ b2_ b3_ b4_) (hp : ∀ (b0_ : Int32) (b1_ : mS), post b0_ b1_ → post1 b0_ b1_ → post2 b0_ b1_) : wj_X6_isTemplate_59 K122 post2 x1 x2 x3 x4 u := by
  refine j_wp_X5_isHeld h g (fun w3 w4 h1 g2 => ?_)
  refine ⟨fun c5 => ?_, fun c6 => ?_⟩
  · have h7 := h1.1 c5
    have g8 := g2.1 c5
    exact j_wj_X6_isTemplate_85 h7 g8 hK12 hp
  · have h9 := h1.2 c6
    have g10 := g2.2 c6
    refine j_wp_X5_hasUse h9 g10 (fun w13 w14 h11 g12 => ?_)
    refine ⟨fun c15 => ?_, fun c16 => ?_⟩
    · have h17 := h11.1 c15
      have g18 := g12.1 c15
      exact j_wj_X6_isTemplate_85 h17 g18 hK12 hp
    · have h19 := h11.2 c16
      have g20 := g12.2 c16
      exact hp _ _ h19 g20
theorem j_wj_X6_isTemplate_12 {K12 K121 K122 : Int32 → Int32 → Int32 → Int32 → mS → Prop} {post post1 post2 : Int32 → mS → Prop} {x1 : Int32} {x2 : Int32} {x3 : Int32} {x4 : Int32} {u : mS} (h : wj_X6_isTemplate_12 K12 post x1 x2 x3 x4 u) (g : wj_X6_isTemplate_12 K121 post1 x1 x2 x3 x4 u) (hK12 : ∀ (b0_ : Int32) (b1_ : Int32) (b2_ : Int32) (b3_ : Int32) (b4_ : mS), K12 b0_ b1_ b2_ b3_ b4_ → K121 b0_ b1_ b2_ b3_ b4_ → K122 b0_ b1_ b2_ b3_ b4_) (hp : ∀ (b0_ : Int32) (b1_ : mS), post b0_ b1_ → post1 b0_ b1_ → post2 b0_ b1_) : wj_X6_isTemplate_12 K122 post2 x1 x2 x3 x4 u := by
  refine ⟨fun c1 => ?_, fun c2 => ?_⟩
  · have h3 := h.1 c1
    have g4 := g.1 c1
    exact hp _ _ h3 g4
  · have h5 := h.2 c2
    have g6 := g.2 c2
    refine j_wp_X5_variableAt h5 g6 (fun w9 w10 h7 g8 => ?_)
    refine ⟨fun c11 => ?_, fun c12 => ?_⟩
    · have h13 := h7.1 c11
      have g14 := g8.1 c11
      exact j_wj_X6_isTemplate_59 h13 g14 hK12 hp
    · have h15 := h7.2 c12
      have g16 := g8.2 c12
      refine j_wp_X5_holders h15 g16 (fun w19 w20 h17 g18 => ?_)
      refine j_wp_X5_holders h17 g18 (fun w23 w24 h21 g22 => ?_)
      refine ⟨fun c25 => ?_, fun c26 => ?_⟩
      · have h27 := h21.1 c25
        have g28 := g22.1 c25
        exact j_wj_X6_isTemplate_59 h27 g28 hK12 hp
      · have h29 := h21.2 c26
        have g30 := g22.2 c26
        exact hp _ _ h29 g30
theorem j_wp_X6_isTemplate {x1 : Int32} {x2 : Int32} {u : mS} {post post1 post2 : Int32 → mS → Prop} (h : wp_X6_isTemplate x1 x2 u post) (g : wp_X6_isTemplate x1 x2 u post1) (hp : ∀ (b0_ : Int32) (b1_ : mS), post b0_ b1_ → post1 b0_ b1_ → post2 b0_ b1_) : wp_X6_isTemplate x1 x2 u post2 := by
  refine j_wp_X5_after h g (fun w3 w4 h1 g2 => ?_)
  obtain ⟨n5, h7⟩ := h1
  obtain ⟨m6, g8⟩ := g2
  refine ⟨n5, mL5_j ?_ n5 m6 _ _ _ _ _ h7 g8⟩
  intro K_ L_ M_ hK_ _ _ _ _ _ a_ b_
  exact j_wj_X6_isTemplate_12 a_ b_ hK_ hp
theorem j_wp_X6_isRule {x1 : Int32} {u : mS} {post post1 post2 : Int32 → mS → Prop} (h : wp_X6_isRule x1 u post) (g : wp_X6_isRule x1 u post1) (hp : ∀ (b0_ : Int32) (b1_ : mS), post b0_ b1_ → post1 b0_ b1_ → post2 b0_ b1_) : wp_X6_isRule x1 u post2 := by
  refine j_wp_X5_plainLength h g (fun w3 w4 h1 g2 => ?_)
  refine ⟨fun c5 => ?_, fun c6 => ?_⟩
  · have h7 := h1.1 c5
    have g8 := g2.1 c5
    intro y9 e10
    have h11 := h7 y9 e10
    have g12 := g8 y9 e10
    refine j_wp_X5_after h11 g12 (fun w15 w16 h13 g14 => ?_)
    refine j_wp_X6_isPattern h13 g14 (fun w19 w20 h17 g18 => ?_)
    refine ⟨fun c21 => ?_, fun c22 => ?_⟩
    · have h23 := h17.1 c21
      have g24 := g18.1 c21
      refine j_wp_X6_linkUses h23 g24 (fun w27 h25 g26 => ?_)
      refine j_wp_X6_isTemplate h25 g26 (fun w30 w31 h28 g29 => ?_)
      exact hp _ _ h28 g29
    · have h32 := h17.2 c22
      have g33 := g18.2 c22
      exact hp _ _ h32 g33
  · have h34 := h1.2 c6
    have g35 := g2.2 c6
    exact hp _ _ h34 g35
theorem j_wj_X6_isNameWithRules_39 {K39 K391 K392 : Int32 → Int32 → Int32 → mS → Prop} {post post1 post2 : Int32 → mS → Prop} {x2 : Int32} {x3 : Int32} {x4 : Int32} {u : mS} (h : wj_X6_isNameWithRules_39 K39 post x2 x3 x4 u) (g : wj_X6_isNameWithRules_39 K391 post1 x2 x3 x4 u) (hK39 : ∀ (b0_ : Int32) (b1_ : Int32) (b2_ : Int32) (b3_ : mS), K39 b0_ b1_ b2_ b3_ → K391 b0_ b1_ b2_ b3_ → K392 b0_ b1_ b2_ b3_) (hp : ∀ (b0_ : Int32) (b1_ : mS), post b0_ b1_ → post1 b0_ b1_ → post2 b0_ b1_) : wj_X6_isNameWithRules_39 K392 post2 x2 x3 x4 u := by
  refine ⟨fun c1 => ?_, fun c2 => ?_⟩
  · have h3 := h.1 c1
    have g4 := g.1 c1
    exact hp _ _ h3 g4
  · have h5 := h.2 c2
    have g6 := g.2 c2
    refine j_wp_X6_isRule h5 g6 (fun w9 w10 h7 g8 => ?_)
    refine ⟨fun c11 => ?_, fun c12 => ?_⟩
    · have h13 := h7.1 c11
      have g14 := g8.1 c11
      refine j_wp_X5_after h13 g14 (fun w17 w18 h15 g16 => ?_)
      intro y19 e20
      have h21 := h15 y19 e20
      have g22 := g16 y19 e20
      exact hK39 _ _ _ _ h21 g22
    · have h23 := h7.2 c12
      have g24 := g8.2 c12
      exact hp _ _ h23 g24
theorem j_wp_X6_isNameWithRules {x1 : Int32} {u : mS} {post post1 post2 : Int32 → mS → Prop} (h : wp_X6_isNameWithRules x1 u post) (g : wp_X6_isNameWithRules x1 u post1) (hp : ∀ (b0_ : Int32) (b1_ : mS), post b0_ b1_ → post1 b0_ b1_ → post2 b0_ b1_) : wp_X6_isNameWithRules x1 u post2 := by
  refine j_wp_X5_plainLength h g (fun w3 w4 h1 g2 => ?_)
  refine ⟨fun c5 => ?_, fun c6 => ?_⟩
  · have h7 := h1.1 c5
    have g8 := g2.1 c5
    exact hp _ _ h7 g8
  · have h9 := h1.2 c6
    have g10 := g2.2 c6
    intro y11 e12
    have h13 := h9 y11 e12
    have g14 := g10 y11 e12
    refine j_wp_X5_wordAt h13 g14 (fun w17 w18 h15 g16 => ?_)
    refine j_wp_X8_isName h15 g16 (fun w21 w22 h19 g20 => ?_)
    refine ⟨fun c23 => ?_, fun c24 => ?_⟩
    · have h25 := h19.1 c23
      have g26 := g20.1 c23
      intro y27 e28
      have h29 := h25 y27 e28
      have g30 := g26 y27 e28
      obtain ⟨n31, h33⟩ := h29
      obtain ⟨m32, g34⟩ := g30
      refine ⟨n31, mL4_j ?_ n31 m32 _ _ _ _ h33 g34⟩
      intro K_ L_ M_ hK_ _ _ _ _ a_ b_
      exact j_wj_X6_isNameWithRules_39 a_ b_ hK_ hp
    · have h35 := h19.2 c24
      have g36 := g20.2 c24
      exact hp _ _ h35 g36
theorem j_wj_X0_expandLs_37 {X : Int32 → Int32 → mS → (mS → Prop) → Prop} {post post1 post2 : mS → Prop} {u : mS} (hX : ∀ {t_ x_ : Int32} {v_ : mS} {q1_ q2_ q3_ : mS → Prop}, X t_ x_ v_ q1_ → X t_ x_ v_ q2_ → (∀ w_, q1_ w_ → q2_ w_ → q3_ w_) → X t_ x_ v_ q3_) (h : wj_X0_expandLs_37 X post u) (g : wj_X0_expandLs_37 X post1 u) (hp : ∀ (b0_ : mS), post b0_ → post1 b0_ → post2 b0_) : wj_X0_expandLs_37 X post2 u := by
  refine j_wp_X2_fail h g (fun w3 h1 g2 => ?_)
  exact hp _ h1 g2
theorem j_wp_X0_expandLs {X : Int32 → Int32 → mS → (mS → Prop) → Prop} {x1 : Int32} {x2 : Int32} {u : mS} {post post1 post2 : mS → Prop} (hX : ∀ {t_ x_ : Int32} {v_ : mS} {q1_ q2_ q3_ : mS → Prop}, X t_ x_ v_ q1_ → X t_ x_ v_ q2_ → (∀ w_, q1_ w_ → q2_ w_ → q3_ w_) → X t_ x_ v_ q3_) (h : wp_X0_expandLs X x1 x2 u post) (g : wp_X0_expandLs X x1 x2 u post1) (hp : ∀ (b0_ : mS), post b0_ → post1 b0_ → post2 b0_) : wp_X0_expandLs X x1 x2 u post2 := by
  intro y1 e2
  have h3 := h y1 e2
  have g4 := g y1 e2
  refine j_wp_X5_after h3 g4 (fun w7 w8 h5 g6 => ?_)
  refine j_wp_X5_plainLength h5 g6 (fun w11 w12 h9 g10 => ?_)
  refine ⟨fun c13 => ?_, fun c14 => ?_⟩
  · have h15 := h9.1 c13
    have g16 := g10.1 c13
    exact j_wj_X0_expandLs_37 (hX := hX) h15 g16 hp
  · have h17 := h9.2 c14
    have g18 := g10.2 c14
    refine j_wp_X6_isNameWithRules h17 g18 (fun w21 w22 h19 g20 => ?_)
    refine ⟨fun c23 => ?_, fun c24 => ?_⟩
    · have h25 := h19.1 c23
      have g26 := g20.1 c23
      refine j_wp_X0_newScope h25 g26 (fun w29 w30 h27 g28 => ?_)
      refine ⟨fun c31 => ?_, fun c32 => ?_⟩
      · have h33 := h27.1 c31
        have g34 := g28.1 c31
        intro y35 e36
        have h37 := h33 y35 e36
        have g38 := g34 y35 e36
        refine j_wp_X5_turnScope h37 g38 (fun w41 h39 g40 => ?_)
        refine j_wp_X5_turnScope h39 g40 (fun w44 h42 g43 => ?_)
        intro y45 e46
        have h47 := h42 y45 e46
        have g48 := g43 y45 e46
        refine j_wp_X0_bind h47 g48 (fun w51 w52 h49 g50 => ?_)
        refine ⟨fun c53 => ?_, fun c54 => ?_⟩
        · have h55 := h49.1 c53
          have g56 := g50.1 c53
          exact hp _ h55 g56
        · have h57 := h49.2 c54
          have g58 := g50.2 c54
          intro y59 e60
          have h61 := h57 y59 e60
          have g62 := g58 y59 e60
          refine hX h61 g62 (fun w65 h63 g64 => ?_)
          exact hp _ h63 g64
      · have h66 := h27.2 c32
        have g67 := g28.2 c32
        exact hp _ h66 g67
    · have h68 := h19.2 c24
      have g69 := g20.2 c24
      exact j_wj_X0_expandLs_37 (hX := hX) h68 g69 hp
theorem j_wp_X1_hasRoomFor {x1 : Int32} {x2 : Int32} {u : mS} {post post1 post2 : Int32 → mS → Prop} (h : wp_X1_hasRoomFor x1 x2 u post) (g : wp_X1_hasRoomFor x1 x2 u post1) (hp : ∀ (b0_ : Int32) (b1_ : mS), post b0_ b1_ → post1 b0_ b1_ → post2 b0_ b1_) : wp_X1_hasRoomFor x1 x2 u post2 := by
  refine j_wp_X5_plainLength h g (fun w3 w4 h1 g2 => ?_)
  intro y5 e6
  have h7 := h1 y5 e6
  have g8 := g2 y5 e6
  refine j_wp_X5_itemsFrom h7 g8 (fun w11 w12 h9 g10 => ?_)
  refine j_wp_X5_hasDots h9 g10 (fun w15 w16 h13 g14 => ?_)
  refine ⟨fun c17 => ?_, fun c18 => ?_⟩
  · have h19 := h13.1 c17
    have g20 := g14.1 c17
    refine ⟨fun c21 => ?_, fun c22 => ?_⟩
    · have h23 := h19.1 c21
      have g24 := g20.1 c21
      exact hp _ _ h23 g24
    · have h25 := h19.2 c22
      have g26 := g20.2 c22
      exact hp _ _ h25 g26
  · have h27 := h13.2 c18
    have g28 := g14.2 c18
    intro y29 e30
    have h31 := h27 y29 e30
    have g32 := g28 y29 e30
    refine ⟨fun c33 => ?_, fun c34 => ?_⟩
    · have h35 := h31.1 c33
      have g36 := g32.1 c33
      exact hp _ _ h35 g36
    · have h37 := h31.2 c34
      have g38 := g32.2 c34
      exact hp _ _ h37 g38
theorem j_wp_X4_clear {u : mS} {post post1 post2 : mS → Prop} (h : wp_X4_clear u post) (g : wp_X4_clear u post1) (hp : ∀ (b0_ : mS), post b0_ → post1 b0_ → post2 b0_) : wp_X4_clear u post2 := by
  intro y1 e2
  have h3 := h y1 e2
  have g4 := g y1 e2
  exact hp _ h3 g4
theorem j_wp_X4_hasInner {u : mS} {post post1 post2 : Int32 → mS → Prop} (h : wp_X4_hasInner u post) (g : wp_X4_hasInner u post1) (hp : ∀ (b0_ : Int32) (b1_ : mS), post b0_ b1_ → post1 b0_ b1_ → post2 b0_ b1_) : wp_X4_hasInner u post2 := by
  intro y1 e2
  have h3 := h y1 e2
  have g4 := g y1 e2
  refine ⟨fun c5 => ?_, fun c6 => ?_⟩
  · have h7 := h3.1 c5
    have g8 := g4.1 c5
    exact hp _ _ h7 g8
  · have h9 := h3.2 c6
    have g10 := g4.2 c6
    intro y11 e12
    have h13 := h9 y11 e12
    have g14 := g10 y11 e12
    refine ⟨fun c15 => ?_, fun c16 => ?_⟩
    · have h17 := h13.1 c15
      have g18 := g14.1 c15
      exact hp _ _ h17 g18
    · have h19 := h13.2 c16
      have g20 := g14.2 c16
      exact hp _ _ h19 g20
theorem j_wp_X4_isIn {x1 : Int32} {u : mS} {post post1 post2 : Int32 → mS → Prop} (h : wp_X4_isIn x1 u post) (g : wp_X4_isIn x1 u post1) (hp : ∀ (b0_ : Int32) (b1_ : mS), post b0_ b1_ → post1 b0_ b1_ → post2 b0_ b1_) : wp_X4_isIn x1 u post2 := by
  refine j_wp_X4_hasInner h g (fun w3 w4 h1 g2 => ?_)
  refine ⟨fun c5 => ?_, fun c6 => ?_⟩
  · have h7 := h1.1 c5
    have g8 := g2.1 c5
    exact hp _ _ h7 g8
  · have h9 := h1.2 c6
    have g10 := g2.2 c6
    intro y11 e12
    have h13 := h9 y11 e12
    have g14 := g10 y11 e12
    intro y15 e16
    have h17 := h13 y15 e16
    have g18 := g14 y15 e16
    refine ⟨h17.1, ?_⟩
    have h19 := h17.2
    have g20 := g18.2
    intro y21 e22
    have h23 := h19 y21 e22
    have g24 := g20 y21 e22
    refine ⟨fun c25 => ?_, fun c26 => ?_⟩
    · have h27 := h23.1 c25
      have g28 := g24.1 c25
      exact hp _ _ h27 g28
    · have h29 := h23.2 c26
      have g30 := g24.2 c26
      exact hp _ _ h29 g30
theorem j_wp_X4_enter {x1 : Int32} {x2 : Int32} {u : mS} {post post1 post2 : mS → Prop} (h : wp_X4_enter x1 x2 u post) (g : wp_X4_enter x1 x2 u post1) (hp : ∀ (b0_ : mS), post b0_ → post1 b0_ → post2 b0_) : wp_X4_enter x1 x2 u post2 := by
  intro y1 e2
  have h3 := h y1 e2
  have g4 := g y1 e2
  refine ⟨fun c5 => ?_, fun c6 => ?_⟩
  · have h7 := h3.1 c5
    have g8 := g4.1 c5
    exact hp _ h7 g8
  · have h9 := h3.2 c6
    have g10 := g4.2 c6
    intro y11 e12
    have h13 := h9 y11 e12
    have g14 := g10 y11 e12
    refine ⟨fun c15 => ?_, fun c16 => ?_⟩
    · have h17 := h13.1 c15
      have g18 := g14.1 c15
      exact hp _ h17 g18
    · have h19 := h13.2 c16
      have g20 := g14.2 c16
      intro y21 e22
      have h23 := h19 y21 e22
      have g24 := g20 y21 e22
      refine ⟨h23.1, ?_⟩
      have h25 := h23.2
      have g26 := g24.2
      intro y27 e28
      have h29 := h25 y27 e28
      have g30 := g26 y27 e28
      intro y31 e32
      have h33 := h29 y31 e32
      have g34 := g30 y31 e32
      refine ⟨h33.1, ?_⟩
      have h35 := h33.2
      have g36 := g34.2
      intro y37 e38
      have h39 := h35 y37 e38
      have g40 := g36 y37 e38
      intro y41 e42
      have h43 := h39 y41 e42
      have g44 := g40 y41 e42
      refine ⟨h43.1, ?_⟩
      have h45 := h43.2
      have g46 := g44.2
      intro y47 e48
      have h49 := h45 y47 e48
      have g50 := g46 y47 e48
      intro y51 e52
      have h53 := h49 y51 e52
      have g54 := g50 y51 e52
      intro y55 e56
      have h57 := h53 y55 e56
      have g58 := g54 y55 e56
      intro y59 e60
      have h61 := h57 y59 e60
      have g62 := g58 y59 e60
      exact hp _ h61 g62
theorem j_wp_X4_leave {x1 : Int32} {u : mS} {post post1 post2 : Int32 → mS → Prop} (h : wp_X4_leave x1 u post) (g : wp_X4_leave x1 u post1) (hp : ∀ (b0_ : Int32) (b1_ : mS), post b0_ b1_ → post1 b0_ b1_ → post2 b0_ b1_) : wp_X4_leave x1 u post2 := by
  refine j_wp_X4_hasInner h g (fun w3 w4 h1 g2 => ?_)
  refine ⟨fun c5 => ?_, fun c6 => ?_⟩
  · have h7 := h1.1 c5
    have g8 := g2.1 c5
    intro y9 e10
    have h11 := h7 y9 e10
    have g12 := g8 y9 e10
    intro y13 e14
    have h15 := h11 y13 e14
    have g16 := g12 y13 e14
    refine ⟨h15.1, ?_⟩
    have h17 := h15.2
    have g18 := g16.2
    intro y19 e20
    have h21 := h17 y19 e20
    have g22 := g18 y19 e20
    intro y23 e24
    have h25 := h21 y23 e24
    have g26 := g22 y23 e24
    refine ⟨h25.1, ?_⟩
    have h27 := h25.2
    have g28 := g26.2
    intro y29 e30
    have h31 := h27 y29 e30
    have g32 := g28 y29 e30
    intro y33 e34
    have h35 := h31 y33 e34
    have g36 := g32 y33 e34
    intro y37 e38
    have h39 := h35 y37 e38
    have g40 := g36 y37 e38
    refine ⟨h39.1, ?_⟩
    have h41 := h39.2
    have g42 := g40.2
    intro y43 e44
    have h45 := h41 y43 e44
    have g46 := g42 y43 e44
    intro y47 e48
    have h49 := h45 y47 e48
    have g50 := g46 y47 e48
    intro y51 e52
    have h53 := h49 y51 e52
    have g54 := g50 y51 e52
    refine ⟨h53.1, ?_⟩
    have h55 := h53.2
    have g56 := g54.2
    intro y57 e58
    have h59 := h55 y57 e58
    have g60 := g56 y57 e58
    refine ⟨fun c61 => ?_, fun c62 => ?_⟩
    · have h63 := h59.1 c61
      have g64 := g60.1 c61
      intro y65 e66
      have h67 := h63 y65 e66
      have g68 := g64 y65 e66
      intro y69 e70
      have h71 := h67 y69 e70
      have g72 := g68 y69 e70
      intro y73 e74
      have h75 := h71 y73 e74
      have g76 := g72 y73 e74
      intro y77 e78
      have h79 := h75 y77 e78
      have g80 := g76 y77 e78
      exact hp _ _ h79 g80
    · have h81 := h59.2 c62
      have g82 := g60.2 c62
      intro y83 e84
      have h85 := h81 y83 e84
      have g86 := g82 y83 e84
      intro y87 e88
      have h89 := h85 y87 e88
      have g90 := g86 y87 e88
      refine ⟨h89.1, ?_⟩
      have h91 := h89.2
      have g92 := g90.2
      intro y93 e94
      have h95 := h91 y93 e94
      have g96 := g92 y93 e94
      exact hp _ _ h95 g96
  · have h97 := h1.2 c6
    have g98 := g2.2 c6
    intro y99 e100
    have h101 := h97 y99 e100
    have g102 := g98 y99 e100
    exact hp _ _ h101 g102
theorem j_wj_X1_matches_243 {K54 K541 K542 : Int32 → Int32 → Int32 → Int32 → mS → Prop} {post post1 post2 : Int32 → mS → Prop} {x3 : Int32} {x4 : Int32} {x5 : Int32} {x6 : Int32} {u : mS} (h : wj_X1_matches_243 K54 post x3 x4 x5 x6 u) (g : wj_X1_matches_243 K541 post1 x3 x4 x5 x6 u) (hK54 : ∀ (b0_ : Int32) (b1_ : Int32) (b2_ : Int32) (b3_ : Int32) (b4_ : mS), K54 b0_ b1_ b2_ b3_ b4_ → K541 b0_ b1_ b2_ b3_ b4_ → K542 b0_ b1_ b2_ b3_ b4_) (hp : ∀ (b0_ : Int32) (b1_ : mS), post b0_ b1_ → post1 b0_ b1_ → post2 b0_ b1_) : wj_X1_matches_243 K542 post2 x3 x4 x5 x6 u := by
  intro y1 e2
  have h3 := h y1 e2
  have g4 := g y1 e2
  exact hK54 _ _ _ _ _ h3 g4
theorem j_wj_X1_matches_181 {K54 K541 K542 : Int32 → Int32 → Int32 → Int32 → mS → Prop} {post post1 post2 : Int32 → mS → Prop} {x3 : Int32} {x4 : Int32} {x5 : Int32} {x6 : Int32} {u : mS} (h : wj_X1_matches_181 K54 post x3 x4 x5 x6 u) (g : wj_X1_matches_181 K541 post1 x3 x4 x5 x6 u) (hK54 : ∀ (b0_ : Int32) (b1_ : Int32) (b2_ : Int32) (b3_ : Int32) (b4_ : mS), K54 b0_ b1_ b2_ b3_ b4_ → K541 b0_ b1_ b2_ b3_ b4_ → K542 b0_ b1_ b2_ b3_ b4_) (hp : ∀ (b0_ : Int32) (b1_ : mS), post b0_ b1_ → post1 b0_ b1_ → post2 b0_ b1_) : wj_X1_matches_181 K542 post2 x3 x4 x5 x6 u := by
  intro y1 e2
  have h3 := h y1 e2
  have g4 := g y1 e2
  refine j_wp_X5_after h3 g4 (fun w7 w8 h5 g6 => ?_)
  exact j_wj_X1_matches_243 h5 g6 hK54 hp
theorem j_wj_X1_matches_232 {K54 K541 K542 : Int32 → Int32 → Int32 → Int32 → mS → Prop} {post post1 post2 : Int32 → mS → Prop} {x3 : Int32} {x4 : Int32} {x5 : Int32} {x6 : Int32} {u : mS} (h : wj_X1_matches_232 K54 post x3 x4 x5 x6 u) (g : wj_X1_matches_232 K541 post1 x3 x4 x5 x6 u) (hK54 : ∀ (b0_ : Int32) (b1_ : Int32) (b2_ : Int32) (b3_ : Int32) (b4_ : mS), K54 b0_ b1_ b2_ b3_ b4_ → K541 b0_ b1_ b2_ b3_ b4_ → K542 b0_ b1_ b2_ b3_ b4_) (hp : ∀ (b0_ : Int32) (b1_ : mS), post b0_ b1_ → post1 b0_ b1_ → post2 b0_ b1_) : wj_X1_matches_232 K542 post2 x3 x4 x5 x6 u := by
  intro y1 e2
  have h3 := h y1 e2
  have g4 := g y1 e2
  intro y5 e6
  have h7 := h3 y5 e6
  have g8 := g4 y5 e6
  exact j_wj_X1_matches_243 h7 g8 hK54 hp
theorem j_wj_X1_matches_134 {K54 K541 K542 : Int32 → Int32 → Int32 → Int32 → mS → Prop} {post post1 post2 : Int32 → mS → Prop} {x3 : Int32} {x4 : Int32} {x5 : Int32} {x6 : Int32} {u : mS} (h : wj_X1_matches_134 K54 post x3 x4 x5 x6 u) (g : wj_X1_matches_134 K541 post1 x3 x4 x5 x6 u) (hK54 : ∀ (b0_ : Int32) (b1_ : Int32) (b2_ : Int32) (b3_ : Int32) (b4_ : mS), K54 b0_ b1_ b2_ b3_ b4_ → K541 b0_ b1_ b2_ b3_ b4_ → K542 b0_ b1_ b2_ b3_ b4_) (hp : ∀ (b0_ : Int32) (b1_ : mS), post b0_ b1_ → post1 b0_ b1_ → post2 b0_ b1_) : wj_X1_matches_134 K542 post2 x3 x4 x5 x6 u := by
  refine j_wp_X5_wordAt h g (fun w3 w4 h1 g2 => ?_)
  refine ⟨fun c5 => ?_, fun c6 => ?_⟩
  · have h7 := h1.1 c5
    have g8 := g2.1 c5
    refine j_wp_X8_isName h7 g8 (fun w11 w12 h9 g10 => ?_)
    refine ⟨fun c13 => ?_, fun c14 => ?_⟩
    · have h15 := h9.1 c13
      have g16 := g10.1 c13
      exact j_wj_X1_matches_181 h15 g16 hK54 hp
    · have h17 := h9.2 c14
      have g18 := g10.2 c14
      refine ⟨fun c19 => ?_, fun c20 => ?_⟩
      · have h21 := h17.1 c19
        have g22 := g18.1 c19
        refine ⟨fun c23 => ?_, fun c24 => ?_⟩
        · have h25 := h21.1 c23
          have g26 := g22.1 c23
          refine j_wp_X5_wordAt h25 g26 (fun w29 w30 h27 g28 => ?_)
          refine ⟨fun c31 => ?_, fun c32 => ?_⟩
          · have h33 := h27.1 c31
            have g34 := g28.1 c31
            exact hp _ _ h33 g34
          · have h35 := h27.2 c32
            have g36 := g28.2 c32
            exact j_wj_X1_matches_232 h35 g36 hK54 hp
        · have h37 := h21.2 c24
          have g38 := g22.2 c24
          refine j_wp_X1_hasRoomFor h37 g38 (fun w41 w42 h39 g40 => ?_)
          refine ⟨fun c43 => ?_, fun c44 => ?_⟩
          · have h45 := h39.1 c43
            have g46 := g40.1 c43
            exact hp _ _ h45 g46
          · have h47 := h39.2 c44
            have g48 := g40.2 c44
            exact j_wj_X1_matches_232 h47 g48 hK54 hp
      · have h49 := h17.2 c20
        have g50 := g18.2 c20
        exact j_wj_X1_matches_181 h49 g50 hK54 hp
  · have h51 := h1.2 c6
    have g52 := g2.2 c6
    refine j_wp_X4_leave h51 g52 (fun w55 w56 h53 g54 => ?_)
    exact j_wj_X1_matches_243 h53 g54 hK54 hp
theorem j_wj_X1_matches_54 {K54 K541 K542 : Int32 → Int32 → Int32 → Int32 → mS → Prop} {post post1 post2 : Int32 → mS → Prop} {x3 : Int32} {x4 : Int32} {x5 : Int32} {x6 : Int32} {u : mS} (h : wj_X1_matches_54 K54 post x3 x4 x5 x6 u) (g : wj_X1_matches_54 K541 post1 x3 x4 x5 x6 u) (hK54 : ∀ (b0_ : Int32) (b1_ : Int32) (b2_ : Int32) (b3_ : Int32) (b4_ : mS), K54 b0_ b1_ b2_ b3_ b4_ → K541 b0_ b1_ b2_ b3_ b4_ → K542 b0_ b1_ b2_ b3_ b4_) (hp : ∀ (b0_ : Int32) (b1_ : mS), post b0_ b1_ → post1 b0_ b1_ → post2 b0_ b1_) : wj_X1_matches_54 K542 post2 x3 x4 x5 x6 u := by
  refine ⟨fun c1 => ?_, fun c2 => ?_⟩
  · have h3 := h.1 c1
    have g4 := g.1 c1
    exact hp _ _ h3 g4
  · have h5 := h.2 c2
    have g6 := g.2 c2
    refine ⟨fun c7 => ?_, fun c8 => ?_⟩
    · have h9 := h5.1 c7
      have g10 := g6.1 c7
      exact hp _ _ h9 g10
    · have h11 := h5.2 c8
      have g12 := g6.2 c8
      refine j_wp_X5_isHeld h11 g12 (fun w15 w16 h13 g14 => ?_)
      refine ⟨fun c17 => ?_, fun c18 => ?_⟩
      · have h19 := h13.1 c17
        have g20 := g14.1 c17
        exact j_wj_X1_matches_134 h19 g20 hK54 hp
      · have h21 := h13.2 c18
        have g22 := g14.2 c18
        refine j_wp_X4_isIn h21 g22 (fun w25 w26 h23 g24 => ?_)
        refine ⟨fun c27 => ?_, fun c28 => ?_⟩
        · have h29 := h23.1 c27
          have g30 := g24.1 c27
          exact j_wj_X1_matches_134 h29 g30 hK54 hp
        · have h31 := h23.2 c28
          have g32 := g24.2 c28
          refine j_wp_X5_itemsFrom h31 g32 (fun w35 w36 h33 g34 => ?_)
          refine ⟨fun c37 => ?_, fun c38 => ?_⟩
          · have h39 := h33.1 c37
            have g40 := g34.1 c37
            refine j_wp_X4_enter h39 g40 (fun w43 h41 g42 => ?_)
            exact j_wj_X1_matches_134 h41 g42 hK54 hp
          · have h44 := h33.2 c38
            have g45 := g34.2 c38
            refine j_wp_X5_after h44 g45 (fun w48 w49 h46 g47 => ?_)
            intro y50 e51
            have h52 := h46 y50 e51
            have g53 := g47 y50 e51
            exact j_wj_X1_matches_243 h52 g53 hK54 hp
theorem j_wp_X1_matches {x1 : Int32} {x2 : Int32} {u : mS} {post post1 post2 : Int32 → mS → Prop} (h : wp_X1_matches x1 x2 u post) (g : wp_X1_matches x1 x2 u post1) (hp : ∀ (b0_ : Int32) (b1_ : mS), post b0_ b1_ → post1 b0_ b1_ → post2 b0_ b1_) : wp_X1_matches x1 x2 u post2 := by
  refine j_wp_X1_hasRoomFor h g (fun w3 w4 h1 g2 => ?_)
  refine ⟨fun c5 => ?_, fun c6 => ?_⟩
  · have h7 := h1.1 c5
    have g8 := g2.1 c5
    refine j_wp_X4_clear h7 g8 (fun w11 h9 g10 => ?_)
    refine j_wp_X5_after h9 g10 (fun w14 w15 h12 g13 => ?_)
    intro y16 e17
    have h18 := h12 y16 e17
    have g19 := g13 y16 e17
    refine j_wp_X5_after h18 g19 (fun w22 w23 h20 g21 => ?_)
    intro y24 e25
    have h26 := h20 y24 e25
    have g27 := g21 y24 e25
    refine j_wp_X5_after h26 g27 (fun w30 w31 h28 g29 => ?_)
    obtain ⟨n32, h34⟩ := h28
    obtain ⟨m33, g35⟩ := g29
    refine ⟨n32, mL5_j ?_ n32 m33 _ _ _ _ _ h34 g35⟩
    intro K_ L_ M_ hK_ _ _ _ _ _ a_ b_
    exact j_wj_X1_matches_54 a_ b_ hK_ hp
  · have h36 := h1.2 c6
    have g37 := g2.2 c6
    exact hp _ _ h36 g37
theorem j_wj_X1_firstRule_17 {K17 K171 K172 : Int32 → Int32 → Int32 → Int32 → mS → Prop} {post post1 post2 : Int32 → mS → Prop} {x2 : Int32} {x3 : Int32} {x4 : Int32} {x5 : Int32} {u : mS} (h : wj_X1_firstRule_17 K17 post x2 x3 x4 x5 u) (g : wj_X1_firstRule_17 K171 post1 x2 x3 x4 x5 u) (hK17 : ∀ (b0_ : Int32) (b1_ : Int32) (b2_ : Int32) (b3_ : Int32) (b4_ : mS), K17 b0_ b1_ b2_ b3_ b4_ → K171 b0_ b1_ b2_ b3_ b4_ → K172 b0_ b1_ b2_ b3_ b4_) (hp : ∀ (b0_ : Int32) (b1_ : mS), post b0_ b1_ → post1 b0_ b1_ → post2 b0_ b1_) : wj_X1_firstRule_17 K172 post2 x2 x3 x4 x5 u := by
  refine ⟨fun c1 => ?_, fun c2 => ?_⟩
  · have h3 := h.1 c1
    have g4 := g.1 c1
    exact hp _ _ h3 g4
  · have h5 := h.2 c2
    have g6 := g.2 c2
    intro y7 e8
    have h9 := h5 y7 e8
    have g10 := g6 y7 e8
    refine j_wp_X1_matches h9 g10 (fun w13 w14 h11 g12 => ?_)
    refine ⟨fun c15 => ?_, fun c16 => ?_⟩
    · have h17 := h11.1 c15
      have g18 := g12.1 c15
      refine j_wp_X5_after h17 g18 (fun w21 w22 h19 g20 => ?_)
      intro y23 e24
      have h25 := h19 y23 e24
      have g26 := g20 y23 e24
      exact hK17 _ _ _ _ _ h25 g26
    · have h27 := h11.2 c16
      have g28 := g12.2 c16
      exact hp _ _ h27 g28
theorem j_wp_X1_firstRule {x1 : Int32} {x2 : Int32} {u : mS} {post post1 post2 : Int32 → mS → Prop} (h : wp_X1_firstRule x1 x2 u post) (g : wp_X1_firstRule x1 x2 u post1) (hp : ∀ (b0_ : Int32) (b1_ : mS), post b0_ b1_ → post1 b0_ b1_ → post2 b0_ b1_) : wp_X1_firstRule x1 x2 u post2 := by
  refine j_wp_X5_plainLength h g (fun w3 w4 h1 g2 => ?_)
  intro y5 e6
  have h7 := h1 y5 e6
  have g8 := g2 y5 e6
  obtain ⟨n9, h11⟩ := h7
  obtain ⟨m10, g12⟩ := g8
  refine ⟨n9, mL5_j ?_ n9 m10 _ _ _ _ _ h11 g12⟩
  intro K_ L_ M_ hK_ _ _ _ _ _ a_ b_
  exact j_wj_X1_firstRule_17 a_ b_ hK_ hp
theorem j_wp_X5_startTree {u : mS} {post post1 post2 : Int32 → mS → Prop} (h : wp_X5_startTree u post) (g : wp_X5_startTree u post1) (hp : ∀ (b0_ : Int32) (b1_ : mS), post b0_ b1_ → post1 b0_ b1_ → post2 b0_ b1_) : wp_X5_startTree u post2 := by
  intro y1 e2
  have h3 := h y1 e2
  have g4 := g y1 e2
  intro y5 e6
  have h7 := h3 y5 e6
  have g8 := g4 y5 e6
  exact hp _ _ h7 g8
theorem j_wp_X4_roundOf {x1 : Int32} {u : mS} {post post1 post2 : Int32 → mS → Prop} (h : wp_X4_roundOf x1 u post) (g : wp_X4_roundOf x1 u post1) (hp : ∀ (b0_ : Int32) (b1_ : mS), post b0_ b1_ → post1 b0_ b1_ → post2 b0_ b1_) : wp_X4_roundOf x1 u post2 := by
  refine ⟨fun c1 => ?_, fun c2 => ?_⟩
  · have h3 := h.1 c1
    have g4 := g.1 c1
    exact hp _ _ h3 g4
  · have h5 := h.2 c2
    have g6 := g.2 c2
    intro y7 e8
    have h9 := h5 y7 e8
    have g10 := g6 y7 e8
    refine ⟨fun c11 => ?_, fun c12 => ?_⟩
    · have h13 := h9.1 c11
      have g14 := g10.1 c11
      exact hp _ _ h13 g14
    · have h15 := h9.2 c12
      have g16 := g10.2 c12
      refine ⟨fun c17 => ?_, fun c18 => ?_⟩
      · have h19 := h15.1 c17
        have g20 := g16.1 c17
        exact hp _ _ h19 g20
      · have h21 := h15.2 c18
        have g22 := g16.2 c18
        refine ⟨h21.1, ?_⟩
        have h23 := h21.2
        have g24 := g22.2
        intro y25 e26
        have h27 := h23 y25 e26
        have g28 := g24 y25 e26
        exact hp _ _ h27 g28
theorem j_wj_X1_matchOf_134 {K17 K171 K172 : Int32 → Int32 → Int32 → Int32 → Int32 → Int32 → mS → Prop} {post post1 post2 : Int32 → mS → Prop} {x1 : Int32} {x2 : Int32} {x3 : Int32} {x4 : Int32} {x5 : Int32} {x6 : Int32} {u : mS} (h : wj_X1_matchOf_134 K17 post x1 x2 x3 x4 x5 x6 u) (g : wj_X1_matchOf_134 K171 post1 x1 x2 x3 x4 x5 x6 u) (hK17 : ∀ (b0_ : Int32) (b1_ : Int32) (b2_ : Int32) (b3_ : Int32) (b4_ : Int32) (b5_ : Int32) (b6_ : mS), K17 b0_ b1_ b2_ b3_ b4_ b5_ b6_ → K171 b0_ b1_ b2_ b3_ b4_ b5_ b6_ → K172 b0_ b1_ b2_ b3_ b4_ b5_ b6_) (hp : ∀ (b0_ : Int32) (b1_ : mS), post b0_ b1_ → post1 b0_ b1_ → post2 b0_ b1_) : wj_X1_matchOf_134 K172 post2 x1 x2 x3 x4 x5 x6 u := by
  intro y1 e2
  have h3 := h y1 e2
  have g4 := g y1 e2
  exact hK17 _ _ _ _ _ _ _ h3 g4
theorem j_wj_X1_matchOf_140 {post post1 post2 : Int32 → mS → Prop} {x4 : Int32} {u : mS} (h : wj_X1_matchOf_140 post x4 u) (g : wj_X1_matchOf_140 post1 x4 u) (hp : ∀ (b0_ : Int32) (b1_ : mS), post b0_ b1_ → post1 b0_ b1_ → post2 b0_ b1_) : wj_X1_matchOf_140 post2 x4 u := by
  exact hp _ _ h g
theorem j_wj_X1_matchOf_120 {K17 K171 K172 : Int32 → Int32 → Int32 → Int32 → Int32 → Int32 → mS → Prop} {post post1 post2 : Int32 → mS → Prop} {x1 : Int32} {x2 : Int32} {x3 : Int32} {x4 : Int32} {x5 : Int32} {x6 : Int32} {u : mS} (h : wj_X1_matchOf_120 K17 post x1 x2 x3 x4 x5 x6 u) (g : wj_X1_matchOf_120 K171 post1 x1 x2 x3 x4 x5 x6 u) (hK17 : ∀ (b0_ : Int32) (b1_ : Int32) (b2_ : Int32) (b3_ : Int32) (b4_ : Int32) (b5_ : Int32) (b6_ : mS), K17 b0_ b1_ b2_ b3_ b4_ b5_ b6_ → K171 b0_ b1_ b2_ b3_ b4_ b5_ b6_ → K172 b0_ b1_ b2_ b3_ b4_ b5_ b6_) (hp : ∀ (b0_ : Int32) (b1_ : mS), post b0_ b1_ → post1 b0_ b1_ → post2 b0_ b1_) : wj_X1_matchOf_120 K172 post2 x1 x2 x3 x4 x5 x6 u := by
  refine ⟨fun c1 => ?_, fun c2 => ?_⟩
  · have h3 := h.1 c1
    have g4 := g.1 c1
    intro y5 e6
    have h7 := h3 y5 e6
    have g8 := g4 y5 e6
    intro y9 e10
    have h11 := h7 y9 e10
    have g12 := g8 y9 e10
    exact j_wj_X1_matchOf_134 h11 g12 hK17 hp
  · have h13 := h.2 c2
    have g14 := g.2 c2
    exact j_wj_X1_matchOf_140 h13 g14 hp
theorem j_wj_X1_matchOf_93 {K93 K931 K932 : Int32 → Int32 → Int32 → Int32 → Int32 → Int32 → Int32 → Int32 → mS → Prop} {K17 K171 K172 : Int32 → Int32 → Int32 → Int32 → Int32 → Int32 → mS → Prop} {post post1 post2 : Int32 → mS → Prop} {x1 : Int32} {x2 : Int32} {x3 : Int32} {x4 : Int32} {x5 : Int32} {x6 : Int32} {x7 : Int32} {x8 : Int32} {u : mS} (h : wj_X1_matchOf_93 K93 K17 post x1 x2 x3 x4 x5 x6 x7 x8 u) (g : wj_X1_matchOf_93 K931 K171 post1 x1 x2 x3 x4 x5 x6 x7 x8 u) (hK93 : ∀ (b0_ : Int32) (b1_ : Int32) (b2_ : Int32) (b3_ : Int32) (b4_ : Int32) (b5_ : Int32) (b6_ : Int32) (b7_ : Int32) (b8_ : mS), K93 b0_ b1_ b2_ b3_ b4_ b5_ b6_ b7_ b8_ → K931 b0_ b1_ b2_ b3_ b4_ b5_ b6_ b7_ b8_ → K932 b0_ b1_ b2_ b3_ b4_ b5_ b6_ b7_ b8_) (hK17 : ∀ (b0_ : Int32) (b1_ : Int32) (b2_ : Int32) (b3_ : Int32) (b4_ : Int32) (b5_ : Int32) (b6_ : mS), K17 b0_ b1_ b2_ b3_ b4_ b5_ b6_ → K171 b0_ b1_ b2_ b3_ b4_ b5_ b6_ → K172 b0_ b1_ b2_ b3_ b4_ b5_ b6_) (hp : ∀ (b0_ : Int32) (b1_ : mS), post b0_ b1_ → post1 b0_ b1_ → post2 b0_ b1_) : wj_X1_matchOf_93 K932 K172 post2 x1 x2 x3 x4 x5 x6 x7 x8 u := by
  refine ⟨fun c1 => ?_, fun c2 => ?_⟩
  · have h3 := h.1 c1
    have g4 := g.1 c1
    intro y5 e6
    have h7 := h3 y5 e6
    have g8 := g4 y5 e6
    exact j_wj_X1_matchOf_120 h7 g8 hK17 hp
  · have h9 := h.2 c2
    have g10 := g.2 c2
    refine j_wp_X5_after h9 g10 (fun w13 w14 h11 g12 => ?_)
    intro y15 e16
    have h17 := h11 y15 e16
    have g18 := g12 y15 e16
    exact hK93 _ _ _ _ _ _ _ _ _ h17 g18
theorem j_wj_X1_matchOf_17 {K17 K171 K172 : Int32 → Int32 → Int32 → Int32 → Int32 → Int32 → mS → Prop} {post post1 post2 : Int32 → mS → Prop} {x1 : Int32} {x2 : Int32} {x3 : Int32} {x4 : Int32} {x5 : Int32} {x6 : Int32} {u : mS} (h : wj_X1_matchOf_17 K17 post x1 x2 x3 x4 x5 x6 u) (g : wj_X1_matchOf_17 K171 post1 x1 x2 x3 x4 x5 x6 u) (hK17 : ∀ (b0_ : Int32) (b1_ : Int32) (b2_ : Int32) (b3_ : Int32) (b4_ : Int32) (b5_ : Int32) (b6_ : mS), K17 b0_ b1_ b2_ b3_ b4_ b5_ b6_ → K171 b0_ b1_ b2_ b3_ b4_ b5_ b6_ → K172 b0_ b1_ b2_ b3_ b4_ b5_ b6_) (hp : ∀ (b0_ : Int32) (b1_ : mS), post b0_ b1_ → post1 b0_ b1_ → post2 b0_ b1_) : wj_X1_matchOf_17 K172 post2 x1 x2 x3 x4 x5 x6 u := by
  refine ⟨fun c1 => ?_, fun c2 => ?_⟩
  · have h3 := h.1 c1
    have g4 := g.1 c1
    exact j_wj_X1_matchOf_140 h3 g4 hp
  · have h5 := h.2 c2
    have g6 := g.2 c2
    refine j_wp_X5_after h5 g6 (fun w9 w10 h7 g8 => ?_)
    refine ⟨fun c11 => ?_, fun c12 => ?_⟩
    · have h13 := h7.1 c11
      have g14 := g8.1 c11
      refine j_wp_X5_isHeld h13 g14 (fun w17 w18 h15 g16 => ?_)
      refine ⟨fun c19 => ?_, fun c20 => ?_⟩
      · have h21 := h15.1 c19
        have g22 := g16.1 c19
        exact j_wj_X1_matchOf_120 h21 g22 hK17 hp
      · have h23 := h15.2 c20
        have g24 := g16.2 c20
        refine ⟨fun c25 => ?_, fun c26 => ?_⟩
        · have h27 := h23.1 c25
          have g28 := g24.1 c25
          refine j_wp_X4_roundOf h27 g28 (fun w31 w32 h29 g30 => ?_)
          obtain ⟨n33, h35⟩ := h29
          obtain ⟨m34, g36⟩ := g30
          refine ⟨n33, mL9_j ?_ n33 m34 _ _ _ _ _ _ _ _ _ h35 g36⟩
          intro K_ L_ M_ hK_ _ _ _ _ _ _ _ _ _ a_ b_
          exact j_wj_X1_matchOf_93 a_ b_ hK_ hK17 hp
        · have h37 := h23.2 c26
          have g38 := g24.2 c26
          exact j_wj_X1_matchOf_140 h37 g38 hp
    · have h39 := h7.2 c12
      have g40 := g8.2 c12
      refine j_wp_X5_after h39 g40 (fun w43 w44 h41 g42 => ?_)
      refine j_wp_X5_after h41 g42 (fun w47 w48 h45 g46 => ?_)
      exact j_wj_X1_matchOf_134 h45 g46 hK17 hp
theorem j_wp_X1_matchOf {x1 : Int32} {x2 : Int32} {u : mS} {post post1 post2 : Int32 → mS → Prop} (h : wp_X1_matchOf x1 x2 u post) (g : wp_X1_matchOf x1 x2 u post1) (hp : ∀ (b0_ : Int32) (b1_ : mS), post b0_ b1_ → post1 b0_ b1_ → post2 b0_ b1_) : wp_X1_matchOf x1 x2 u post2 := by
  intro y1 e2
  have h3 := h y1 e2
  have g4 := g y1 e2
  intro y5 e6
  have h7 := h3 y5 e6
  have g8 := g4 y5 e6
  obtain ⟨n9, h11⟩ := h7
  obtain ⟨m10, g12⟩ := g8
  refine ⟨n9, mL7_j ?_ n9 m10 _ _ _ _ _ _ _ h11 g12⟩
  intro K_ L_ M_ hK_ _ _ _ _ _ _ _ a_ b_
  exact j_wj_X1_matchOf_17 a_ b_ hK_ hp
theorem j_wj_X1_roundsFor_81 {K14 K141 K142 : Int32 → Int32 → Int32 → mS → Prop} {post post1 post2 : Int32 → mS → Prop} {x2 : Int32} {x3 : Int32} {x4 : Int32} {u : mS} (h : wj_X1_roundsFor_81 K14 post x2 x3 x4 u) (g : wj_X1_roundsFor_81 K141 post1 x2 x3 x4 u) (hK14 : ∀ (b0_ : Int32) (b1_ : Int32) (b2_ : Int32) (b3_ : mS), K14 b0_ b1_ b2_ b3_ → K141 b0_ b1_ b2_ b3_ → K142 b0_ b1_ b2_ b3_) (hp : ∀ (b0_ : Int32) (b1_ : mS), post b0_ b1_ → post1 b0_ b1_ → post2 b0_ b1_) : wj_X1_roundsFor_81 K142 post2 x2 x3 x4 u := by
  intro y1 e2
  have h3 := h y1 e2
  have g4 := g y1 e2
  exact hK14 _ _ _ _ h3 g4
theorem j_wj_X1_roundsFor_78 {K14 K141 K142 : Int32 → Int32 → Int32 → mS → Prop} {post post1 post2 : Int32 → mS → Prop} {x3 : Int32} {x4 : Int32} {x6 : Int32} {u : mS} (h : wj_X1_roundsFor_78 K14 post x3 x4 x6 u) (g : wj_X1_roundsFor_78 K141 post1 x3 x4 x6 u) (hK14 : ∀ (b0_ : Int32) (b1_ : Int32) (b2_ : Int32) (b3_ : mS), K14 b0_ b1_ b2_ b3_ → K141 b0_ b1_ b2_ b3_ → K142 b0_ b1_ b2_ b3_) (hp : ∀ (b0_ : Int32) (b1_ : mS), post b0_ b1_ → post1 b0_ b1_ → post2 b0_ b1_) : wj_X1_roundsFor_78 K142 post2 x3 x4 x6 u := by
  exact j_wj_X1_roundsFor_81 h g hK14 hp
theorem j_wj_X1_roundsFor_14 {K14 K141 K142 : Int32 → Int32 → Int32 → mS → Prop} {post post1 post2 : Int32 → mS → Prop} {x2 : Int32} {x3 : Int32} {x4 : Int32} {u : mS} (h : wj_X1_roundsFor_14 K14 post x2 x3 x4 u) (g : wj_X1_roundsFor_14 K141 post1 x2 x3 x4 u) (hK14 : ∀ (b0_ : Int32) (b1_ : Int32) (b2_ : Int32) (b3_ : mS), K14 b0_ b1_ b2_ b3_ → K141 b0_ b1_ b2_ b3_ → K142 b0_ b1_ b2_ b3_) (hp : ∀ (b0_ : Int32) (b1_ : mS), post b0_ b1_ → post1 b0_ b1_ → post2 b0_ b1_) : wj_X1_roundsFor_14 K142 post2 x2 x3 x4 u := by
  refine ⟨fun c1 => ?_, fun c2 => ?_⟩
  · have h3 := h.1 c1
    have g4 := g.1 c1
    intro y5 e6
    have h7 := h3 y5 e6
    have g8 := g4 y5 e6
    exact hp _ _ h7 g8
  · have h9 := h.2 c2
    have g10 := g.2 c2
    refine j_wp_X5_variableAt h9 g10 (fun w13 w14 h11 g12 => ?_)
    refine ⟨fun c15 => ?_, fun c16 => ?_⟩
    · have h17 := h11.1 c15
      have g18 := g12.1 c15
      exact j_wj_X1_roundsFor_81 h17 g18 hK14 hp
    · have h19 := h11.2 c16
      have g20 := g12.2 c16
      intro y21 e22
      have h23 := h19 y21 e22
      have g24 := g20 y21 e22
      refine j_wp_X1_matchOf h23 g24 (fun w27 w28 h25 g26 => ?_)
      refine j_wp_X5_itemsFrom h25 g26 (fun w31 w32 h29 g30 => ?_)
      refine ⟨fun c33 => ?_, fun c34 => ?_⟩
      · have h35 := h29.1 c33
        have g36 := g30.1 c33
        exact j_wj_X1_roundsFor_78 h35 g36 hK14 hp
      · have h37 := h29.2 c34
        have g38 := g30.2 c34
        refine ⟨fun c39 => ?_, fun c40 => ?_⟩
        · have h41 := h37.1 c39
          have g42 := g38.1 c39
          exact j_wj_X1_roundsFor_78 h41 g42 hK14 hp
        · have h43 := h37.2 c40
          have g44 := g38.2 c40
          refine j_wp_X2_fail h43 g44 (fun w47 h45 g46 => ?_)
          exact hp _ _ h45 g46
theorem j_wp_X1_roundsFor {x1 : Int32} {u : mS} {post post1 post2 : Int32 → mS → Prop} (h : wp_X1_roundsFor x1 u post) (g : wp_X1_roundsFor x1 u post1) (hp : ∀ (b0_ : Int32) (b1_ : mS), post b0_ b1_ → post1 b0_ b1_ → post2 b0_ b1_) : wp_X1_roundsFor x1 u post2 := by
  refine j_wp_X5_after h g (fun w3 w4 h1 g2 => ?_)
  obtain ⟨n5, h7⟩ := h1
  obtain ⟨m6, g8⟩ := g2
  refine ⟨n5, mL4_j ?_ n5 m6 _ _ _ _ h7 g8⟩
  intro K_ L_ M_ hK_ _ _ _ _ a_ b_
  exact j_wj_X1_roundsFor_14 a_ b_ hK_ hp
theorem j_wp_X5_closeBracket {u : mS} {post post1 post2 : mS → Prop} (h : wp_X5_closeBracket u post) (g : wp_X5_closeBracket u post1) (hp : ∀ (b0_ : mS), post b0_ → post1 b0_ → post2 b0_) : wp_X5_closeBracket u post2 := by
  intro y1 e2
  have h3 := h y1 e2
  have g4 := g y1 e2
  refine ⟨fun c5 => ?_, fun c6 => ?_⟩
  · have h7 := h3.1 c5
    have g8 := g4.1 c5
    exact hp _ h7 g8
  · have h9 := h3.2 c6
    have g10 := g4.2 c6
    intro y11 e12
    have h13 := h9 y11 e12
    have g14 := g10 y11 e12
    refine ⟨fun c15 => ?_, fun c16 => ?_⟩
    · have h17 := h13.1 c15
      have g18 := g14.1 c15
      intro y19 e20
      have h21 := h17 y19 e20
      have g22 := g18 y19 e20
      refine ⟨h21.1, ?_⟩
      have h23 := h21.2
      have g24 := g22.2
      intro y25 e26
      have h27 := h23 y25 e26
      have g28 := g24 y25 e26
      intro y29 e30
      have h31 := h27 y29 e30
      have g32 := g28 y29 e30
      intro y33 e34
      have h35 := h31 y33 e34
      have g36 := g32 y33 e34
      intro y37 e38
      have h39 := h35 y37 e38
      have g40 := g36 y37 e38
      intro y41 e42
      have h43 := h39 y41 e42
      have g44 := g40 y41 e42
      intro y45 e46
      have h47 := h43 y45 e46
      have g48 := g44 y45 e46
      refine ⟨h47.1, ?_⟩
      have h49 := h47.2
      have g50 := g48.2
      intro y51 e52
      have h53 := h49 y51 e52
      have g54 := g50 y51 e52
      intro y55 e56
      have h57 := h53 y55 e56
      have g58 := g54 y55 e56
      exact hp _ h57 g58
    · have h59 := h13.2 c16
      have g60 := g14.2 c16
      exact hp _ h59 g60
theorem j_wj_X5_add_97 {post post1 post2 : mS → Prop} {u : mS} (h : wj_X5_add_97 post u) (g : wj_X5_add_97 post1 u) (hp : ∀ (b0_ : mS), post b0_ → post1 b0_ → post2 b0_) : wj_X5_add_97 post2 u := by
  intro y1 e2
  have h3 := h y1 e2
  have g4 := g y1 e2
  intro y5 e6
  have h7 := h3 y5 e6
  have g8 := g4 y5 e6
  intro y9 e10
  have h11 := h7 y9 e10
  have g12 := g8 y9 e10
  exact hp _ h11 g12
theorem j_wp_X5_add {x1 : Int32} {x2 : Int32} {u : mS} {post post1 post2 : mS → Prop} (h : wp_X5_add x1 x2 u post) (g : wp_X5_add x1 x2 u post1) (hp : ∀ (b0_ : mS), post b0_ → post1 b0_ → post2 b0_) : wp_X5_add x1 x2 u post2 := by
  intro y1 e2
  have h3 := h y1 e2
  have g4 := g y1 e2
  refine ⟨fun c5 => ?_, fun c6 => ?_⟩
  · have h7 := h3.1 c5
    have g8 := g4.1 c5
    exact hp _ h7 g8
  · have h9 := h3.2 c6
    have g10 := g4.2 c6
    intro y11 e12
    have h13 := h9 y11 e12
    have g14 := g10 y11 e12
    refine ⟨fun c15 => ?_, fun c16 => ?_⟩
    · have h17 := h13.1 c15
      have g18 := g14.1 c15
      intro y19 e20
      have h21 := h17 y19 e20
      have g22 := g18 y19 e20
      refine ⟨h21.1, ?_⟩
      have h23 := h21.2
      have g24 := g22.2
      intro y25 e26
      have h27 := h23 y25 e26
      have g28 := g24 y25 e26
      intro y29 e30
      have h31 := h27 y29 e30
      have g32 := g28 y29 e30
      refine ⟨h31.1, ?_⟩
      have h33 := h31.2
      have g34 := g32.2
      intro y35 e36
      have h37 := h33 y35 e36
      have g38 := g34 y35 e36
      intro y39 e40
      have h41 := h37 y39 e40
      have g42 := g38 y39 e40
      refine ⟨h41.1, ?_⟩
      have h43 := h41.2
      have g44 := g42.2
      intro y45 e46
      have h47 := h43 y45 e46
      have g48 := g44 y45 e46
      intro y49 e50
      have h51 := h47 y49 e50
      have g52 := g48 y49 e50
      refine ⟨h51.1, ?_⟩
      have h53 := h51.2
      have g54 := g52.2
      intro y55 e56
      have h57 := h53 y55 e56
      have g58 := g54 y55 e56
      refine ⟨fun c59 => ?_, fun c60 => ?_⟩
      · have h61 := h57.1 c59
        have g62 := g58.1 c59
        refine ⟨fun c63 => ?_, fun c64 => ?_⟩
        · have h65 := h61.1 c63
          have g66 := g62.1 c63
          exact j_wj_X5_add_97 h65 g66 hp
        · have h67 := h61.2 c64
          have g68 := g62.2 c64
          refine j_wp_X5_closeBracket h67 g68 (fun w71 h69 g70 => ?_)
          exact j_wj_X5_add_97 h69 g70 hp
      · have h72 := h57.2 c60
        have g73 := g58.2 c60
        intro y74 e75
        have h76 := h72 y74 e75
        have g77 := g73 y74 e75
        intro y78 e79
        have h80 := h76 y78 e79
        have g81 := g77 y78 e79
        refine ⟨h80.1, ?_⟩
        have h82 := h80.2
        have g83 := g81.2
        intro y84 e85
        have h86 := h82 y84 e85
        have g87 := g83 y84 e85
        intro y88 e89
        have h90 := h86 y88 e89
        have g91 := g87 y88 e89
        intro y92 e93
        have h94 := h90 y92 e93
        have g95 := g91 y92 e93
        exact j_wj_X5_add_97 h94 g95 hp
    · have h96 := h13.2 c16
      have g97 := g14.2 c16
      exact hp _ h96 g97
theorem j_wj_X1_fillToken_79 {K47 K471 K472 : Int32 → Int32 → mS → Prop} {post post1 post2 : mS → Prop} {x4 : Int32} {x5 : Int32} {z0 : Int32} {z1 : Int32} {u : mS} (h : wj_X1_fillToken_79 K47 post x4 x5 z0 z1 u) (g : wj_X1_fillToken_79 K471 post1 x4 x5 z0 z1 u) (hK47 : ∀ (b0_ : Int32) (b1_ : Int32) (b2_ : mS), K47 b0_ b1_ b2_ → K471 b0_ b1_ b2_ → K472 b0_ b1_ b2_) (hp : ∀ (b0_ : mS), post b0_ → post1 b0_ → post2 b0_) : wj_X1_fillToken_79 K472 post2 x4 x5 z0 z1 u := by
  intro y1 e2
  have h3 := h y1 e2
  have g4 := g y1 e2
  intro y5 e6
  have h7 := h3 y5 e6
  have g8 := g4 y5 e6
  intro y9 e10
  have h11 := h7 y9 e10
  have g12 := g8 y9 e10
  refine ⟨fun c13 => ?_, fun c14 => ?_⟩
  · have h15 := h11.1 c13
    have g16 := g12.1 c13
    refine j_wp_X5_wordAt h15 g16 (fun w19 w20 h17 g18 => ?_)
    refine j_wp_X5_marksAt h17 g18 (fun w23 w24 h21 g22 => ?_)
    refine j_wp_X5_add h21 g22 (fun w27 h25 g26 => ?_)
    intro y28 e29
    have h30 := h25 y28 e29
    have g31 := g26 y28 e29
    exact hK47 _ _ _ h30 g31
  · have h32 := h11.2 c14
    have g33 := g12.2 c14
    refine j_wp_X2_fail h32 g33 (fun w36 h34 g35 => ?_)
    exact hp _ h34 g35
theorem j_wj_X1_fillToken_47 {K47 K471 K472 : Int32 → Int32 → mS → Prop} {post post1 post2 : mS → Prop} {x4 : Int32} {x5 : Int32} {u : mS} (h : wj_X1_fillToken_47 K47 post x4 x5 u) (g : wj_X1_fillToken_47 K471 post1 x4 x5 u) (hK47 : ∀ (b0_ : Int32) (b1_ : Int32) (b2_ : mS), K47 b0_ b1_ b2_ → K471 b0_ b1_ b2_ → K472 b0_ b1_ b2_) (hp : ∀ (b0_ : mS), post b0_ → post1 b0_ → post2 b0_) : wj_X1_fillToken_47 K472 post2 x4 x5 u := by
  refine ⟨fun c1 => ?_, fun c2 => ?_⟩
  · have h3 := h.1 c1
    have g4 := g.1 c1
    exact hp _ h3 g4
  · have h5 := h.2 c2
    have g6 := g.2 c2
    intro y7 e8
    have h9 := h5 y7 e8
    have g10 := g6 y7 e8
    refine j_wp_X5_wordAt h9 g10 (fun w13 w14 h11 g12 => ?_)
    refine j_wp_X8_isTree h11 g12 (fun w17 w18 h15 g16 => ?_)
    refine ⟨fun c19 => ?_, fun c20 => ?_⟩
    · have h21 := h15.1 c19
      have g22 := g16.1 c19
      exact j_wj_X1_fillToken_79 h21 g22 hK47 hp
    · have h23 := h15.2 c20
      have g24 := g16.2 c20
      exact j_wj_X1_fillToken_79 h23 g24 hK47 hp
theorem j_wj_X1_fillToken_42 {post post1 post2 : mS → Prop} {x3 : Int32} {z0 : Int32} {u : mS} (h : wj_X1_fillToken_42 post x3 z0 u) (g : wj_X1_fillToken_42 post1 x3 z0 u) (hp : ∀ (b0_ : mS), post b0_ → post1 b0_ → post2 b0_) : wj_X1_fillToken_42 post2 x3 z0 u := by
  obtain ⟨n1, h3⟩ := h
  obtain ⟨m2, g4⟩ := g
  refine ⟨n1, mL3_j ?_ n1 m2 _ _ _ h3 g4⟩
  intro K_ L_ M_ hK_ _ _ _ a_ b_
  exact j_wj_X1_fillToken_47 a_ b_ hK_ hp
theorem j_wj_X1_fillToken_23 {post post1 post2 : mS → Prop} {x1 : Int32} {x2 : Int32} {z0 : Int32} {u : mS} (h : wj_X1_fillToken_23 post x1 x2 z0 u) (g : wj_X1_fillToken_23 post1 x1 x2 z0 u) (hp : ∀ (b0_ : mS), post b0_ → post1 b0_ → post2 b0_) : wj_X1_fillToken_23 post2 x1 x2 z0 u := by
  refine ⟨fun c1 => ?_, fun c2 => ?_⟩
  · have h3 := h.1 c1
    have g4 := g.1 c1
    refine j_wp_X5_after h3 g4 (fun w7 w8 h5 g6 => ?_)
    exact j_wj_X1_fillToken_42 h5 g6 hp
  · have h9 := h.2 c2
    have g10 := g.2 c2
    intro y11 e12
    have h13 := h9 y11 e12
    have g14 := g10 y11 e12
    exact j_wj_X1_fillToken_42 h13 g14 hp
theorem j_wp_X1_fillToken {x1 : Int32} {u : mS} {post post1 post2 : mS → Prop} (h : wp_X1_fillToken x1 u post) (g : wp_X1_fillToken x1 u post1) (hp : ∀ (b0_ : mS), post b0_ → post1 b0_ → post2 b0_) : wp_X1_fillToken x1 u post2 := by
  refine j_wp_X5_variableAt h g (fun w3 w4 h1 g2 => ?_)
  refine ⟨fun c5 => ?_, fun c6 => ?_⟩
  · have h7 := h1.1 c5
    have g8 := g2.1 c5
    refine j_wp_X1_matchOf h7 g8 (fun w11 w12 h9 g10 => ?_)
    exact j_wj_X1_fillToken_23 h9 g10 hp
  · have h13 := h1.2 c6
    have g14 := g2.2 c6
    exact j_wj_X1_fillToken_23 h13 g14 hp
theorem j_wj_X1_fill_184 {K59 K591 K592 : Int32 → Int32 → Int32 → Int32 → mS → Prop} {post post1 post2 : Int32 → mS → Prop} {x3 : Int32} {x4 : Int32} {x5 : Int32} {x6 : Int32} {u : mS} (h : wj_X1_fill_184 K59 post x3 x4 x5 x6 u) (g : wj_X1_fill_184 K591 post1 x3 x4 x5 x6 u) (hK59 : ∀ (b0_ : Int32) (b1_ : Int32) (b2_ : Int32) (b3_ : Int32) (b4_ : mS), K59 b0_ b1_ b2_ b3_ b4_ → K591 b0_ b1_ b2_ b3_ b4_ → K592 b0_ b1_ b2_ b3_ b4_) (hp : ∀ (b0_ : Int32) (b1_ : mS), post b0_ b1_ → post1 b0_ b1_ → post2 b0_ b1_) : wj_X1_fill_184 K592 post2 x3 x4 x5 x6 u := by
  intro y1 e2
  have h3 := h y1 e2
  have g4 := g y1 e2
  exact hK59 _ _ _ _ _ h3 g4
theorem j_wj_X1_fill_147 {K59 K591 K592 : Int32 → Int32 → Int32 → Int32 → mS → Prop} {post post1 post2 : Int32 → mS → Prop} {x3 : Int32} {x4 : Int32} {x5 : Int32} {x6 : Int32} {u : mS} (h : wj_X1_fill_147 K59 post x3 x4 x5 x6 u) (g : wj_X1_fill_147 K591 post1 x3 x4 x5 x6 u) (hK59 : ∀ (b0_ : Int32) (b1_ : Int32) (b2_ : Int32) (b3_ : Int32) (b4_ : mS), K59 b0_ b1_ b2_ b3_ b4_ → K591 b0_ b1_ b2_ b3_ b4_ → K592 b0_ b1_ b2_ b3_ b4_) (hp : ∀ (b0_ : Int32) (b1_ : mS), post b0_ b1_ → post1 b0_ b1_ → post2 b0_ b1_) : wj_X1_fill_147 K592 post2 x3 x4 x5 x6 u := by
  refine j_wp_X5_wordAt h g (fun w3 w4 h1 g2 => ?_)
  refine ⟨fun c5 => ?_, fun c6 => ?_⟩
  · have h7 := h1.1 c5
    have g8 := g2.1 c5
    refine j_wp_X1_fillToken h7 g8 (fun w11 h9 g10 => ?_)
    intro y12 e13
    have h14 := h9 y12 e13
    have g15 := g10 y12 e13
    exact j_wj_X1_fill_184 h14 g15 hK59 hp
  · have h16 := h1.2 c6
    have g17 := g2.2 c6
    refine j_wp_X4_leave h16 g17 (fun w20 w21 h18 g19 => ?_)
    exact j_wj_X1_fill_184 h18 g19 hK59 hp
theorem j_wj_X1_fill_190 {post post1 post2 : Int32 → mS → Prop} {x3 : Int32} {u : mS} (h : wj_X1_fill_190 post x3 u) (g : wj_X1_fill_190 post1 x3 u) (hp : ∀ (b0_ : Int32) (b1_ : mS), post b0_ b1_ → post1 b0_ b1_ → post2 b0_ b1_) : wj_X1_fill_190 post2 x3 u := by
  exact hp _ _ h g
theorem j_wj_X1_fill_59 {K59 K591 K592 : Int32 → Int32 → Int32 → Int32 → mS → Prop} {post post1 post2 : Int32 → mS → Prop} {x3 : Int32} {x4 : Int32} {x5 : Int32} {x6 : Int32} {u : mS} (h : wj_X1_fill_59 K59 post x3 x4 x5 x6 u) (g : wj_X1_fill_59 K591 post1 x3 x4 x5 x6 u) (hK59 : ∀ (b0_ : Int32) (b1_ : Int32) (b2_ : Int32) (b3_ : Int32) (b4_ : mS), K59 b0_ b1_ b2_ b3_ b4_ → K591 b0_ b1_ b2_ b3_ b4_ → K592 b0_ b1_ b2_ b3_ b4_) (hp : ∀ (b0_ : Int32) (b1_ : mS), post b0_ b1_ → post1 b0_ b1_ → post2 b0_ b1_) : wj_X1_fill_59 K592 post2 x3 x4 x5 x6 u := by
  refine ⟨fun c1 => ?_, fun c2 => ?_⟩
  · have h3 := h.1 c1
    have g4 := g.1 c1
    exact j_wj_X1_fill_190 h3 g4 hp
  · have h5 := h.2 c2
    have g6 := g.2 c2
    refine ⟨fun c7 => ?_, fun c8 => ?_⟩
    · have h9 := h5.1 c7
      have g10 := g6.1 c7
      exact j_wj_X1_fill_190 h9 g10 hp
    · have h11 := h5.2 c8
      have g12 := g6.2 c8
      intro y13 e14
      have h15 := h11 y13 e14
      have g16 := g12 y13 e14
      refine ⟨fun c17 => ?_, fun c18 => ?_⟩
      · have h19 := h15.1 c17
        have g20 := g16.1 c17
        exact j_wj_X1_fill_190 h19 g20 hp
      · have h21 := h15.2 c18
        have g22 := g16.2 c18
        refine j_wp_X5_isHeld h21 g22 (fun w25 w26 h23 g24 => ?_)
        refine ⟨fun c27 => ?_, fun c28 => ?_⟩
        · have h29 := h23.1 c27
          have g30 := g24.1 c27
          exact j_wj_X1_fill_147 h29 g30 hK59 hp
        · have h31 := h23.2 c28
          have g32 := g24.2 c28
          refine j_wp_X4_isIn h31 g32 (fun w35 w36 h33 g34 => ?_)
          refine ⟨fun c37 => ?_, fun c38 => ?_⟩
          · have h39 := h33.1 c37
            have g40 := g34.1 c37
            exact j_wj_X1_fill_147 h39 g40 hK59 hp
          · have h41 := h33.2 c38
            have g42 := g34.2 c38
            refine j_wp_X1_roundsFor h41 g42 (fun w45 w46 h43 g44 => ?_)
            refine ⟨fun c47 => ?_, fun c48 => ?_⟩
            · have h49 := h43.1 c47
              have g50 := g44.1 c47
              refine j_wp_X4_enter h49 g50 (fun w53 h51 g52 => ?_)
              exact j_wj_X1_fill_147 h51 g52 hK59 hp
            · have h54 := h43.2 c48
              have g55 := g44.2 c48
              refine j_wp_X5_after h54 g55 (fun w58 w59 h56 g57 => ?_)
              intro y60 e61
              have h62 := h56 y60 e61
              have g63 := g57 y60 e61
              exact j_wj_X1_fill_184 h62 g63 hK59 hp
theorem j_wp_X1_fill {x1 : Int32} {x2 : Int32} {u : mS} {post post1 post2 : Int32 → mS → Prop} (h : wp_X1_fill x1 x2 u post) (g : wp_X1_fill x1 x2 u post1) (hp : ∀ (b0_ : Int32) (b1_ : mS), post b0_ b1_ → post1 b0_ b1_ → post2 b0_ b1_) : wp_X1_fill x1 x2 u post2 := by
  intro y1 e2
  have h3 := h y1 e2
  have g4 := g y1 e2
  intro y5 e6
  have h7 := h3 y5 e6
  have g8 := g4 y5 e6
  intro y9 e10
  have h11 := h7 y9 e10
  have g12 := g8 y9 e10
  intro y13 e14
  have h15 := h11 y13 e14
  have g16 := g12 y13 e14
  refine j_wp_X4_clear h15 g16 (fun w19 h17 g18 => ?_)
  refine j_wp_X5_startTree h17 g18 (fun w22 w23 h20 g21 => ?_)
  intro y24 e25
  have h26 := h20 y24 e25
  have g27 := g21 y24 e25
  refine j_wp_X5_after h26 g27 (fun w30 w31 h28 g29 => ?_)
  refine j_wp_X5_after h28 g29 (fun w34 w35 h32 g33 => ?_)
  obtain ⟨n36, h38⟩ := h32
  obtain ⟨m37, g39⟩ := g33
  refine ⟨n36, mL5_j ?_ n36 m37 _ _ _ _ _ h38 g39⟩
  intro K_ L_ M_ hK_ _ _ _ _ _ a_ b_
  exact j_wj_X1_fill_59 a_ b_ hK_ hp
theorem j_wp_X0_expandByRules {X : Int32 → Int32 → mS → (mS → Prop) → Prop} {x1 : Int32} {x2 : Int32} {x3 : Int32} {u : mS} {post post1 post2 : mS → Prop} (hX : ∀ {t_ x_ : Int32} {v_ : mS} {q1_ q2_ q3_ : mS → Prop}, X t_ x_ v_ q1_ → X t_ x_ v_ q2_ → (∀ w_, q1_ w_ → q2_ w_ → q3_ w_) → X t_ x_ v_ q3_) (h : wp_X0_expandByRules X x1 x2 x3 u post) (g : wp_X0_expandByRules X x1 x2 x3 u post1) (hp : ∀ (b0_ : mS), post b0_ → post1 b0_ → post2 b0_) : wp_X0_expandByRules X x1 x2 x3 u post2 := by
  intro y1 e2
  have h3 := h y1 e2
  have g4 := g y1 e2
  refine ⟨fun c5 => ?_, fun c6 => ?_⟩
  · have h7 := h3.1 c5
    have g8 := g4.1 c5
    intro y9 e10
    have h11 := h7 y9 e10
    have g12 := g8 y9 e10
    intro y13 e14
    have h15 := h11 y13 e14
    have g16 := g12 y13 e14
    intro y17 e18
    have h19 := h15 y17 e18
    have g20 := g16 y17 e18
    refine j_wp_X0_newScope h19 g20 (fun w23 w24 h21 g22 => ?_)
    refine ⟨fun c25 => ?_, fun c26 => ?_⟩
    · have h27 := h21.1 c25
      have g28 := g22.1 c25
      refine j_wp_X5_turnScope h27 g28 (fun w31 h29 g30 => ?_)
      refine j_wp_X1_firstRule h29 g30 (fun w34 w35 h32 g33 => ?_)
      refine ⟨fun c36 => ?_, fun c37 => ?_⟩
      · have h38 := h32.1 c36
        have g39 := g33.1 c36
        refine j_wp_X1_fill h38 g39 (fun w42 w43 h40 g41 => ?_)
        intro y44 e45
        have h46 := h40 y44 e45
        have g47 := g41 y44 e45
        refine ⟨fun c48 => ?_, fun c49 => ?_⟩
        · have h50 := h46.1 c48
          have g51 := g47.1 c48
          refine j_wp_X5_turnScope h50 g51 (fun w54 h52 g53 => ?_)
          refine hX h52 g53 (fun w57 h55 g56 => ?_)
          exact hp _ h55 g56
        · have h58 := h46.2 c49
          have g59 := g47.2 c49
          exact hp _ h58 g59
      · have h60 := h32.2 c37
        have g61 := g33.2 c37
        refine j_wp_X2_fail h60 g61 (fun w64 h62 g63 => ?_)
        exact hp _ h62 g63
    · have h65 := h21.2 c26
      have g66 := g22.2 c26
      exact hp _ h65 g66
  · have h67 := h3.2 c6
    have g68 := g4.2 c6
    refine j_wp_X2_fail h67 g68 (fun w71 h69 g70 => ?_)
    exact hp _ h69 g70
theorem j_wj_X0_expandEach_58 {X : Int32 → Int32 → mS → (mS → Prop) → Prop} {K28 K281 K282 : Int32 → Int32 → Int32 → Int32 → mS → Prop} {post post1 post2 : mS → Prop} {x2 : Int32} {x3 : Int32} {x4 : Int32} {x5 : Int32} {u : mS} (hX : ∀ {t_ x_ : Int32} {v_ : mS} {q1_ q2_ q3_ : mS → Prop}, X t_ x_ v_ q1_ → X t_ x_ v_ q2_ → (∀ w_, q1_ w_ → q2_ w_ → q3_ w_) → X t_ x_ v_ q3_) (h : wj_X0_expandEach_58 X K28 post x2 x3 x4 x5 u) (g : wj_X0_expandEach_58 X K281 post1 x2 x3 x4 x5 u) (hK28 : ∀ (b0_ : Int32) (b1_ : Int32) (b2_ : Int32) (b3_ : Int32) (b4_ : mS), K28 b0_ b1_ b2_ b3_ b4_ → K281 b0_ b1_ b2_ b3_ b4_ → K282 b0_ b1_ b2_ b3_ b4_) (hp : ∀ (b0_ : mS), post b0_ → post1 b0_ → post2 b0_) : wj_X0_expandEach_58 X K282 post2 x2 x3 x4 x5 u := by
  intro y1 e2
  have h3 := h y1 e2
  have g4 := g y1 e2
  refine hX h3 g4 (fun w7 h5 g6 => ?_)
  refine j_wp_X5_after h5 g6 (fun w10 w11 h8 g9 => ?_)
  intro y12 e13
  have h14 := h8 y12 e13
  have g15 := g9 y12 e13
  exact hK28 _ _ _ _ _ h14 g15
theorem j_wj_X0_expandEach_84 {X : Int32 → Int32 → mS → (mS → Prop) → Prop} {post post1 post2 : mS → Prop} {u : mS} (hX : ∀ {t_ x_ : Int32} {v_ : mS} {q1_ q2_ q3_ : mS → Prop}, X t_ x_ v_ q1_ → X t_ x_ v_ q2_ → (∀ w_, q1_ w_ → q2_ w_ → q3_ w_) → X t_ x_ v_ q3_) (h : wj_X0_expandEach_84 X post u) (g : wj_X0_expandEach_84 X post1 u) (hp : ∀ (b0_ : mS), post b0_ → post1 b0_ → post2 b0_) : wj_X0_expandEach_84 X post2 u := by
  refine j_wp_X2_put h g (fun w3 h1 g2 => ?_)
  exact hp _ h1 g2
theorem j_wj_X0_expandEach_28 {X : Int32 → Int32 → mS → (mS → Prop) → Prop} {K28 K281 K282 : Int32 → Int32 → Int32 → Int32 → mS → Prop} {post post1 post2 : mS → Prop} {x2 : Int32} {x3 : Int32} {x4 : Int32} {x5 : Int32} {u : mS} (hX : ∀ {t_ x_ : Int32} {v_ : mS} {q1_ q2_ q3_ : mS → Prop}, X t_ x_ v_ q1_ → X t_ x_ v_ q2_ → (∀ w_, q1_ w_ → q2_ w_ → q3_ w_) → X t_ x_ v_ q3_) (h : wj_X0_expandEach_28 X K28 post x2 x3 x4 x5 u) (g : wj_X0_expandEach_28 X K281 post1 x2 x3 x4 x5 u) (hK28 : ∀ (b0_ : Int32) (b1_ : Int32) (b2_ : Int32) (b3_ : Int32) (b4_ : mS), K28 b0_ b1_ b2_ b3_ b4_ → K281 b0_ b1_ b2_ b3_ b4_ → K282 b0_ b1_ b2_ b3_ b4_) (hp : ∀ (b0_ : mS), post b0_ → post1 b0_ → post2 b0_) : wj_X0_expandEach_28 X K282 post2 x2 x3 x4 x5 u := by
  refine ⟨fun c1 => ?_, fun c2 => ?_⟩
  · have h3 := h.1 c1
    have g4 := g.1 c1
    exact j_wj_X0_expandEach_84 (hX := hX) h3 g4 hp
  · have h5 := h.2 c2
    have g6 := g.2 c2
    intro y7 e8
    have h9 := h5 y7 e8
    have g10 := g6 y7 e8
    refine ⟨fun c11 => ?_, fun c12 => ?_⟩
    · have h13 := h9.1 c11
      have g14 := g10.1 c11
      exact j_wj_X0_expandEach_84 (hX := hX) h13 g14 hp
    · have h15 := h9.2 c12
      have g16 := g10.2 c12
      refine ⟨fun c17 => ?_, fun c18 => ?_⟩
      · have h19 := h15.1 c17
        have g20 := g16.1 c17
        exact j_wj_X0_expandEach_58 (hX := hX) h19 g20 hK28 hp
      · have h21 := h15.2 c18
        have g22 := g16.2 c18
        refine j_wp_X2_put h21 g22 (fun w25 h23 g24 => ?_)
        exact j_wj_X0_expandEach_58 (hX := hX) h23 g24 hK28 hp
theorem j_wp_X0_expandEach {X : Int32 → Int32 → mS → (mS → Prop) → Prop} {x1 : Int32} {x2 : Int32} {u : mS} {post post1 post2 : mS → Prop} (hX : ∀ {t_ x_ : Int32} {v_ : mS} {q1_ q2_ q3_ : mS → Prop}, X t_ x_ v_ q1_ → X t_ x_ v_ q2_ → (∀ w_, q1_ w_ → q2_ w_ → q3_ w_) → X t_ x_ v_ q3_) (h : wp_X0_expandEach X x1 x2 u post) (g : wp_X0_expandEach X x1 x2 u post1) (hp : ∀ (b0_ : mS), post b0_ → post1 b0_ → post2 b0_) : wp_X0_expandEach X x1 x2 u post2 := by
  intro y1 e2
  have h3 := h y1 e2
  have g4 := g y1 e2
  refine j_wp_X5_itemsFrom h3 g4 (fun w7 w8 h5 g6 => ?_)
  intro y9 e10
  have h11 := h5 y9 e10
  have g12 := g6 y9 e10
  refine j_wp_X2_put h11 g12 (fun w15 h13 g14 => ?_)
  obtain ⟨n16, h18⟩ := h13
  obtain ⟨m17, g19⟩ := g14
  refine ⟨n16, mL5_j ?_ n16 m17 _ _ _ _ _ h18 g19⟩
  intro K_ L_ M_ hK_ _ _ _ _ _ a_ b_
  exact j_wj_X0_expandEach_28 (hX := hX) a_ b_ hK_ hp
theorem j_wj_X0_expandList_60 {X : Int32 → Int32 → mS → (mS → Prop) → Prop} {post post1 post2 : mS → Prop} {x1 : Int32} {x2 : Int32} {z0 : Int32} {u : mS} (hX : ∀ {t_ x_ : Int32} {v_ : mS} {q1_ q2_ q3_ : mS → Prop}, X t_ x_ v_ q1_ → X t_ x_ v_ q2_ → (∀ w_, q1_ w_ → q2_ w_ → q3_ w_) → X t_ x_ v_ q3_) (h : wj_X0_expandList_60 X post x1 x2 z0 u) (g : wj_X0_expandList_60 X post1 x1 x2 z0 u) (hp : ∀ (b0_ : mS), post b0_ → post1 b0_ → post2 b0_) : wj_X0_expandList_60 X post2 x1 x2 z0 u := by
  intro y1 e2
  have h3 := h y1 e2
  have g4 := g y1 e2
  refine ⟨fun c5 => ?_, fun c6 => ?_⟩
  · have h7 := h3.1 c5
    have g8 := g4.1 c5
    refine j_wp_X7_kindOf h7 g8 (fun w11 w12 h9 g10 => ?_)
    refine ⟨fun c13 => ?_, fun c14 => ?_, fun c15 => ?_, fun c16 => ?_, fun c17 => ?_, fun c18 c19 c20 c21 c22 => ?_⟩
    · have h23 := h9.1 c13
      have g24 := g10.1 c13
      refine j_wp_X0_expandFn (hX := hX) h23 g24 (fun w27 h25 g26 => ?_)
      exact hp _ h25 g26
    · have h28 := h9.2.1 c14
      have g29 := g10.2.1 c14
      refine j_wp_X0_expandIf (hX := hX) h28 g29 (fun w32 h30 g31 => ?_)
      exact hp _ h30 g31
    · have h33 := h9.2.2.1 c15
      have g34 := g10.2.2.1 c15
      refine j_wp_X0_expandQ h33 g34 (fun w37 h35 g36 => ?_)
      exact hp _ h35 g36
    · have h38 := h9.2.2.2.1 c16
      have g39 := g10.2.2.2.1 c16
      refine j_wp_X0_expandLs (hX := hX) h38 g39 (fun w42 h40 g41 => ?_)
      exact hp _ h40 g41
    · have h43 := h9.2.2.2.2.1 c17
      have g44 := g10.2.2.2.2.1 c17
      refine j_wp_X7_valueOf h43 g44 (fun w47 w48 h45 g46 => ?_)
      refine j_wp_X0_expandByRules (hX := hX) h45 g46 (fun w51 h49 g50 => ?_)
      exact hp _ h49 g50
    · have h52 := h9.2.2.2.2.2 c18 c19 c20 c21 c22
      have g53 := g10.2.2.2.2.2 c18 c19 c20 c21 c22
      refine j_wp_X0_expandEach (hX := hX) h52 g53 (fun w56 h54 g55 => ?_)
      exact hp _ h54 g55
  · have h57 := h3.2 c6
    have g58 := g4.2 c6
    exact hp _ h57 g58
theorem j_wp_X0_expandList {X : Int32 → Int32 → mS → (mS → Prop) → Prop} {x1 : Int32} {x2 : Int32} {u : mS} {post post1 post2 : mS → Prop} (hX : ∀ {t_ x_ : Int32} {v_ : mS} {q1_ q2_ q3_ : mS → Prop}, X t_ x_ v_ q1_ → X t_ x_ v_ q2_ → (∀ w_, q1_ w_ → q2_ w_ → q3_ w_) → X t_ x_ v_ q3_) (h : wp_X0_expandList X x1 x2 u post) (g : wp_X0_expandList X x1 x2 u post1) (hp : ∀ (b0_ : mS), post b0_ → post1 b0_ → post2 b0_) : wp_X0_expandList X x1 x2 u post2 := by
  intro y1 e2
  have h3 := h y1 e2
  have g4 := g y1 e2
  refine j_wp_X5_wordAt h3 g4 (fun w7 w8 h5 g6 => ?_)
  refine ⟨fun c9 => ?_, fun c10 => ?_⟩
  · have h11 := h5.1 c9
    have g12 := g6.1 c9
    refine ⟨fun c13 => ?_, fun c14 => ?_⟩
    · have h15 := h11.1 c13
      have g16 := g12.1 c13
      refine j_wp_X8_isName h15 g16 (fun w19 w20 h17 g18 => ?_)
      refine ⟨fun c21 => ?_, fun c22 => ?_⟩
      · have h23 := h17.1 c21
        have g24 := g18.1 c21
        exact j_wj_X0_expandList_60 (hX := hX) h23 g24 hp
      · have h25 := h17.2 c22
        have g26 := g18.2 c22
        intro y27 e28
        have h29 := h25 y27 e28
        have g30 := g26 y27 e28
        refine j_wp_X0_meaningOf h29 g30 (fun w33 w34 h31 g32 => ?_)
        exact j_wj_X0_expandList_60 (hX := hX) h31 g32 hp
    · have h35 := h11.2 c14
      have g36 := g12.2 c14
      refine j_wp_X2_fail h35 g36 (fun w39 h37 g38 => ?_)
      exact hp _ h37 g38
  · have h40 := h5.2 c10
    have g41 := g6.2 c10
    refine j_wp_X2_fail h40 g41 (fun w44 h42 g43 => ?_)
    exact hp _ h42 g43
theorem j_wp_X0_expandTree {X : Int32 → Int32 → mS → (mS → Prop) → Prop} {x1 : Int32} {x2 : Int32} {u : mS} {post post1 post2 : mS → Prop} (hX : ∀ {t_ x_ : Int32} {v_ : mS} {q1_ q2_ q3_ : mS → Prop}, X t_ x_ v_ q1_ → X t_ x_ v_ q2_ → (∀ w_, q1_ w_ → q2_ w_ → q3_ w_) → X t_ x_ v_ q3_) (h : wp_X0_expandTree X x1 x2 u post) (g : wp_X0_expandTree X x1 x2 u post1) (hp : ∀ (b0_ : mS), post b0_ → post1 b0_ → post2 b0_) : wp_X0_expandTree X x1 x2 u post2 := by
  intro y1 e2
  have h3 := h y1 e2
  have g4 := g y1 e2
  refine ⟨fun c5 => ?_, fun c6 => ?_⟩
  · have h7 := h3.1 c5
    have g8 := g4.1 c5
    refine j_wp_X5_wordAt h7 g8 (fun w11 w12 h9 g10 => ?_)
    refine ⟨fun c13 => ?_, fun c14 => ?_⟩
    · have h15 := h9.1 c13
      have g16 := g10.1 c13
      refine j_wp_X8_isName h15 g16 (fun w19 w20 h17 g18 => ?_)
      refine ⟨fun c21 => ?_, fun c22 => ?_⟩
      · have h23 := h17.1 c21
        have g24 := g18.1 c21
        refine j_wp_X8_isNumber h23 g24 (fun w27 w28 h25 g26 => ?_)
        refine ⟨fun c29 => ?_, fun c30 => ?_⟩
        · have h31 := h25.1 c29
          have g32 := g26.1 c29
          refine j_wp_X2_fail h31 g32 (fun w35 h33 g34 => ?_)
          exact hp _ h33 g34
        · have h36 := h25.2 c30
          have g37 := g26.2 c30
          refine j_wp_X2_putNumber h36 g37 (fun w40 h38 g39 => ?_)
          exact hp _ h38 g39
      · have h41 := h17.2 c22
        have g42 := g18.2 c22
        refine j_wp_X0_expandName h41 g42 (fun w45 h43 g44 => ?_)
        exact hp _ h43 g44
    · have h46 := h9.2 c14
      have g47 := g10.2 c14
      refine j_wp_X0_expandList (hX := hX) h46 g47 (fun w50 h48 g49 => ?_)
      exact hp _ h48 g49
  · have h51 := h3.2 c6
    have g52 := g4.2 c6
    exact hp _ h51 g52
theorem j_wpT : ∀ (d : Nat) {t x : Int32} {u : mS} {q1 q2 q3 : mS → Prop}, wpT d t x u q1 → wpT d t x u q2 → (∀ w, q1 w → q2 w → q3 w) → wpT d t x u q3
  | 0, _, _, _, _, _, _, h, _, _ => h.elim
  | d + 1, _, _, _, _, _, _, h, g, hp => j_wp_X0_expandTree (hX := fun h g hq => j_wpT d h g hq) h g hp
theorem j_wpT24 {t x : Int32} {u : mS} {q1 q2 q3 : mS → Prop} (h : wpT 24 t x u q1) (g : wpT 24 t x u q2) (hp : ∀ w, q1 w → q2 w → q3 w) : wpT 24 t x u q3 := j_wpT 24 h g hp
theorem j_wp_X5_restart {u : mS} {post post1 post2 : mS → Prop} (h : wp_X5_restart u post) (g : wp_X5_restart u post1) (hp : ∀ (b0_ : mS), post b0_ → post1 b0_ → post2 b0_) : wp_X5_restart u post2 := by
  intro y1 e2
  have h3 := h y1 e2
  have g4 := g y1 e2
  intro y5 e6
  have h7 := h3 y5 e6
  have g8 := g4 y5 e6
  exact hp _ h7 g8
theorem j_wp_X3_isWhole {u : mS} {post post1 post2 : Int32 → mS → Prop} (h : wp_X3_isWhole u post) (g : wp_X3_isWhole u post1) (hp : ∀ (b0_ : Int32) (b1_ : mS), post b0_ b1_ → post1 b0_ b1_ → post2 b0_ b1_) : wp_X3_isWhole u post2 := by
  intro y1 e2
  have h3 := h y1 e2
  have g4 := g y1 e2
  refine ⟨fun c5 => ?_, fun c6 => ?_⟩
  · have h7 := h3.1 c5
    have g8 := g4.1 c5
    exact hp _ _ h7 g8
  · have h9 := h3.2 c6
    have g10 := g4.2 c6
    intro y11 e12
    have h13 := h9 y11 e12
    have g14 := g10 y11 e12
    refine ⟨fun c15 => ?_, fun c16 => ?_⟩
    · have h17 := h13.1 c15
      have g18 := g14.1 c15
      exact hp _ _ h17 g18
    · have h19 := h13.2 c16
      have g20 := g14.2 c16
      exact hp _ _ h19 g20
theorem j_wj_X3_runLength_1_56 {post post1 post2 : Int32 → mS → Prop} {x5 : Int32} {u : mS} (h : wj_X3_runLength_1_56 post x5 u) (g : wj_X3_runLength_1_56 post1 x5 u) (hp : ∀ (b0_ : Int32) (b1_ : mS), post b0_ b1_ → post1 b0_ b1_ → post2 b0_ b1_) : wj_X3_runLength_1_56 post2 x5 u := by
  exact hp _ _ h g
theorem j_wj_X3_runLength_1_14 {K14 K141 K142 : Int32 → Int32 → Int32 → Int32 → Int32 → mS → Prop} {post post1 post2 : Int32 → mS → Prop} {x1 : Int32} {x3 : Int32} {x4 : Int32} {x5 : Int32} {x6 : Int32} {u : mS} (h : wj_X3_runLength_1_14 K14 post x1 x3 x4 x5 x6 u) (g : wj_X3_runLength_1_14 K141 post1 x1 x3 x4 x5 x6 u) (hK14 : ∀ (b0_ : Int32) (b1_ : Int32) (b2_ : Int32) (b3_ : Int32) (b4_ : Int32) (b5_ : mS), K14 b0_ b1_ b2_ b3_ b4_ b5_ → K141 b0_ b1_ b2_ b3_ b4_ b5_ → K142 b0_ b1_ b2_ b3_ b4_ b5_) (hp : ∀ (b0_ : Int32) (b1_ : mS), post b0_ b1_ → post1 b0_ b1_ → post2 b0_ b1_) : wj_X3_runLength_1_14 K142 post2 x1 x3 x4 x5 x6 u := by
  refine ⟨fun c1 => ?_, fun c2 => ?_⟩
  · have h3 := h.1 c1
    have g4 := g.1 c1
    exact j_wj_X3_runLength_1_56 h3 g4 hp
  · have h5 := h.2 c2
    have g6 := g.2 c2
    refine ⟨fun c7 => ?_, fun c8 => ?_⟩
    · have h9 := h5.1 c7
      have g10 := g6.1 c7
      exact j_wj_X3_runLength_1_56 h9 g10 hp
    · have h11 := h5.2 c8
      have g12 := g6.2 c8
      refine ⟨h11.1, ?_⟩
      have h13 := h11.2
      have g14 := g12.2
      intro y15 e16
      have h17 := h13 y15 e16
      have g18 := g14 y15 e16
      refine ⟨fun c19 => ?_, fun c20 => ?_⟩
      · have h21 := h17.1 c19
        have g22 := g18.1 c19
        exact j_wj_X3_runLength_1_56 h21 g22 hp
      · have h23 := h17.2 c20
        have g24 := g18.2 c20
        refine ⟨h23.1, ?_⟩
        have h25 := h23.2
        have g26 := g24.2
        intro y27 e28
        have h29 := h25 y27 e28
        have g30 := g26 y27 e28
        refine ⟨fun c31 => ?_, fun c32 => ?_⟩
        · have h33 := h29.1 c31
          have g34 := g30.1 c31
          intro y35 e36
          have h37 := h33 y35 e36
          have g38 := g34 y35 e36
          intro y39 e40
          have h41 := h37 y39 e40
          have g42 := g38 y39 e40
          exact hK14 _ _ _ _ _ _ h41 g42
        · have h43 := h29.2 c32
          have g44 := g30.2 c32
          exact j_wj_X3_runLength_1_56 h43 g44 hp
theorem j_wj_X3_runLength_1_12 {post post1 post2 : Int32 → mS → Prop} {x1 : Int32} {x3 : Int32} {x4 : Int32} {x5 : Int32} {z0 : Int32} {u : mS} (h : wj_X3_runLength_1_12 post x1 x3 x4 x5 z0 u) (g : wj_X3_runLength_1_12 post1 x1 x3 x4 x5 z0 u) (hp : ∀ (b0_ : Int32) (b1_ : mS), post b0_ b1_ → post1 b0_ b1_ → post2 b0_ b1_) : wj_X3_runLength_1_12 post2 x1 x3 x4 x5 z0 u := by
  obtain ⟨n1, h3⟩ := h
  obtain ⟨m2, g4⟩ := g
  refine ⟨n1, mL6_j ?_ n1 m2 _ _ _ _ _ _ h3 g4⟩
  intro K_ L_ M_ hK_ _ _ _ _ _ _ a_ b_
  exact j_wj_X3_runLength_1_14 a_ b_ hK_ hp
theorem j_wp_X3_runLength_1 {x1 : Int32} {x2 : Int32} {x3 : Int32} {x4 : Int32} {u : mS} {post post1 post2 : Int32 → mS → Prop} (h : wp_X3_runLength_1 x1 x2 x3 x4 u post) (g : wp_X3_runLength_1 x1 x2 x3 x4 u post1) (hp : ∀ (b0_ : Int32) (b1_ : mS), post b0_ b1_ → post1 b0_ b1_ → post2 b0_ b1_) : wp_X3_runLength_1 x1 x2 x3 x4 u post2 := by
  refine ⟨fun c1 => ?_, fun c2 => ?_⟩
  · have h3 := h.1 c1
    have g4 := g.1 c1
    exact j_wj_X3_runLength_1_12 h3 g4 hp
  · have h5 := h.2 c2
    have g6 := g.2 c2
    exact j_wj_X3_runLength_1_12 h5 g6 hp
theorem j_wj_X3_readName_1_54 {post post1 post2 : Int32 → mS → Prop} {x3 : Int32} {x4 : Int32} {u : mS} (h : wj_X3_readName_1_54 post x3 x4 u) (g : wj_X3_readName_1_54 post1 x3 x4 u) (hp : ∀ (b0_ : Int32) (b1_ : mS), post b0_ b1_ → post1 b0_ b1_ → post2 b0_ b1_) : wj_X3_readName_1_54 post2 x3 x4 u := by
  refine j_wp_X5_add h g (fun w3 h1 g2 => ?_)
  exact hp _ _ h1 g2
theorem j_wj_X3_readName_1_21 {K21 K211 K212 : Int32 → Int32 → Int32 → Int32 → mS → Prop} {post post1 post2 : Int32 → mS → Prop} {x2 : Int32} {x3 : Int32} {x4 : Int32} {x5 : Int32} {u : mS} (h : wj_X3_readName_1_21 K21 post x2 x3 x4 x5 u) (g : wj_X3_readName_1_21 K211 post1 x2 x3 x4 x5 u) (hK21 : ∀ (b0_ : Int32) (b1_ : Int32) (b2_ : Int32) (b3_ : Int32) (b4_ : mS), K21 b0_ b1_ b2_ b3_ b4_ → K211 b0_ b1_ b2_ b3_ b4_ → K212 b0_ b1_ b2_ b3_ b4_) (hp : ∀ (b0_ : Int32) (b1_ : mS), post b0_ b1_ → post1 b0_ b1_ → post2 b0_ b1_) : wj_X3_readName_1_21 K212 post2 x2 x3 x4 x5 u := by
  intro y1 e2
  have h3 := h y1 e2
  have g4 := g y1 e2
  refine ⟨fun c5 => ?_, fun c6 => ?_⟩
  · have h7 := h3.1 c5
    have g8 := g4.1 c5
    exact j_wj_X3_readName_1_54 h7 g8 hp
  · have h9 := h3.2 c6
    have g10 := g4.2 c6
    refine ⟨fun c11 => ?_, fun c12 => ?_⟩
    · have h13 := h9.1 c11
      have g14 := g10.1 c11
      exact j_wj_X3_readName_1_54 h13 g14 hp
    · have h15 := h9.2 c12
      have g16 := g10.2 c12
      intro y17 e18
      have h19 := h15 y17 e18
      have g20 := g16 y17 e18
      refine ⟨h19.1, ?_⟩
      have h21 := h19.2
      have g22 := g20.2
      intro y23 e24
      have h25 := h21 y23 e24
      have g26 := g22 y23 e24
      intro y27 e28
      have h29 := h25 y27 e28
      have g30 := g26 y27 e28
      intro y31 e32
      have h33 := h29 y31 e32
      have g34 := g30 y31 e32
      exact hK21 _ _ _ _ _ h33 g34
theorem j_wj_X3_readName_1_19 {post post1 post2 : Int32 → mS → Prop} {x2 : Int32} {x3 : Int32} {x4 : Int32} {z0 : Int32} {u : mS} (h : wj_X3_readName_1_19 post x2 x3 x4 z0 u) (g : wj_X3_readName_1_19 post1 x2 x3 x4 z0 u) (hp : ∀ (b0_ : Int32) (b1_ : mS), post b0_ b1_ → post1 b0_ b1_ → post2 b0_ b1_) : wj_X3_readName_1_19 post2 x2 x3 x4 z0 u := by
  obtain ⟨n1, h3⟩ := h
  obtain ⟨m2, g4⟩ := g
  refine ⟨n1, mL5_j ?_ n1 m2 _ _ _ _ _ h3 g4⟩
  intro K_ L_ M_ hK_ _ _ _ _ _ a_ b_
  exact j_wj_X3_readName_1_21 a_ b_ hK_ hp
theorem j_wp_X3_readName_1 {x2 : Int32} {x3 : Int32} {u : mS} {post post1 post2 : Int32 → mS → Prop} (h : wp_X3_readName_1 x2 x3 u post) (g : wp_X3_readName_1 x2 x3 u post1) (hp : ∀ (b0_ : Int32) (b1_ : mS), post b0_ b1_ → post1 b0_ b1_ → post2 b0_ b1_) : wp_X3_readName_1 x2 x3 u post2 := by
  refine ⟨fun c1 => ?_, fun c2 => ?_⟩
  · have h3 := h.1 c1
    have g4 := g.1 c1
    refine ⟨fun c5 => ?_, fun c6 => ?_⟩
    · have h7 := h3.1 c5
      have g8 := g4.1 c5
      exact j_wj_X3_readName_1_19 h7 g8 hp
    · have h9 := h3.2 c6
      have g10 := g4.2 c6
      exact j_wj_X3_readName_1_19 h9 g10 hp
  · have h11 := h.2 c2
    have g12 := g.2 c2
    exact hp _ _ h11 g12
theorem j_wj_X3_readNumber_1_72 {post post1 post2 : Int32 → mS → Prop} {x3 : Int32} {x4 : Int32} {u : mS} (h : wj_X3_readNumber_1_72 post x3 x4 u) (g : wj_X3_readNumber_1_72 post1 x3 x4 u) (hp : ∀ (b0_ : Int32) (b1_ : mS), post b0_ b1_ → post1 b0_ b1_ → post2 b0_ b1_) : wj_X3_readNumber_1_72 post2 x3 x4 u := by
  refine j_wp_X5_add h g (fun w3 h1 g2 => ?_)
  exact hp _ _ h1 g2
theorem j_wj_X3_readNumber_1_36 {K36 K361 K362 : Int32 → Int32 → Int32 → Int32 → mS → Prop} {post post1 post2 : Int32 → mS → Prop} {x2 : Int32} {x3 : Int32} {x4 : Int32} {x5 : Int32} {u : mS} (h : wj_X3_readNumber_1_36 K36 post x2 x3 x4 x5 u) (g : wj_X3_readNumber_1_36 K361 post1 x2 x3 x4 x5 u) (hK36 : ∀ (b0_ : Int32) (b1_ : Int32) (b2_ : Int32) (b3_ : Int32) (b4_ : mS), K36 b0_ b1_ b2_ b3_ b4_ → K361 b0_ b1_ b2_ b3_ b4_ → K362 b0_ b1_ b2_ b3_ b4_) (hp : ∀ (b0_ : Int32) (b1_ : mS), post b0_ b1_ → post1 b0_ b1_ → post2 b0_ b1_) : wj_X3_readNumber_1_36 K362 post2 x2 x3 x4 x5 u := by
  intro y1 e2
  have h3 := h y1 e2
  have g4 := g y1 e2
  refine ⟨fun c5 => ?_, fun c6 => ?_⟩
  · have h7 := h3.1 c5
    have g8 := g4.1 c5
    exact j_wj_X3_readNumber_1_72 h7 g8 hp
  · have h9 := h3.2 c6
    have g10 := g4.2 c6
    refine ⟨fun c11 => ?_, fun c12 => ?_⟩
    · have h13 := h9.1 c11
      have g14 := g10.1 c11
      exact j_wj_X3_readNumber_1_72 h13 g14 hp
    · have h15 := h9.2 c12
      have g16 := g10.2 c12
      intro y17 e18
      have h19 := h15 y17 e18
      have g20 := g16 y17 e18
      refine ⟨h19.1, ?_⟩
      have h21 := h19.2
      have g22 := g20.2
      intro y23 e24
      have h25 := h21 y23 e24
      have g26 := g22 y23 e24
      intro y27 e28
      have h29 := h25 y27 e28
      have g30 := g26 y27 e28
      intro y31 e32
      have h33 := h29 y31 e32
      have g34 := g30 y31 e32
      intro y35 e36
      have h37 := h33 y35 e36
      have g38 := g34 y35 e36
      exact hK36 _ _ _ _ _ h37 g38
theorem j_wj_X3_readNumber_1_30 {post post1 post2 : Int32 → mS → Prop} {x2 : Int32} {x3 : Int32} {u : mS} (h : wj_X3_readNumber_1_30 post x2 x3 u) (g : wj_X3_readNumber_1_30 post1 x2 x3 u) (hp : ∀ (b0_ : Int32) (b1_ : mS), post b0_ b1_ → post1 b0_ b1_ → post2 b0_ b1_) : wj_X3_readNumber_1_30 post2 x2 x3 u := by
  obtain ⟨n1, h3⟩ := h
  obtain ⟨m2, g4⟩ := g
  refine ⟨n1, mL5_j ?_ n1 m2 _ _ _ _ _ h3 g4⟩
  intro K_ L_ M_ hK_ _ _ _ _ _ a_ b_
  exact j_wj_X3_readNumber_1_36 a_ b_ hK_ hp
theorem j_wp_X3_readNumber_1 {x2 : Int32} {x3 : Int32} {u : mS} {post post1 post2 : Int32 → mS → Prop} (h : wp_X3_readNumber_1 x2 x3 u post) (g : wp_X3_readNumber_1 x2 x3 u post1) (hp : ∀ (b0_ : Int32) (b1_ : mS), post b0_ b1_ → post1 b0_ b1_ → post2 b0_ b1_) : wp_X3_readNumber_1 x2 x3 u post2 := by
  refine ⟨fun c1 => ?_, fun c2 => ?_⟩
  · have h3 := h.1 c1
    have g4 := g.1 c1
    exact hp _ _ h3 g4
  · have h5 := h.2 c2
    have g6 := g.2 c2
    refine ⟨fun c7 => ?_, fun c8 => ?_⟩
    · have h9 := h5.1 c7
      have g10 := g6.1 c7
      exact hp _ _ h9 g10
    · have h11 := h5.2 c8
      have g12 := g6.2 c8
      refine ⟨fun c13 => ?_, fun c14 => ?_⟩
      · have h15 := h11.1 c13
        have g16 := g12.1 c13
        exact hp _ _ h15 g16
      · have h17 := h11.2 c14
        have g18 := g12.2 c14
        refine ⟨fun c19 => ?_, fun c20 => ?_⟩
        · have h21 := h17.1 c19
          have g22 := g18.1 c19
          exact j_wj_X3_readNumber_1_30 h21 g22 hp
        · have h23 := h17.2 c20
          have g24 := g18.2 c20
          refine ⟨h23.1, ?_⟩
          have h25 := h23.2
          have g26 := g24.2
          intro y27 e28
          have h29 := h25 y27 e28
          have g30 := g26 y27 e28
          refine ⟨fun c31 => ?_, fun c32 => ?_⟩
          · have h33 := h29.1 c31
            have g34 := g30.1 c31
            exact j_wj_X3_readNumber_1_30 h33 g34 hp
          · have h35 := h29.2 c32
            have g36 := g30.2 c32
            exact hp _ _ h35 g36
theorem j_wp_X3_readOpen {u : mS} {post post1 post2 : Int32 → mS → Prop} (h : wp_X3_readOpen u post) (g : wp_X3_readOpen u post1) (hp : ∀ (b0_ : Int32) (b1_ : mS), post b0_ b1_ → post1 b0_ b1_ → post2 b0_ b1_) : wp_X3_readOpen u post2 := by
  intro y1 e2
  have h3 := h y1 e2
  have g4 := g y1 e2
  refine ⟨fun c5 => ?_, fun c6 => ?_⟩
  · have h7 := h3.1 c5
    have g8 := g4.1 c5
    intro y9 e10
    have h11 := h7 y9 e10
    have g12 := g8 y9 e10
    intro y13 e14
    have h15 := h11 y13 e14
    have g16 := g12 y13 e14
    intro y17 e18
    have h19 := h15 y17 e18
    have g20 := g16 y17 e18
    refine j_wp_X5_add h19 g20 (fun w23 h21 g22 => ?_)
    exact hp _ _ h21 g22
  · have h24 := h3.2 c6
    have g25 := g4.2 c6
    exact hp _ _ h24 g25
theorem j_wp_X3_readClose {u : mS} {post post1 post2 : Int32 → mS → Prop} (h : wp_X3_readClose u post) (g : wp_X3_readClose u post1) (hp : ∀ (b0_ : Int32) (b1_ : mS), post b0_ b1_ → post1 b0_ b1_ → post2 b0_ b1_) : wp_X3_readClose u post2 := by
  intro y1 e2
  have h3 := h y1 e2
  have g4 := g y1 e2
  refine ⟨fun c5 => ?_, fun c6 => ?_⟩
  · have h7 := h3.1 c5
    have g8 := g4.1 c5
    intro y9 e10
    have h11 := h7 y9 e10
    have g12 := g8 y9 e10
    intro y13 e14
    have h15 := h11 y13 e14
    have g16 := g12 y13 e14
    intro y17 e18
    have h19 := h15 y17 e18
    have g20 := g16 y17 e18
    refine j_wp_X5_add h19 g20 (fun w23 h21 g22 => ?_)
    exact hp _ _ h21 g22
  · have h24 := h3.2 c6
    have g25 := g4.2 c6
    exact hp _ _ h24 g25
theorem j_wp_X3_readDots {x1 : Int32} {u : mS} {post post1 post2 : Int32 → mS → Prop} (h : wp_X3_readDots x1 u post) (g : wp_X3_readDots x1 u post1) (hp : ∀ (b0_ : Int32) (b1_ : mS), post b0_ b1_ → post1 b0_ b1_ → post2 b0_ b1_) : wp_X3_readDots x1 u post2 := by
  intro y1 e2
  have h3 := h y1 e2
  have g4 := g y1 e2
  intro y5 e6
  have h7 := h3 y5 e6
  have g8 := g4 y5 e6
  refine j_wp_X5_wordAt h7 g8 (fun w11 w12 h9 g10 => ?_)
  refine ⟨fun c13 => ?_, fun c14 => ?_⟩
  · have h15 := h9.1 c13
    have g16 := g10.1 c13
    exact hp _ _ h15 g16
  · have h17 := h9.2 c14
    have g18 := g10.2 c14
    intro y19 e20
    have h21 := h17 y19 e20
    have g22 := g18 y19 e20
    refine ⟨fun c23 => ?_, fun c24 => ?_⟩
    · have h25 := h21.1 c23
      have g26 := g22.1 c23
      exact hp _ _ h25 g26
    · have h27 := h21.2 c24
      have g28 := g22.2 c24
      refine ⟨fun c29 => ?_, fun c30 => ?_⟩
      · have h31 := h27.1 c29
        have g32 := g28.1 c29
        exact hp _ _ h31 g32
      · have h33 := h27.2 c30
        have g34 := g28.2 c30
        refine ⟨fun c35 => ?_, fun c36 => ?_⟩
        · have h37 := h33.1 c35
          have g38 := g34.1 c35
          refine j_wp_X5_add h37 g38 (fun w41 h39 g40 => ?_)
          exact hp _ _ h39 g40
        · have h42 := h33.2 c36
          have g43 := g34.2 c36
          exact hp _ _ h42 g43
theorem j_wj_X3_readToken_1_86 {post post1 post2 : Int32 → mS → Prop} {x2 : Int32} {x3 : Int32} {x4 : Int32} {u : mS} (h : wj_X3_readToken_1_86 post x2 x3 x4 u) (g : wj_X3_readToken_1_86 post1 x2 x3 x4 u) (hp : ∀ (b0_ : Int32) (b1_ : mS), post b0_ b1_ → post1 b0_ b1_ → post2 b0_ b1_) : wj_X3_readToken_1_86 post2 x2 x3 x4 u := by
  refine ⟨fun c1 => ?_, fun c2 => ?_, fun c3 => ?_, fun c4 => ?_, fun c5 => ?_, fun c6 => ?_, fun c7 => ?_, fun c8 => ?_, fun c9 c10 c11 c12 c13 c14 c15 c16 => ?_⟩
  · have h17 := h.1 c1
    have g18 := g.1 c1
    refine j_wp_X3_readOpen h17 g18 (fun w21 w22 h19 g20 => ?_)
    exact hp _ _ h19 g20
  · have h23 := h.2.1 c2
    have g24 := g.2.1 c2
    refine j_wp_X3_readClose h23 g24 (fun w27 w28 h25 g26 => ?_)
    exact hp _ _ h25 g26
  · have h29 := h.2.2.1 c3
    have g30 := g.2.2.1 c3
    refine j_wp_X3_readName_1 h29 g30 (fun w33 w34 h31 g32 => ?_)
    exact hp _ _ h31 g32
  · have h35 := h.2.2.2.1 c4
    have g36 := g.2.2.2.1 c4
    refine j_wp_X3_readName_1 h35 g36 (fun w39 w40 h37 g38 => ?_)
    exact hp _ _ h37 g38
  · have h41 := h.2.2.2.2.1 c5
    have g42 := g.2.2.2.2.1 c5
    refine j_wp_X3_runLength_1 h41 g42 (fun w45 w46 h43 g44 => ?_)
    refine j_wp_X3_readDots h43 g44 (fun w49 w50 h47 g48 => ?_)
    exact hp _ _ h47 g48
  · have h51 := h.2.2.2.2.2.1 c6
    have g52 := g.2.2.2.2.2.1 c6
    refine j_wp_X3_readName_1 h51 g52 (fun w55 w56 h53 g54 => ?_)
    exact hp _ _ h53 g54
  · have h57 := h.2.2.2.2.2.2.1 c7
    have g58 := g.2.2.2.2.2.2.1 c7
    refine j_wp_X3_readName_1 h57 g58 (fun w61 w62 h59 g60 => ?_)
    exact hp _ _ h59 g60
  · have h63 := h.2.2.2.2.2.2.2.1 c8
    have g64 := g.2.2.2.2.2.2.2.1 c8
    refine j_wp_X5_add h63 g64 (fun w67 h65 g66 => ?_)
    exact hp _ _ h65 g66
  · have h68 := h.2.2.2.2.2.2.2.2 c9 c10 c11 c12 c13 c14 c15 c16
    have g69 := g.2.2.2.2.2.2.2.2 c9 c10 c11 c12 c13 c14 c15 c16
    exact hp _ _ h68 g69
theorem j_wj_X3_readToken_1_55 {post post1 post2 : Int32 → mS → Prop} {x2 : Int32} {x3 : Int32} {x4 : Int32} {u : mS} (h : wj_X3_readToken_1_55 post x2 x3 x4 u) (g : wj_X3_readToken_1_55 post1 x2 x3 x4 u) (hp : ∀ (b0_ : Int32) (b1_ : mS), post b0_ b1_ → post1 b0_ b1_ → post2 b0_ b1_) : wj_X3_readToken_1_55 post2 x2 x3 x4 u := by
  refine ⟨fun c1 => ?_, fun c2 => ?_⟩
  · have h3 := h.1 c1
    have g4 := g.1 c1
    exact j_wj_X3_readToken_1_86 h3 g4 hp
  · have h5 := h.2 c2
    have g6 := g.2 c2
    refine ⟨fun c7 => ?_, fun c8 => ?_⟩
    · have h9 := h5.1 c7
      have g10 := g6.1 c7
      exact j_wj_X3_readToken_1_86 h9 g10 hp
    · have h11 := h5.2 c8
      have g12 := g6.2 c8
      refine j_wp_X3_runLength_1 h11 g12 (fun w15 w16 h13 g14 => ?_)
      refine j_wp_X3_readNumber_1 h13 g14 (fun w19 w20 h17 g18 => ?_)
      exact hp _ _ h17 g18
theorem j_wp_X3_readToken_1 {x2 : Int32} {x3 : Int32} {u : mS} {post post1 post2 : Int32 → mS → Prop} (h : wp_X3_readToken_1 x2 x3 u post) (g : wp_X3_readToken_1 x2 x3 u post1) (hp : ∀ (b0_ : Int32) (b1_ : mS), post b0_ b1_ → post1 b0_ b1_ → post2 b0_ b1_) : wp_X3_readToken_1 x2 x3 u post2 := by
  refine j_wp_X3_isWhole h g (fun w3 w4 h1 g2 => ?_)
  refine ⟨fun c5 => ?_, fun c6 => ?_⟩
  · have h7 := h1.1 c5
    have g8 := g2.1 c5
    exact hp _ _ h7 g8
  · have h9 := h1.2 c6
    have g10 := g2.2 c6
    refine ⟨fun c11 => ?_, fun c12 => ?_⟩
    · have h13 := h9.1 c11
      have g14 := g10.1 c11
      exact hp _ _ h13 g14
    · have h15 := h9.2 c12
      have g16 := g10.2 c12
      refine ⟨fun c17 => ?_, fun c18 => ?_⟩
      · have h19 := h15.1 c17
        have g20 := g16.1 c17
        refine ⟨h19.1, ?_⟩
        have h21 := h19.2
        have g22 := g20.2
        intro y23 e24
        have h25 := h21 y23 e24
        have g26 := g22 y23 e24
        refine ⟨fun c27 => ?_, fun c28 => ?_⟩
        · have h29 := h25.1 c27
          have g30 := g26.1 c27
          exact j_wj_X3_readToken_1_55 h29 g30 hp
        · have h31 := h25.2 c28
          have g32 := g26.2 c28
          refine ⟨fun c33 => ?_, fun c34 => ?_⟩
          · have h35 := h31.1 c33
            have g36 := g32.1 c33
            exact j_wj_X3_readToken_1_55 h35 g36 hp
          · have h37 := h31.2 c34
            have g38 := g32.2 c34
            refine j_wp_X3_runLength_1 h37 g38 (fun w41 w42 h39 g40 => ?_)
            refine j_wp_X3_readName_1 h39 g40 (fun w45 w46 h43 g44 => ?_)
            exact hp _ _ h43 g44
      · have h47 := h15.2 c18
        have g48 := g16.2 c18
        exact hp _ _ h47 g48
theorem j_wj_X3_read_1_59 {K25 K251 K252 : Int32 → Int32 → Int32 → mS → Prop} {post post1 post2 : Int32 → mS → Prop} {x3 : Int32} {x4 : Int32} {x5 : Int32} {z0 : Int32} {u : mS} (h : wj_X3_read_1_59 K25 post x3 x4 x5 z0 u) (g : wj_X3_read_1_59 K251 post1 x3 x4 x5 z0 u) (hK25 : ∀ (b0_ : Int32) (b1_ : Int32) (b2_ : Int32) (b3_ : mS), K25 b0_ b1_ b2_ b3_ → K251 b0_ b1_ b2_ b3_ → K252 b0_ b1_ b2_ b3_) (hp : ∀ (b0_ : Int32) (b1_ : mS), post b0_ b1_ → post1 b0_ b1_ → post2 b0_ b1_) : wj_X3_read_1_59 K252 post2 x3 x4 x5 z0 u := by
  refine ⟨fun c1 => ?_, fun c2 => ?_⟩
  · have h3 := h.1 c1
    have g4 := g.1 c1
    intro y5 e6
    have h7 := h3 y5 e6
    have g8 := g4 y5 e6
    intro y9 e10
    have h11 := h7 y9 e10
    have g12 := g8 y9 e10
    exact hK25 _ _ _ _ h11 g12
  · have h13 := h.2 c2
    have g14 := g.2 c2
    exact hp _ _ h13 g14
theorem j_wj_X3_read_1_82 {post post1 post2 : Int32 → mS → Prop} {x3 : Int32} {u : mS} (h : wj_X3_read_1_82 post x3 u) (g : wj_X3_read_1_82 post1 x3 u) (hp : ∀ (b0_ : Int32) (b1_ : mS), post b0_ b1_ → post1 b0_ b1_ → post2 b0_ b1_) : wj_X3_read_1_82 post2 x3 u := by
  refine j_wp_X3_isWhole h g (fun w3 w4 h1 g2 => ?_)
  refine ⟨fun c5 => ?_, fun c6 => ?_⟩
  · have h7 := h1.1 c5
    have g8 := g2.1 c5
    exact hp _ _ h7 g8
  · have h9 := h1.2 c6
    have g10 := g2.2 c6
    exact hp _ _ h9 g10
theorem j_wj_X3_read_1_25 {K25 K251 K252 : Int32 → Int32 → Int32 → mS → Prop} {post post1 post2 : Int32 → mS → Prop} {x3 : Int32} {x4 : Int32} {x5 : Int32} {u : mS} (h : wj_X3_read_1_25 K25 post x3 x4 x5 u) (g : wj_X3_read_1_25 K251 post1 x3 x4 x5 u) (hK25 : ∀ (b0_ : Int32) (b1_ : Int32) (b2_ : Int32) (b3_ : mS), K25 b0_ b1_ b2_ b3_ → K251 b0_ b1_ b2_ b3_ → K252 b0_ b1_ b2_ b3_) (hp : ∀ (b0_ : Int32) (b1_ : mS), post b0_ b1_ → post1 b0_ b1_ → post2 b0_ b1_) : wj_X3_read_1_25 K252 post2 x3 x4 x5 u := by
  refine ⟨fun c1 => ?_, fun c2 => ?_⟩
  · have h3 := h.1 c1
    have g4 := g.1 c1
    exact j_wj_X3_read_1_82 h3 g4 hp
  · have h5 := h.2 c2
    have g6 := g.2 c2
    refine ⟨fun c7 => ?_, fun c8 => ?_⟩
    · have h9 := h5.1 c7
      have g10 := g6.1 c7
      exact j_wj_X3_read_1_82 h9 g10 hp
    · have h11 := h5.2 c8
      have g12 := g6.2 c8
      refine ⟨h11.1, ?_⟩
      have h13 := h11.2
      have g14 := g12.2
      intro y15 e16
      have h17 := h13 y15 e16
      have g18 := g14 y15 e16
      refine ⟨fun c19 => ?_, fun c20 => ?_⟩
      · have h21 := h17.1 c19
        have g22 := g18.1 c19
        refine j_wp_X3_readToken_1 h21 g22 (fun w25 w26 h23 g24 => ?_)
        exact j_wj_X3_read_1_59 h23 g24 hK25 hp
      · have h27 := h17.2 c20
        have g28 := g18.2 c20
        exact j_wj_X3_read_1_59 h27 g28 hK25 hp
theorem j_wp_X3_read_1 {x2 : Int32} {u : mS} {post post1 post2 : Int32 → mS → Prop} (h : wp_X3_read_1 x2 u post) (g : wp_X3_read_1 x2 u post1) (hp : ∀ (b0_ : Int32) (b1_ : mS), post b0_ b1_ → post1 b0_ b1_ → post2 b0_ b1_) : wp_X3_read_1 x2 u post2 := by
  refine j_wp_X5_restart h g (fun w3 h1 g2 => ?_)
  intro y4 e5
  have h6 := h1 y4 e5
  have g7 := g2 y4 e5
  intro y8 e9
  have h10 := h6 y8 e9
  have g11 := g7 y8 e9
  obtain ⟨n12, h14⟩ := h10
  obtain ⟨m13, g15⟩ := g11
  refine ⟨n12, mL4_j ?_ n12 m13 _ _ _ _ h14 g15⟩
  intro K_ L_ M_ hK_ _ _ _ _ a_ b_
  exact j_wj_X3_read_1_25 a_ b_ hK_ hp
theorem j_wp_X8_takeTyped {u : mS} {post post1 post2 : Int32 → mS → Prop} (h : wp_X8_takeTyped u post) (g : wp_X8_takeTyped u post1) (hp : ∀ (b0_ : Int32) (b1_ : mS), post b0_ b1_ → post1 b0_ b1_ → post2 b0_ b1_) : wp_X8_takeTyped u post2 := by
  intro y1 e2
  have h3 := h y1 e2
  have g4 := g y1 e2
  refine j_wp_X3_read_1 h3 g4 (fun w7 w8 h5 g6 => ?_)
  intro y9 e10
  have h11 := h5 y9 e10
  have g12 := g6 y9 e10
  exact hp _ _ h11 g12
theorem j_wj_X7_ownSlot_52 {post post1 post2 : Int32 → mS → Prop} {u : mS} (h : wj_X7_ownSlot_52 post u) (g : wj_X7_ownSlot_52 post1 u) (hp : ∀ (b0_ : Int32) (b1_ : mS), post b0_ b1_ → post1 b0_ b1_ → post2 b0_ b1_) : wj_X7_ownSlot_52 post2 u := by
  intro y1 e2
  have h3 := h y1 e2
  have g4 := g y1 e2
  refine ⟨fun c5 => ?_, fun c6 => ?_⟩
  · have h7 := h3.1 c5
    have g8 := g4.1 c5
    exact hp _ _ h7 g8
  · have h9 := h3.2 c6
    have g10 := g4.2 c6
    intro y11 e12
    have h13 := h9 y11 e12
    have g14 := g10 y11 e12
    exact hp _ _ h13 g14
theorem j_wj_X7_ownSlot_7 {K7 K71 K72 : Int32 → Int32 → Int32 → mS → Prop} {post post1 post2 : Int32 → mS → Prop} {x1 : Int32} {x2 : Int32} {x3 : Int32} {u : mS} (h : wj_X7_ownSlot_7 K7 post x1 x2 x3 u) (g : wj_X7_ownSlot_7 K71 post1 x1 x2 x3 u) (hK7 : ∀ (b0_ : Int32) (b1_ : Int32) (b2_ : Int32) (b3_ : mS), K7 b0_ b1_ b2_ b3_ → K71 b0_ b1_ b2_ b3_ → K72 b0_ b1_ b2_ b3_) (hp : ∀ (b0_ : Int32) (b1_ : mS), post b0_ b1_ → post1 b0_ b1_ → post2 b0_ b1_) : wj_X7_ownSlot_7 K72 post2 x1 x2 x3 u := by
  intro y1 e2
  have h3 := h y1 e2
  have g4 := g y1 e2
  intro y5 e6
  have h7 := h3 y5 e6
  have g8 := g4 y5 e6
  refine ⟨fun c9 => ?_, fun c10 => ?_⟩
  · have h11 := h7.1 c9
    have g12 := g8.1 c9
    exact j_wj_X7_ownSlot_52 h11 g12 hp
  · have h13 := h7.2 c10
    have g14 := g8.2 c10
    refine ⟨fun c15 => ?_, fun c16 => ?_⟩
    · have h17 := h13.1 c15
      have g18 := g14.1 c15
      exact j_wj_X7_ownSlot_52 h17 g18 hp
    · have h19 := h13.2 c16
      have g20 := g14.2 c16
      refine ⟨h19.1, ?_⟩
      have h21 := h19.2
      have g22 := g20.2
      intro y23 e24
      have h25 := h21 y23 e24
      have g26 := g22 y23 e24
      refine ⟨fun c27 => ?_, fun c28 => ?_⟩
      · have h29 := h25.1 c27
        have g30 := g26.1 c27
        intro y31 e32
        have h33 := h29 y31 e32
        have g34 := g30 y31 e32
        exact hK7 _ _ _ _ h33 g34
      · have h35 := h25.2 c28
        have g36 := g26.2 c28
        refine ⟨fun c37 => ?_, fun c38 => ?_⟩
        · have h39 := h35.1 c37
          have g40 := g36.1 c37
          intro y41 e42
          have h43 := h39 y41 e42
          have g44 := g40 y41 e42
          exact hp _ _ h43 g44
        · have h45 := h35.2 c38
          have g46 := g36.2 c38
          exact hp _ _ h45 g46
theorem j_wp_X7_ownSlot {x1 : Int32} {u : mS} {post post1 post2 : Int32 → mS → Prop} (h : wp_X7_ownSlot x1 u post) (g : wp_X7_ownSlot x1 u post1) (hp : ∀ (b0_ : Int32) (b1_ : mS), post b0_ b1_ → post1 b0_ b1_ → post2 b0_ b1_) : wp_X7_ownSlot x1 u post2 := by
  obtain ⟨n1, h3⟩ := h
  obtain ⟨m2, g4⟩ := g
  refine ⟨n1, mL4_j ?_ n1 m2 _ _ _ _ h3 g4⟩
  intro K_ L_ M_ hK_ _ _ _ _ a_ b_
  exact j_wj_X7_ownSlot_7 a_ b_ hK_ hp
theorem j_wj_X5_keep_42 {post post1 post2 : Int32 → mS → Prop} {x1 : Int32} {u : mS} (h : wj_X5_keep_42 post x1 u) (g : wj_X5_keep_42 post1 x1 u) (hp : ∀ (b0_ : Int32) (b1_ : mS), post b0_ b1_ → post1 b0_ b1_ → post2 b0_ b1_) : wj_X5_keep_42 post2 x1 u := by
  exact hp _ _ h g
theorem j_wp_X5_keep {x1 x2 : Int32} {u : mS} {post post1 post2 : Int32 → mS → Prop} (h : wp_X5_keep x1 x2 u post) (g : wp_X5_keep x1 x2 u post1) (hp : ∀ (b0_ : Int32) (b1_ : mS), post b0_ b1_ → post1 b0_ b1_ → post2 b0_ b1_) : wp_X5_keep x1 x2 u post2 := by
  refine j_wp_X5_after h g (fun r w h g => ?_)
  intro y3 e3
  have h := h y3 e3
  have g := g y3 e3
  intro y4 e4
  have h := h y4 e4
  have g := g y4 e4
  refine ⟨fun c => j_wj_X5_keep_42 (h.1 c) (g.1 c) hp, fun c => ?_⟩
  have h := h.2 c
  have g := g.2 c
  intro y6 e6
  have h := h y6 e6
  have g := g y6 e6
  refine ⟨fun c => j_wj_X5_keep_42 (h.1 c) (g.1 c) hp, fun c => ?_⟩
  have h := h.2 c
  have g := g.2 c
  refine ⟨fun c => j_wj_X5_keep_42 (h.1 c) (g.1 c) hp, fun c => ?_⟩
  have h := h.2 c
  have g := g.2 c
  refine ⟨fun c => j_wj_X5_keep_42 (h.1 c) (g.1 c) hp, fun c => ?_⟩
  have h := h.2 c
  have g := g.2 c
  refine ⟨fun c => ?_, fun c => j_wj_X5_keep_42 (h.2 c) (g.2 c) hp⟩
  have h := h.1 c
  have g := g.1 c
  refine ⟨h.1, ?_⟩
  intro u11 e11
  have h := h.2 u11 e11
  have g := g.2 u11 e11
  refine ⟨h.1, ?_⟩
  intro u12 e12
  have h := h.2 u12 e12
  have g := g.2 u12 e12
  refine ⟨h.1, ?_⟩
  intro u13 e13
  have h := h.2 u13 e13
  have g := g.2 u13 e13
  refine ⟨h.1, ?_⟩
  intro u14 e14
  exact hp _ _ (h.2 u14 e14) (g.2 u14 e14)
theorem j_wp_X7_forgetExpansion {u : mS} {post post1 post2 : mS → Prop} (h : wp_X7_forgetExpansion u post) (g : wp_X7_forgetExpansion u post1) (hp : ∀ (b0_ : mS), post b0_ → post1 b0_ → post2 b0_) : wp_X7_forgetExpansion u post2 := by
  intro y1 e2
  have h3 := h y1 e2
  have g4 := g y1 e2
  intro y5 e6
  have h7 := h3 y5 e6
  have g8 := g4 y5 e6
  intro y9 e10
  have h11 := h7 y9 e10
  have g12 := g8 y9 e10
  exact hp _ h11 g12
theorem j_wp_X7_bindOwn {x1 : Int32} {x2 : Int32} {x3 : Int32} {u : mS} {post post1 post2 : mS → Prop} (h : wp_X7_bindOwn x1 x2 x3 u post) (g : wp_X7_bindOwn x1 x2 x3 u post1) (hp : ∀ (b0_ : mS), post b0_ → post1 b0_ → post2 b0_) : wp_X7_bindOwn x1 x2 x3 u post2 := by
  refine ⟨fun c1 => ?_, fun c2 => ?_⟩
  · have h3 := h.1 c1
    have g4 := g.1 c1
    exact hp _ h3 g4
  · have h5 := h.2 c2
    have g6 := g.2 c2
    intro y7 e8
    have h9 := h5 y7 e8
    have g10 := g6 y7 e8
    refine ⟨fun c11 => ?_, fun c12 => ?_⟩
    · have h13 := h9.1 c11
      have g14 := g10.1 c11
      exact hp _ h13 g14
    · have h15 := h9.2 c12
      have g16 := g10.2 c12
      refine ⟨fun c17 => ?_, fun c18 => ?_⟩
      · have h19 := h15.1 c17
        have g20 := g16.1 c17
        intro y21 e22
        have h23 := h19 y21 e22
        have g24 := g20 y21 e22
        intro y25 e26
        have h27 := h23 y25 e26
        have g28 := g24 y25 e26
        intro y29 e30
        have h31 := h27 y29 e30
        have g32 := g28 y29 e30
        intro y33 e34
        have h35 := h31 y33 e34
        have g36 := g32 y33 e34
        intro y37 e38
        have h39 := h35 y37 e38
        have g40 := g36 y37 e38
        intro y41 e42
        have h43 := h39 y41 e42
        have g44 := g40 y41 e42
        refine j_wp_X7_bind h43 g44 (fun w47 w48 h45 g46 => ?_)
        refine j_wp_X7_forgetExpansion h45 g46 (fun w51 h49 g50 => ?_)
        exact hp _ h49 g50
      · have h52 := h15.2 c18
        have g53 := g16.2 c18
        exact hp _ h52 g53
theorem j_wp_X8_rules {u : mS} {post post1 post2 : Int32 → mS → Prop} (h : wp_X8_rules u post) (g : wp_X8_rules u post1) (hp : ∀ (b0_ : Int32) (b1_ : mS), post b0_ b1_ → post1 b0_ b1_ → post2 b0_ b1_) : wp_X8_rules u post2 := by
  refine j_wp_X8_takeTyped h g (fun w3 w4 h1 g2 => ?_)
  refine ⟨fun c5 => ?_, fun c6 => ?_⟩
  · have h7 := h1.1 c5
    have g8 := g2.1 c5
    refine j_wp_X6_isNameWithRules h7 g8 (fun w11 w12 h9 g10 => ?_)
    refine ⟨fun c13 => ?_, fun c14 => ?_⟩
    · have h15 := h9.1 c13
      have g16 := g10.1 c13
      refine j_wp_X5_wordAt h15 g16 (fun w19 w20 h17 g18 => ?_)
      refine j_wp_X7_ownSlot h17 g18 (fun w23 w24 h21 g22 => ?_)
      refine ⟨fun c25 => ?_, fun c26 => ?_⟩
      · have h27 := h21.1 c25
        have g28 := g22.1 c25
        refine j_wp_X5_keep h27 g28 (fun w31 w32 h29 g30 => ?_)
        refine j_wp_X7_bindOwn h29 g30 (fun w35 h33 g34 => ?_)
        intro y36 e37
        have h38 := h33 y36 e37
        have g39 := g34 y36 e37
        exact hp _ _ h38 g39
      · have h40 := h21.2 c26
        have g41 := g22.2 c26
        exact hp _ _ h40 g41
    · have h42 := h9.2 c14
      have g43 := g10.2 c14
      exact hp _ _ h42 g43
  · have h44 := h1.2 c6
    have g45 := g2.2 c6
    intro y46 e47
    have h48 := h44 y46 e47
    have g49 := g45 y46 e47
    exact hp _ _ h48 g49
theorem j_wp_X2_clear {u : mS} {post post1 post2 : mS → Prop} (h : wp_X2_clear u post) (g : wp_X2_clear u post1) (hp : ∀ (b0_ : mS), post b0_ → post1 b0_ → post2 b0_) : wp_X2_clear u post2 := by
  intro y1 e2
  have h3 := h y1 e2
  have g4 := g y1 e2
  intro y5 e6
  have h7 := h3 y5 e6
  have g8 := g4 y5 e6
  exact hp _ h7 g8
theorem j_wp_X0_start {x1 : Int32} {u : mS} {post post1 post2 : mS → Prop} (h : wp_X0_start x1 u post) (g : wp_X0_start x1 u post1) (hp : ∀ (b0_ : mS), post b0_ → post1 b0_ → post2 b0_) : wp_X0_start x1 u post2 := by
  intro y1 e2
  have h3 := h y1 e2
  have g4 := g y1 e2
  intro y5 e6
  have h7 := h3 y5 e6
  have g8 := g4 y5 e6
  intro y9 e10
  have h11 := h7 y9 e10
  have g12 := g8 y9 e10
  intro y13 e14
  have h15 := h11 y13 e14
  have g16 := g12 y13 e14
  refine j_wp_X7_forgetExpansion h15 g16 (fun w19 h17 g18 => ?_)
  exact hp _ h17 g18
theorem j_wj_X8_expand_10 {post post1 post2 : Int32 → mS → Prop} {u : mS} (h : wj_X8_expand_10 post u) (g : wj_X8_expand_10 post1 u) (hp : ∀ (b0_ : Int32) (b1_ : mS), post b0_ b1_ → post1 b0_ b1_ → post2 b0_ b1_) : wj_X8_expand_10 post2 u := by
  exact hp _ _ h g
theorem j_wj_X8_expand_39 {post post1 post2 : Int32 → mS → Prop} {x2 : Int32} {z0 : Int32} {u : mS} (h : wj_X8_expand_39 post x2 z0 u) (g : wj_X8_expand_39 post1 x2 z0 u) (hp : ∀ (b0_ : Int32) (b1_ : mS), post b0_ b1_ → post1 b0_ b1_ → post2 b0_ b1_) : wj_X8_expand_39 post2 x2 z0 u := by
  refine j_wp_X0_start h g (fun w3 h1 g2 => ?_)
  refine ⟨fun c4 => ?_, fun c5 => ?_⟩
  · have h6 := h1.1 c4
    have g7 := g2.1 c4
    refine j_wp_X0_expandTree (hX := j_wpT24) h6 g7 (fun w10 h8 g9 => ?_)
    intro y11 e12
    have h13 := h8 y11 e12
    have g14 := g9 y11 e12
    refine ⟨fun c15 => ?_, fun c16 => ?_⟩
    · have h17 := h13.1 c15
      have g18 := g14.1 c15
      intro y19 e20
      have h21 := h17 y19 e20
      have g22 := g18 y19 e20
      exact hp _ _ h21 g22
    · have h23 := h13.2 c16
      have g24 := g14.2 c16
      intro y25 e26
      have h27 := h23 y25 e26
      have g28 := g24 y25 e26
      intro y29 e30
      have h31 := h27 y29 e30
      have g32 := g28 y29 e30
      intro y33 e34
      have h35 := h31 y33 e34
      have g36 := g32 y33 e34
      exact hp _ _ h35 g36
  · have h37 := h1.2 c5
    have g38 := g2.2 c5
    intro y39 e40
    have h41 := h37 y39 e40
    have g42 := g38 y39 e40
    exact hp _ _ h41 g42
theorem j_wp_X8_expand {x1 : Int32} {u : mS} {post post1 post2 : Int32 → mS → Prop} (h : wp_X8_expand x1 u post) (g : wp_X8_expand x1 u post1) (hp : ∀ (b0_ : Int32) (b1_ : mS), post b0_ b1_ → post1 b0_ b1_ → post2 b0_ b1_) : wp_X8_expand x1 u post2 := by
  refine ⟨fun c1 => ?_, fun c2 => ?_⟩
  · have h3 := h.1 c1
    have g4 := g.1 c1
    exact j_wj_X8_expand_10 h3 g4 hp
  · have h5 := h.2 c2
    have g6 := g.2 c2
    refine ⟨fun c7 => ?_, fun c8 => ?_⟩
    · have h9 := h5.1 c7
      have g10 := g6.1 c7
      refine j_wp_X8_takeTyped h9 g10 (fun w13 w14 h11 g12 => ?_)
      refine j_wp_X2_clear h11 g12 (fun w17 h15 g16 => ?_)
      refine ⟨fun c18 => ?_, fun c19 => ?_⟩
      · have h20 := h15.1 c18
        have g21 := g16.1 c18
        exact j_wj_X8_expand_39 h20 g21 hp
      · have h22 := h15.2 c19
        have g23 := g16.2 c19
        exact j_wj_X8_expand_39 h22 g23 hp
    · have h24 := h5.2 c8
      have g25 := g6.2 c8
      exact j_wj_X8_expand_10 h24 g25 hp
