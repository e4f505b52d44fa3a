theorem j_wp_X9_look {x1 : Int32} {u : mS} {post post1 post2 : Int32 → mS → Prop} (h : wp_X9_look x1 u post) (g : wp_X9_look x1 u post1) (hp : ∀ (b0_ : Int32) (b1_ : mS), post b0_ b1_ → post1 b0_ b1_ → post2 b0_ b1_) : wp_X9_look x1 u post2 := by
  intro y1 e2
  have h3 := h y1 e2
  have g4 := g y1 e2
  refine ⟨fun c5 => ?_, fun c6 => ?_⟩
  · have h7 := h3.1 c5
    have g8 := g4.1 c5
    exact hp _ _ h7 g8
  · have h9 := h3.2 c6
    have g10 := g4.2 c6
    refine ⟨h9.1, ?_⟩
    have h11 := h9.2
    have g12 := g10.2
    intro y13 e14
    have h15 := h11 y13 e14
    have g16 := g12 y13 e14
    exact hp _ _ h15 g16
theorem j_wp_X9_isLetter {x0 : Int32} {u : mS} {post post1 post2 : Int32 → mS → Prop} (h : wp_X9_isLetter x0 u post) (g : wp_X9_isLetter x0 u post1) (hp : ∀ (b0_ : Int32) (b1_ : mS), post b0_ b1_ → post1 b0_ b1_ → post2 b0_ b1_) : wp_X9_isLetter x0 u post2 := by
  refine ⟨fun c1 => ?_, fun c2 => ?_⟩
  · have h3 := h.1 c1
    have g4 := g.1 c1
    exact hp _ _ h3 g4
  · have h5 := h.2 c2
    have g6 := g.2 c2
    refine ⟨fun c7 => ?_, fun c8 => ?_⟩
    · have h9 := h5.1 c7
      have g10 := g6.1 c7
      exact hp _ _ h9 g10
    · have h11 := h5.2 c8
      have g12 := g6.2 c8
      exact hp _ _ h11 g12
theorem j_wp_X9_isDigit {x0 : Int32} {u : mS} {post post1 post2 : Int32 → mS → Prop} (h : wp_X9_isDigit x0 u post) (g : wp_X9_isDigit x0 u post1) (hp : ∀ (b0_ : Int32) (b1_ : mS), post b0_ b1_ → post1 b0_ b1_ → post2 b0_ b1_) : wp_X9_isDigit x0 u post2 := by
  refine ⟨fun c1 => ?_, fun c2 => ?_⟩
  · have h3 := h.1 c1
    have g4 := g.1 c1
    exact hp _ _ h3 g4
  · have h5 := h.2 c2
    have g6 := g.2 c2
    refine ⟨fun c7 => ?_, fun c8 => ?_⟩
    · have h9 := h5.1 c7
      have g10 := g6.1 c7
      exact hp _ _ h9 g10
    · have h11 := h5.2 c8
      have g12 := g6.2 c8
      exact hp _ _ h11 g12
theorem j_wj_X9_run_54 {K11 K111 K112 : Int32 → Int32 → Int32 → mS → Prop} {post post1 post2 : Int32 → mS → Prop} {x1 : Int32} {x2 : Int32} {x3 : Int32} {u : mS} (h : wj_X9_run_54 K11 post x1 x2 x3 u) (g : wj_X9_run_54 K111 post1 x1 x2 x3 u) (hK11 : ∀ (b0_ : Int32) (b1_ : Int32) (b2_ : Int32) (b3_ : mS), K11 b0_ b1_ b2_ b3_ → K111 b0_ b1_ b2_ b3_ → K112 b0_ b1_ b2_ b3_) (hp : ∀ (b0_ : Int32) (b1_ : mS), post b0_ b1_ → post1 b0_ b1_ → post2 b0_ b1_) : wj_X9_run_54 K112 post2 x1 x2 x3 u := by
  intro y1 e2
  have h3 := h y1 e2
  have g4 := g y1 e2
  exact hK11 _ _ _ _ h3 g4
theorem j_wj_X9_run_60 {post post1 post2 : Int32 → mS → Prop} {x2 : Int32} {u : mS} (h : wj_X9_run_60 post x2 u) (g : wj_X9_run_60 post1 x2 u) (hp : ∀ (b0_ : Int32) (b1_ : mS), post b0_ b1_ → post1 b0_ b1_ → post2 b0_ b1_) : wj_X9_run_60 post2 x2 u := by
  exact hp _ _ h g
theorem j_wj_X9_run_11 {K11 K111 K112 : Int32 → Int32 → Int32 → mS → Prop} {post post1 post2 : Int32 → mS → Prop} {x1 : Int32} {x2 : Int32} {x3 : Int32} {u : mS} (h : wj_X9_run_11 K11 post x1 x2 x3 u) (g : wj_X9_run_11 K111 post1 x1 x2 x3 u) (hK11 : ∀ (b0_ : Int32) (b1_ : Int32) (b2_ : Int32) (b3_ : mS), K11 b0_ b1_ b2_ b3_ → K111 b0_ b1_ b2_ b3_ → K112 b0_ b1_ b2_ b3_) (hp : ∀ (b0_ : Int32) (b1_ : mS), post b0_ b1_ → post1 b0_ b1_ → post2 b0_ b1_) : wj_X9_run_11 K112 post2 x1 x2 x3 u := by
  intro y1 e2
  have h3 := h y1 e2
  have g4 := g y1 e2
  intro y5 e6
  have h7 := h3 y5 e6
  have g8 := g4 y5 e6
  refine ⟨fun c9 => ?_, fun c10 => ?_⟩
  · have h11 := h7.1 c9
    have g12 := g8.1 c9
    exact j_wj_X9_run_60 h11 g12 hp
  · have h13 := h7.2 c10
    have g14 := g8.2 c10
    refine ⟨fun c15 => ?_, fun c16 => ?_⟩
    · have h17 := h13.1 c15
      have g18 := g14.1 c15
      intro y19 e20
      have h21 := h17 y19 e20
      have g22 := g18 y19 e20
      refine j_wp_X9_look h21 g22 (fun w25 w26 h23 g24 => ?_)
      refine j_wp_X9_isDigit h23 g24 (fun w29 w30 h27 g28 => ?_)
      refine ⟨fun c31 => ?_, fun c32 => ?_⟩
      · have h33 := h27.1 c31
        have g34 := g28.1 c31
        exact j_wj_X9_run_60 h33 g34 hp
      · have h35 := h27.2 c32
        have g36 := g28.2 c32
        exact j_wj_X9_run_54 h35 g36 hK11 hp
    · have h37 := h13.2 c16
      have g38 := g14.2 c16
      intro y39 e40
      have h41 := h37 y39 e40
      have g42 := g38 y39 e40
      refine j_wp_X9_look h41 g42 (fun w45 w46 h43 g44 => ?_)
      refine j_wp_X9_isLetter h43 g44 (fun w49 w50 h47 g48 => ?_)
      refine ⟨fun c51 => ?_, fun c52 => ?_⟩
      · have h53 := h47.1 c51
        have g54 := g48.1 c51
        exact j_wj_X9_run_60 h53 g54 hp
      · have h55 := h47.2 c52
        have g56 := g48.2 c52
        exact j_wj_X9_run_54 h55 g56 hK11 hp
theorem j_wp_X9_run {x1 : Int32} {u : mS} {post post1 post2 : Int32 → mS → Prop} (h : wp_X9_run x1 u post) (g : wp_X9_run x1 u post1) (hp : ∀ (b0_ : Int32) (b1_ : mS), post b0_ b1_ → post1 b0_ b1_ → post2 b0_ b1_) : wp_X9_run x1 u post2 := by
  refine j_wp_X9_look h g (fun w3 w4 h1 g2 => ?_)
  refine j_wp_X9_isLetter h1 g2 (fun w7 w8 h5 g6 => ?_)
  obtain ⟨n9, h11⟩ := h5
  obtain ⟨m10, g12⟩ := g6
  refine ⟨n9, mL4_j ?_ n9 m10 _ _ _ _ h11 g12⟩
  intro K_ L_ M_ hK_ _ _ _ _ a_ b_
  exact j_wj_X9_run_11 a_ b_ hK_ hp
theorem j_wj_X9_token_63 {post post1 post2 : Int32 → mS → Prop} {x1 : Int32} {u : mS} (h : wj_X9_token_63 post x1 u) (g : wj_X9_token_63 post1 x1 u) (hp : ∀ (b0_ : Int32) (b1_ : mS), post b0_ b1_ → post1 b0_ b1_ → post2 b0_ b1_) : wj_X9_token_63 post2 x1 u := by
  refine j_wp_X9_run h g (fun w3 w4 h1 g2 => ?_)
  exact hp _ _ h1 g2
theorem j_wj_X9_token_139 {post post1 post2 : Int32 → mS → Prop} {u : mS} (h : wj_X9_token_139 post u) (g : wj_X9_token_139 post1 u) (hp : ∀ (b0_ : Int32) (b1_ : mS), post b0_ b1_ → post1 b0_ b1_ → post2 b0_ b1_) : wj_X9_token_139 post2 u := by
  exact hp _ _ h g
theorem j_wp_X9_token {x1 : Int32} {u : mS} {post post1 post2 : Int32 → mS → Prop} (h : wp_X9_token x1 u post) (g : wp_X9_token x1 u post1) (hp : ∀ (b0_ : Int32) (b1_ : mS), post b0_ b1_ → post1 b0_ b1_ → post2 b0_ b1_) : wp_X9_token x1 u post2 := by
  refine j_wp_X9_look h g (fun w3 w4 h1 g2 => ?_)
  refine j_wp_X9_isLetter h1 g2 (fun w7 w8 h5 g6 => ?_)
  refine ⟨fun c9 => ?_, fun c10 => ?_⟩
  · have h11 := h5.1 c9
    have g12 := g6.1 c9
    refine j_wp_X9_isDigit h11 g12 (fun w15 w16 h13 g14 => ?_)
    refine ⟨fun c17 => ?_, fun c18 => ?_⟩
    · have h19 := h13.1 c17
      have g20 := g14.1 c17
      refine ⟨fun c21 => ?_, fun c22 => ?_⟩
      · have h23 := h19.1 c21
        have g24 := g20.1 c21
        refine ⟨fun c25 => ?_, fun c26 => ?_⟩
        · have h27 := h23.1 c25
          have g28 := g24.1 c25
          exact j_wj_X9_token_139 h27 g28 hp
        · have h29 := h23.2 c26
          have g30 := g24.2 c26
          refine ⟨fun c31 => ?_, fun c32 => ?_⟩
          · have h33 := h29.1 c31
            have g34 := g30.1 c31
            exact j_wj_X9_token_139 h33 g34 hp
          · have h35 := h29.2 c32
            have g36 := g30.2 c32
            refine ⟨fun c37 => ?_, fun c38 => ?_⟩
            · have h39 := h35.1 c37
              have g40 := g36.1 c37
              exact j_wj_X9_token_139 h39 g40 hp
            · have h41 := h35.2 c38
              have g42 := g36.2 c38
              refine ⟨fun c43 => ?_, fun c44 => ?_⟩
              · have h45 := h41.1 c43
                have g46 := g42.1 c43
                exact j_wj_X9_token_139 h45 g46 hp
              · have h47 := h41.2 c44
                have g48 := g42.2 c44
                refine ⟨fun c49 => ?_, fun c50 => ?_⟩
                · have h51 := h47.1 c49
                  have g52 := g48.1 c49
                  exact j_wj_X9_token_139 h51 g52 hp
                · have h53 := h47.2 c50
                  have g54 := g48.2 c50
                  refine ⟨fun c55 => ?_, fun c56 => ?_⟩
                  · have h57 := h53.1 c55
                    have g58 := g54.1 c55
                    exact j_wj_X9_token_139 h57 g58 hp
                  · have h59 := h53.2 c56
                    have g60 := g54.2 c56
                    refine ⟨fun c61 => ?_, fun c62 => ?_⟩
                    · have h63 := h59.1 c61
                      have g64 := g60.1 c61
                      exact hp _ _ h63 g64
                    · have h65 := h59.2 c62
                      have g66 := g60.2 c62
                      exact j_wj_X9_token_139 h65 g66 hp
      · have h67 := h19.2 c22
        have g68 := g20.2 c22
        intro y69 e70
        have h71 := h67 y69 e70
        have g72 := g68 y69 e70
        refine j_wp_X9_look h71 g72 (fun w75 w76 h73 g74 => ?_)
        refine ⟨fun c77 => ?_, fun c78 => ?_⟩
        · have h79 := h73.1 c77
          have g80 := g74.1 c77
          exact hp _ _ h79 g80
        · have h81 := h73.2 c78
          have g82 := g74.2 c78
          exact hp _ _ h81 g82
    · have h83 := h13.2 c18
      have g84 := g14.2 c18
      refine j_wp_X9_run h83 g84 (fun w87 w88 h85 g86 => ?_)
      refine ⟨fun c89 => ?_, fun c90 => ?_⟩
      · have h91 := h85.1 c89
        have g92 := g86.1 c89
        exact j_wj_X9_token_63 h91 g92 hp
      · have h93 := h85.2 c90
        have g94 := g86.2 c90
        refine j_wp_X9_run h93 g94 (fun w97 w98 h95 g96 => ?_)
        refine ⟨fun c99 => ?_, fun c100 => ?_⟩
        · have h101 := h95.1 c99
          have g102 := g96.1 c99
          exact hp _ _ h101 g102
        · have h103 := h95.2 c100
          have g104 := g96.2 c100
          refine ⟨fun c105 => ?_, fun c106 => ?_⟩
          · have h107 := h103.1 c105
            have g108 := g104.1 c105
            exact hp _ _ h107 g108
          · have h109 := h103.2 c106
            have g110 := g104.2 c106
            exact j_wj_X9_token_63 h109 g110 hp
  · have h111 := h5.2 c10
    have g112 := g6.2 c10
    refine j_wp_X9_run h111 g112 (fun w115 w116 h113 g114 => ?_)
    refine ⟨fun c117 => ?_, fun c118 => ?_⟩
    · have h119 := h113.1 c117
      have g120 := g114.1 c117
      exact hp _ _ h119 g120
    · have h121 := h113.2 c118
      have g122 := g114.2 c118
      refine j_wp_X9_run h121 g122 (fun w125 w126 h123 g124 => ?_)
      exact hp _ _ h123 g124
theorem j_wj_X9_code_110 {K48 K481 K482 : Int32 → Int32 → Int32 → Int32 → Int32 → mS → Prop} {post post1 post2 : Int32 → mS → Prop} {x1 : Int32} {x2 : Int32} {x3 : Int32} {x5 : Int32} {z0 : Int32} {u : mS} (h : wj_X9_code_110 K48 post x1 x2 x3 x5 z0 u) (g : wj_X9_code_110 K481 post1 x1 x2 x3 x5 z0 u) (hK48 : ∀ (b0_ : Int32) (b1_ : Int32) (b2_ : Int32) (b3_ : Int32) (b4_ : Int32) (b5_ : mS), K48 b0_ b1_ b2_ b3_ b4_ b5_ → K481 b0_ b1_ b2_ b3_ b4_ b5_ → K482 b0_ b1_ b2_ b3_ b4_ b5_) (hp : ∀ (b0_ : Int32) (b1_ : mS), post b0_ b1_ → post1 b0_ b1_ → post2 b0_ b1_) : wj_X9_code_110 K482 post2 x1 x2 x3 x5 z0 u := by
  intro y1 e2
  have h3 := h y1 e2
  have g4 := g y1 e2
  exact hK48 _ _ _ _ _ _ h3 g4
theorem j_wj_X9_code_132 {post post1 post2 : Int32 → mS → Prop} {x4 : Int32} {z0 : Int32} {z1 : Int32} {u : mS} (h : wj_X9_code_132 post x4 z0 z1 u) (g : wj_X9_code_132 post1 x4 z0 z1 u) (hp : ∀ (b0_ : Int32) (b1_ : mS), post b0_ b1_ → post1 b0_ b1_ → post2 b0_ b1_) : wj_X9_code_132 post2 x4 z0 z1 u := by
  intro y1 e2
  have h3 := h y1 e2
  have g4 := g y1 e2
  intro y5 e6
  have h7 := h3 y5 e6
  have g8 := g4 y5 e6
  exact hp _ _ h7 g8
theorem j_wj_X9_code_48 {K48 K481 K482 : Int32 → Int32 → Int32 → Int32 → Int32 → mS → Prop} {post post1 post2 : Int32 → mS → Prop} {x1 : Int32} {x2 : Int32} {x3 : Int32} {x4 : Int32} {x5 : Int32} {u : mS} (h : wj_X9_code_48 K48 post x1 x2 x3 x4 x5 u) (g : wj_X9_code_48 K481 post1 x1 x2 x3 x4 x5 u) (hK48 : ∀ (b0_ : Int32) (b1_ : Int32) (b2_ : Int32) (b3_ : Int32) (b4_ : Int32) (b5_ : mS), K48 b0_ b1_ b2_ b3_ b4_ b5_ → K481 b0_ b1_ b2_ b3_ b4_ b5_ → K482 b0_ b1_ b2_ b3_ b4_ b5_) (hp : ∀ (b0_ : Int32) (b1_ : mS), post b0_ b1_ → post1 b0_ b1_ → post2 b0_ b1_) : wj_X9_code_48 K482 post2 x1 x2 x3 x4 x5 u := by
  intro y1 e2
  have h3 := h y1 e2
  have g4 := g y1 e2
  refine ⟨fun c5 => ?_, fun c6 => ?_⟩
  · have h7 := h3.1 c5
    have g8 := g4.1 c5
    refine j_wp_X9_isDigit h7 g8 (fun w11 w12 h9 g10 => ?_)
    refine ⟨fun c13 => ?_, fun c14 => ?_⟩
    · have h15 := h9.1 c13
      have g16 := g10.1 c13
      exact j_wj_X9_code_132 h15 g16 hp
    · have h17 := h9.2 c14
      have g18 := g10.2 c14
      exact j_wj_X9_code_132 h17 g18 hp
  · have h19 := h3.2 c6
    have g20 := g4.2 c6
    refine j_wp_X9_isDigit h19 g20 (fun w23 w24 h21 g22 => ?_)
    refine ⟨fun c25 => ?_, fun c26 => ?_⟩
    · have h27 := h21.1 c25
      have g28 := g22.1 c25
      refine j_wp_X9_isLetter h27 g28 (fun w31 w32 h29 g30 => ?_)
      refine ⟨fun c33 => ?_, fun c34 => ?_⟩
      · have h35 := h29.1 c33
        have g36 := g30.1 c33
        intro y37 e38
        have h39 := h35 y37 e38
        have g40 := g36 y37 e38
        exact j_wj_X9_code_110 h39 g40 hK48 hp
      · have h41 := h29.2 c34
        have g42 := g30.2 c34
        intro y43 e44
        have h45 := h41 y43 e44
        have g46 := g42 y43 e44
        refine j_wp_X9_look h45 g46 (fun w49 w50 h47 g48 => ?_)
        intro y51 e52
        have h53 := h47 y51 e52
        have g54 := g48 y51 e52
        intro y55 e56
        have h57 := h53 y55 e56
        have g58 := g54 y55 e56
        exact j_wj_X9_code_110 h57 g58 hK48 hp
    · have h59 := h21.2 c26
      have g60 := g22.2 c26
      intro y61 e62
      have h63 := h59 y61 e62
      have g64 := g60 y61 e62
      refine j_wp_X9_look h63 g64 (fun w67 w68 h65 g66 => ?_)
      intro y69 e70
      have h71 := h65 y69 e70
      have g72 := g66 y69 e70
      intro y73 e74
      have h75 := h71 y73 e74
      have g76 := g72 y73 e74
      exact j_wj_X9_code_110 h75 g76 hK48 hp
theorem j_wp_X9_code {x1 : Int32} {x2 : Int32} {u : mS} {post post1 post2 : Int32 → mS → Prop} (h : wp_X9_code x1 x2 u post) (g : wp_X9_code x1 x2 u post1) (hp : ∀ (b0_ : Int32) (b1_ : mS), post b0_ b1_ → post1 b0_ b1_ → post2 b0_ b1_) : wp_X9_code x1 x2 u post2 := by
  refine j_wp_X9_look h g (fun w3 w4 h1 g2 => ?_)
  refine ⟨fun c5 => ?_, fun c6 => ?_⟩
  · have h7 := h1.1 c5
    have g8 := g2.1 c5
    refine ⟨fun c9 => ?_, fun c10 => ?_⟩
    · have h11 := h7.1 c9
      have g12 := g8.1 c9
      refine ⟨fun c13 => ?_, fun c14 => ?_⟩
      · have h15 := h11.1 c13
        have g16 := g12.1 c13
        refine ⟨fun c17 => ?_, fun c18 => ?_⟩
        · have h19 := h15.1 c17
          have g20 := g16.1 c17
          obtain ⟨n21, h23⟩ := h19
          obtain ⟨m22, g24⟩ := g20
          refine ⟨n21, mL6_j ?_ n21 m22 _ _ _ _ _ _ h23 g24⟩
          intro K_ L_ M_ hK_ _ _ _ _ _ _ a_ b_
          exact j_wj_X9_code_48 a_ b_ hK_ hp
        · have h25 := h15.2 c18
          have g26 := g16.2 c18
          exact hp _ _ h25 g26
      · have h27 := h11.2 c14
        have g28 := g12.2 c14
        exact hp _ _ h27 g28
    · have h29 := h7.2 c10
      have g30 := g8.2 c10
      exact hp _ _ h29 g30
  · have h31 := h1.2 c6
    have g32 := g2.2 c6
    exact hp _ _ h31 g32
theorem j_wj_X9_fits_23 {post post1 post2 : Int32 → mS → Prop} {x1 : Int32} {u : mS} (h : wj_X9_fits_23 post x1 u) (g : wj_X9_fits_23 post1 x1 u) (hp : ∀ (b0_ : Int32) (b1_ : mS), post b0_ b1_ → post1 b0_ b1_ → post2 b0_ b1_) : wj_X9_fits_23 post2 x1 u := by
  refine ⟨fun c1 => ?_, fun c2 => ?_⟩
  · have h3 := h.1 c1
    have g4 := g.1 c1
    exact hp _ _ h3 g4
  · have h5 := h.2 c2
    have g6 := g.2 c2
    exact hp _ _ h5 g6
theorem j_wj_X9_fits_85 {post post1 post2 : Int32 → mS → Prop} {u : mS} (h : wj_X9_fits_85 post u) (g : wj_X9_fits_85 post1 u) (hp : ∀ (b0_ : Int32) (b1_ : mS), post b0_ b1_ → post1 b0_ b1_ → post2 b0_ b1_) : wj_X9_fits_85 post2 u := by
  exact hp _ _ h g
theorem j_wj_X9_fits_9 {post post1 post2 : Int32 → mS → Prop} {x0 : Int32} {x1 : Int32} {x2 : Int32} {z0 : Int32} {u : mS} (h : wj_X9_fits_9 post x0 x1 x2 z0 u) (g : wj_X9_fits_9 post1 x0 x1 x2 z0 u) (hp : ∀ (b0_ : Int32) (b1_ : mS), post b0_ b1_ → post1 b0_ b1_ → post2 b0_ b1_) : wj_X9_fits_9 post2 x0 x1 x2 z0 u := by
  refine ⟨fun c1 => ?_, fun c2 => ?_⟩
  · have h3 := h.1 c1
    have g4 := g.1 c1
    refine ⟨fun c5 => ?_, fun c6 => ?_⟩
    · have h7 := h3.1 c5
      have g8 := g4.1 c5
      refine ⟨fun c9 => ?_, fun c10 => ?_⟩
      · have h11 := h7.1 c9
        have g12 := g8.1 c9
        refine ⟨fun c13 => ?_, fun c14 => ?_⟩
        · have h15 := h11.1 c13
          have g16 := g12.1 c13
          exact j_wj_X9_fits_85 h15 g16 hp
        · have h17 := h11.2 c14
          have g18 := g12.2 c14
          refine ⟨fun c19 => ?_, fun c20 => ?_⟩
          · have h21 := h17.1 c19
            have g22 := g18.1 c19
            exact hp _ _ h21 g22
          · have h23 := h17.2 c20
            have g24 := g18.2 c20
            exact j_wj_X9_fits_85 h23 g24 hp
      · have h25 := h7.2 c10
        have g26 := g8.2 c10
        refine ⟨fun c27 => ?_, fun c28 => ?_⟩
        · have h29 := h25.1 c27
          have g30 := g26.1 c27
          exact hp _ _ h29 g30
        · have h31 := h25.2 c28
          have g32 := g26.2 c28
          refine ⟨fun c33 => ?_, fun c34 => ?_⟩
          · have h35 := h31.1 c33
            have g36 := g32.1 c33
            exact hp _ _ h35 g36
          · have h37 := h31.2 c34
            have g38 := g32.2 c34
            refine ⟨fun c39 => ?_, fun c40 => ?_⟩
            · have h41 := h37.1 c39
              have g42 := g38.1 c39
              exact hp _ _ h41 g42
            · have h43 := h37.2 c40
              have g44 := g38.2 c40
              exact hp _ _ h43 g44
    · have h45 := h3.2 c6
      have g46 := g4.2 c6
      refine ⟨fun c47 => ?_, fun c48 => ?_⟩
      · have h49 := h45.1 c47
        have g50 := g46.1 c47
        exact hp _ _ h49 g50
      · have h51 := h45.2 c48
        have g52 := g46.2 c48
        exact hp _ _ h51 g52
  · have h53 := h.2 c2
    have g54 := g.2 c2
    refine ⟨fun c55 => ?_, fun c56 => ?_⟩
    · have h57 := h53.1 c55
      have g58 := g54.1 c55
      exact j_wj_X9_fits_23 h57 g58 hp
    · have h59 := h53.2 c56
      have g60 := g54.2 c56
      refine ⟨fun c61 => ?_, fun c62 => ?_⟩
      · have h63 := h59.1 c61
        have g64 := g60.1 c61
        exact hp _ _ h63 g64
      · have h65 := h59.2 c62
        have g66 := g60.2 c62
        exact j_wj_X9_fits_23 h65 g66 hp
theorem j_wp_X9_fits {x0 : Int32} {x1 : Int32} {x2 : Int32} {u : mS} {post post1 post2 : Int32 → mS → Prop} (h : wp_X9_fits x0 x1 x2 u post) (g : wp_X9_fits x0 x1 x2 u post1) (hp : ∀ (b0_ : Int32) (b1_ : mS), post b0_ b1_ → post1 b0_ b1_ → post2 b0_ b1_) : wp_X9_fits x0 x1 x2 u post2 := by
  refine ⟨fun c1 => ?_, fun c2 => ?_⟩
  · have h3 := h.1 c1
    have g4 := g.1 c1
    exact j_wj_X9_fits_9 h3 g4 hp
  · have h5 := h.2 c2
    have g6 := g.2 c2
    exact j_wj_X9_fits_9 h5 g6 hp
theorem j_wj_X9_read_84 {post post1 post2 : Int32 → mS → Prop} {x4 : Int32} {u : mS} (h : wj_X9_read_84 post x4 u) (g : wj_X9_read_84 post1 x4 u) (hp : ∀ (b0_ : Int32) (b1_ : mS), post b0_ b1_ → post1 b0_ b1_ → post2 b0_ b1_) : wj_X9_read_84 post2 x4 u := by
  exact hp _ _ h g
theorem j_wj_X9_read_123 {K9 K91 K92 : Int32 → Int32 → Int32 → Int32 → mS → Prop} {post post1 post2 : Int32 → mS → Prop} {x1 : Int32} {x4 : Int32} {x5 : Int32} {x7 : Int32} {z0 : Int32} {u : mS} (h : wj_X9_read_123 K9 post x1 x4 x5 x7 z0 u) (g : wj_X9_read_123 K91 post1 x1 x4 x5 x7 z0 u) (hK9 : ∀ (b0_ : Int32) (b1_ : Int32) (b2_ : Int32) (b3_ : Int32) (b4_ : mS), K9 b0_ b1_ b2_ b3_ b4_ → K91 b0_ b1_ b2_ b3_ b4_ → K92 b0_ b1_ b2_ b3_ b4_) (hp : ∀ (b0_ : Int32) (b1_ : mS), post b0_ b1_ → post1 b0_ b1_ → post2 b0_ b1_) : wj_X9_read_123 K92 post2 x1 x4 x5 x7 z0 u := by
  intro y1 e2
  have h3 := h y1 e2
  have g4 := g y1 e2
  exact hK9 _ _ _ _ _ h3 g4
theorem j_wj_X9_read_60 {K9 K91 K92 : Int32 → Int32 → Int32 → Int32 → mS → Prop} {post post1 post2 : Int32 → mS → Prop} {x1 : Int32} {x2 : Int32} {x3 : Int32} {x4 : Int32} {x5 : Int32} {z0 : Int32} {u : mS} (h : wj_X9_read_60 K9 post x1 x2 x3 x4 x5 z0 u) (g : wj_X9_read_60 K91 post1 x1 x2 x3 x4 x5 z0 u) (hK9 : ∀ (b0_ : Int32) (b1_ : Int32) (b2_ : Int32) (b3_ : Int32) (b4_ : mS), K9 b0_ b1_ b2_ b3_ b4_ → K91 b0_ b1_ b2_ b3_ b4_ → K92 b0_ b1_ b2_ b3_ b4_) (hp : ∀ (b0_ : Int32) (b1_ : mS), post b0_ b1_ → post1 b0_ b1_ → post2 b0_ b1_) : wj_X9_read_60 K92 post2 x1 x2 x3 x4 x5 z0 u := by
  intro y1 e2
  have h3 := h y1 e2
  have g4 := g y1 e2
  refine ⟨fun c5 => ?_, fun c6 => ?_⟩
  · have h7 := h3.1 c5
    have g8 := g4.1 c5
    exact j_wj_X9_read_84 h7 g8 hp
  · have h9 := h3.2 c6
    have g10 := g4.2 c6
    refine j_wp_X9_fits h9 g10 (fun w13 w14 h11 g12 => ?_)
    refine ⟨fun c15 => ?_, fun c16 => ?_⟩
    · have h17 := h11.1 c15
      have g18 := g12.1 c15
      refine ⟨h17.1, ?_⟩
      have h19 := h17.2
      have g20 := g18.2
      intro y21 e22
      have h23 := h19 y21 e22
      have g24 := g20 y21 e22
      intro y25 e26
      have h27 := h23 y25 e26
      have g28 := g24 y25 e26
      refine ⟨fun c29 => ?_, fun c30 => ?_⟩
      · have h31 := h27.1 c29
        have g32 := g28.1 c29
        refine ⟨fun c33 => ?_, fun c34 => ?_⟩
        · have h35 := h31.1 c33
          have g36 := g32.1 c33
          exact j_wj_X9_read_123 h35 g36 hK9 hp
        · have h37 := h31.2 c34
          have g38 := g32.2 c34
          intro y39 e40
          have h41 := h37 y39 e40
          have g42 := g38 y39 e40
          exact j_wj_X9_read_123 h41 g42 hK9 hp
      · have h43 := h27.2 c30
        have g44 := g28.2 c30
        intro y45 e46
        have h47 := h43 y45 e46
        have g48 := g44 y45 e46
        exact j_wj_X9_read_123 h47 g48 hK9 hp
    · have h49 := h11.2 c16
      have g50 := g12.2 c16
      exact j_wj_X9_read_84 h49 g50 hp
theorem j_wj_X9_read_145 {post post1 post2 : Int32 → mS → Prop} {u : mS} (h : wj_X9_read_145 post u) (g : wj_X9_read_145 post1 u) (hp : ∀ (b0_ : Int32) (b1_ : mS), post b0_ b1_ → post1 b0_ b1_ → post2 b0_ b1_) : wj_X9_read_145 post2 u := by
  intro y1 e2
  have h3 := h y1 e2
  have g4 := g y1 e2
  exact hp _ _ h3 g4
theorem j_wj_X9_read_164 {K164 K1641 K1642 : Int32 → mS → Prop} {post post1 post2 : Int32 → mS → Prop} {x5 : Int32} {u : mS} (h : wj_X9_read_164 K164 post x5 u) (g : wj_X9_read_164 K1641 post1 x5 u) (hK164 : ∀ (b0_ : Int32) (b1_ : mS), K164 b0_ b1_ → K1641 b0_ b1_ → K1642 b0_ b1_) (hp : ∀ (b0_ : Int32) (b1_ : mS), post b0_ b1_ → post1 b0_ b1_ → post2 b0_ b1_) : wj_X9_read_164 K1642 post2 x5 u := by
  refine ⟨fun c1 => ?_, fun c2 => ?_⟩
  · have h3 := h.1 c1
    have g4 := g.1 c1
    exact hp _ _ h3 g4
  · have h5 := h.2 c2
    have g6 := g.2 c2
    intro y7 e8
    have h9 := h5 y7 e8
    have g10 := g6 y7 e8
    intro y11 e12
    have h13 := h9 y11 e12
    have g14 := g10 y11 e12
    refine ⟨h13.1, ?_⟩
    have h15 := h13.2
    have g16 := g14.2
    intro y17 e18
    have h19 := h15 y17 e18
    have g20 := g16 y17 e18
    refine ⟨h19.1, ?_⟩
    have h21 := h19.2
    have g22 := g20.2
    intro y23 e24
    have h25 := h21 y23 e24
    have g26 := g22 y23 e24
    intro y27 e28
    have h29 := h25 y27 e28
    have g30 := g26 y27 e28
    intro y31 e32
    have h33 := h29 y31 e32
    have g34 := g30 y31 e32
    refine ⟨h33.1, ?_⟩
    have h35 := h33.2
    have g36 := g34.2
    intro y37 e38
    have h39 := h35 y37 e38
    have g40 := g36 y37 e38
    intro y41 e42
    have h43 := h39 y41 e42
    have g44 := g40 y41 e42
    exact hK164 _ _ h43 g44
theorem j_wj_X9_read_9 {K9 K91 K92 : Int32 → Int32 → Int32 → Int32 → mS → Prop} {post post1 post2 : Int32 → mS → Prop} {x1 : Int32} {x2 : Int32} {x3 : Int32} {x4 : Int32} {u : mS} (h : wj_X9_read_9 K9 post x1 x2 x3 x4 u) (g : wj_X9_read_9 K91 post1 x1 x2 x3 x4 u) (hK9 : ∀ (b0_ : Int32) (b1_ : Int32) (b2_ : Int32) (b3_ : Int32) (b4_ : mS), K9 b0_ b1_ b2_ b3_ b4_ → K91 b0_ b1_ b2_ b3_ b4_ → K92 b0_ b1_ b2_ b3_ b4_) (hp : ∀ (b0_ : Int32) (b1_ : mS), post b0_ b1_ → post1 b0_ b1_ → post2 b0_ b1_) : wj_X9_read_9 K92 post2 x1 x2 x3 x4 u := by
  intro y1 e2
  have h3 := h y1 e2
  have g4 := g y1 e2
  refine ⟨fun c5 => ?_, fun c6 => ?_⟩
  · have h7 := h3.1 c5
    have g8 := g4.1 c5
    refine ⟨fun c9 => ?_, fun c10 => ?_⟩
    · have h11 := h7.1 c9
      have g12 := g8.1 c9
      exact j_wj_X9_read_145 h11 g12 hp
    · have h13 := h7.2 c10
      have g14 := g8.2 c10
      refine ⟨fun c15 => ?_, fun c16 => ?_⟩
      · have h17 := h13.1 c15
        have g18 := g14.1 c15
        intro y19 e20
        have h21 := h17 y19 e20
        have g22 := g18 y19 e20
        intro y23 e24
        have h25 := h21 y23 e24
        have g26 := g22 y23 e24
        intro y27 e28
        have h29 := h25 y27 e28
        have g30 := g26 y27 e28
        obtain ⟨n31, h33⟩ := h29
        obtain ⟨m32, g34⟩ := g30
        refine ⟨n31, mL2_j ?_ n31 m32 _ _ h33 g34⟩
        intro K_ L_ M_ hK_ _ _ a_ b_
        exact j_wj_X9_read_164 a_ b_ hK_ hp
      · have h35 := h13.2 c16
        have g36 := g14.2 c16
        exact j_wj_X9_read_145 h35 g36 hp
  · have h37 := h3.2 c6
    have g38 := g4.2 c6
    refine j_wp_X9_look h37 g38 (fun w41 w42 h39 g40 => ?_)
    refine ⟨fun c43 => ?_, fun c44 => ?_⟩
    · have h45 := h39.1 c43
      have g46 := g40.1 c43
      refine j_wp_X9_token h45 g46 (fun w49 w50 h47 g48 => ?_)
      refine ⟨fun c51 => ?_, fun c52 => ?_⟩
      · have h53 := h47.1 c51
        have g54 := g48.1 c51
        exact j_wj_X9_read_60 h53 g54 hK9 hp
      · have h55 := h47.2 c52
        have g56 := g48.2 c52
        refine j_wp_X9_code h55 g56 (fun w59 w60 h57 g58 => ?_)
        exact j_wj_X9_read_60 h57 g58 hK9 hp
    · have h61 := h39.2 c44
      have g62 := g40.2 c44
      intro y63 e64
      have h65 := h61 y63 e64
      have g66 := g62 y63 e64
      exact hK9 _ _ _ _ _ h65 g66
theorem j_wp_X9_read {u : mS} {post post1 post2 : Int32 → mS → Prop} (h : wp_X9_read u post) (g : wp_X9_read u post1) (hp : ∀ (b0_ : Int32) (b1_ : mS), post b0_ b1_ → post1 b0_ b1_ → post2 b0_ b1_) : wp_X9_read u post2 := by
  obtain ⟨n1, h3⟩ := h
  obtain ⟨m2, g4⟩ := g
  refine ⟨n1, mL5_j ?_ n1 m2 _ _ _ _ _ h3 g4⟩
  intro K_ L_ M_ hK_ _ _ _ _ _ a_ b_
  exact j_wj_X9_read_9 a_ b_ hK_ hp
theorem j_wp_X9_kind_2 {x1 : Int32} {u : mS} {post post1 post2 : Int32 → mS → Prop} (h : wp_X9_kind_2 x1 u post) (g : wp_X9_kind_2 x1 u post1) (hp : ∀ (b0_ : Int32) (b1_ : mS), post b0_ b1_ → post1 b0_ b1_ → post2 b0_ b1_) : wp_X9_kind_2 x1 u post2 := by
  refine ⟨h.1, ?_⟩
  have h1 := h.2
  have g2 := g.2
  intro y3 e4
  have h5 := h1 y3 e4
  have g6 := g2 y3 e4
  intro y7 e8
  have h9 := h5 y7 e8
  have g10 := g6 y7 e8
  exact hp _ _ h9 g10
theorem j_wj_X9_end_2_56 {K7 K71 K72 : Int32 → Int32 → Int32 → mS → Prop} {post post1 post2 : Int32 → mS → Prop} {x2 : Int32} {x3 : Int32} {z0 : Int32} {u : mS} (h : wj_X9_end_2_56 K7 post x2 x3 z0 u) (g : wj_X9_end_2_56 K71 post1 x2 x3 z0 u) (hK7 : ∀ (b0_ : Int32) (b1_ : Int32) (b2_ : Int32) (b3_ : mS), K7 b0_ b1_ b2_ b3_ → K71 b0_ b1_ b2_ b3_ → K72 b0_ b1_ b2_ b3_) (hp : ∀ (b0_ : Int32) (b1_ : mS), post b0_ b1_ → post1 b0_ b1_ → post2 b0_ b1_) : wj_X9_end_2_56 K72 post2 x2 x3 z0 u := by
  exact hK7 _ _ _ _ h g
theorem j_wj_X9_end_2_43 {K7 K71 K72 : Int32 → Int32 → Int32 → mS → Prop} {post post1 post2 : Int32 → mS → Prop} {x3 : Int32} {z0 : Int32} {u : mS} (h : wj_X9_end_2_43 K7 post x3 z0 u) (g : wj_X9_end_2_43 K71 post1 x3 z0 u) (hK7 : ∀ (b0_ : Int32) (b1_ : Int32) (b2_ : Int32) (b3_ : mS), K7 b0_ b1_ b2_ b3_ → K71 b0_ b1_ b2_ b3_ → K72 b0_ b1_ b2_ b3_) (hp : ∀ (b0_ : Int32) (b1_ : mS), post b0_ b1_ → post1 b0_ b1_ → post2 b0_ b1_) : wj_X9_end_2_43 K72 post2 x3 z0 u := by
  intro y1 e2
  have h3 := h y1 e2
  have g4 := g y1 e2
  refine ⟨fun c5 => ?_, fun c6 => ?_⟩
  · have h7 := h3.1 c5
    have g8 := g4.1 c5
    exact j_wj_X9_end_2_56 h7 g8 hK7 hp
  · have h9 := h3.2 c6
    have g10 := g4.2 c6
    exact j_wj_X9_end_2_56 h9 g10 hK7 hp
theorem j_wj_X9_end_2_7 {K7 K71 K72 : Int32 → Int32 → Int32 → mS → Prop} {post post1 post2 : Int32 → mS → Prop} {x2 : Int32} {x3 : Int32} {x4 : Int32} {u : mS} (h : wj_X9_end_2_7 K7 post x2 x3 x4 u) (g : wj_X9_end_2_7 K71 post1 x2 x3 x4 u) (hK7 : ∀ (b0_ : Int32) (b1_ : Int32) (b2_ : Int32) (b3_ : mS), K7 b0_ b1_ b2_ b3_ → K71 b0_ b1_ b2_ b3_ → K72 b0_ b1_ b2_ b3_) (hp : ∀ (b0_ : Int32) (b1_ : mS), post b0_ b1_ → post1 b0_ b1_ → post2 b0_ b1_) : wj_X9_end_2_7 K72 post2 x2 x3 x4 u := by
  refine ⟨fun c1 => ?_, fun c2 => ?_⟩
  · have h3 := h.1 c1
    have g4 := g.1 c1
    exact hp _ _ h3 g4
  · have h5 := h.2 c2
    have g6 := g.2 c2
    refine j_wp_X9_kind_2 h5 g6 (fun w9 w10 h7 g8 => ?_)
    refine ⟨fun c11 => ?_, fun c12 => ?_⟩
    · have h13 := h7.1 c11
      have g14 := g8.1 c11
      refine j_wp_X9_kind_2 h13 g14 (fun w17 w18 h15 g16 => ?_)
      refine ⟨fun c19 => ?_, fun c20 => ?_⟩
      · have h21 := h15.1 c19
        have g22 := g16.1 c19
        exact j_wj_X9_end_2_43 h21 g22 hK7 hp
      · have h23 := h15.2 c20
        have g24 := g16.2 c20
        intro y25 e26
        have h27 := h23 y25 e26
        have g28 := g24 y25 e26
        exact j_wj_X9_end_2_43 h27 g28 hK7 hp
    · have h29 := h7.2 c12
      have g30 := g8.2 c12
      intro y31 e32
      have h33 := h29 y31 e32
      have g34 := g30 y31 e32
      exact j_wj_X9_end_2_43 h33 g34 hK7 hp
theorem j_wp_X9_end_2 {x1 : Int32} {u : mS} {post post1 post2 : Int32 → mS → Prop} (h : wp_X9_end_2 x1 u post) (g : wp_X9_end_2 x1 u post1) (hp : ∀ (b0_ : Int32) (b1_ : mS), post b0_ b1_ → post1 b0_ b1_ → post2 b0_ b1_) : wp_X9_end_2 x1 u post2 := by
  obtain ⟨n1, h3⟩ := h
  obtain ⟨m2, g4⟩ := g
  refine ⟨n1, mL4_j ?_ n1 m2 _ _ _ _ h3 g4⟩
  intro K_ L_ M_ hK_ _ _ _ _ a_ b_
  exact j_wj_X9_end_2_7 a_ b_ hK_ hp
theorem j_wj_X9_dots_2_61 {K6 K61 K62 : Int32 → Int32 → mS → Prop} {post post1 post2 : Int32 → mS → Prop} {x2 : Int32} {z0 : Int32} {u : mS} (h : wj_X9_dots_2_61 K6 post x2 z0 u) (g : wj_X9_dots_2_61 K61 post1 x2 z0 u) (hK6 : ∀ (b0_ : Int32) (b1_ : Int32) (b2_ : mS), K6 b0_ b1_ b2_ → K61 b0_ b1_ b2_ → K62 b0_ b1_ b2_) (hp : ∀ (b0_ : Int32) (b1_ : mS), post b0_ b1_ → post1 b0_ b1_ → post2 b0_ b1_) : wj_X9_dots_2_61 K62 post2 x2 z0 u := by
  exact hK6 _ _ _ h g
theorem j_wj_X9_dots_2_44 {K6 K61 K62 : Int32 → Int32 → mS → Prop} {post post1 post2 : Int32 → mS → Prop} {x3 : Int32} {x4 : Int32} {z0 : Int32} {u : mS} (h : wj_X9_dots_2_44 K6 post x3 x4 z0 u) (g : wj_X9_dots_2_44 K61 post1 x3 x4 z0 u) (hK6 : ∀ (b0_ : Int32) (b1_ : Int32) (b2_ : mS), K6 b0_ b1_ b2_ → K61 b0_ b1_ b2_ → K62 b0_ b1_ b2_) (hp : ∀ (b0_ : Int32) (b1_ : mS), post b0_ b1_ → post1 b0_ b1_ → post2 b0_ b1_) : wj_X9_dots_2_44 K62 post2 x3 x4 z0 u := by
  refine ⟨fun c1 => ?_, fun c2 => ?_⟩
  · have h3 := h.1 c1
    have g4 := g.1 c1
    refine j_wp_X9_end_2 h3 g4 (fun w7 w8 h5 g6 => ?_)
    exact j_wj_X9_dots_2_61 h5 g6 hK6 hp
  · have h9 := h.2 c2
    have g10 := g.2 c2
    intro y11 e12
    have h13 := h9 y11 e12
    have g14 := g10 y11 e12
    exact j_wj_X9_dots_2_61 h13 g14 hK6 hp
theorem j_wj_X9_dots_2_30 {K6 K61 K62 : Int32 → Int32 → mS → Prop} {post post1 post2 : Int32 → mS → Prop} {x2 : Int32} {x3 : Int32} {z0 : Int32} {u : mS} (h : wj_X9_dots_2_30 K6 post x2 x3 z0 u) (g : wj_X9_dots_2_30 K61 post1 x2 x3 z0 u) (hK6 : ∀ (b0_ : Int32) (b1_ : Int32) (b2_ : mS), K6 b0_ b1_ b2_ → K61 b0_ b1_ b2_ → K62 b0_ b1_ b2_) (hp : ∀ (b0_ : Int32) (b1_ : mS), post b0_ b1_ → post1 b0_ b1_ → post2 b0_ b1_) : wj_X9_dots_2_30 K62 post2 x2 x3 z0 u := by
  refine ⟨fun c1 => ?_, fun c2 => ?_⟩
  · have h3 := h.1 c1
    have g4 := g.1 c1
    exact j_wj_X9_dots_2_44 h3 g4 hK6 hp
  · have h5 := h.2 c2
    have g6 := g.2 c2
    intro y7 e8
    have h9 := h5 y7 e8
    have g10 := g6 y7 e8
    exact j_wj_X9_dots_2_44 h9 g10 hK6 hp
theorem j_wj_X9_dots_2_6 {K6 K61 K62 : Int32 → Int32 → mS → Prop} {post post1 post2 : Int32 → mS → Prop} {x2 : Int32} {x3 : Int32} {u : mS} (h : wj_X9_dots_2_6 K6 post x2 x3 u) (g : wj_X9_dots_2_6 K61 post1 x2 x3 u) (hK6 : ∀ (b0_ : Int32) (b1_ : Int32) (b2_ : mS), K6 b0_ b1_ b2_ → K61 b0_ b1_ b2_ → K62 b0_ b1_ b2_) (hp : ∀ (b0_ : Int32) (b1_ : mS), post b0_ b1_ → post1 b0_ b1_ → post2 b0_ b1_) : wj_X9_dots_2_6 K62 post2 x2 x3 u := by
  refine j_wp_X9_kind_2 h g (fun w3 w4 h1 g2 => ?_)
  refine ⟨fun c5 => ?_, fun c6 => ?_⟩
  · have h7 := h1.1 c5
    have g8 := g2.1 c5
    exact hp _ _ h7 g8
  · have h9 := h1.2 c6
    have g10 := g2.2 c6
    refine j_wp_X9_kind_2 h9 g10 (fun w13 w14 h11 g12 => ?_)
    refine ⟨fun c15 => ?_, fun c16 => ?_⟩
    · have h17 := h11.1 c15
      have g18 := g12.1 c15
      exact j_wj_X9_dots_2_30 h17 g18 hK6 hp
    · have h19 := h11.2 c16
      have g20 := g12.2 c16
      exact j_wj_X9_dots_2_30 h19 g20 hK6 hp
theorem j_wp_X9_dots_2 {x1 : Int32} {u : mS} {post post1 post2 : Int32 → mS → Prop} (h : wp_X9_dots_2 x1 u post) (g : wp_X9_dots_2 x1 u post1) (hp : ∀ (b0_ : Int32) (b1_ : mS), post b0_ b1_ → post1 b0_ b1_ → post2 b0_ b1_) : wp_X9_dots_2 x1 u post2 := by
  intro y1 e2
  have h3 := h y1 e2
  have g4 := g y1 e2
  obtain ⟨n5, h7⟩ := h3
  obtain ⟨m6, g8⟩ := g4
  refine ⟨n5, mL3_j ?_ n5 m6 _ _ _ h7 g8⟩
  intro K_ L_ M_ hK_ _ _ _ a_ b_
  exact j_wj_X9_dots_2_6 a_ b_ hK_ hp
theorem j_wj_X9_keep_3 {K3 K31 K32 : Int32 → Int32 → Int32 → Int32 → mS → Prop} {post post1 post2 : Int32 → mS → Prop} {x1 : Int32} {x2 : Int32} {x3 : Int32} {x4 : Int32} {u : mS} (h : wj_X9_keep_3 K3 post x1 x2 x3 x4 u) (g : wj_X9_keep_3 K31 post1 x1 x2 x3 x4 u) (hK3 : ∀ (b0_ : Int32) (b1_ : Int32) (b2_ : Int32) (b3_ : Int32) (b4_ : mS), K3 b0_ b1_ b2_ b3_ b4_ → K31 b0_ b1_ b2_ b3_ b4_ → K32 b0_ b1_ b2_ b3_ b4_) (hp : ∀ (b0_ : Int32) (b1_ : mS), post b0_ b1_ → post1 b0_ b1_ → post2 b0_ b1_) : wj_X9_keep_3 K32 post2 x1 x2 x3 x4 u := by
  refine ⟨fun c1 => ?_, fun c2 => ?_⟩
  · have h3 := h.1 c1
    have g4 := g.1 c1
    intro y5 e6
    have h7 := h3 y5 e6
    have g8 := g4 y5 e6
    intro y9 e10
    have h11 := h7 y9 e10
    have g12 := g8 y9 e10
    exact hp _ _ h11 g12
  · have h13 := h.2 c2
    have g14 := g.2 c2
    intro y15 e16
    have h17 := h13 y15 e16
    have g18 := g14 y15 e16
    intro y19 e20
    have h21 := h17 y19 e20
    have g22 := g18 y19 e20
    refine ⟨h21.1, ?_⟩
    have h23 := h21.2
    have g24 := g22.2
    intro y25 e26
    have h27 := h23 y25 e26
    have g28 := g24 y25 e26
    refine ⟨h27.1, ?_⟩
    have h29 := h27.2
    have g30 := g28.2
    intro y31 e32
    have h33 := h29 y31 e32
    have g34 := g30 y31 e32
    intro y35 e36
    have h37 := h33 y35 e36
    have g38 := g34 y35 e36
    intro y39 e40
    have h41 := h37 y39 e40
    have g42 := g38 y39 e40
    refine ⟨h41.1, ?_⟩
    have h43 := h41.2
    have g44 := g42.2
    intro y45 e46
    have h47 := h43 y45 e46
    have g48 := g44 y45 e46
    refine ⟨h47.1, ?_⟩
    have h49 := h47.2
    have g50 := g48.2
    intro y51 e52
    have h53 := h49 y51 e52
    have g54 := g50 y51 e52
    intro y55 e56
    have h57 := h53 y55 e56
    have g58 := g54 y55 e56
    exact hK3 _ _ _ _ _ h57 g58
theorem j_wp_X9_keep {x1 : Int32} {x2 : Int32} {x3 : Int32} {u : mS} {post post1 post2 : Int32 → mS → Prop} (h : wp_X9_keep x1 x2 x3 u post) (g : wp_X9_keep x1 x2 x3 u post1) (hp : ∀ (b0_ : Int32) (b1_ : mS), post b0_ b1_ → post1 b0_ b1_ → post2 b0_ b1_) : wp_X9_keep x1 x2 x3 u post2 := by
  obtain ⟨n1, h3⟩ := h
  obtain ⟨m2, g4⟩ := g
  refine ⟨n1, mL5_j ?_ n1 m2 _ _ _ _ _ h3 g4⟩
  intro K_ L_ M_ hK_ _ _ _ _ _ a_ b_
  exact j_wj_X9_keep_3 a_ b_ hK_ hp
theorem j_wp_X9_kind_4 {x1 : Int32} {u : mS} {post post1 post2 : Int32 → mS → Prop} (h : wp_X9_kind_4 x1 u post) (g : wp_X9_kind_4 x1 u post1) (hp : ∀ (b0_ : Int32) (b1_ : mS), post b0_ b1_ → post1 b0_ b1_ → post2 b0_ b1_) : wp_X9_kind_4 x1 u post2 := by
  refine ⟨h.1, ?_⟩
  have h1 := h.2
  have g2 := g.2
  intro y3 e4
  have h5 := h1 y3 e4
  have g6 := g2 y3 e4
  intro y7 e8
  have h9 := h5 y7 e8
  have g10 := g6 y7 e8
  exact hp _ _ h9 g10
theorem j_wj_X9_end_4_56 {K7 K71 K72 : Int32 → Int32 → Int32 → mS → Prop} {post post1 post2 : Int32 → mS → Prop} {x2 : Int32} {x3 : Int32} {z0 : Int32} {u : mS} (h : wj_X9_end_4_56 K7 post x2 x3 z0 u) (g : wj_X9_end_4_56 K71 post1 x2 x3 z0 u) (hK7 : ∀ (b0_ : Int32) (b1_ : Int32) (b2_ : Int32) (b3_ : mS), K7 b0_ b1_ b2_ b3_ → K71 b0_ b1_ b2_ b3_ → K72 b0_ b1_ b2_ b3_) (hp : ∀ (b0_ : Int32) (b1_ : mS), post b0_ b1_ → post1 b0_ b1_ → post2 b0_ b1_) : wj_X9_end_4_56 K72 post2 x2 x3 z0 u := by
  exact hK7 _ _ _ _ h g
theorem j_wj_X9_end_4_43 {K7 K71 K72 : Int32 → Int32 → Int32 → mS → Prop} {post post1 post2 : Int32 → mS → Prop} {x3 : Int32} {z0 : Int32} {u : mS} (h : wj_X9_end_4_43 K7 post x3 z0 u) (g : wj_X9_end_4_43 K71 post1 x3 z0 u) (hK7 : ∀ (b0_ : Int32) (b1_ : Int32) (b2_ : Int32) (b3_ : mS), K7 b0_ b1_ b2_ b3_ → K71 b0_ b1_ b2_ b3_ → K72 b0_ b1_ b2_ b3_) (hp : ∀ (b0_ : Int32) (b1_ : mS), post b0_ b1_ → post1 b0_ b1_ → post2 b0_ b1_) : wj_X9_end_4_43 K72 post2 x3 z0 u := by
  intro y1 e2
  have h3 := h y1 e2
  have g4 := g y1 e2
  refine ⟨fun c5 => ?_, fun c6 => ?_⟩
  · have h7 := h3.1 c5
    have g8 := g4.1 c5
    exact j_wj_X9_end_4_56 h7 g8 hK7 hp
  · have h9 := h3.2 c6
    have g10 := g4.2 c6
    exact j_wj_X9_end_4_56 h9 g10 hK7 hp
theorem j_wj_X9_end_4_7 {K7 K71 K72 : Int32 → Int32 → Int32 → mS → Prop} {post post1 post2 : Int32 → mS → Prop} {x2 : Int32} {x3 : Int32} {x4 : Int32} {u : mS} (h : wj_X9_end_4_7 K7 post x2 x3 x4 u) (g : wj_X9_end_4_7 K71 post1 x2 x3 x4 u) (hK7 : ∀ (b0_ : Int32) (b1_ : Int32) (b2_ : Int32) (b3_ : mS), K7 b0_ b1_ b2_ b3_ → K71 b0_ b1_ b2_ b3_ → K72 b0_ b1_ b2_ b3_) (hp : ∀ (b0_ : Int32) (b1_ : mS), post b0_ b1_ → post1 b0_ b1_ → post2 b0_ b1_) : wj_X9_end_4_7 K72 post2 x2 x3 x4 u := by
  refine ⟨fun c1 => ?_, fun c2 => ?_⟩
  · have h3 := h.1 c1
    have g4 := g.1 c1
    exact hp _ _ h3 g4
  · have h5 := h.2 c2
    have g6 := g.2 c2
    refine j_wp_X9_kind_4 h5 g6 (fun w9 w10 h7 g8 => ?_)
    refine ⟨fun c11 => ?_, fun c12 => ?_⟩
    · have h13 := h7.1 c11
      have g14 := g8.1 c11
      refine j_wp_X9_kind_4 h13 g14 (fun w17 w18 h15 g16 => ?_)
      refine ⟨fun c19 => ?_, fun c20 => ?_⟩
      · have h21 := h15.1 c19
        have g22 := g16.1 c19
        exact j_wj_X9_end_4_43 h21 g22 hK7 hp
      · have h23 := h15.2 c20
        have g24 := g16.2 c20
        intro y25 e26
        have h27 := h23 y25 e26
        have g28 := g24 y25 e26
        exact j_wj_X9_end_4_43 h27 g28 hK7 hp
    · have h29 := h7.2 c12
      have g30 := g8.2 c12
      intro y31 e32
      have h33 := h29 y31 e32
      have g34 := g30 y31 e32
      exact j_wj_X9_end_4_43 h33 g34 hK7 hp
theorem j_wp_X9_end_4 {x1 : Int32} {u : mS} {post post1 post2 : Int32 → mS → Prop} (h : wp_X9_end_4 x1 u post) (g : wp_X9_end_4 x1 u post1) (hp : ∀ (b0_ : Int32) (b1_ : mS), post b0_ b1_ → post1 b0_ b1_ → post2 b0_ b1_) : wp_X9_end_4 x1 u post2 := by
  obtain ⟨n1, h3⟩ := h
  obtain ⟨m2, g4⟩ := g
  refine ⟨n1, mL4_j ?_ n1 m2 _ _ _ _ h3 g4⟩
  intro K_ L_ M_ hK_ _ _ _ _ a_ b_
  exact j_wj_X9_end_4_7 a_ b_ hK_ hp
theorem j_wj_X9_count_4_61 {K6 K61 K62 : Int32 → Int32 → mS → Prop} {post post1 post2 : Int32 → mS → Prop} {x2 : Int32} {z0 : Int32} {u : mS} (h : wj_X9_count_4_61 K6 post x2 z0 u) (g : wj_X9_count_4_61 K61 post1 x2 z0 u) (hK6 : ∀ (b0_ : Int32) (b1_ : Int32) (b2_ : mS), K6 b0_ b1_ b2_ → K61 b0_ b1_ b2_ → K62 b0_ b1_ b2_) (hp : ∀ (b0_ : Int32) (b1_ : mS), post b0_ b1_ → post1 b0_ b1_ → post2 b0_ b1_) : wj_X9_count_4_61 K62 post2 x2 z0 u := by
  exact hK6 _ _ _ h g
theorem j_wj_X9_count_4_44 {K6 K61 K62 : Int32 → Int32 → mS → Prop} {post post1 post2 : Int32 → mS → Prop} {x3 : Int32} {x4 : Int32} {z0 : Int32} {u : mS} (h : wj_X9_count_4_44 K6 post x3 x4 z0 u) (g : wj_X9_count_4_44 K61 post1 x3 x4 z0 u) (hK6 : ∀ (b0_ : Int32) (b1_ : Int32) (b2_ : mS), K6 b0_ b1_ b2_ → K61 b0_ b1_ b2_ → K62 b0_ b1_ b2_) (hp : ∀ (b0_ : Int32) (b1_ : mS), post b0_ b1_ → post1 b0_ b1_ → post2 b0_ b1_) : wj_X9_count_4_44 K62 post2 x3 x4 z0 u := by
  refine ⟨fun c1 => ?_, fun c2 => ?_⟩
  · have h3 := h.1 c1
    have g4 := g.1 c1
    refine j_wp_X9_end_4 h3 g4 (fun w7 w8 h5 g6 => ?_)
    exact j_wj_X9_count_4_61 h5 g6 hK6 hp
  · have h9 := h.2 c2
    have g10 := g.2 c2
    intro y11 e12
    have h13 := h9 y11 e12
    have g14 := g10 y11 e12
    exact j_wj_X9_count_4_61 h13 g14 hK6 hp
theorem j_wj_X9_count_4_30 {K6 K61 K62 : Int32 → Int32 → mS → Prop} {post post1 post2 : Int32 → mS → Prop} {x2 : Int32} {x3 : Int32} {z0 : Int32} {u : mS} (h : wj_X9_count_4_30 K6 post x2 x3 z0 u) (g : wj_X9_count_4_30 K61 post1 x2 x3 z0 u) (hK6 : ∀ (b0_ : Int32) (b1_ : Int32) (b2_ : mS), K6 b0_ b1_ b2_ → K61 b0_ b1_ b2_ → K62 b0_ b1_ b2_) (hp : ∀ (b0_ : Int32) (b1_ : mS), post b0_ b1_ → post1 b0_ b1_ → post2 b0_ b1_) : wj_X9_count_4_30 K62 post2 x2 x3 z0 u := by
  refine ⟨fun c1 => ?_, fun c2 => ?_⟩
  · have h3 := h.1 c1
    have g4 := g.1 c1
    intro y5 e6
    have h7 := h3 y5 e6
    have g8 := g4 y5 e6
    exact j_wj_X9_count_4_44 h7 g8 hK6 hp
  · have h9 := h.2 c2
    have g10 := g.2 c2
    exact j_wj_X9_count_4_44 h9 g10 hK6 hp
theorem j_wj_X9_count_4_6 {K6 K61 K62 : Int32 → Int32 → mS → Prop} {post post1 post2 : Int32 → mS → Prop} {x2 : Int32} {x3 : Int32} {u : mS} (h : wj_X9_count_4_6 K6 post x2 x3 u) (g : wj_X9_count_4_6 K61 post1 x2 x3 u) (hK6 : ∀ (b0_ : Int32) (b1_ : Int32) (b2_ : mS), K6 b0_ b1_ b2_ → K61 b0_ b1_ b2_ → K62 b0_ b1_ b2_) (hp : ∀ (b0_ : Int32) (b1_ : mS), post b0_ b1_ → post1 b0_ b1_ → post2 b0_ b1_) : wj_X9_count_4_6 K62 post2 x2 x3 u := by
  refine j_wp_X9_kind_4 h g (fun w3 w4 h1 g2 => ?_)
  refine ⟨fun c5 => ?_, fun c6 => ?_⟩
  · have h7 := h1.1 c5
    have g8 := g2.1 c5
    exact hp _ _ h7 g8
  · have h9 := h1.2 c6
    have g10 := g2.2 c6
    refine j_wp_X9_kind_4 h9 g10 (fun w13 w14 h11 g12 => ?_)
    refine ⟨fun c15 => ?_, fun c16 => ?_⟩
    · have h17 := h11.1 c15
      have g18 := g12.1 c15
      exact j_wj_X9_count_4_30 h17 g18 hK6 hp
    · have h19 := h11.2 c16
      have g20 := g12.2 c16
      exact j_wj_X9_count_4_30 h19 g20 hK6 hp
theorem j_wp_X9_count_4 {x1 : Int32} {u : mS} {post post1 post2 : Int32 → mS → Prop} (h : wp_X9_count_4 x1 u post) (g : wp_X9_count_4 x1 u post1) (hp : ∀ (b0_ : Int32) (b1_ : mS), post b0_ b1_ → post1 b0_ b1_ → post2 b0_ b1_) : wp_X9_count_4 x1 u post2 := by
  intro y1 e2
  have h3 := h y1 e2
  have g4 := g y1 e2
  obtain ⟨n5, h7⟩ := h3
  obtain ⟨m6, g8⟩ := g4
  refine ⟨n5, mL3_j ?_ n5 m6 _ _ _ h7 g8⟩
  intro K_ L_ M_ hK_ _ _ _ a_ b_
  exact j_wj_X9_count_4_6 a_ b_ hK_ hp
theorem j_wj_X9_dots_4_61 {K6 K61 K62 : Int32 → Int32 → mS → Prop} {post post1 post2 : Int32 → mS → Prop} {x2 : Int32} {z0 : Int32} {u : mS} (h : wj_X9_dots_4_61 K6 post x2 z0 u) (g : wj_X9_dots_4_61 K61 post1 x2 z0 u) (hK6 : ∀ (b0_ : Int32) (b1_ : Int32) (b2_ : mS), K6 b0_ b1_ b2_ → K61 b0_ b1_ b2_ → K62 b0_ b1_ b2_) (hp : ∀ (b0_ : Int32) (b1_ : mS), post b0_ b1_ → post1 b0_ b1_ → post2 b0_ b1_) : wj_X9_dots_4_61 K62 post2 x2 z0 u := by
  exact hK6 _ _ _ h g
theorem j_wj_X9_dots_4_44 {K6 K61 K62 : Int32 → Int32 → mS → Prop} {post post1 post2 : Int32 → mS → Prop} {x3 : Int32} {x4 : Int32} {z0 : Int32} {u : mS} (h : wj_X9_dots_4_44 K6 post x3 x4 z0 u) (g : wj_X9_dots_4_44 K61 post1 x3 x4 z0 u) (hK6 : ∀ (b0_ : Int32) (b1_ : Int32) (b2_ : mS), K6 b0_ b1_ b2_ → K61 b0_ b1_ b2_ → K62 b0_ b1_ b2_) (hp : ∀ (b0_ : Int32) (b1_ : mS), post b0_ b1_ → post1 b0_ b1_ → post2 b0_ b1_) : wj_X9_dots_4_44 K62 post2 x3 x4 z0 u := by
  refine ⟨fun c1 => ?_, fun c2 => ?_⟩
  · have h3 := h.1 c1
    have g4 := g.1 c1
    refine j_wp_X9_end_4 h3 g4 (fun w7 w8 h5 g6 => ?_)
    exact j_wj_X9_dots_4_61 h5 g6 hK6 hp
  · have h9 := h.2 c2
    have g10 := g.2 c2
    intro y11 e12
    have h13 := h9 y11 e12
    have g14 := g10 y11 e12
    exact j_wj_X9_dots_4_61 h13 g14 hK6 hp
theorem j_wj_X9_dots_4_30 {K6 K61 K62 : Int32 → Int32 → mS → Prop} {post post1 post2 : Int32 → mS → Prop} {x2 : Int32} {x3 : Int32} {z0 : Int32} {u : mS} (h : wj_X9_dots_4_30 K6 post x2 x3 z0 u) (g : wj_X9_dots_4_30 K61 post1 x2 x3 z0 u) (hK6 : ∀ (b0_ : Int32) (b1_ : Int32) (b2_ : mS), K6 b0_ b1_ b2_ → K61 b0_ b1_ b2_ → K62 b0_ b1_ b2_) (hp : ∀ (b0_ : Int32) (b1_ : mS), post b0_ b1_ → post1 b0_ b1_ → post2 b0_ b1_) : wj_X9_dots_4_30 K62 post2 x2 x3 z0 u := by
  refine ⟨fun c1 => ?_, fun c2 => ?_⟩
  · have h3 := h.1 c1
    have g4 := g.1 c1
    exact j_wj_X9_dots_4_44 h3 g4 hK6 hp
  · have h5 := h.2 c2
    have g6 := g.2 c2
    intro y7 e8
    have h9 := h5 y7 e8
    have g10 := g6 y7 e8
    exact j_wj_X9_dots_4_44 h9 g10 hK6 hp
theorem j_wj_X9_dots_4_6 {K6 K61 K62 : Int32 → Int32 → mS → Prop} {post post1 post2 : Int32 → mS → Prop} {x2 : Int32} {x3 : Int32} {u : mS} (h : wj_X9_dots_4_6 K6 post x2 x3 u) (g : wj_X9_dots_4_6 K61 post1 x2 x3 u) (hK6 : ∀ (b0_ : Int32) (b1_ : Int32) (b2_ : mS), K6 b0_ b1_ b2_ → K61 b0_ b1_ b2_ → K62 b0_ b1_ b2_) (hp : ∀ (b0_ : Int32) (b1_ : mS), post b0_ b1_ → post1 b0_ b1_ → post2 b0_ b1_) : wj_X9_dots_4_6 K62 post2 x2 x3 u := by
  refine j_wp_X9_kind_4 h g (fun w3 w4 h1 g2 => ?_)
  refine ⟨fun c5 => ?_, fun c6 => ?_⟩
  · have h7 := h1.1 c5
    have g8 := g2.1 c5
    exact hp _ _ h7 g8
  · have h9 := h1.2 c6
    have g10 := g2.2 c6
    refine j_wp_X9_kind_4 h9 g10 (fun w13 w14 h11 g12 => ?_)
    refine ⟨fun c15 => ?_, fun c16 => ?_⟩
    · have h17 := h11.1 c15
      have g18 := g12.1 c15
      exact j_wj_X9_dots_4_30 h17 g18 hK6 hp
    · have h19 := h11.2 c16
      have g20 := g12.2 c16
      exact j_wj_X9_dots_4_30 h19 g20 hK6 hp
theorem j_wp_X9_dots_4 {x1 : Int32} {u : mS} {post post1 post2 : Int32 → mS → Prop} (h : wp_X9_dots_4 x1 u post) (g : wp_X9_dots_4 x1 u post1) (hp : ∀ (b0_ : Int32) (b1_ : mS), post b0_ b1_ → post1 b0_ b1_ → post2 b0_ b1_) : wp_X9_dots_4 x1 u post2 := by
  intro y1 e2
  have h3 := h y1 e2
  have g4 := g y1 e2
  obtain ⟨n5, h7⟩ := h3
  obtain ⟨m6, g8⟩ := g4
  refine ⟨n5, mL3_j ?_ n5 m6 _ _ _ h7 g8⟩
  intro K_ L_ M_ hK_ _ _ _ a_ b_
  exact j_wj_X9_dots_4_6 a_ b_ hK_ hp
theorem j_wp_X9_isPlain_4 {x1 : Int32} {x2 : Int32} {u : mS} {post post1 post2 : Int32 → mS → Prop} (h : wp_X9_isPlain_4 x1 x2 u post) (g : wp_X9_isPlain_4 x1 x2 u post1) (hp : ∀ (b0_ : Int32) (b1_ : mS), post b0_ b1_ → post1 b0_ b1_ → post2 b0_ b1_) : wp_X9_isPlain_4 x1 x2 u post2 := by
  refine j_wp_X9_kind_4 h g (fun w3 w4 h1 g2 => ?_)
  refine ⟨fun c5 => ?_, fun c6 => ?_⟩
  · have h7 := h1.1 c5
    have g8 := g2.1 c5
    exact hp _ _ h7 g8
  · have h9 := h1.2 c6
    have g10 := g2.2 c6
    refine j_wp_X9_count_4 h9 g10 (fun w13 w14 h11 g12 => ?_)
    refine ⟨fun c15 => ?_, fun c16 => ?_⟩
    · have h17 := h11.1 c15
      have g18 := g12.1 c15
      exact hp _ _ h17 g18
    · have h19 := h11.2 c16
      have g20 := g12.2 c16
      refine j_wp_X9_dots_4 h19 g20 (fun w23 w24 h21 g22 => ?_)
      refine ⟨fun c25 => ?_, fun c26 => ?_⟩
      · have h27 := h21.1 c25
        have g28 := g22.1 c25
        exact hp _ _ h27 g28
      · have h29 := h21.2 c26
        have g30 := g22.2 c26
        exact hp _ _ h29 g30
theorem j_wj_X9_heldBy_101 {K6 K61 K62 : Int32 → Int32 → Int32 → Int32 → mS → Prop} {post post1 post2 : Int32 → mS → Prop} {x2 : Int32} {x3 : Int32} {x5 : Int32} {z0 : Int32} {u : mS} (h : wj_X9_heldBy_101 K6 post x2 x3 x5 z0 u) (g : wj_X9_heldBy_101 K61 post1 x2 x3 x5 z0 u) (hK6 : ∀ (b0_ : Int32) (b1_ : Int32) (b2_ : Int32) (b3_ : Int32) (b4_ : mS), K6 b0_ b1_ b2_ b3_ b4_ → K61 b0_ b1_ b2_ b3_ b4_ → K62 b0_ b1_ b2_ b3_ b4_) (hp : ∀ (b0_ : Int32) (b1_ : mS), post b0_ b1_ → post1 b0_ b1_ → post2 b0_ b1_) : wj_X9_heldBy_101 K62 post2 x2 x3 x5 z0 u := by
  intro y1 e2
  have h3 := h y1 e2
  have g4 := g y1 e2
  exact hK6 _ _ _ _ _ h3 g4
theorem j_wj_X9_heldBy_99 {K6 K61 K62 : Int32 → Int32 → Int32 → Int32 → mS → Prop} {post post1 post2 : Int32 → mS → Prop} {x2 : Int32} {x3 : Int32} {x4 : Int32} {x5 : Int32} {u : mS} (h : wj_X9_heldBy_99 K6 post x2 x3 x4 x5 u) (g : wj_X9_heldBy_99 K61 post1 x2 x3 x4 x5 u) (hK6 : ∀ (b0_ : Int32) (b1_ : Int32) (b2_ : Int32) (b3_ : Int32) (b4_ : mS), K6 b0_ b1_ b2_ b3_ b4_ → K61 b0_ b1_ b2_ b3_ b4_ → K62 b0_ b1_ b2_ b3_ b4_) (hp : ∀ (b0_ : Int32) (b1_ : mS), post b0_ b1_ → post1 b0_ b1_ → post2 b0_ b1_) : wj_X9_heldBy_99 K62 post2 x2 x3 x4 x5 u := by
  exact j_wj_X9_heldBy_101 h g hK6 hp
theorem j_wj_X9_heldBy_64 {K6 K61 K62 : Int32 → Int32 → Int32 → Int32 → mS → Prop} {post post1 post2 : Int32 → mS → Prop} {x2 : Int32} {x3 : Int32} {x4 : Int32} {x5 : Int32} {z0 : Int32} {u : mS} (h : wj_X9_heldBy_64 K6 post x2 x3 x4 x5 z0 u) (g : wj_X9_heldBy_64 K61 post1 x2 x3 x4 x5 z0 u) (hK6 : ∀ (b0_ : Int32) (b1_ : Int32) (b2_ : Int32) (b3_ : Int32) (b4_ : mS), K6 b0_ b1_ b2_ b3_ b4_ → K61 b0_ b1_ b2_ b3_ b4_ → K62 b0_ b1_ b2_ b3_ b4_) (hp : ∀ (b0_ : Int32) (b1_ : mS), post b0_ b1_ → post1 b0_ b1_ → post2 b0_ b1_) : wj_X9_heldBy_64 K62 post2 x2 x3 x4 x5 z0 u := by
  refine ⟨fun c1 => ?_, fun c2 => ?_⟩
  · have h3 := h.1 c1
    have g4 := g.1 c1
    exact j_wj_X9_heldBy_99 h3 g4 hK6 hp
  · have h5 := h.2 c2
    have g6 := g.2 c2
    refine ⟨fun c7 => ?_, fun c8 => ?_⟩
    · have h9 := h5.1 c7
      have g10 := g6.1 c7
      exact j_wj_X9_heldBy_99 h9 g10 hK6 hp
    · have h11 := h5.2 c8
      have g12 := g6.2 c8
      refine j_wp_X9_kind_4 h11 g12 (fun w15 w16 h13 g14 => ?_)
      refine ⟨fun c17 => ?_, fun c18 => ?_⟩
      · have h19 := h13.1 c17
        have g20 := g14.1 c17
        exact j_wj_X9_heldBy_99 h19 g20 hK6 hp
      · have h21 := h13.2 c18
        have g22 := g14.2 c18
        intro y23 e24
        have h25 := h21 y23 e24
        have g26 := g22 y23 e24
        exact j_wj_X9_heldBy_101 h25 g26 hK6 hp
theorem j_wj_X9_heldBy_44 {K6 K61 K62 : Int32 → Int32 → Int32 → Int32 → mS → Prop} {post post1 post2 : Int32 → mS → Prop} {x2 : Int32} {x3 : Int32} {x4 : Int32} {x5 : Int32} {z0 : Int32} {u : mS} (h : wj_X9_heldBy_44 K6 post x2 x3 x4 x5 z0 u) (g : wj_X9_heldBy_44 K61 post1 x2 x3 x4 x5 z0 u) (hK6 : ∀ (b0_ : Int32) (b1_ : Int32) (b2_ : Int32) (b3_ : Int32) (b4_ : mS), K6 b0_ b1_ b2_ b3_ b4_ → K61 b0_ b1_ b2_ b3_ b4_ → K62 b0_ b1_ b2_ b3_ b4_) (hp : ∀ (b0_ : Int32) (b1_ : mS), post b0_ b1_ → post1 b0_ b1_ → post2 b0_ b1_) : wj_X9_heldBy_44 K62 post2 x2 x3 x4 x5 z0 u := by
  refine ⟨fun c1 => ?_, fun c2 => ?_⟩
  · have h3 := h.1 c1
    have g4 := g.1 c1
    exact j_wj_X9_heldBy_64 h3 g4 hK6 hp
  · have h5 := h.2 c2
    have g6 := g.2 c2
    refine j_wp_X9_end_4 h5 g6 (fun w9 w10 h7 g8 => ?_)
    exact j_wj_X9_heldBy_64 h7 g8 hK6 hp
theorem j_wj_X9_heldBy_43 {K6 K61 K62 : Int32 → Int32 → Int32 → Int32 → mS → Prop} {post post1 post2 : Int32 → mS → Prop} {x2 : Int32} {x3 : Int32} {x4 : Int32} {x5 : Int32} {u : mS} (h : wj_X9_heldBy_43 K6 post x2 x3 x4 x5 u) (g : wj_X9_heldBy_43 K61 post1 x2 x3 x4 x5 u) (hK6 : ∀ (b0_ : Int32) (b1_ : Int32) (b2_ : Int32) (b3_ : Int32) (b4_ : mS), K6 b0_ b1_ b2_ b3_ b4_ → K61 b0_ b1_ b2_ b3_ b4_ → K62 b0_ b1_ b2_ b3_ b4_) (hp : ∀ (b0_ : Int32) (b1_ : mS), post b0_ b1_ → post1 b0_ b1_ → post2 b0_ b1_) : wj_X9_heldBy_43 K62 post2 x2 x3 x4 x5 u := by
  exact j_wj_X9_heldBy_44 h g hK6 hp
theorem j_wj_X9_heldBy_6 {K6 K61 K62 : Int32 → Int32 → Int32 → Int32 → mS → Prop} {post post1 post2 : Int32 → mS → Prop} {x2 : Int32} {x3 : Int32} {x4 : Int32} {x5 : Int32} {u : mS} (h : wj_X9_heldBy_6 K6 post x2 x3 x4 x5 u) (g : wj_X9_heldBy_6 K61 post1 x2 x3 x4 x5 u) (hK6 : ∀ (b0_ : Int32) (b1_ : Int32) (b2_ : Int32) (b3_ : Int32) (b4_ : mS), K6 b0_ b1_ b2_ b3_ b4_ → K61 b0_ b1_ b2_ b3_ b4_ → K62 b0_ b1_ b2_ b3_ b4_) (hp : ∀ (b0_ : Int32) (b1_ : mS), post b0_ b1_ → post1 b0_ b1_ → post2 b0_ b1_) : wj_X9_heldBy_6 K62 post2 x2 x3 x4 x5 u := by
  refine ⟨fun c1 => ?_, fun c2 => ?_⟩
  · have h3 := h.1 c1
    have g4 := g.1 c1
    exact hp _ _ h3 g4
  · have h5 := h.2 c2
    have g6 := g.2 c2
    refine j_wp_X9_kind_4 h5 g6 (fun w9 w10 h7 g8 => ?_)
    refine ⟨fun c11 => ?_, fun c12 => ?_⟩
    · have h13 := h7.1 c11
      have g14 := g8.1 c11
      exact j_wj_X9_heldBy_43 h13 g14 hK6 hp
    · have h15 := h7.2 c12
      have g16 := g8.2 c12
      refine j_wp_X9_kind_4 h15 g16 (fun w19 w20 h17 g18 => ?_)
      refine ⟨fun c21 => ?_, fun c22 => ?_⟩
      · have h23 := h17.1 c21
        have g24 := g18.1 c21
        exact j_wj_X9_heldBy_43 h23 g24 hK6 hp
      · have h25 := h17.2 c22
        have g26 := g18.2 c22
        exact j_wj_X9_heldBy_44 h25 g26 hK6 hp
theorem j_wp_X9_heldBy {x1 : Int32} {x2 : Int32} {x3 : Int32} {u : mS} {post post1 post2 : Int32 → mS → Prop} (h : wp_X9_heldBy x1 x2 x3 u post) (g : wp_X9_heldBy x1 x2 x3 u post1) (hp : ∀ (b0_ : Int32) (b1_ : mS), post b0_ b1_ → post1 b0_ b1_ → post2 b0_ b1_) : wp_X9_heldBy x1 x2 x3 u post2 := by
  obtain ⟨n1, h3⟩ := h
  obtain ⟨m2, g4⟩ := g
  refine ⟨n1, mL5_j ?_ n1 m2 _ _ _ _ _ h3 g4⟩
  intro K_ L_ M_ hK_ _ _ _ _ _ a_ b_
  exact j_wj_X9_heldBy_6 a_ b_ hK_ hp
theorem j_wj_X9_variable_56 {K24 K241 K242 : Int32 → Int32 → Int32 → Int32 → mS → Prop} {post post1 post2 : Int32 → mS → Prop} {x2 : Int32} {x3 : Int32} {x4 : Int32} {x5 : Int32} {u : mS} (h : wj_X9_variable_56 K24 post x2 x3 x4 x5 u) (g : wj_X9_variable_56 K241 post1 x2 x3 x4 x5 u) (hK24 : ∀ (b0_ : Int32) (b1_ : Int32) (b2_ : Int32) (b3_ : Int32) (b4_ : mS), K24 b0_ b1_ b2_ b3_ b4_ → K241 b0_ b1_ b2_ b3_ b4_ → K242 b0_ b1_ b2_ b3_ b4_) (hp : ∀ (b0_ : Int32) (b1_ : mS), post b0_ b1_ → post1 b0_ b1_ → post2 b0_ b1_) : wj_X9_variable_56 K242 post2 x2 x3 x4 x5 u := by
  intro y1 e2
  have h3 := h y1 e2
  have g4 := g y1 e2
  exact hK24 _ _ _ _ _ h3 g4
theorem j_wj_X9_variable_24 {K24 K241 K242 : Int32 → Int32 → Int32 → Int32 → mS → Prop} {post post1 post2 : Int32 → mS → Prop} {x2 : Int32} {x3 : Int32} {x4 : Int32} {x5 : Int32} {u : mS} (h : wj_X9_variable_24 K24 post x2 x3 x4 x5 u) (g : wj_X9_variable_24 K241 post1 x2 x3 x4 x5 u) (hK24 : ∀ (b0_ : Int32) (b1_ : Int32) (b2_ : Int32) (b3_ : Int32) (b4_ : mS), K24 b0_ b1_ b2_ b3_ b4_ → K241 b0_ b1_ b2_ b3_ b4_ → K242 b0_ b1_ b2_ b3_ b4_) (hp : ∀ (b0_ : Int32) (b1_ : mS), post b0_ b1_ → post1 b0_ b1_ → post2 b0_ b1_) : wj_X9_variable_24 K242 post2 x2 x3 x4 x5 u := by
  refine ⟨fun c1 => ?_, fun c2 => ?_⟩
  · have h3 := h.1 c1
    have g4 := g.1 c1
    exact hp _ _ h3 g4
  · have h5 := h.2 c2
    have g6 := g.2 c2
    refine ⟨h5.1, ?_⟩
    have h7 := h5.2
    have g8 := g6.2
    intro y9 e10
    have h11 := h7 y9 e10
    have g12 := g8 y9 e10
    refine ⟨fun c13 => ?_, fun c14 => ?_⟩
    · have h15 := h11.1 c13
      have g16 := g12.1 c13
      exact j_wj_X9_variable_56 h15 g16 hK24 hp
    · have h17 := h11.2 c14
      have g18 := g12.2 c14
      refine ⟨h17.1, ?_⟩
      have h19 := h17.2
      have g20 := g18.2
      intro y21 e22
      have h23 := h19 y21 e22
      have g24 := g20 y21 e22
      refine ⟨fun c25 => ?_, fun c26 => ?_⟩
      · have h27 := h23.1 c25
        have g28 := g24.1 c25
        exact j_wj_X9_variable_56 h27 g28 hK24 hp
      · have h29 := h23.2 c26
        have g30 := g24.2 c26
        exact hp _ _ h29 g30
theorem j_wp_X9_variable {x1 : Int32} {x2 : Int32} {x3 : Int32} {u : mS} {post post1 post2 : Int32 → mS → Prop} (h : wp_X9_variable x1 x2 x3 u post) (g : wp_X9_variable x1 x2 x3 u post1) (hp : ∀ (b0_ : Int32) (b1_ : mS), post b0_ b1_ → post1 b0_ b1_ → post2 b0_ b1_) : wp_X9_variable x1 x2 x3 u post2 := by
  refine j_wp_X9_end_4 h g (fun w3 w4 h1 g2 => ?_)
  intro y5 e6
  have h7 := h1 y5 e6
  have g8 := g2 y5 e6
  intro y9 e10
  have h11 := h7 y9 e10
  have g12 := g8 y9 e10
  refine j_wp_X9_end_4 h11 g12 (fun w15 w16 h13 g14 => ?_)
  obtain ⟨n17, h19⟩ := h13
  obtain ⟨m18, g20⟩ := g14
  refine ⟨n17, mL5_j ?_ n17 m18 _ _ _ _ _ h19 g20⟩
  intro K_ L_ M_ hK_ _ _ _ _ _ a_ b_
  exact j_wj_X9_variable_24 a_ b_ hK_ hp
theorem j_wj_X9_isPattern_165 {K65 K651 K652 : Int32 → Int32 → Int32 → mS → Prop} {post post1 post2 : Int32 → mS → Prop} {x1 : Int32} {x2 : Int32} {x4 : Int32} {u : mS} (h : wj_X9_isPattern_165 K65 post x1 x2 x4 u) (g : wj_X9_isPattern_165 K651 post1 x1 x2 x4 u) (hK65 : ∀ (b0_ : Int32) (b1_ : Int32) (b2_ : Int32) (b3_ : mS), K65 b0_ b1_ b2_ b3_ → K651 b0_ b1_ b2_ b3_ → K652 b0_ b1_ b2_ b3_) (hp : ∀ (b0_ : Int32) (b1_ : mS), post b0_ b1_ → post1 b0_ b1_ → post2 b0_ b1_) : wj_X9_isPattern_165 K652 post2 x1 x2 x4 u := by
  intro y1 e2
  have h3 := h y1 e2
  have g4 := g y1 e2
  exact hK65 _ _ _ _ h3 g4
theorem j_wj_X9_isPattern_133 {K65 K651 K652 : Int32 → Int32 → Int32 → mS → Prop} {post post1 post2 : Int32 → mS → Prop} {x1 : Int32} {x2 : Int32} {x4 : Int32} {x5 : Int32} {u : mS} (h : wj_X9_isPattern_133 K65 post x1 x2 x4 x5 u) (g : wj_X9_isPattern_133 K651 post1 x1 x2 x4 x5 u) (hK65 : ∀ (b0_ : Int32) (b1_ : Int32) (b2_ : Int32) (b3_ : mS), K65 b0_ b1_ b2_ b3_ → K651 b0_ b1_ b2_ b3_ → K652 b0_ b1_ b2_ b3_) (hp : ∀ (b0_ : Int32) (b1_ : mS), post b0_ b1_ → post1 b0_ b1_ → post2 b0_ b1_) : wj_X9_isPattern_133 K652 post2 x1 x2 x4 x5 u := by
  refine ⟨fun c1 => ?_, fun c2 => ?_⟩
  · have h3 := h.1 c1
    have g4 := g.1 c1
    exact j_wj_X9_isPattern_165 h3 g4 hK65 hp
  · have h5 := h.2 c2
    have g6 := g.2 c2
    refine ⟨h5.1, ?_⟩
    have h7 := h5.2
    have g8 := g6.2
    intro y9 e10
    have h11 := h7 y9 e10
    have g12 := g8 y9 e10
    refine ⟨h11.1, ?_⟩
    have h13 := h11.2
    have g14 := g12.2
    intro y15 e16
    have h17 := h13 y15 e16
    have g18 := g14 y15 e16
    refine j_wp_X9_variable h17 g18 (fun w21 w22 h19 g20 => ?_)
    refine ⟨fun c23 => ?_, fun c24 => ?_⟩
    · have h25 := h19.1 c23
      have g26 := g20.1 c23
      exact j_wj_X9_isPattern_165 h25 g26 hK65 hp
    · have h27 := h19.2 c24
      have g28 := g20.2 c24
      exact hp _ _ h27 g28
theorem j_wj_X9_isPattern_106 {K65 K651 K652 : Int32 → Int32 → Int32 → mS → Prop} {post post1 post2 : Int32 → mS → Prop} {x1 : Int32} {x2 : Int32} {x4 : Int32} {x5 : Int32} {u : mS} (h : wj_X9_isPattern_106 K65 post x1 x2 x4 x5 u) (g : wj_X9_isPattern_106 K651 post1 x1 x2 x4 x5 u) (hK65 : ∀ (b0_ : Int32) (b1_ : Int32) (b2_ : Int32) (b3_ : mS), K65 b0_ b1_ b2_ b3_ → K651 b0_ b1_ b2_ b3_ → K652 b0_ b1_ b2_ b3_) (hp : ∀ (b0_ : Int32) (b1_ : mS), post b0_ b1_ → post1 b0_ b1_ → post2 b0_ b1_) : wj_X9_isPattern_106 K652 post2 x1 x2 x4 x5 u := by
  refine ⟨fun c1 => ?_, fun c2 => ?_⟩
  · have h3 := h.1 c1
    have g4 := g.1 c1
    exact j_wj_X9_isPattern_133 h3 g4 hK65 hp
  · have h5 := h.2 c2
    have g6 := g.2 c2
    refine ⟨fun c7 => ?_, fun c8 => ?_⟩
    · have h9 := h5.1 c7
      have g10 := g6.1 c7
      exact j_wj_X9_isPattern_133 h9 g10 hK65 hp
    · have h11 := h5.2 c8
      have g12 := g6.2 c8
      intro y13 e14
      have h15 := h11 y13 e14
      have g16 := g12 y13 e14
      refine j_wp_X9_heldBy h15 g16 (fun w19 w20 h17 g18 => ?_)
      refine ⟨fun c21 => ?_, fun c22 => ?_⟩
      · have h23 := h17.1 c21
        have g24 := g18.1 c21
        exact hp _ _ h23 g24
      · have h25 := h17.2 c22
        have g26 := g18.2 c22
        exact j_wj_X9_isPattern_133 h25 g26 hK65 hp
theorem j_wj_X9_isPattern_65 {K65 K651 K652 : Int32 → Int32 → Int32 → mS → Prop} {post post1 post2 : Int32 → mS → Prop} {x1 : Int32} {x2 : Int32} {x4 : Int32} {u : mS} (h : wj_X9_isPattern_65 K65 post x1 x2 x4 u) (g : wj_X9_isPattern_65 K651 post1 x1 x2 x4 u) (hK65 : ∀ (b0_ : Int32) (b1_ : Int32) (b2_ : Int32) (b3_ : mS), K65 b0_ b1_ b2_ b3_ → K651 b0_ b1_ b2_ b3_ → K652 b0_ b1_ b2_ b3_) (hp : ∀ (b0_ : Int32) (b1_ : mS), post b0_ b1_ → post1 b0_ b1_ → post2 b0_ b1_) : wj_X9_isPattern_65 K652 post2 x1 x2 x4 u := by
  refine ⟨fun c1 => ?_, fun c2 => ?_⟩
  · have h3 := h.1 c1
    have g4 := g.1 c1
    exact hp _ _ h3 g4
  · have h5 := h.2 c2
    have g6 := g.2 c2
    refine j_wp_X9_kind_4 h5 g6 (fun w9 w10 h7 g8 => ?_)
    refine ⟨fun c11 => ?_, fun c12 => ?_⟩
    · have h13 := h7.1 c11
      have g14 := g8.1 c11
      exact j_wj_X9_isPattern_106 h13 g14 hK65 hp
    · have h15 := h7.2 c12
      have g16 := g8.2 c12
      intro y17 e18
      have h19 := h15 y17 e18
      have g20 := g16 y17 e18
      refine j_wp_X9_kind_4 h19 g20 (fun w23 w24 h21 g22 => ?_)
      refine ⟨fun c25 => ?_, fun c26 => ?_⟩
      · have h27 := h21.1 c25
        have g28 := g22.1 c25
        exact j_wj_X9_isPattern_106 h27 g28 hK65 hp
      · have h29 := h21.2 c26
        have g30 := g22.2 c26
        exact hp _ _ h29 g30
theorem j_wp_X9_isPattern {x1 : Int32} {u : mS} {post post1 post2 : Int32 → mS → Prop} (h : wp_X9_isPattern x1 u post) (g : wp_X9_isPattern x1 u post1) (hp : ∀ (b0_ : Int32) (b1_ : mS), post b0_ b1_ → post1 b0_ b1_ → post2 b0_ b1_) : wp_X9_isPattern x1 u post2 := by
  refine j_wp_X9_kind_4 h g (fun w3 w4 h1 g2 => ?_)
  refine ⟨fun c5 => ?_, fun c6 => ?_⟩
  · have h7 := h1.1 c5
    have g8 := g2.1 c5
    exact hp _ _ h7 g8
  · have h9 := h1.2 c6
    have g10 := g2.2 c6
    refine j_wp_X9_count_4 h9 g10 (fun w13 w14 h11 g12 => ?_)
    refine ⟨fun c15 => ?_, fun c16 => ?_⟩
    · have h17 := h11.1 c15
      have g18 := g12.1 c15
      refine j_wp_X9_end_4 h17 g18 (fun w21 w22 h19 g20 => ?_)
      intro y23 e24
      have h25 := h19 y23 e24
      have g26 := g20 y23 e24
      intro y27 e28
      have h29 := h25 y27 e28
      have g30 := g26 y27 e28
      refine j_wp_X9_end_4 h29 g30 (fun w33 w34 h31 g32 => ?_)
      refine j_wp_X9_kind_4 h31 g32 (fun w37 w38 h35 g36 => ?_)
      refine ⟨fun c39 => ?_, fun c40 => ?_⟩
      · have h41 := h35.1 c39
        have g42 := g36.1 c39
        obtain ⟨n43, h45⟩ := h41
        obtain ⟨m44, g46⟩ := g42
        refine ⟨n43, mL4_j ?_ n43 m44 _ _ _ _ h45 g46⟩
        intro K_ L_ M_ hK_ _ _ _ _ a_ b_
        exact j_wj_X9_isPattern_65 a_ b_ hK_ hp
      · have h47 := h35.2 c40
        have g48 := g36.2 c40
        exact hp _ _ h47 g48
    · have h49 := h11.2 c16
      have g50 := g12.2 c16
      exact hp _ _ h49 g50
theorem j_wj_X9_uses_56 {K6 K61 K62 : Int32 → Int32 → Int32 → Int32 → mS → Prop} {post post1 post2 : Int32 → mS → Prop} {x1 : Int32} {x3 : Int32} {x5 : Int32} {z0 : Int32} {u : mS} (h : wj_X9_uses_56 K6 post x1 x3 x5 z0 u) (g : wj_X9_uses_56 K61 post1 x1 x3 x5 z0 u) (hK6 : ∀ (b0_ : Int32) (b1_ : Int32) (b2_ : Int32) (b3_ : Int32) (b4_ : mS), K6 b0_ b1_ b2_ b3_ b4_ → K61 b0_ b1_ b2_ b3_ b4_ → K62 b0_ b1_ b2_ b3_ b4_) (hp : ∀ (b0_ : Int32) (b1_ : mS), post b0_ b1_ → post1 b0_ b1_ → post2 b0_ b1_) : wj_X9_uses_56 K62 post2 x1 x3 x5 z0 u := by
  intro y1 e2
  have h3 := h y1 e2
  have g4 := g y1 e2
  exact hK6 _ _ _ _ _ h3 g4
theorem j_wj_X9_uses_54 {K6 K61 K62 : Int32 → Int32 → Int32 → Int32 → mS → Prop} {post post1 post2 : Int32 → mS → Prop} {x1 : Int32} {x3 : Int32} {x4 : Int32} {x5 : Int32} {u : mS} (h : wj_X9_uses_54 K6 post x1 x3 x4 x5 u) (g : wj_X9_uses_54 K61 post1 x1 x3 x4 x5 u) (hK6 : ∀ (b0_ : Int32) (b1_ : Int32) (b2_ : Int32) (b3_ : Int32) (b4_ : mS), K6 b0_ b1_ b2_ b3_ b4_ → K61 b0_ b1_ b2_ b3_ b4_ → K62 b0_ b1_ b2_ b3_ b4_) (hp : ∀ (b0_ : Int32) (b1_ : mS), post b0_ b1_ → post1 b0_ b1_ → post2 b0_ b1_) : wj_X9_uses_54 K62 post2 x1 x3 x4 x5 u := by
  exact j_wj_X9_uses_56 h g hK6 hp
theorem j_wj_X9_uses_6 {K6 K61 K62 : Int32 → Int32 → Int32 → Int32 → mS → Prop} {post post1 post2 : Int32 → mS → Prop} {x1 : Int32} {x3 : Int32} {x4 : Int32} {x5 : Int32} {u : mS} (h : wj_X9_uses_6 K6 post x1 x3 x4 x5 u) (g : wj_X9_uses_6 K61 post1 x1 x3 x4 x5 u) (hK6 : ∀ (b0_ : Int32) (b1_ : Int32) (b2_ : Int32) (b3_ : Int32) (b4_ : mS), K6 b0_ b1_ b2_ b3_ b4_ → K61 b0_ b1_ b2_ b3_ b4_ → K62 b0_ b1_ b2_ b3_ b4_) (hp : ∀ (b0_ : Int32) (b1_ : mS), post b0_ b1_ → post1 b0_ b1_ → post2 b0_ b1_) : wj_X9_uses_6 K62 post2 x1 x3 x4 x5 u := by
  refine ⟨fun c1 => ?_, fun c2 => ?_⟩
  · have h3 := h.1 c1
    have g4 := g.1 c1
    exact hp _ _ h3 g4
  · have h5 := h.2 c2
    have g6 := g.2 c2
    refine j_wp_X9_kind_4 h5 g6 (fun w9 w10 h7 g8 => ?_)
    refine ⟨fun c11 => ?_, fun c12 => ?_⟩
    · have h13 := h7.1 c11
      have g14 := g8.1 c11
      exact j_wj_X9_uses_54 h13 g14 hK6 hp
    · have h15 := h7.2 c12
      have g16 := g8.2 c12
      refine ⟨h15.1, ?_⟩
      have h17 := h15.2
      have g18 := g16.2
      intro y19 e20
      have h21 := h17 y19 e20
      have g22 := g18 y19 e20
      refine ⟨h21.1, ?_⟩
      have h23 := h21.2
      have g24 := g22.2
      intro y25 e26
      have h27 := h23 y25 e26
      have g28 := g24 y25 e26
      refine j_wp_X9_variable h27 g28 (fun w31 w32 h29 g30 => ?_)
      refine ⟨fun c33 => ?_, fun c34 => ?_⟩
      · have h35 := h29.1 c33
        have g36 := g30.1 c33
        exact j_wj_X9_uses_54 h35 g36 hK6 hp
      · have h37 := h29.2 c34
        have g38 := g30.2 c34
        intro y39 e40
        have h41 := h37 y39 e40
        have g42 := g38 y39 e40
        exact j_wj_X9_uses_56 h41 g42 hK6 hp
theorem j_wp_X9_uses {x1 : Int32} {x2 : Int32} {x3 : Int32} {u : mS} {post post1 post2 : Int32 → mS → Prop} (h : wp_X9_uses x1 x2 x3 u post) (g : wp_X9_uses x1 x2 x3 u post1) (hp : ∀ (b0_ : Int32) (b1_ : mS), post b0_ b1_ → post1 b0_ b1_ → post2 b0_ b1_) : wp_X9_uses x1 x2 x3 u post2 := by
  obtain ⟨n1, h3⟩ := h
  obtain ⟨m2, g4⟩ := g
  refine ⟨n1, mL5_j ?_ n1 m2 _ _ _ _ _ h3 g4⟩
  intro K_ L_ M_ hK_ _ _ _ _ _ a_ b_
  exact j_wj_X9_uses_6 a_ b_ hK_ hp
theorem j_wj_X9_isTemplate_97 {K24 K241 K242 : Int32 → Int32 → Int32 → Int32 → Int32 → mS → Prop} {post post1 post2 : Int32 → mS → Prop} {x1 : Int32} {x2 : Int32} {x3 : Int32} {x4 : Int32} {x5 : Int32} {u : mS} (h : wj_X9_isTemplate_97 K24 post x1 x2 x3 x4 x5 u) (g : wj_X9_isTemplate_97 K241 post1 x1 x2 x3 x4 x5 u) (hK24 : ∀ (b0_ : Int32) (b1_ : Int32) (b2_ : Int32) (b3_ : Int32) (b4_ : Int32) (b5_ : mS), K24 b0_ b1_ b2_ b3_ b4_ b5_ → K241 b0_ b1_ b2_ b3_ b4_ b5_ → K242 b0_ b1_ b2_ b3_ b4_ b5_) (hp : ∀ (b0_ : Int32) (b1_ : mS), post b0_ b1_ → post1 b0_ b1_ → post2 b0_ b1_) : wj_X9_isTemplate_97 K242 post2 x1 x2 x3 x4 x5 u := by
  intro y1 e2
  have h3 := h y1 e2
  have g4 := g y1 e2
  exact hK24 _ _ _ _ _ _ h3 g4
theorem j_wj_X9_isTemplate_66 {K24 K241 K242 : Int32 → Int32 → Int32 → Int32 → Int32 → mS → Prop} {post post1 post2 : Int32 → mS → Prop} {x1 : Int32} {x2 : Int32} {x3 : Int32} {x4 : Int32} {x5 : Int32} {z0 : Int32} {u : mS} (h : wj_X9_isTemplate_66 K24 post x1 x2 x3 x4 x5 z0 u) (g : wj_X9_isTemplate_66 K241 post1 x1 x2 x3 x4 x5 z0 u) (hK24 : ∀ (b0_ : Int32) (b1_ : Int32) (b2_ : Int32) (b3_ : Int32) (b4_ : Int32) (b5_ : mS), K24 b0_ b1_ b2_ b3_ b4_ b5_ → K241 b0_ b1_ b2_ b3_ b4_ b5_ → K242 b0_ b1_ b2_ b3_ b4_ b5_) (hp : ∀ (b0_ : Int32) (b1_ : mS), post b0_ b1_ → post1 b0_ b1_ → post2 b0_ b1_) : wj_X9_isTemplate_66 K242 post2 x1 x2 x3 x4 x5 z0 u := by
  refine ⟨fun c1 => ?_, fun c2 => ?_⟩
  · have h3 := h.1 c1
    have g4 := g.1 c1
    exact j_wj_X9_isTemplate_97 h3 g4 hK24 hp
  · have h5 := h.2 c2
    have g6 := g.2 c2
    refine j_wp_X9_heldBy h5 g6 (fun w9 w10 h7 g8 => ?_)
    intro y11 e12
    have h13 := h7 y11 e12
    have g14 := g8 y11 e12
    refine j_wp_X9_heldBy h13 g14 (fun w17 w18 h15 g16 => ?_)
    refine ⟨fun c19 => ?_, fun c20 => ?_⟩
    · have h21 := h15.1 c19
      have g22 := g16.1 c19
      exact j_wj_X9_isTemplate_97 h21 g22 hK24 hp
    · have h23 := h15.2 c20
      have g24 := g16.2 c20
      exact hp _ _ h23 g24
theorem j_wj_X9_isTemplate_185 {K106 K1061 K1062 : Int32 → Int32 → Int32 → mS → Prop} {post post1 post2 : Int32 → mS → Prop} {x1 : Int32} {x3 : Int32} {x5 : Int32} {u : mS} (h : wj_X9_isTemplate_185 K106 post x1 x3 x5 u) (g : wj_X9_isTemplate_185 K1061 post1 x1 x3 x5 u) (hK106 : ∀ (b0_ : Int32) (b1_ : Int32) (b2_ : Int32) (b3_ : mS), K106 b0_ b1_ b2_ b3_ → K1061 b0_ b1_ b2_ b3_ → K1062 b0_ b1_ b2_ b3_) (hp : ∀ (b0_ : Int32) (b1_ : mS), post b0_ b1_ → post1 b0_ b1_ → post2 b0_ b1_) : wj_X9_isTemplate_185 K1062 post2 x1 x3 x5 u := by
  intro y1 e2
  have h3 := h y1 e2
  have g4 := g y1 e2
  exact hK106 _ _ _ _ h3 g4
theorem j_wj_X9_isTemplate_149 {K106 K1061 K1062 : Int32 → Int32 → Int32 → mS → Prop} {post post1 post2 : Int32 → mS → Prop} {x1 : Int32} {x3 : Int32} {x5 : Int32} {z0 : Int32} {u : mS} (h : wj_X9_isTemplate_149 K106 post x1 x3 x5 z0 u) (g : wj_X9_isTemplate_149 K1061 post1 x1 x3 x5 z0 u) (hK106 : ∀ (b0_ : Int32) (b1_ : Int32) (b2_ : Int32) (b3_ : mS), K106 b0_ b1_ b2_ b3_ → K1061 b0_ b1_ b2_ b3_ → K1062 b0_ b1_ b2_ b3_) (hp : ∀ (b0_ : Int32) (b1_ : mS), post b0_ b1_ → post1 b0_ b1_ → post2 b0_ b1_) : wj_X9_isTemplate_149 K1062 post2 x1 x3 x5 z0 u := by
  refine ⟨fun c1 => ?_, fun c2 => ?_⟩
  · have h3 := h.1 c1
    have g4 := g.1 c1
    exact j_wj_X9_isTemplate_185 h3 g4 hK106 hp
  · have h5 := h.2 c2
    have g6 := g.2 c2
    refine j_wp_X9_kind_4 h5 g6 (fun w9 w10 h7 g8 => ?_)
    refine ⟨fun c11 => ?_, fun c12 => ?_⟩
    · have h13 := h7.1 c11
      have g14 := g8.1 c11
      exact j_wj_X9_isTemplate_185 h13 g14 hK106 hp
    · have h15 := h7.2 c12
      have g16 := g8.2 c12
      refine j_wp_X9_uses h15 g16 (fun w19 w20 h17 g18 => ?_)
      refine ⟨fun c21 => ?_, fun c22 => ?_⟩
      · have h23 := h17.1 c21
        have g24 := g18.1 c21
        exact j_wj_X9_isTemplate_185 h23 g24 hK106 hp
      · have h25 := h17.2 c22
        have g26 := g18.2 c22
        exact hp _ _ h25 g26
theorem j_wj_X9_isTemplate_136 {K106 K1061 K1062 : Int32 → Int32 → Int32 → mS → Prop} {post post1 post2 : Int32 → mS → Prop} {x1 : Int32} {x3 : Int32} {x5 : Int32} {u : mS} (h : wj_X9_isTemplate_136 K106 post x1 x3 x5 u) (g : wj_X9_isTemplate_136 K1061 post1 x1 x3 x5 u) (hK106 : ∀ (b0_ : Int32) (b1_ : Int32) (b2_ : Int32) (b3_ : mS), K106 b0_ b1_ b2_ b3_ → K1061 b0_ b1_ b2_ b3_ → K1062 b0_ b1_ b2_ b3_) (hp : ∀ (b0_ : Int32) (b1_ : mS), post b0_ b1_ → post1 b0_ b1_ → post2 b0_ b1_) : wj_X9_isTemplate_136 K1062 post2 x1 x3 x5 u := by
  exact j_wj_X9_isTemplate_149 h g hK106 hp
theorem j_wj_X9_isTemplate_106 {K106 K1061 K1062 : Int32 → Int32 → Int32 → mS → Prop} {post post1 post2 : Int32 → mS → Prop} {x1 : Int32} {x3 : Int32} {x5 : Int32} {u : mS} (h : wj_X9_isTemplate_106 K106 post x1 x3 x5 u) (g : wj_X9_isTemplate_106 K1061 post1 x1 x3 x5 u) (hK106 : ∀ (b0_ : Int32) (b1_ : Int32) (b2_ : Int32) (b3_ : mS), K106 b0_ b1_ b2_ b3_ → K1061 b0_ b1_ b2_ b3_ → K1062 b0_ b1_ b2_ b3_) (hp : ∀ (b0_ : Int32) (b1_ : mS), post b0_ b1_ → post1 b0_ b1_ → post2 b0_ b1_) : wj_X9_isTemplate_106 K1062 post2 x1 x3 x5 u := by
  refine ⟨fun c1 => ?_, fun c2 => ?_⟩
  · have h3 := h.1 c1
    have g4 := g.1 c1
    exact hp _ _ h3 g4
  · have h5 := h.2 c2
    have g6 := g.2 c2
    refine j_wp_X9_kind_4 h5 g6 (fun w9 w10 h7 g8 => ?_)
    refine ⟨fun c11 => ?_, fun c12 => ?_⟩
    · have h13 := h7.1 c11
      have g14 := g8.1 c11
      exact j_wj_X9_isTemplate_136 h13 g14 hK106 hp
    · have h15 := h7.2 c12
      have g16 := g8.2 c12
      refine ⟨fun c17 => ?_, fun c18 => ?_⟩
      · have h19 := h15.1 c17
        have g20 := g16.1 c17
        refine j_wp_X9_end_4 h19 g20 (fun w23 w24 h21 g22 => ?_)
        exact j_wj_X9_isTemplate_149 h21 g22 hK106 hp
      · have h25 := h15.2 c18
        have g26 := g16.2 c18
        exact j_wj_X9_isTemplate_136 h25 g26 hK106 hp
theorem j_wj_X9_isTemplate_24 {K24 K241 K242 : Int32 → Int32 → Int32 → Int32 → Int32 → mS → Prop} {post post1 post2 : Int32 → mS → Prop} {x1 : Int32} {x2 : Int32} {x3 : Int32} {x4 : Int32} {x5 : Int32} {u : mS} (h : wj_X9_isTemplate_24 K24 post x1 x2 x3 x4 x5 u) (g : wj_X9_isTemplate_24 K241 post1 x1 x2 x3 x4 x5 u) (hK24 : ∀ (b0_ : Int32) (b1_ : Int32) (b2_ : Int32) (b3_ : Int32) (b4_ : Int32) (b5_ : mS), K24 b0_ b1_ b2_ b3_ b4_ b5_ → K241 b0_ b1_ b2_ b3_ b4_ b5_ → K242 b0_ b1_ b2_ b3_ b4_ b5_) (hp : ∀ (b0_ : Int32) (b1_ : mS), post b0_ b1_ → post1 b0_ b1_ → post2 b0_ b1_) : wj_X9_isTemplate_24 K242 post2 x1 x2 x3 x4 x5 u := by
  refine ⟨fun c1 => ?_, fun c2 => ?_⟩
  · have h3 := h.1 c1
    have g4 := g.1 c1
    obtain ⟨n5, h7⟩ := h3
    obtain ⟨m6, g8⟩ := g4
    refine ⟨n5, mL4_j ?_ n5 m6 _ _ _ _ h7 g8⟩
    intro K_ L_ M_ hK_ _ _ _ _ a_ b_
    exact j_wj_X9_isTemplate_106 a_ b_ hK_ hp
  · have h9 := h.2 c2
    have g10 := g.2 c2
    refine j_wp_X9_kind_4 h9 g10 (fun w13 w14 h11 g12 => ?_)
    refine ⟨fun c15 => ?_, fun c16 => ?_⟩
    · have h17 := h11.1 c15
      have g18 := g12.1 c15
      exact j_wj_X9_isTemplate_66 h17 g18 hK24 hp
    · have h19 := h11.2 c16
      have g20 := g12.2 c16
      refine ⟨h19.1, ?_⟩
      have h21 := h19.2
      have g22 := g20.2
      intro y23 e24
      have h25 := h21 y23 e24
      have g26 := g22 y23 e24
      refine ⟨h25.1, ?_⟩
      have h27 := h25.2
      have g28 := g26.2
      intro y29 e30
      have h31 := h27 y29 e30
      have g32 := g28 y29 e30
      refine j_wp_X9_variable h31 g32 (fun w35 w36 h33 g34 => ?_)
      exact j_wj_X9_isTemplate_66 h33 g34 hK24 hp
theorem j_wp_X9_isTemplate {x1 : Int32} {x2 : Int32} {u : mS} {post post1 post2 : Int32 → mS → Prop} (h : wp_X9_isTemplate x1 x2 u post) (g : wp_X9_isTemplate x1 x2 u post1) (hp : ∀ (b0_ : Int32) (b1_ : mS), post b0_ b1_ → post1 b0_ b1_ → post2 b0_ b1_) : wp_X9_isTemplate x1 x2 u post2 := by
  refine j_wp_X9_end_4 h g (fun w3 w4 h1 g2 => ?_)
  refine j_wp_X9_end_4 h1 g2 (fun w7 w8 h5 g6 => ?_)
  intro y9 e10
  have h11 := h5 y9 e10
  have g12 := g6 y9 e10
  obtain ⟨n13, h15⟩ := h11
  obtain ⟨m14, g16⟩ := g12
  refine ⟨n13, mL6_j ?_ n13 m14 _ _ _ _ _ _ h15 g16⟩
  intro K_ L_ M_ hK_ _ _ _ _ _ _ a_ b_
  exact j_wj_X9_isTemplate_24 a_ b_ hK_ hp
theorem j_wj_X9_areRules_2 {K2 K21 K22 : Int32 → Int32 → mS → Prop} {post post1 post2 : Int32 → mS → Prop} {x2 : Int32} {x3 : Int32} {u : mS} (h : wj_X9_areRules_2 K2 post x2 x3 u) (g : wj_X9_areRules_2 K21 post1 x2 x3 u) (hK2 : ∀ (b0_ : Int32) (b1_ : Int32) (b2_ : mS), K2 b0_ b1_ b2_ → K21 b0_ b1_ b2_ → K22 b0_ b1_ b2_) (hp : ∀ (b0_ : Int32) (b1_ : mS), post b0_ b1_ → post1 b0_ b1_ → post2 b0_ b1_) : wj_X9_areRules_2 K22 post2 x2 x3 u := by
  refine ⟨fun c1 => ?_, fun c2 => ?_⟩
  · have h3 := h.1 c1
    have g4 := g.1 c1
    exact hp _ _ h3 g4
  · have h5 := h.2 c2
    have g6 := g.2 c2
    refine j_wp_X9_kind_4 h5 g6 (fun w9 w10 h7 g8 => ?_)
    refine ⟨fun c11 => ?_, fun c12 => ?_⟩
    · have h13 := h7.1 c11
      have g14 := g8.1 c11
      exact hp _ _ h13 g14
    · have h15 := h7.2 c12
      have g16 := g8.2 c12
      refine j_wp_X9_isPlain_4 h15 g16 (fun w19 w20 h17 g18 => ?_)
      refine ⟨fun c21 => ?_, fun c22 => ?_⟩
      · have h23 := h17.1 c21
        have g24 := g18.1 c21
        exact hp _ _ h23 g24
      · have h25 := h17.2 c22
        have g26 := g18.2 c22
        intro y27 e28
        have h29 := h25 y27 e28
        have g30 := g26 y27 e28
        refine j_wp_X9_isPattern h29 g30 (fun w33 w34 h31 g32 => ?_)
        refine ⟨fun c35 => ?_, fun c36 => ?_⟩
        · have h37 := h31.1 c35
          have g38 := g32.1 c35
          exact hp _ _ h37 g38
        · have h39 := h31.2 c36
          have g40 := g32.2 c36
          intro y41 e42
          have h43 := h39 y41 e42
          have g44 := g40 y41 e42
          intro y45 e46
          have h47 := h43 y45 e46
          have g48 := g44 y45 e46
          refine j_wp_X9_end_4 h47 g48 (fun w51 w52 h49 g50 => ?_)
          refine j_wp_X9_isTemplate h49 g50 (fun w55 w56 h53 g54 => ?_)
          refine ⟨fun c57 => ?_, fun c58 => ?_⟩
          · have h59 := h53.1 c57
            have g60 := g54.1 c57
            refine j_wp_X9_end_4 h59 g60 (fun w63 w64 h61 g62 => ?_)
            exact hK2 _ _ _ h61 g62
          · have h65 := h53.2 c58
            have g66 := g54.2 c58
            exact hp _ _ h65 g66
theorem j_wp_X9_areRules {x1 : Int32} {x2 : Int32} {u : mS} {post post1 post2 : Int32 → mS → Prop} (h : wp_X9_areRules x1 x2 u post) (g : wp_X9_areRules x1 x2 u post1) (hp : ∀ (b0_ : Int32) (b1_ : mS), post b0_ b1_ → post1 b0_ b1_ → post2 b0_ b1_) : wp_X9_areRules x1 x2 u post2 := by
  obtain ⟨n1, h3⟩ := h
  obtain ⟨m2, g4⟩ := g
  refine ⟨n1, mL3_j ?_ n1 m2 _ _ _ h3 g4⟩
  intro K_ L_ M_ hK_ _ _ _ a_ b_
  exact j_wj_X9_areRules_2 a_ b_ hK_ hp
theorem j_wp_X9_what_2 {x1 : Int32} {u : mS} {post post1 post2 : Int32 → mS → Prop} (h : wp_X9_what_2 x1 u post) (g : wp_X9_what_2 x1 u post1) (hp : ∀ (b0_ : Int32) (b1_ : mS), post b0_ b1_ → post1 b0_ b1_ → post2 b0_ b1_) : wp_X9_what_2 x1 u post2 := by
  refine ⟨h.1, ?_⟩
  have h1 := h.2
  have g2 := g.2
  intro y3 e4
  have h5 := h1 y3 e4
  have g6 := g2 y3 e4
  intro y7 e8
  have h9 := h5 y7 e8
  have g10 := g6 y7 e8
  exact hp _ _ h9 g10
theorem j_wp_X9_core {x0 : Int32} {u : mS} {post post1 post2 : Int32 → mS → Prop} (h : wp_X9_core x0 u post) (g : wp_X9_core x0 u post1) (hp : ∀ (b0_ : Int32) (b1_ : mS), post b0_ b1_ → post1 b0_ b1_ → post2 b0_ b1_) : wp_X9_core x0 u post2 := by
  refine ⟨fun c1 => ?_, fun c2 => ?_⟩
  · have h3 := h.1 c1
    have g4 := g.1 c1
    refine ⟨fun c5 => ?_, fun c6 => ?_⟩
    · have h7 := h3.1 c5
      have g8 := g4.1 c5
      refine ⟨fun c9 => ?_, fun c10 => ?_⟩
      · have h11 := h7.1 c9
        have g12 := g8.1 c9
        refine ⟨fun c13 => ?_, fun c14 => ?_⟩
        · have h15 := h11.1 c13
          have g16 := g12.1 c13
          exact hp _ _ h15 g16
        · have h17 := h11.2 c14
          have g18 := g12.2 c14
          exact hp _ _ h17 g18
      · have h19 := h7.2 c10
        have g20 := g8.2 c10
        exact hp _ _ h19 g20
    · have h21 := h3.2 c6
      have g22 := g4.2 c6
      exact hp _ _ h21 g22
  · have h23 := h.2 c2
    have g24 := g.2 c2
    exact hp _ _ h23 g24
theorem j_wj_X9_rules_64 {post post1 post2 : Int32 → mS → Prop} {u : mS} (h : wj_X9_rules_64 post u) (g : wj_X9_rules_64 post1 u) (hp : ∀ (b0_ : Int32) (b1_ : mS), post b0_ b1_ → post1 b0_ b1_ → post2 b0_ b1_) : wj_X9_rules_64 post2 u := by
  exact hp _ _ h g
theorem j_wj_X9_rules_127 {post post1 post2 : Int32 → mS → Prop} {u : mS} (h : wj_X9_rules_127 post u) (g : wj_X9_rules_127 post1 u) (hp : ∀ (b0_ : Int32) (b1_ : mS), post b0_ b1_ → post1 b0_ b1_ → post2 b0_ b1_) : wj_X9_rules_127 post2 u := by
  exact hp _ _ h g
theorem j_wj_X9_rules_193 {post post1 post2 : Int32 → mS → Prop} {x3 : Int32} {x4 : Int32} {z0 : Int32} {u : mS} (h : wj_X9_rules_193 post x3 x4 z0 u) (g : wj_X9_rules_193 post1 x3 x4 z0 u) (hp : ∀ (b0_ : Int32) (b1_ : mS), post b0_ b1_ → post1 b0_ b1_ → post2 b0_ b1_) : wj_X9_rules_193 post2 x3 x4 z0 u := by
  intro y1 e2
  have h3 := h y1 e2
  have g4 := g y1 e2
  refine ⟨h3.1, ?_⟩
  have h5 := h3.2
  have g6 := g4.2
  intro y7 e8
  have h9 := h5 y7 e8
  have g10 := g6 y7 e8
  intro y11 e12
  have h13 := h9 y11 e12
  have g14 := g10 y11 e12
  intro y15 e16
  have h17 := h13 y15 e16
  have g18 := g14 y15 e16
  intro y19 e20
  have h21 := h17 y19 e20
  have g22 := g18 y19 e20
  refine j_wp_X9_keep h21 g22 (fun w25 w26 h23 g24 => ?_)
  refine ⟨h23.1, ?_⟩
  have h27 := h23.2
  have g28 := g24.2
  intro y29 e30
  have h31 := h27 y29 e30
  have g32 := g28 y29 e30
  intro y33 e34
  have h35 := h31 y33 e34
  have g36 := g32 y33 e34
  exact hp _ _ h35 g36
theorem j_wj_X9_rules_160 {post post1 post2 : Int32 → mS → Prop} {x3 : Int32} {x4 : Int32} {u : mS} (h : wj_X9_rules_160 post x3 x4 u) (g : wj_X9_rules_160 post1 x3 x4 u) (hp : ∀ (b0_ : Int32) (b1_ : mS), post b0_ b1_ → post1 b0_ b1_ → post2 b0_ b1_) : wj_X9_rules_160 post2 x3 x4 u := by
  refine ⟨fun c1 => ?_, fun c2 => ?_⟩
  · have h3 := h.1 c1
    have g4 := g.1 c1
    intro y5 e6
    have h7 := h3 y5 e6
    have g8 := g4 y5 e6
    refine ⟨fun c9 => ?_, fun c10 => ?_⟩
    · have h11 := h7.1 c9
      have g12 := g8.1 c9
      intro y13 e14
      have h15 := h11 y13 e14
      have g16 := g12 y13 e14
      exact j_wj_X9_rules_193 h15 g16 hp
    · have h17 := h7.2 c10
      have g18 := g8.2 c10
      intro y19 e20
      have h21 := h17 y19 e20
      have g22 := g18 y19 e20
      intro y23 e24
      have h25 := h21 y23 e24
      have g26 := g22 y23 e24
      exact j_wj_X9_rules_193 h25 g26 hp
  · have h27 := h.2 c2
    have g28 := g.2 c2
    exact hp _ _ h27 g28
theorem j_wj_X9_rules_134 {K134 K1341 K1342 : Int32 → Int32 → mS → Prop} {post post1 post2 : Int32 → mS → Prop} {x3 : Int32} {x4 : Int32} {u : mS} (h : wj_X9_rules_134 K134 post x3 x4 u) (g : wj_X9_rules_134 K1341 post1 x3 x4 u) (hK134 : ∀ (b0_ : Int32) (b1_ : Int32) (b2_ : mS), K134 b0_ b1_ b2_ → K1341 b0_ b1_ b2_ → K1342 b0_ b1_ b2_) (hp : ∀ (b0_ : Int32) (b1_ : mS), post b0_ b1_ → post1 b0_ b1_ → post2 b0_ b1_) : wj_X9_rules_134 K1342 post2 x3 x4 u := by
  intro y1 e2
  have h3 := h y1 e2
  have g4 := g y1 e2
  refine ⟨fun c5 => ?_, fun c6 => ?_⟩
  · have h7 := h3.1 c5
    have g8 := g4.1 c5
    exact j_wj_X9_rules_160 h7 g8 hp
  · have h9 := h3.2 c6
    have g10 := g4.2 c6
    refine ⟨h9.1, ?_⟩
    have h11 := h9.2
    have g12 := g10.2
    intro y13 e14
    have h15 := h11 y13 e14
    have g16 := g12 y13 e14
    refine ⟨fun c17 => ?_, fun c18 => ?_⟩
    · have h19 := h15.1 c17
      have g20 := g16.1 c17
      exact j_wj_X9_rules_160 h19 g20 hp
    · have h21 := h15.2 c18
      have g22 := g16.2 c18
      intro y23 e24
      have h25 := h21 y23 e24
      have g26 := g22 y23 e24
      exact hK134 _ _ _ h25 g26
theorem j_wp_X9_rules {u : mS} {post post1 post2 : Int32 → mS → Prop} (h : wp_X9_rules u post) (g : wp_X9_rules u post1) (hp : ∀ (b0_ : Int32) (b1_ : mS), post b0_ b1_ → post1 b0_ b1_ → post2 b0_ b1_) : wp_X9_rules u post2 := by
  refine j_wp_X9_read h g (fun w3 w4 h1 g2 => ?_)
  intro y5 e6
  have h7 := h1 y5 e6
  have g8 := g2 y5 e6
  refine ⟨fun c9 => ?_, fun c10 => ?_⟩
  · have h11 := h7.1 c9
    have g12 := g8.1 c9
    intro y13 e14
    have h15 := h11 y13 e14
    have g16 := g12 y13 e14
    refine j_wp_X9_kind_2 h15 g16 (fun w19 w20 h17 g18 => ?_)
    refine ⟨fun c21 => ?_, fun c22 => ?_⟩
    · have h23 := h17.1 c21
      have g24 := g18.1 c21
      exact j_wj_X9_rules_64 h23 g24 hp
    · have h25 := h17.2 c22
      have g26 := g18.2 c22
      intro y27 e28
      have h29 := h25 y27 e28
      have g30 := g26 y27 e28
      intro y31 e32
      have h33 := h29 y31 e32
      have g34 := g30 y31 e32
      refine j_wp_X9_kind_2 h33 g34 (fun w37 w38 h35 g36 => ?_)
      refine ⟨fun c39 => ?_, fun c40 => ?_⟩
      · have h41 := h35.1 c39
        have g42 := g36.1 c39
        exact j_wj_X9_rules_64 h41 g42 hp
      · have h43 := h35.2 c40
        have g44 := g36.2 c40
        intro y45 e46
        have h47 := h43 y45 e46
        have g48 := g44 y45 e46
        refine j_wp_X9_dots_2 h47 g48 (fun w51 w52 h49 g50 => ?_)
        refine ⟨fun c53 => ?_, fun c54 => ?_⟩
        · have h55 := h49.1 c53
          have g56 := g50.1 c53
          intro y57 e58
          have h59 := h55 y57 e58
          have g60 := g56 y57 e58
          intro y61 e62
          have h63 := h59 y61 e62
          have g64 := g60 y61 e62
          refine j_wp_X9_keep h63 g64 (fun w67 w68 h65 g66 => ?_)
          refine j_wp_X9_areRules h65 g66 (fun w71 w72 h69 g70 => ?_)
          refine ⟨fun c73 => ?_, fun c74 => ?_⟩
          · have h75 := h69.1 c73
            have g76 := g70.1 c73
            intro y77 e78
            have h79 := h75 y77 e78
            have g80 := g76 y77 e78
            intro y81 e82
            have h83 := h79 y81 e82
            have g84 := g80 y81 e82
            refine j_wp_X9_what_2 h83 g84 (fun w87 w88 h85 g86 => ?_)
            refine j_wp_X9_core h85 g86 (fun w91 w92 h89 g90 => ?_)
            refine ⟨fun c93 => ?_, fun c94 => ?_⟩
            · have h95 := h89.1 c93
              have g96 := g90.1 c93
              exact j_wj_X9_rules_127 h95 g96 hp
            · have h97 := h89.2 c94
              have g98 := g90.2 c94
              refine ⟨fun c99 => ?_, fun c100 => ?_⟩
              · have h101 := h97.1 c99
                have g102 := g98.1 c99
                obtain ⟨n103, h105⟩ := h101
                obtain ⟨m104, g106⟩ := g102
                refine ⟨n103, mL3_j ?_ n103 m104 _ _ _ h105 g106⟩
                intro K_ L_ M_ hK_ _ _ _ a_ b_
                exact j_wj_X9_rules_134 a_ b_ hK_ hp
              · have h107 := h97.2 c100
                have g108 := g98.2 c100
                exact j_wj_X9_rules_127 h107 g108 hp
          · have h109 := h69.2 c74
            have g110 := g70.2 c74
            exact hp _ _ h109 g110
        · have h111 := h49.2 c54
          have g112 := g50.2 c54
          exact j_wj_X9_rules_64 h111 g112 hp
  · have h113 := h7.2 c10
    have g114 := g8.2 c10
    intro y115 e116
    have h117 := h113 y115 e116
    have g118 := g114 y115 e116
    exact hp _ _ h117 g118
