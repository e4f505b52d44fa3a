theorem j_wp_X9_look {x1 : Int32} {u : mS} {post post1 post2 : Int32 → mS → Prop} (h : wp_X9_look x1 u post) (g : wp_X9_look x1 u post1) (hp : ∀ (b0_ : Int32) (b1_ : mS), post b0_ b1_ → post1 b0_ b1_ → post2 b0_ b1_) : wp_X9_look x1 u post2 := by
  intro y1 e2
  have h3 := h y1 e2
  have g4 := g y1 e2
  refine ⟨fun c5 => ?_, fun c6 => ?_⟩
  · have h7 := h3.1 c5
    have g8 := g4.1 c5
    exact hp _ _ h7 g8
  · have h9 := h3.2 c6
    have g10 := g4.2 c6
    refine ⟨h9.1, ?_⟩
    have h11 := h9.2
    have g12 := g10.2
    intro y13 e14
    have h15 := h11 y13 e14
    have g16 := g12 y13 e14
    exact hp _ _ h15 g16
theorem j_wp_X9_isLetter {x0 : Int32} {u : mS} {post post1 post2 : Int32 → mS → Prop} (h : wp_X9_isLetter x0 u post) (g : wp_X9_isLetter x0 u post1) (hp : ∀ (b0_ : Int32) (b1_ : mS), post b0_ b1_ → post1 b0_ b1_ → post2 b0_ b1_) : wp_X9_isLetter x0 u post2 := by
  refine ⟨fun c1 => ?_, fun c2 => ?_⟩
  · have h3 := h.1 c1
    have g4 := g.1 c1
    exact hp _ _ h3 g4
  · have h5 := h.2 c2
    have g6 := g.2 c2
    refine ⟨fun c7 => ?_, fun c8 => ?_⟩
    · have h9 := h5.1 c7
      have g10 := g6.1 c7
      exact hp _ _ h9 g10
    · have h11 := h5.2 c8
      have g12 := g6.2 c8
      exact hp _ _ h11 g12
theorem j_wp_X9_isDigit {x0 : Int32} {u : mS} {post post1 post2 : Int32 → mS → Prop} (h : wp_X9_isDigit x0 u post) (g : wp_X9_isDigit x0 u post1) (hp : ∀ (b0_ : Int32) (b1_ : mS), post b0_ b1_ → post1 b0_ b1_ → post2 b0_ b1_) : wp_X9_isDigit x0 u post2 := by
  refine ⟨fun c1 => ?_, fun c2 => ?_⟩
  · have h3 := h.1 c1
    have g4 := g.1 c1
    exact hp _ _ h3 g4
  · have h5 := h.2 c2
    have g6 := g.2 c2
    refine ⟨fun c7 => ?_, fun c8 => ?_⟩
    · have h9 := h5.1 c7
      have g10 := g6.1 c7
      exact hp _ _ h9 g10
    · have h11 := h5.2 c8
      have g12 := g6.2 c8
      exact hp _ _ h11 g12
theorem j_wj_X9_run_54 {K11 K111 K112 : Int32 → Int32 → Int32 → mS → Prop} {post post1 post2 : Int32 → mS → Prop} {x1 : Int32} {x2 : Int32} {x3 : Int32} {u : mS} (h : wj_X9_run_54 K11 post x1 x2 x3 u) (g : wj_X9_run_54 K111 post1 x1 x2 x3 u) (hK11 : ∀ (b0_ : Int32) (b1_ : Int32) (b2_ : Int32) (b3_ : mS), K11 b0_ b1_ b2_ b3_ → K111 b0_ b1_ b2_ b3_ → K112 b0_ b1_ b2_ b3_) (hp : ∀ (b0_ : Int32) (b1_ : mS), post b0_ b1_ → post1 b0_ b1_ → post2 b0_ b1_) : wj_X9_run_54 K112 post2 x1 x2 x3 u := by
  intro y1 e2
  have h3 := h y1 e2
  have g4 := g y1 e2
  exact hK11 _ _ _ _ h3 g4
theorem j_wj_X9_run_60 {post post1 post2 : Int32 → mS → Prop} {x2 : Int32} {u : mS} (h : wj_X9_run_60 post x2 u) (g : wj_X9_run_60 post1 x2 u) (hp : ∀ (b0_ : Int32) (b1_ : mS), post b0_ b1_ → post1 b0_ b1_ → post2 b0_ b1_) : wj_X9_run_60 post2 x2 u := by
  exact hp _ _ h g
theorem j_wj_X9_run_11 {K11 K111 K112 : Int32 → Int32 → Int32 → mS → Prop} {post post1 post2 : Int32 → mS → Prop} {x1 : Int32} {x2 : Int32} {x3 : Int32} {u : mS} (h : wj_X9_run_11 K11 post x1 x2 x3 u) (g : wj_X9_run_11 K111 post1 x1 x2 x3 u) (hK11 : ∀ (b0_ : Int32) (b1_ : Int32) (b2_ : Int32) (b3_ : mS), K11 b0_ b1_ b2_ b3_ → K111 b0_ b1_ b2_ b3_ → K112 b0_ b1_ b2_ b3_) (hp : ∀ (b0_ : Int32) (b1_ : mS), post b0_ b1_ → post1 b0_ b1_ → post2 b0_ b1_) : wj_X9_run_11 K112 post2 x1 x2 x3 u := by
  intro y1 e2
  have h3 := h y1 e2
  have g4 := g y1 e2
  intro y5 e6
  have h7 := h3 y5 e6
  have g8 := g4 y5 e6
  refine ⟨fun c9 => ?_, fun c10 => ?_⟩
  · have h11 := h7.1 c9
    have g12 := g8.1 c9
    exact j_wj_X9_run_60 h11 g12 hp
  · have h13 := h7.2 c10
    have g14 := g8.2 c10
    refine ⟨fun c15 => ?_, fun c16 => ?_⟩
    · have h17 := h13.1 c15
      have g18 := g14.1 c15
      intro y19 e20
      have h21 := h17 y19 e20
      have g22 := g18 y19 e20
      refine j_wp_X9_look h21 g22 (fun w25 w26 h23 g24 => ?_)
      refine j_wp_X9_isDigit h23 g24 (fun w29 w30 h27 g28 => ?_)
      refine ⟨fun c31 => ?_, fun c32 => ?_⟩
      · have h33 := h27.1 c31
        have g34 := g28.1 c31
        exact j_wj_X9_run_60 h33 g34 hp
      · have h35 := h27.2 c32
        have g36 := g28.2 c32
        exact j_wj_X9_run_54 h35 g36 hK11 hp
    · have h37 := h13.2 c16
      have g38 := g14.2 c16
      intro y39 e40
      have h41 := h37 y39 e40
      have g42 := g38 y39 e40
      refine j_wp_X9_look h41 g42 (fun w45 w46 h43 g44 => ?_)
      refine j_wp_X9_isLetter h43 g44 (fun w49 w50 h47 g48 => ?_)
      refine ⟨fun c51 => ?_, fun c52 => ?_⟩
      · have h53 := h47.1 c51
        have g54 := g48.1 c51
        exact j_wj_X9_run_60 h53 g54 hp
      · have h55 := h47.2 c52
        have g56 := g48.2 c52
        exact j_wj_X9_run_54 h55 g56 hK11 hp
theorem j_wp_X9_run {x1 : Int32} {u : mS} {post post1 post2 : Int32 → mS → Prop} (h : wp_X9_run x1 u post) (g : wp_X9_run x1 u post1) (hp : ∀ (b0_ : Int32) (b1_ : mS), post b0_ b1_ → post1 b0_ b1_ → post2 b0_ b1_) : wp_X9_run x1 u post2 := by
  refine j_wp_X9_look h g (fun w3 w4 h1 g2 => ?_)
  refine j_wp_X9_isLetter h1 g2 (fun w7 w8 h5 g6 => ?_)
  obtain ⟨n9, h11⟩ := h5
  obtain ⟨m10, g12⟩ := g6
  refine ⟨n9, mL4_j ?_ n9 m10 _ _ _ _ h11 g12⟩
  intro K_ L_ M_ hK_ _ _ _ _ a_ b_
  exact j_wj_X9_run_11 a_ b_ hK_ hp
theorem j_wj_X9_token_63 {post post1 post2 : Int32 → mS → Prop} {x1 : Int32} {u : mS} (h : wj_X9_token_63 post x1 u) (g : wj_X9_token_63 post1 x1 u) (hp : ∀ (b0_ : Int32) (b1_ : mS), post b0_ b1_ → post1 b0_ b1_ → post2 b0_ b1_) : wj_X9_token_63 post2 x1 u := by
  refine j_wp_X9_run h g (fun w3 w4 h1 g2 => ?_)
  exact hp _ _ h1 g2
theorem j_wj_X9_token_139 {post post1 post2 : Int32 → mS → Prop} {u : mS} (h : wj_X9_token_139 post u) (g : wj_X9_token_139 post1 u) (hp : ∀ (b0_ : Int32) (b1_ : mS), post b0_ b1_ → post1 b0_ b1_ → post2 b0_ b1_) : wj_X9_token_139 post2 u := by
  exact hp _ _ h g
theorem j_wp_X9_token {x1 : Int32} {u : mS} {post post1 post2 : Int32 → mS → Prop} (h : wp_X9_token x1 u post) (g : wp_X9_token x1 u post1) (hp : ∀ (b0_ : Int32) (b1_ : mS), post b0_ b1_ → post1 b0_ b1_ → post2 b0_ b1_) : wp_X9_token x1 u post2 := by
  refine j_wp_X9_look h g (fun w3 w4 h1 g2 => ?_)
  refine j_wp_X9_isLetter h1 g2 (fun w7 w8 h5 g6 => ?_)
  refine ⟨fun c9 => ?_, fun c10 => ?_⟩
  · have h11 := h5.1 c9
    have g12 := g6.1 c9
    refine j_wp_X9_isDigit h11 g12 (fun w15 w16 h13 g14 => ?_)
    refine ⟨fun c17 => ?_, fun c18 => ?_⟩
    · have h19 := h13.1 c17
      have g20 := g14.1 c17
      refine ⟨fun c21 => ?_, fun c22 => ?_⟩
      · have h23 := h19.1 c21
        have g24 := g20.1 c21
        refine ⟨fun c25 => ?_, fun c26 => ?_⟩
        · have h27 := h23.1 c25
          have g28 := g24.1 c25
          exact j_wj_X9_token_139 h27 g28 hp
        · have h29 := h23.2 c26
          have g30 := g24.2 c26
          refine ⟨fun c31 => ?_, fun c32 => ?_⟩
          · have h33 := h29.1 c31
            have g34 := g30.1 c31
            exact j_wj_X9_token_139 h33 g34 hp
          · have h35 := h29.2 c32
            have g36 := g30.2 c32
            refine ⟨fun c37 => ?_, fun c38 => ?_⟩
            · have h39 := h35.1 c37
              have g40 := g36.1 c37
              exact j_wj_X9_token_139 h39 g40 hp
            · have h41 := h35.2 c38
              have g42 := g36.2 c38
              refine ⟨fun c43 => ?_, fun c44 => ?_⟩
              · have h45 := h41.1 c43
                have g46 := g42.1 c43
                exact j_wj_X9_token_139 h45 g46 hp
              · have h47 := h41.2 c44
                have g48 := g42.2 c44
                refine ⟨fun c49 => ?_, fun c50 => ?_⟩
                · have h51 := h47.1 c49
                  have g52 := g48.1 c49
                  exact j_wj_X9_token_139 h51 g52 hp
                · have h53 := h47.2 c50
                  have g54 := g48.2 c50
                  refine ⟨fun c55 => ?_, fun c56 => ?_⟩
                  · have h57 := h53.1 c55
                    have g58 := g54.1 c55
                    exact j_wj_X9_token_139 h57 g58 hp
                  · have h59 := h53.2 c56
                    have g60 := g54.2 c56
                    refine ⟨fun c61 => ?_, fun c62 => ?_⟩
                    · have h63 := h59.1 c61
                      have g64 := g60.1 c61
                      exact hp _ _ h63 g64
                    · have h65 := h59.2 c62
                      have g66 := g60.2 c62
                      exact j_wj_X9_token_139 h65 g66 hp
      · have h67 := h19.2 c22
        have g68 := g20.2 c22
        intro y69 e70
        have h71 := h67 y69 e70
        have g72 := g68 y69 e70
        refine j_wp_X9_look h71 g72 (fun w75 w76 h73 g74 => ?_)
        refine ⟨fun c77 => ?_, fun c78 => ?_⟩
        · have h79 := h73.1 c77
          have g80 := g74.1 c77
          exact hp _ _ h79 g80
        · have h81 := h73.2 c78
          have g82 := g74.2 c78
          exact hp _ _ h81 g82
    · have h83 := h13.2 c18
      have g84 := g14.2 c18
      refine j_wp_X9_run h83 g84 (fun w87 w88 h85 g86 => ?_)
      refine ⟨fun c89 => ?_, fun c90 => ?_⟩
      · have h91 := h85.1 c89
        have g92 := g86.1 c89
        exact j_wj_X9_token_63 h91 g92 hp
      · have h93 := h85.2 c90
        have g94 := g86.2 c90
        refine j_wp_X9_run h93 g94 (fun w97 w98 h95 g96 => ?_)
        refine ⟨fun c99 => ?_, fun c100 => ?_⟩
        · have h101 := h95.1 c99
          have g102 := g96.1 c99
          exact hp _ _ h101 g102
        · have h103 := h95.2 c100
          have g104 := g96.2 c100
          refine ⟨fun c105 => ?_, fun c106 => ?_⟩
          · have h107 := h103.1 c105
            have g108 := g104.1 c105
            exact hp _ _ h107 g108
          · have h109 := h103.2 c106
            have g110 := g104.2 c106
            exact j_wj_X9_token_63 h109 g110 hp
  · have h111 := h5.2 c10
    have g112 := g6.2 c10
    refine j_wp_X9_run h111 g112 (fun w115 w116 h113 g114 => ?_)
    refine ⟨fun c117 => ?_, fun c118 => ?_⟩
    · have h119 := h113.1 c117
      have g120 := g114.1 c117
      exact hp _ _ h119 g120
    · have h121 := h113.2 c118
      have g122 := g114.2 c118
      refine j_wp_X9_run h121 g122 (fun w125 w126 h123 g124 => ?_)
      exact hp _ _ h123 g124
theorem j_wj_X9_code_110 {K48 K481 K482 : Int32 → Int32 → Int32 → Int32 → Int32 → mS → Prop} {post post1 post2 : Int32 → mS → Prop} {x1 : Int32} {x2 : Int32} {x3 : Int32} {x5 : Int32} {z0 : Int32} {u : mS} (h : wj_X9_code_110 K48 post x1 x2 x3 x5 z0 u) (g : wj_X9_code_110 K481 post1 x1 x2 x3 x5 z0 u) (hK48 : ∀ (b0_ : Int32) (b1_ : Int32) (b2_ : Int32) (b3_ : Int32) (b4_ : Int32) (b5_ : mS), K48 b0_ b1_ b2_ b3_ b4_ b5_ → K481 b0_ b1_ b2_ b3_ b4_ b5_ → K482 b0_ b1_ b2_ b3_ b4_ b5_) (hp : ∀ (b0_ : Int32) (b1_ : mS), post b0_ b1_ → post1 b0_ b1_ → post2 b0_ b1_) : wj_X9_code_110 K482 post2 x1 x2 x3 x5 z0 u := by
  intro y1 e2
  have h3 := h y1 e2
  have g4 := g y1 e2
  exact hK48 _ _ _ _ _ _ h3 g4
theorem j_wj_X9_code_132 {post post1 post2 : Int32 → mS → Prop} {x4 : Int32} {z0 : Int32} {z1 : Int32} {u : mS} (h : wj_X9_code_132 post x4 z0 z1 u) (g : wj_X9_code_132 post1 x4 z0 z1 u) (hp : ∀ (b0_ : Int32) (b1_ : mS), post b0_ b1_ → post1 b0_ b1_ → post2 b0_ b1_) : wj_X9_code_132 post2 x4 z0 z1 u := by
  intro y1 e2
  have h3 := h y1 e2
  have g4 := g y1 e2
  intro y5 e6
  have h7 := h3 y5 e6
  have g8 := g4 y5 e6
  exact hp _ _ h7 g8
theorem j_wj_X9_code_48 {K48 K481 K482 : Int32 → Int32 → Int32 → Int32 → Int32 → mS → Prop} {post post1 post2 : Int32 → mS → Prop} {x1 : Int32} {x2 : Int32} {x3 : Int32} {x4 : Int32} {x5 : Int32} {u : mS} (h : wj_X9_code_48 K48 post x1 x2 x3 x4 x5 u) (g : wj_X9_code_48 K481 post1 x1 x2 x3 x4 x5 u) (hK48 : ∀ (b0_ : Int32) (b1_ : Int32) (b2_ : Int32) (b3_ : Int32) (b4_ : Int32) (b5_ : mS), K48 b0_ b1_ b2_ b3_ b4_ b5_ → K481 b0_ b1_ b2_ b3_ b4_ b5_ → K482 b0_ b1_ b2_ b3_ b4_ b5_) (hp : ∀ (b0_ : Int32) (b1_ : mS), post b0_ b1_ → post1 b0_ b1_ → post2 b0_ b1_) : wj_X9_code_48 K482 post2 x1 x2 x3 x4 x5 u := by
  intro y1 e2
  have h3 := h y1 e2
  have g4 := g y1 e2
  refine ⟨fun c5 => ?_, fun c6 => ?_⟩
  · have h7 := h3.1 c5
    have g8 := g4.1 c5
    refine j_wp_X9_isDigit h7 g8 (fun w11 w12 h9 g10 => ?_)
    refine ⟨fun c13 => ?_, fun c14 => ?_⟩
    · have h15 := h9.1 c13
      have g16 := g10.1 c13
      exact j_wj_X9_code_132 h15 g16 hp
    · have h17 := h9.2 c14
      have g18 := g10.2 c14
      exact j_wj_X9_code_132 h17 g18 hp
  · have h19 := h3.2 c6
    have g20 := g4.2 c6
    refine j_wp_X9_isDigit h19 g20 (fun w23 w24 h21 g22 => ?_)
    refine ⟨fun c25 => ?_, fun c26 => ?_⟩
    · have h27 := h21.1 c25
      have g28 := g22.1 c25
      refine j_wp_X9_isLetter h27 g28 (fun w31 w32 h29 g30 => ?_)
      refine ⟨fun c33 => ?_, fun c34 => ?_⟩
      · have h35 := h29.1 c33
        have g36 := g30.1 c33
        intro y37 e38
        have h39 := h35 y37 e38
        have g40 := g36 y37 e38
        exact j_wj_X9_code_110 h39 g40 hK48 hp
      · have h41 := h29.2 c34
        have g42 := g30.2 c34
        intro y43 e44
        have h45 := h41 y43 e44
        have g46 := g42 y43 e44
        refine j_wp_X9_look h45 g46 (fun w49 w50 h47 g48 => ?_)
        intro y51 e52
        have h53 := h47 y51 e52
        have g54 := g48 y51 e52
        intro y55 e56
        have h57 := h53 y55 e56
        have g58 := g54 y55 e56
        exact j_wj_X9_code_110 h57 g58 hK48 hp
    · have h59 := h21.2 c26
      have g60 := g22.2 c26
      intro y61 e62
      have h63 := h59 y61 e62
      have g64 := g60 y61 e62
      refine j_wp_X9_look h63 g64 (fun w67 w68 h65 g66 => ?_)
      intro y69 e70
      have h71 := h65 y69 e70
      have g72 := g66 y69 e70
      intro y73 e74
      have h75 := h71 y73 e74
      have g76 := g72 y73 e74
      exact j_wj_X9_code_110 h75 g76 hK48 hp
theorem j_wp_X9_code {x1 : Int32} {x2 : Int32} {u : mS} {post post1 post2 : Int32 → mS → Prop} (h : wp_X9_code x1 x2 u post) (g : wp_X9_code x1 x2 u post1) (hp : ∀ (b0_ : Int32) (b1_ : mS), post b0_ b1_ → post1 b0_ b1_ → post2 b0_ b1_) : wp_X9_code x1 x2 u post2 := by
  refine j_wp_X9_look h g (fun w3 w4 h1 g2 => ?_)
  refine ⟨fun c5 => ?_, fun c6 => ?_⟩
  · have h7 := h1.1 c5
    have g8 := g2.1 c5
    refine ⟨fun c9 => ?_, fun c10 => ?_⟩
    · have h11 := h7.1 c9
      have g12 := g8.1 c9
      refine ⟨fun c13 => ?_, fun c14 => ?_⟩
      · have h15 := h11.1 c13
        have g16 := g12.1 c13
        refine ⟨fun c17 => ?_, fun c18 => ?_⟩
        · have h19 := h15.1 c17
          have g20 := g16.1 c17
          obtain ⟨n21, h23⟩ := h19
          obtain ⟨m22, g24⟩ := g20
          refine ⟨n21, mL6_j ?_ n21 m22 _ _ _ _ _ _ h23 g24⟩
          intro K_ L_ M_ hK_ _ _ _ _ _ _ a_ b_
          exact j_wj_X9_code_48 a_ b_ hK_ hp
        · have h25 := h15.2 c18
          have g26 := g16.2 c18
          exact hp _ _ h25 g26
      · have h27 := h11.2 c14
        have g28 := g12.2 c14
        exact hp _ _ h27 g28
    · have h29 := h7.2 c10
      have g30 := g8.2 c10
      exact hp _ _ h29 g30
  · have h31 := h1.2 c6
    have g32 := g2.2 c6
    exact hp _ _ h31 g32
theorem j_wj_X9_fits_23 {post post1 post2 : Int32 → mS → Prop} {x1 : Int32} {u : mS} (h : wj_X9_fits_23 post x1 u) (g : wj_X9_fits_23 post1 x1 u) (hp : ∀ (b0_ : Int32) (b1_ : mS), post b0_ b1_ → post1 b0_ b1_ → post2 b0_ b1_) : wj_X9_fits_23 post2 x1 u := by
  refine ⟨fun c1 => ?_, fun c2 => ?_⟩
  · have h3 := h.1 c1
    have g4 := g.1 c1
    exact hp _ _ h3 g4
  · have h5 := h.2 c2
    have g6 := g.2 c2
    exact hp _ _ h5 g6
theorem j_wj_X9_fits_85 {post post1 post2 : Int32 → mS → Prop} {u : mS} (h : wj_X9_fits_85 post u) (g : wj_X9_fits_85 post1 u) (hp : ∀ (b0_ : Int32) (b1_ : mS), post b0_ b1_ → post1 b0_ b1_ → post2 b0_ b1_) : wj_X9_fits_85 post2 u := by
  exact hp _ _ h g
theorem j_wj_X9_fits_9 {post post1 post2 : Int32 → mS → Prop} {x0 : Int32} {x1 : Int32} {x2 : Int32} {z0 : Int32} {u : mS} (h : wj_X9_fits_9 post x0 x1 x2 z0 u) (g : wj_X9_fits_9 post1 x0 x1 x2 z0 u) (hp : ∀ (b0_ : Int32) (b1_ : mS), post b0_ b1_ → post1 b0_ b1_ → post2 b0_ b1_) : wj_X9_fits_9 post2 x0 x1 x2 z0 u := by
  refine ⟨fun c1 => ?_, fun c2 => ?_⟩
  · have h3 := h.1 c1
    have g4 := g.1 c1
    refine ⟨fun c5 => ?_, fun c6 => ?_⟩
    · have h7 := h3.1 c5
      have g8 := g4.1 c5
      refine ⟨fun c9 => ?_, fun c10 => ?_⟩
      · have h11 := h7.1 c9
        have g12 := g8.1 c9
        refine ⟨fun c13 => ?_, fun c14 => ?_⟩
        · have h15 := h11.1 c13
          have g16 := g12.1 c13
          exact j_wj_X9_fits_85 h15 g16 hp
        · have h17 := h11.2 c14
          have g18 := g12.2 c14
          refine ⟨fun c19 => ?_, fun c20 => ?_⟩
          · have h21 := h17.1 c19
            have g22 := g18.1 c19
            exact hp _ _ h21 g22
          · have h23 := h17.2 c20
            have g24 := g18.2 c20
            exact j_wj_X9_fits_85 h23 g24 hp
      · have h25 := h7.2 c10
        have g26 := g8.2 c10
        refine ⟨fun c27 => ?_, fun c28 => ?_⟩
        · have h29 := h25.1 c27
          have g30 := g26.1 c27
          exact hp _ _ h29 g30
        · have h31 := h25.2 c28
          have g32 := g26.2 c28
          refine ⟨fun c33 => ?_, fun c34 => ?_⟩
          · have h35 := h31.1 c33
            have g36 := g32.1 c33
            exact hp _ _ h35 g36
          · have h37 := h31.2 c34
            have g38 := g32.2 c34
            refine ⟨fun c39 => ?_, fun c40 => ?_⟩
            · have h41 := h37.1 c39
              have g42 := g38.1 c39
              exact hp _ _ h41 g42
            · have h43 := h37.2 c40
              have g44 := g38.2 c40
              exact hp _ _ h43 g44
    · have h45 := h3.2 c6
      have g46 := g4.2 c6
      refine ⟨fun c47 => ?_, fun c48 => ?_⟩
      · have h49 := h45.1 c47
        have g50 := g46.1 c47
        exact hp _ _ h49 g50
      · have h51 := h45.2 c48
        have g52 := g46.2 c48
        exact hp _ _ h51 g52
  · have h53 := h.2 c2
    have g54 := g.2 c2
    refine ⟨fun c55 => ?_, fun c56 => ?_⟩
    · have h57 := h53.1 c55
      have g58 := g54.1 c55
      exact j_wj_X9_fits_23 h57 g58 hp
    · have h59 := h53.2 c56
      have g60 := g54.2 c56
      refine ⟨fun c61 => ?_, fun c62 => ?_⟩
      · have h63 := h59.1 c61
        have g64 := g60.1 c61
        exact hp _ _ h63 g64
      · have h65 := h59.2 c62
        have g66 := g60.2 c62
        exact j_wj_X9_fits_23 h65 g66 hp
theorem j_wp_X9_fits {x0 : Int32} {x1 : Int32} {x2 : Int32} {u : mS} {post post1 post2 : Int32 → mS → Prop} (h : wp_X9_fits x0 x1 x2 u post) (g : wp_X9_fits x0 x1 x2 u post1) (hp : ∀ (b0_ : Int32) (b1_ : mS), post b0_ b1_ → post1 b0_ b1_ → post2 b0_ b1_) : wp_X9_fits x0 x1 x2 u post2 := by
  refine ⟨fun c1 => ?_, fun c2 => ?_⟩
  · have h3 := h.1 c1
    have g4 := g.1 c1
    exact j_wj_X9_fits_9 h3 g4 hp
  · have h5 := h.2 c2
    have g6 := g.2 c2
    exact j_wj_X9_fits_9 h5 g6 hp
theorem j_wj_X9_read_84 {post post1 post2 : Int32 → mS → Prop} {x4 : Int32} {u : mS} (h : wj_X9_read_84 post x4 u) (g : wj_X9_read_84 post1 x4 u) (hp : ∀ (b0_ : Int32) (b1_ : mS), post b0_ b1_ → post1 b0_ b1_ → post2 b0_ b1_) : wj_X9_read_84 post2 x4 u := by
  exact hp _ _ h g
theorem j_wj_X9_read_123 {K9 K91 K92 : Int32 → Int32 → Int32 → Int32 → mS → Prop} {post post1 post2 : Int32 → mS → Prop} {x1 : Int32} {x4 : Int32} {x5 : Int32} {x7 : Int32} {z0 : Int32} {u : mS} (h : wj_X9_read_123 K9 post x1 x4 x5 x7 z0 u) (g : wj_X9_read_123 K91 post1 x1 x4 x5 x7 z0 u) (hK9 : ∀ (b0_ : Int32) (b1_ : Int32) (b2_ : Int32) (b3_ : Int32) (b4_ : mS), K9 b0_ b1_ b2_ b3_ b4_ → K91 b0_ b1_ b2_ b3_ b4_ → K92 b0_ b1_ b2_ b3_ b4_) (hp : ∀ (b0_ : Int32) (b1_ : mS), post b0_ b1_ → post1 b0_ b1_ → post2 b0_ b1_) : wj_X9_read_123 K92 post2 x1 x4 x5 x7 z0 u := by
  intro y1 e2
  have h3 := h y1 e2
  have g4 := g y1 e2
  exact hK9 _ _ _ _ _ h3 g4
theorem j_wj_X9_read_60 {K9 K91 K92 : Int32 → Int32 → Int32 → Int32 → mS → Prop} {post post1 post2 : Int32 → mS → Prop} {x1 : Int32} {x2 : Int32} {x3 : Int32} {x4 : Int32} {x5 : Int32} {z0 : Int32} {u : mS} (h : wj_X9_read_60 K9 post x1 x2 x3 x4 x5 z0 u) (g : wj_X9_read_60 K91 post1 x1 x2 x3 x4 x5 z0 u) (hK9 : ∀ (b0_ : Int32) (b1_ : Int32) (b2_ : Int32) (b3_ : Int32) (b4_ : mS), K9 b0_ b1_ b2_ b3_ b4_ → K91 b0_ b1_ b2_ b3_ b4_ → K92 b0_ b1_ b2_ b3_ b4_) (hp : ∀ (b0_ : Int32) (b1_ : mS), post b0_ b1_ → post1 b0_ b1_ → post2 b0_ b1_) : wj_X9_read_60 K92 post2 x1 x2 x3 x4 x5 z0 u := by
  intro y1 e2
  have h3 := h y1 e2
  have g4 := g y1 e2
  refine ⟨fun c5 => ?_, fun c6 => ?_⟩
  · have h7 := h3.1 c5
    have g8 := g4.1 c5
    exact j_wj_X9_read_84 h7 g8 hp
  · have h9 := h3.2 c6
    have g10 := g4.2 c6
    refine j_wp_X9_fits h9 g10 (fun w13 w14 h11 g12 => ?_)
    refine ⟨fun c15 => ?_, fun c16 => ?_⟩
    · have h17 := h11.1 c15
      have g18 := g12.1 c15
      refine ⟨h17.1, ?_⟩
      have h19 := h17.2
      have g20 := g18.2
      intro y21 e22
      have h23 := h19 y21 e22
      have g24 := g20 y21 e22
      intro y25 e26
      have h27 := h23 y25 e26
      have g28 := g24 y25 e26
      refine ⟨fun c29 => ?_, fun c30 => ?_⟩
      · have h31 := h27.1 c29
        have g32 := g28.1 c29
        refine ⟨fun c33 => ?_, fun c34 => ?_⟩
        · have h35 := h31.1 c33
          have g36 := g32.1 c33
          exact j_wj_X9_read_123 h35 g36 hK9 hp
        · have h37 := h31.2 c34
          have g38 := g32.2 c34
          intro y39 e40
          have h41 := h37 y39 e40
          have g42 := g38 y39 e40
          exact j_wj_X9_read_123 h41 g42 hK9 hp
      · have h43 := h27.2 c30
        have g44 := g28.2 c30
        intro y45 e46
        have h47 := h43 y45 e46
        have g48 := g44 y45 e46
        exact j_wj_X9_read_123 h47 g48 hK9 hp
    · have h49 := h11.2 c16
      have g50 := g12.2 c16
      exact j_wj_X9_read_84 h49 g50 hp
theorem j_wj_X9_read_145 {post post1 post2 : Int32 → mS → Prop} {u : mS} (h : wj_X9_read_145 post u) (g : wj_X9_read_145 post1 u) (hp : ∀ (b0_ : Int32) (b1_ : mS), post b0_ b1_ → post1 b0_ b1_ → post2 b0_ b1_) : wj_X9_read_145 post2 u := by
  intro y1 e2
  have h3 := h y1 e2
  have g4 := g y1 e2
  exact hp _ _ h3 g4
theorem j_wj_X9_read_164 {K164 K1641 K1642 : Int32 → mS → Prop} {post post1 post2 : Int32 → mS → Prop} {x5 : Int32} {u : mS} (h : wj_X9_read_164 K164 post x5 u) (g : wj_X9_read_164 K1641 post1 x5 u) (hK164 : ∀ (b0_ : Int32) (b1_ : mS), K164 b0_ b1_ → K1641 b0_ b1_ → K1642 b0_ b1_) (hp : ∀ (b0_ : Int32) (b1_ : mS), post b0_ b1_ → post1 b0_ b1_ → post2 b0_ b1_) : wj_X9_read_164 K1642 post2 x5 u := by
  refine ⟨fun c1 => ?_, fun c2 => ?_⟩
  · have h3 := h.1 c1
    have g4 := g.1 c1
    exact hp _ _ h3 g4
  · have h5 := h.2 c2
    have g6 := g.2 c2
    intro y7 e8
    have h9 := h5 y7 e8
    have g10 := g6 y7 e8
    intro y11 e12
    have h13 := h9 y11 e12
    have g14 := g10 y11 e12
    refine ⟨h13.1, ?_⟩
    have h15 := h13.2
    have g16 := g14.2
    intro y17 e18
    have h19 := h15 y17 e18
    have g20 := g16 y17 e18
    refine ⟨h19.1, ?_⟩
    have h21 := h19.2
    have g22 := g20.2
    intro y23 e24
    have h25 := h21 y23 e24
    have g26 := g22 y23 e24
    intro y27 e28
    have h29 := h25 y27 e28
    have g30 := g26 y27 e28
    intro y31 e32
    have h33 := h29 y31 e32
    have g34 := g30 y31 e32
    refine ⟨h33.1, ?_⟩
    have h35 := h33.2
    have g36 := g34.2
    intro y37 e38
    have h39 := h35 y37 e38
    have g40 := g36 y37 e38
    intro y41 e42
    have h43 := h39 y41 e42
    have g44 := g40 y41 e42
    exact hK164 _ _ h43 g44
theorem j_wj_X9_read_9 {K9 K91 K92 : Int32 → Int32 → Int32 → Int32 → mS → Prop} {post post1 post2 : Int32 → mS → Prop} {x1 : Int32} {x2 : Int32} {x3 : Int32} {x4 : Int32} {u : mS} (h : wj_X9_read_9 K9 post x1 x2 x3 x4 u) (g : wj_X9_read_9 K91 post1 x1 x2 x3 x4 u) (hK9 : ∀ (b0_ : Int32) (b1_ : Int32) (b2_ : Int32) (b3_ : Int32) (b4_ : mS), K9 b0_ b1_ b2_ b3_ b4_ → K91 b0_ b1_ b2_ b3_ b4_ → K92 b0_ b1_ b2_ b3_ b4_) (hp : ∀ (b0_ : Int32) (b1_ : mS), post b0_ b1_ → post1 b0_ b1_ → post2 b0_ b1_) : wj_X9_read_9 K92 post2 x1 x2 x3 x4 u := by
  intro y1 e2
  have h3 := h y1 e2
  have g4 := g y1 e2
  refine ⟨fun c5 => ?_, fun c6 => ?_⟩
  · have h7 := h3.1 c5
    have g8 := g4.1 c5
    refine ⟨fun c9 => ?_, fun c10 => ?_⟩
    · have h11 := h7.1 c9
      have g12 := g8.1 c9
      exact j_wj_X9_read_145 h11 g12 hp
    · have h13 := h7.2 c10
      have g14 := g8.2 c10
      refine ⟨fun c15 => ?_, fun c16 => ?_⟩
      · have h17 := h13.1 c15
        have g18 := g14.1 c15
        intro y19 e20
        have h21 := h17 y19 e20
        have g22 := g18 y19 e20
        intro y23 e24
        have h25 := h21 y23 e24
        have g26 := g22 y23 e24
        intro y27 e28
        have h29 := h25 y27 e28
        have g30 := g26 y27 e28
        obtain ⟨n31, h33⟩ := h29
        obtain ⟨m32, g34⟩ := g30
        refine ⟨n31, mL2_j ?_ n31 m32 _ _ h33 g34⟩
        intro K_ L_ M_ hK_ _ _ a_ b_
        exact j_wj_X9_read_164 a_ b_ hK_ hp
      · have h35 := h13.2 c16
        have g36 := g14.2 c16
        exact j_wj_X9_read_145 h35 g36 hp
  · have h37 := h3.2 c6
    have g38 := g4.2 c6
    refine j_wp_X9_look h37 g38 (fun w41 w42 h39 g40 => ?_)
    refine ⟨fun c43 => ?_, fun c44 => ?_⟩
    · have h45 := h39.1 c43
      have g46 := g40.1 c43
      refine j_wp_X9_token h45 g46 (fun w49 w50 h47 g48 => ?_)
      refine ⟨fun c51 => ?_, fun c52 => ?_⟩
      · have h53 := h47.1 c51
        have g54 := g48.1 c51
        exact j_wj_X9_read_60 h53 g54 hK9 hp
      · have h55 := h47.2 c52
        have g56 := g48.2 c52
        refine j_wp_X9_code h55 g56 (fun w59 w60 h57 g58 => ?_)
        exact j_wj_X9_read_60 h57 g58 hK9 hp
    · have h61 := h39.2 c44
      have g62 := g40.2 c44
      intro y63 e64
      have h65 := h61 y63 e64
      have g66 := g62 y63 e64
      exact hK9 _ _ _ _ _ h65 g66
theorem j_wp_X9_read {u : mS} {post post1 post2 : Int32 → mS → Prop} (h : wp_X9_read u post) (g : wp_X9_read u post1) (hp : ∀ (b0_ : Int32) (b1_ : mS), post b0_ b1_ → post1 b0_ b1_ → post2 b0_ b1_) : wp_X9_read u post2 := by
  obtain ⟨n1, h3⟩ := h
  obtain ⟨m2, g4⟩ := g
  refine ⟨n1, mL5_j ?_ n1 m2 _ _ _ _ _ h3 g4⟩
  intro K_ L_ M_ hK_ _ _ _ _ _ a_ b_
  exact j_wj_X9_read_9 a_ b_ hK_ hp
theorem j_wp_X9_kind_2 {x1 : Int32} {u : mS} {post post1 post2 : Int32 → mS → Prop} (h : wp_X9_kind_2 x1 u post) (g : wp_X9_kind_2 x1 u post1) (hp : ∀ (b0_ : Int32) (b1_ : mS), post b0_ b1_ → post1 b0_ b1_ → post2 b0_ b1_) : wp_X9_kind_2 x1 u post2 := by
  refine ⟨h.1, ?_⟩
  have h1 := h.2
  have g2 := g.2
  intro y3 e4
  have h5 := h1 y3 e4
  have g6 := g2 y3 e4
  intro y7 e8
  have h9 := h5 y7 e8
  have g10 := g6 y7 e8
  exact hp _ _ h9 g10
theorem j_wj_X9_end_2_56 {K7 K71 K72 : Int32 → Int32 → Int32 → mS → Prop} {post post1 post2 : Int32 → mS → Prop} {x2 : Int32} {x3 : Int32} {z0 : Int32} {u : mS} (h : wj_X9_end_2_56 K7 post x2 x3 z0 u) (g : wj_X9_end_2_56 K71 post1 x2 x3 z0 u) (hK7 : ∀ (b0_ : Int32) (b1_ : Int32) (b2_ : Int32) (b3_ : mS), K7 b0_ b1_ b2_ b3_ → K71 b0_ b1_ b2_ b3_ → K72 b0_ b1_ b2_ b3_) (hp : ∀ (b0_ : Int32) (b1_ : mS), post b0_ b1_ → post1 b0_ b1_ → post2 b0_ b1_) : wj_X9_end_2_56 K72 post2 x2 x3 z0 u := by
  exact hK7 _ _ _ _ h g
theorem j_wj_X9_end_2_43 {K7 K71 K72 : Int32 → Int32 → Int32 → mS → Prop} {post post1 post2 : Int32 → mS → Prop} {x3 : Int32} {z0 : Int32} {u : mS} (h : wj_X9_end_2_43 K7 post x3 z0 u) (g : wj_X9_end_2_43 K71 post1 x3 z0 u) (hK7 : ∀ (b0_ : Int32) (b1_ : Int32) (b2_ : Int32) (b3_ : mS), K7 b0_ b1_ b2_ b3_ → K71 b0_ b1_ b2_ b3_ → K72 b0_ b1_ b2_ b3_) (hp : ∀ (b0_ : Int32) (b1_ : mS), post b0_ b1_ → post1 b0_ b1_ → post2 b0_ b1_) : wj_X9_end_2_43 K72 post2 x3 z0 u := by
  intro y1 e2
  have h3 := h y1 e2
  have g4 := g y1 e2
  refine ⟨fun c5 => ?_, fun c6 => ?_⟩
  · have h7 := h3.1 c5
    have g8 := g4.1 c5
    exact j_wj_X9_end_2_56 h7 g8 hK7 hp
  · have h9 := h3.2 c6
    have g10 := g4.2 c6
    exact j_wj_X9_end_2_56 h9 g10 hK7 hp
theorem j_wj_X9_end_2_7 {K7 K71 K72 : Int32 → Int32 → Int32 → mS → Prop} {post post1 post2 : Int32 → mS → Prop} {x2 : Int32} {x3 : Int32} {x4 : Int32} {u : mS} (h : wj_X9_end_2_7 K7 post x2 x3 x4 u) (g : wj_X9_end_2_7 K71 post1 x2 x3 x4 u) (hK7 : ∀ (b0_ : Int32) (b1_ : Int32) (b2_ : Int32) (b3_ : mS), K7 b0_ b1_ b2_ b3_ → K71 b0_ b1_ b2_ b3_ → K72 b0_ b1_ b2_ b3_) (hp : ∀ (b0_ : Int32) (b1_ : mS), post b0_ b1_ → post1 b0_ b1_ → post2 b0_ b1_) : wj_X9_end_2_7 K72 post2 x2 x3 x4 u := by
  refine ⟨fun c1 => ?_, fun c2 => ?_⟩
  · have h3 := h.1 c1
    have g4 := g.1 c1
    exact hp _ _ h3 g4
  · have h5 := h.2 c2
    have g6 := g.2 c2
    refine j_wp_X9_kind_2 h5 g6 (fun w9 w10 h7 g8 => ?_)
    refine ⟨fun c11 => ?_, fun c12 => ?_⟩
    · have h13 := h7.1 c11
      have g14 := g8.1 c11
      refine j_wp_X9_kind_2 h13 g14 (fun w17 w18 h15 g16 => ?_)
      refine ⟨fun c19 => ?_, fun c20 => ?_⟩
      · have h21 := h15.1 c19
        have g22 := g16.1 c19
        exact j_wj_X9_end_2_43 h21 g22 hK7 hp
      · have h23 := h15.2 c20
        have g24 := g16.2 c20
        intro y25 e26
        have h27 := h23 y25 e26
        have g28 := g24 y25 e26
        exact j_wj_X9_end_2_43 h27 g28 hK7 hp
    · have h29 := h7.2 c12
      have g30 := g8.2 c12
      intro y31 e32
      have h33 := h29 y31 e32
      have g34 := g30 y31 e32
      exact j_wj_X9_end_2_43 h33 g34 hK7 hp
theorem j_wp_X9_end_2 {x1 : Int32} {u : mS} {post post1 post2 : Int32 → mS → Prop} (h : wp_X9_end_2 x1 u post) (g : wp_X9_end_2 x1 u post1) (hp : ∀ (b0_ : Int32) (b1_ : mS), post b0_ b1_ → post1 b0_ b1_ → post2 b0_ b1_) : wp_X9_end_2 x1 u post2 := by
  obtain ⟨n1, h3⟩ := h
  obtain ⟨m2, g4⟩ := g
  refine ⟨n1, mL4_j ?_ n1 m2 _ _ _ _ h3 g4⟩
  intro K_ L_ M_ hK_ _ _ _ _ a_ b_
  exact j_wj_X9_end_2_7 a_ b_ hK_ hp
theorem j_wj_X9_dots_2_61 {K6 K61 K62 : Int32 → Int32 → mS → Prop} {post post1 post2 : Int32 → mS → Prop} {x2 : Int32} {z0 : Int32} {u : mS} (h : wj_X9_dots_2_61 K6 post x2 z0 u) (g : wj_X9_dots_2_61 K61 post1 x2 z0 u) (hK6 : ∀ (b0_ : Int32) (b1_ : Int32) (b2_ : mS), K6 b0_ b1_ b2_ → K61 b0_ b1_ b2_ → K62 b0_ b1_ b2_) (hp : ∀ (b0_ : Int32) (b1_ : mS), post b0_ b1_ → post1 b0_ b1_ → post2 b0_ b1_) : wj_X9_dots_2_61 K62 post2 x2 z0 u := by
  exact hK6 _ _ _ h g
theorem j_wj_X9_dots_2_44 {K6 K61 K62 : Int32 → Int32 → mS → Prop} {post post1 post2 : Int32 → mS → Prop} {x3 : Int32} {x4 : Int32} {z0 : Int32} {u : mS} (h : wj_X9_dots_2_44 K6 post x3 x4 z0 u) (g : wj_X9_dots_2_44 K61 post1 x3 x4 z0 u) (hK6 : ∀ (b0_ : Int32) (b1_ : Int32) (b2_ : mS), K6 b0_ b1_ b2_ → K61 b0_ b1_ b2_ → K62 b0_ b1_ b2_) (hp : ∀ (b0_ : Int32) (b1_ : mS), post b0_ b1_ → post1 b0_ b1_ → post2 b0_ b1_) : wj_X9_dots_2_44 K62 post2 x3 x4 z0 u := by
  refine ⟨fun c1 => ?_, fun c2 => ?_⟩
  · have h3 := h.1 c1
    have g4 := g.1 c1
    refine j_wp_X9_end_2 h3 g4 (fun w7 w8 h5 g6 => ?_)
    exact j_wj_X9_dots_2_61 h5 g6 hK6 hp
  · have h9 := h.2 c2
    have g10 := g.2 c2
    intro y11 e12
    have h13 := h9 y11 e12
    have g14 := g10 y11 e12
    exact j_wj_X9_dots_2_61 h13 g14 hK6 hp
theorem j_wj_X9_dots_2_30 {K6 K61 K62 : Int32 → Int32 → mS → Prop} {post post1 post2 : Int32 → mS → Prop} {x2 : Int32} {x3 : Int32} {z0 : Int32} {u : mS} (h : wj_X9_dots_2_30 K6 post x2 x3 z0 u) (g : wj_X9_dots_2_30 K61 post1 x2 x3 z0 u) (hK6 : ∀ (b0_ : Int32) (b1_ : Int32) (b2_ : mS), K6 b0_ b1_ b2_ → K61 b0_ b1_ b2_ → K62 b0_ b1_ b2_) (hp : ∀ (b0_ : Int32) (b1_ : mS), post b0_ b1_ → post1 b0_ b1_ → post2 b0_ b1_) : wj_X9_dots_2_30 K62 post2 x2 x3 z0 u := by
  refine ⟨fun c1 => ?_, fun c2 => ?_⟩
  · have h3 := h.1 c1
    have g4 := g.1 c1
    exact j_wj_X9_dots_2_44 h3 g4 hK6 hp
  · have h5 := h.2 c2
    have g6 := g.2 c2
    intro y7 e8
    have h9 := h5 y7 e8
    have g10 := g6 y7 e8
    exact j_wj_X9_dots_2_44 h9 g10 hK6 hp
theorem j_wj_X9_dots_2_6 {K6 K61 K62 : Int32 → Int32 → mS → Prop} {post post1 post2 : Int32 → mS → Prop} {x2 : Int32} {x3 : Int32} {u : mS} (h : wj_X9_dots_2_6 K6 post x2 x3 u) (g : wj_X9_dots_2_6 K61 post1 x2 x3 u) (hK6 : ∀ (b0_ : Int32) (b1_ : Int32) (b2_ : mS), K6 b0_ b1_ b2_ → K61 b0_ b1_ b2_ → K62 b0_ b1_ b2_) (hp : ∀ (b0_ : Int32) (b1_ : mS), post b0_ b1_ → post1 b0_ b1_ → post2 b0_ b1_) : wj_X9_dots_2_6 K62 post2 x2 x3 u := by
  refine j_wp_X9_kind_2 h g (fun w3 w4 h1 g2 => ?_)
  refine ⟨fun c5 => ?_, fun c6 => ?_⟩
  · have h7 := h1.1 c5
    have g8 := g2.1 c5
    exact hp _ _ h7 g8
  · have h9 := h1.2 c6
    have g10 := g2.2 c6
    refine j_wp_X9_kind_2 h9 g10 (fun w13 w14 h11 g12 => ?_)
    refine ⟨fun c15 => ?_, fun c16 => ?_⟩
    · have h17 := h11.1 c15
      have g18 := g12.1 c15
      exact j_wj_X9_dots_2_30 h17 g18 hK6 hp
    · have h19 := h11.2 c16
      have g20 := g12.2 c16
      exact j_wj_X9_dots_2_30 h19 g20 hK6 hp
theorem j_wp_X9_dots_2 {x1 : Int32} {u : mS} {post post1 post2 : Int32 → mS → Prop} (h : wp_X9_dots_2 x1 u post) (g : wp_X9_dots_2 x1 u post1) (hp : ∀ (b0_ : Int32) (b1_ : mS), post b0_ b1_ → post1 b0_ b1_ → post2 b0_ b1_) : wp_X9_dots_2 x1 u post2 := by
  intro y1 e2
  have h3 := h y1 e2
  have g4 := g y1 e2
  obtain ⟨n5, h7⟩ := h3
  obtain ⟨m6, g8⟩ := g4
  refine ⟨n5, mL3_j ?_ n5 m6 _ _ _ h7 g8⟩
  intro K_ L_ M_ hK_ _ _ _ a_ b_
  exact j_wj_X9_dots_2_6 a_ b_ hK_ hp
theorem j_wj_X9_keep_3 {K3 K31 K32 : Int32 → Int32 → Int32 → Int32 → mS → Prop} {post post1 post2 : Int32 → mS → Prop} {x1 : Int32} {x2 : Int32} {x3 : Int32} {x4 : Int32} {u : mS} (h : wj_X9_keep_3 K3 post x1 x2 x3 x4 u) (g : wj_X9_keep_3 K31 post1 x1 x2 x3 x4 u) (hK3 : ∀ (b0_ : Int32) (b1_ : Int32) (b2_ : Int32) (b3_ : Int32) (b4_ : mS), K3 b0_ b1_ b2_ b3_ b4_ → K31 b0_ b1_ b2_ b3_ b4_ → K32 b0_ b1_ b2_ b3_ b4_) (hp : ∀ (b0_ : Int32) (b1_ : mS), post b0_ b1_ → post1 b0_ b1_ → post2 b0_ b1_) : wj_X9_keep_3 K32 post2 x1 x2 x3 x4 u := by
  refine ⟨fun c1 => ?_, fun c2 => ?_⟩
  · have h3 := h.1 c1
    have g4 := g.1 c1
    intro y5 e6
    have h7 := h3 y5 e6
    have g8 := g4 y5 e6
    intro y9 e10
    have h11 := h7 y9 e10
    have g12 := g8 y9 e10
    exact hp _ _ h11 g12
  · have h13 := h.2 c2
    have g14 := g.2 c2
    intro y15 e16
    have h17 := h13 y15 e16
    have g18 := g14 y15 e16
    intro y19 e20
    have h21 := h17 y19 e20
    have g22 := g18 y19 e20
    refine ⟨h21.1, ?_⟩
    have h23 := h21.2
    have g24 := g22.2
    intro y25 e26
    have h27 := h23 y25 e26
    have g28 := g24 y25 e26
    refine ⟨h27.1, ?_⟩
    have h29 := h27.2
    have g30 := g28.2
    intro y31 e32
    have h33 := h29 y31 e32
    have g34 := g30 y31 e32
    intro y35 e36
    have h37 := h33 y35 e36
    have g38 := g34 y35 e36
    intro y39 e40
    have h41 := h37 y39 e40
    have g42 := g38 y39 e40
    refine ⟨h41.1, ?_⟩
    have h43 := h41.2
    have g44 := g42.2
    intro y45 e46
    have h47 := h43 y45 e46
    have g48 := g44 y45 e46
    refine ⟨h47.1, ?_⟩
    have h49 := h47.2
    have g50 := g48.2
    intro y51 e52
    have h53 := h49 y51 e52
    have g54 := g50 y51 e52
    intro y55 e56
    have h57 := h53 y55 e56
    have g58 := g54 y55 e56
    exact hK3 _ _ _ _ _ h57 g58
theorem j_wp_X9_keep {x1 : Int32} {x2 : Int32} {x3 : Int32} {u : mS} {post post1 post2 : Int32 → mS → Prop} (h : wp_X9_keep x1 x2 x3 u post) (g : wp_X9_keep x1 x2 x3 u post1) (hp : ∀ (b0_ : Int32) (b1_ : mS), post b0_ b1_ → post1 b0_ b1_ → post2 b0_ b1_) : wp_X9_keep x1 x2 x3 u post2 := by
  obtain ⟨n1, h3⟩ := h
  obtain ⟨m2, g4⟩ := g
  refine ⟨n1, mL5_j ?_ n1 m2 _ _ _ _ _ h3 g4⟩
  intro K_ L_ M_ hK_ _ _ _ _ _ a_ b_
  exact j_wj_X9_keep_3 a_ b_ hK_ hp
theorem j_wp_X9_kind_4 {x1 : Int32} {u : mS} {post post1 post2 : Int32 → mS → Prop} (h : wp_X9_kind_4 x1 u post) (g : wp_X9_kind_4 x1 u post1) (hp : ∀ (b0_ : Int32) (b1_ : mS), post b0_ b1_ → post1 b0_ b1_ → post2 b0_ b1_) : wp_X9_kind_4 x1 u post2 := by
  refine ⟨h.1, ?_⟩
  have h1 := h.2
  have g2 := g.2
  intro y3 e4
  have h5 := h1 y3 e4
  have g6 := g2 y3 e4
  intro y7 e8
  have h9 := h5 y7 e8
  have g10 := g6 y7 e8
  exact hp _ _ h9 g10
theorem j_wj_X9_end_4_56 {K7 K71 K72 : Int32 → Int32 → Int32 → mS → Prop} {post post1 post2 : Int32 → mS → Prop} {x2 : Int32} {x3 : Int32} {z0 : Int32} {u : mS} (h : wj_X9_end_4_56 K7 post x2 x3 z0 u) (g : wj_X9_end_4_56 K71 post1 x2 x3 z0 u) (hK7 : ∀ (b0_ : Int32) (b1_ : Int32) (b2_ : Int32) (b3_ : mS), K7 b0_ b1_ b2_ b3_ → K71 b0_ b1_ b2_ b3_ → K72 b0_ b1_ b2_ b3_) (hp : ∀ (b0_ : Int32) (b1_ : mS), post b0_ b1_ → post1 b0_ b1_ → post2 b0_ b1_) : wj_X9_end_4_56 K72 post2 x2 x3 z0 u := by
  exact hK7 _ _ _ _ h g
theorem j_wj_X9_end_4_43 {K7 K71 K72 : Int32 → Int32 → Int32 → mS → Prop} {post post1 post2 : Int32 → mS → Prop} {x3 : Int32} {z0 : Int32} {u : mS} (h : wj_X9_end_4_43 K7 post x3 z0 u) (g : wj_X9_end_4_43 K71 post1 x3 z0 u) (hK7 : ∀ (b0_ : Int32) (b1_ : Int32) (b2_ : Int32) (b3_ : mS), K7 b0_ b1_ b2_ b3_ → K71 b0_ b1_ b2_ b3_ → K72 b0_ b1_ b2_ b3_) (hp : ∀ (b0_ : Int32) (b1_ : mS), post b0_ b1_ → post1 b0_ b1_ → post2 b0_ b1_) : wj_X9_end_4_43 K72 post2 x3 z0 u := by
  intro y1 e2
  have h3 := h y1 e2
  have g4 := g y1 e2
  refine ⟨fun c5 => ?_, fun c6 => ?_⟩
  · have h7 := h3.1 c5
    have g8 := g4.1 c5
    exact j_wj_X9_end_4_56 h7 g8 hK7 hp
  · have h9 := h3.2 c6
    have g10 := g4.2 c6
    exact j_wj_X9_end_4_56 h9 g10 hK7 hp
theorem j_wj_X9_end_4_7 {K7 K71 K72 : Int32 → Int32 → Int32 → mS → Prop} {post post1 post2 : Int32 → mS → Prop} {x2 : Int32} {x3 : Int32} {x4 : Int32} {u : mS} (h : wj_X9_end_4_7 K7 post x2 x3 x4 u) (g : wj_X9_end_4_7 K71 post1 x2 x3 x4 u) (hK7 : ∀ (b0_ : Int32) (b1_ : Int32) (b2_ : Int32) (b3_ : mS), K7 b0_ b1_ b2_ b3_ → K71 b0_ b1_ b2_ b3_ → K72 b0_ b1_ b2_ b3_) (hp : ∀ (b0_ : Int32) (b1_ : mS), post b0_ b1_ → post1 b0_ b1_ → post2 b0_ b1_) : wj_X9_end_4_7 K72 post2 x2 x3 x4 u := by
  refine ⟨fun c1 => ?_, fun c2 => ?_⟩
  · have h3 := h.1 c1
    have g4 := g.1 c1
    exact hp _ _ h3 g4
  · have h5 := h.2 c2
    have g6 := g.2 c2
    refine j_wp_X9_kind_4 h5 g6 (fun w9 w10 h7 g8 => ?_)
    refine ⟨fun c11 => ?_, fun c12 => ?_⟩
    · have h13 := h7.1 c11
      have g14 := g8.1 c11
      refine j_wp_X9_kind_4 h13 g14 (fun w17 w18 h15 g16 => ?_)
      refine ⟨fun c19 => ?_, fun c20 => ?_⟩
      · have h21 := h15.1 c19
        have g22 := g16.1 c19
        exact j_wj_X9_end_4_43 h21 g22 hK7 hp
      · have h23 := h15.2 c20
        have g24 := g16.2 c20
        intro y25 e26
        have h27 := h23 y25 e26
        have g28 := g24 y25 e26
        exact j_wj_X9_end_4_43 h27 g28 hK7 hp
    · have h29 := h7.2 c12
      have g30 := g8.2 c12
      intro y31 e32
      have h33 := h29 y31 e32
      have g34 := g30 y31 e32
      exact j_wj_X9_end_4_43 h33 g34 hK7 hp
theorem j_wp_X9_end_4 {x1 : Int32} {u : mS} {post post1 post2 : Int32 → mS → Prop} (h : wp_X9_end_4 x1 u post) (g : wp_X9_end_4 x1 u post1) (hp : ∀ (b0_ : Int32) (b1_ : mS), post b0_ b1_ → post1 b0_ b1_ → post2 b0_ b1_) : wp_X9_end_4 x1 u post2 := by
  obtain ⟨n1, h3⟩ := h
  obtain ⟨m2, g4⟩ := g
  refine ⟨n1, mL4_j ?_ n1 m2 _ _ _ _ h3 g4⟩
  intro K_ L_ M_ hK_ _ _ _ _ a_ b_
  exact j_wj_X9_end_4_7 a_ b_ hK_ hp
theorem j_wj_X9_count_4_61 {K6 K61 K62 : Int32 → Int32 → mS → Prop} {post post1 post2 : Int32 → mS → Prop} {x2 : Int32} {z0 : Int32} {u : mS} (h : wj_X9_count_4_61 K6 post x2 z0 u) (g : wj_X9_count_4_61 K61 post1 x2 z0 u) (hK6 : ∀ (b0_ : Int32) (b1_ : Int32) (b2_ : mS), K6 b0_ b1_ b2_ → K61 b0_ b1_ b2_ → K62 b0_ b1_ b2_) (hp : ∀ (b0_ : Int32) (b1_ : mS), post b0_ b1_ → post1 b0_ b1_ → post2 b0_ b1_) : wj_X9_count_4_61 K62 post2 x2 z0 u := by
  exact hK6 _ _ _ h g
theorem j_wj_X9_count_4_44 {K6 K61 K62 : Int32 → Int32 → mS → Prop} {post post1 post2 : Int32 → mS → Prop} {x3 : Int32} {x4 : Int32} {z0 : Int32} {u : mS} (h : wj_X9_count_4_44 K6 post x3 x4 z0 u) (g : wj_X9_count_4_44 K61 post1 x3 x4 z0 u) (hK6 : ∀ (b0_ : Int32) (b1_ : Int32) (b2_ : mS), K6 b0_ b1_ b2_ → K61 b0_ b1_ b2_ → K62 b0_ b1_ b2_) (hp : ∀ (b0_ : Int32) (b1_ : mS), post b0_ b1_ → post1 b0_ b1_ → post2 b0_ b1_) : wj_X9_count_4_44 K62 post2 x3 x4 z0 u := by
  refine ⟨fun c1 => ?_, fun c2 => ?_⟩
  · have h3 := h.1 c1
    have g4 := g.1 c1
    refine j_wp_X9_end_4 h3 g4 (fun w7 w8 h5 g6 => ?_)
    exact j_wj_X9_count_4_61 h5 g6 hK6 hp
  · have h9 := h.2 c2
    have g10 := g.2 c2
    intro y11 e12
    have h13 := h9 y11 e12
    have g14 := g10 y11 e12
    exact j_wj_X9_count_4_61 h13 g14 hK6 hp
theorem j_wj_X9_count_4_30 {K6 K61 K62 : Int32 → Int32 → mS → Prop} {post post1 post2 : Int32 → mS → Prop} {x2 : Int32} {x3 : Int32} {z0 : Int32} {u : mS} (h : wj_X9_count_4_30 K6 post x2 x3 z0 u) (g : wj_X9_count_4_30 K61 post1 x2 x3 z0 u) (hK6 : ∀ (b0_ : Int32) (b1_ : Int32) (b2_ : mS), K6 b0_ b1_ b2_ → K61 b0_ b1_ b2_ → K62 b0_ b1_ b2_) (hp : ∀ (b0_ : Int32) (b1_ : mS), post b0_ b1_ → post1 b0_ b1_ → post2 b0_ b1_) : wj_X9_count_4_30 K62 post2 x2 x3 z0 u := by
  refine ⟨fun c1 => ?_, fun c2 => ?_⟩
  · have h3 := h.1 c1
    have g4 := g.1 c1
    intro y5 e6
    have h7 := h3 y5 e6
    have g8 := g4 y5 e6
    exact j_wj_X9_count_4_44 h7 g8 hK6 hp
  · have h9 := h.2 c2
    have g10 := g.2 c2
    exact j_wj_X9_count_4_44 h9 g10 hK6 hp
theorem j_wj_X9_count_4_6 {K6 K61 K62 : Int32 → Int32 → mS → Prop} {post post1 post2 : Int32 → mS → Prop} {x2 : Int32} {x3 : Int32} {u : mS} (h : wj_X9_count_4_6 K6 post x2 x3 u) (g : wj_X9_count_4_6 K61 post1 x2 x3 u) (hK6 : ∀ (b0_ : Int32) (b1_ : Int32) (b2_ : mS), K6 b0_ b1_ b2_ → K61 b0_ b1_ b2_ → K62 b0_ b1_ b2_) (hp : ∀ (b0_ : Int32) (b1_ : mS), post b0_ b1_ → post1 b0_ b1_ → post2 b0_ b1_) : wj_X9_count_4_6 K62 post2 x2 x3 u := by
  refine j_wp_X9_kind_4 h g (fun w3 w4 h1 g2 => ?_)
  refine ⟨fun c5 => ?_, fun c6 => ?_⟩
  · have h7 := h1.1 c5
    have g8 := g2.1 c5
    exact hp _ _ h7 g8
  · have h9 := h1.2 c6
    have g10 := g2.2 c6
    refine j_wp_X9_kind_4 h9 g10 (fun w13 w14 h11 g12 => ?_)
    refine ⟨fun c15 => ?_, fun c16 => ?_⟩
    · have h17 := h11.1 c15
      have g18 := g12.1 c15
      exact j_wj_X9_count_4_30 h17 g18 hK6 hp
    · have h19 := h11.2 c16
      have g20 := g12.2 c16
      exact j_wj_X9_count_4_30 h19 g20 hK6 hp
theorem j_wp_X9_count_4 {x1 : Int32} {u : mS} {post post1 post2 : Int32 → mS → Prop} (h : wp_X9_count_4 x1 u post) (g : wp_X9_count_4 x1 u post1) (hp : ∀ (b0_ : Int32) (b1_ : mS), post b0_ b1_ → post1 b0_ b1_ → post2 b0_ b1_) : wp_X9_count_4 x1 u post2 := by
  intro y1 e2
  have h3 := h y1 e2
  have g4 := g y1 e2
  obtain ⟨n5, h7⟩ := h3
  obtain ⟨m6, g8⟩ := g4
  refine ⟨n5, mL3_j ?_ n5 m6 _ _ _ h7 g8⟩
  intro K_ L_ M_ hK_ _ _ _ a_ b_
  exact j_wj_X9_count_4_6 a_ b_ hK_ hp
theorem j_wj_X9_dots_4_61 {K6 K61 K62 : Int32 → Int32 → mS → Prop} {post post1 post2 : Int32 → mS → Prop} {x2 : Int32} {z0 : Int32} {u : mS} (h : wj_X9_dots_4_61 K6 post x2 z0 u) (g : wj_X9_dots_4_61 K61 post1 x2 z0 u) (hK6 : ∀ (b0_ : Int32) (b1_ : Int32) (b2_ : mS), K6 b0_ b1_ b2_ → K61 b0_ b1_ b2_ → K62 b0_ b1_ b2_) (hp : ∀ (b0_ : Int32) (b1_ : mS), post b0_ b1_ → post1 b0_ b1_ → post2 b0_ b1_) : wj_X9_dots_4_61 K62 post2 x2 z0 u := by
  exact hK6 _ _ _ h g
theorem j_wj_X9_dots_4_44 {K6 K61 K62 : Int32 → Int32 → mS → Prop} {post post1 post2 : Int32 → mS → Prop} {x3 : Int32} {x4 : Int32} {z0 : Int32} {u : mS} (h : wj_X9_dots_4_44 K6 post x3 x4 z0 u) (g : wj_X9_dots_4_44 K61 post1 x3 x4 z0 u) (hK6 : ∀ (b0_ : Int32) (b1_ : Int32) (b2_ : mS), K6 b0_ b1_ b2_ → K61 b0_ b1_ b2_ → K62 b0_ b1_ b2_) (hp : ∀ (b0_ : Int32) (b1_ : mS), post b0_ b1_ → post1 b0_ b1_ → post2 b0_ b1_) : wj_X9_dots_4_44 K62 post2 x3 x4 z0 u := by
  refine ⟨fun c1 => ?_, fun c2 => ?_⟩
  · have h3 := h.1 c1
    have g4 := g.1 c1
    refine j_wp_X9_end_4 h3 g4 (fun w7 w8 h5 g6 => ?_)
    exact j_wj_X9_dots_4_61 h5 g6 hK6 hp
  · have h9 := h.2 c2
    have g10 := g.2 c2
    intro y11 e12
    have h13 := h9 y11 e12
    have g14 := g10 y11 e12
    exact j_wj_X9_dots_4_61 h13 g14 hK6 hp
theorem j_wj_X9_dots_4_30 {K6 K61 K62 : Int32 → Int32 → mS → Prop} {post post1 post2 : Int32 → mS → Prop} {x2 : Int32} {x3 : Int32} {z0 : Int32} {u : mS} (h : wj_X9_dots_4_30 K6 post x2 x3 z0 u) (g : wj_X9_dots_4_30 K61 post1 x2 x3 z0 u) (hK6 : ∀ (b0_ : Int32) (b1_ : Int32) (b2_ : mS), K6 b0_ b1_ b2_ → K61 b0_ b1_ b2_ → K62 b0_ b1_ b2_) (hp : ∀ (b0_ : Int32) (b1_ : mS), post b0_ b1_ → post1 b0_ b1_ → post2 b0_ b1_) : wj_X9_dots_4_30 K62 post2 x2 x3 z0 u := by
  refine ⟨fun c1 => ?_, fun c2 => ?_⟩
  · have h3 := h.1 c1
    have g4 := g.1 c1
    exact j_wj_X9_dots_4_44 h3 g4 hK6 hp
  · have h5 := h.2 c2
    have g6 := g.2 c2
    intro y7 e8
    have h9 := h5 y7 e8
    have g10 := g6 y7 e8
    exact j_wj_X9_dots_4_44 h9 g10 hK6 hp
theorem j_wj_X9_dots_4_6 {K6 K61 K62 : Int32 → Int32 → mS → Prop} {post post1 post2 : Int32 → mS → Prop} {x2 : Int32} {x3 : Int32} {u : mS} (h : wj_X9_dots_4_6 K6 post x2 x3 u) (g : wj_X9_dots_4_6 K61 post1 x2 x3 u) (hK6 : ∀ (b0_ : Int32) (b1_ : Int32) (b2_ : mS), K6 b0_ b1_ b2_ → K61 b0_ b1_ b2_ → K62 b0_ b1_ b2_) (hp : ∀ (b0_ : Int32) (b1_ : mS), post b0_ b1_ → post1 b0_ b1_ → post2 b0_ b1_) : wj_X9_dots_4_6 K62 post2 x2 x3 u := by
  refine j_wp_X9_kind_4 h g (fun w3 w4 h1 g2 => ?_)
  refine ⟨fun c5 => ?_, fun c6 => ?_⟩
  · have h7 := h1.1 c5
    have g8 := g2.1 c5
    exact hp _ _ h7 g8
  · have h9 := h1.2 c6
    have g10 := g2.2 c6
    refine j_wp_X9_kind_4 h9 g10 (fun w13 w14 h11 g12 => ?_)
    refine ⟨fun c15 => ?_, fun c16 => ?_⟩
    · have h17 := h11.1 c15
      have g18 := g12.1 c15
      exact j_wj_X9_dots_4_30 h17 g18 hK6 hp
    · have h19 := h11.2 c16
      have g20 := g12.2 c16
      exact j_wj_X9_dots_4_30 h19 g20 hK6 hp
theorem j_wp_X9_dots_4 {x1 : Int32} {u : mS} {post post1 post2 : Int32 → mS → Prop} (h : wp_X9_dots_4 x1 u post) (g : wp_X9_dots_4 x1 u post1) (hp : ∀ (b0_ : Int32) (b1_ : mS), post b0_ b1_ → post1 b0_ b1_ → post2 b0_ b1_) : wp_X9_dots_4 x1 u post2 := by
  intro y1 e2
  have h3 := h y1 e2
  have g4 := g y1 e2
  obtain ⟨n5, h7⟩ := h3
  obtain ⟨m6, g8⟩ := g4
  refine ⟨n5, mL3_j ?_ n5 m6 _ _ _ h7 g8⟩
  intro K_ L_ M_ hK_ _ _ _ a_ b_
  exact j_wj_X9_dots_4_6 a_ b_ hK_ hp
theorem j_wp_X9_isPlain_4 {x1 : Int32} {x2 : Int32} {u : mS} {post post1 post2 : Int32 → mS → Prop} (h : wp_X9_isPlain_4 x1 x2 u post) (g : wp_X9_isPlain_4 x1 x2 u post1) (hp : ∀ (b0_ : Int32) (b1_ : mS), post b0_ b1_ → post1 b0_ b1_ → post2 b0_ b1_) : wp_X9_isPlain_4 x1 x2 u post2 := by
  refine j_wp_X9_kind_4 h g (fun w3 w4 h1 g2 => ?_)
  refine ⟨fun c5 => ?_, fun c6 => ?_⟩
  · have h7 := h1.1 c5
    have g8 := g2.1 c5
    exact hp _ _ h7 g8
  · have h9 := h1.2 c6
    have g10 := g2.2 c6
    refine j_wp_X9_count_4 h9 g10 (fun w13 w14 h11 g12 => ?_)
    refine ⟨fun c15 => ?_, fun c16 => ?_⟩
    · have h17 := h11.1 c15
      have g18 := g12.1 c15
      exact hp _ _ h17 g18
    · have h19 := h11.2 c16
      have g20 := g12.2 c16
      refine j_wp_X9_dots_4 h19 g20 (fun w23 w24 h21 g22 => ?_)
      refine ⟨fun c25 => ?_, fun c26 => ?_⟩
      · have h27 := h21.1 c25
        have g28 := g22.1 c25
        exact hp _ _ h27 g28
      · have h29 := h21.2 c26
        have g30 := g22.2 c26
        exact hp _ _ h29 g30
theorem j_wj_X9_heldBy_101 {K6 K61 K62 : Int32 → Int32 → Int32 → Int32 → mS → Prop} {post post1 post2 : Int32 → mS → Prop} {x2 : Int32} {x3 : Int32} {x5 : Int32} {z0 : Int32} {u : mS} (h : wj_X9_heldBy_101 K6 post x2 x3 x5 z0 u) (g : wj_X9_heldBy_101 K61 post1 x2 x3 x5 z0 u) (hK6 : ∀ (b0_ : Int32) (b1_ : Int32) (b2_ : Int32) (b3_ : Int32) (b4_ : mS), K6 b0_ b1_ b2_ b3_ b4_ → K61 b0_ b1_ b2_ b3_ b4_ → K62 b0_ b1_ b2_ b3_ b4_) (hp : ∀ (b0_ : Int32) (b1_ : mS), post b0_ b1_ → post1 b0_ b1_ → post2 b0_ b1_) : wj_X9_heldBy_101 K62 post2 x2 x3 x5 z0 u := by
  intro y1 e2
  have h3 := h y1 e2
  have g4 := g y1 e2
  exact hK6 _ _ _ _ _ h3 g4
theorem j_wj_X9_heldBy_99 {K6 K61 K62 : Int32 → Int32 → Int32 → Int32 → mS → Prop} {post post1 post2 : Int32 → mS → Prop} {x2 : Int32} {x3 : Int32} {x4 : Int32} {x5 : Int32} {u : mS} (h : wj_X9_heldBy_99 K6 post x2 x3 x4 x5 u) (g : wj_X9_heldBy_99 K61 post1 x2 x3 x4 x5 u) (hK6 : ∀ (b0_ : Int32) (b1_ : Int32) (b2_ : Int32) (b3_ : Int32) (b4_ : mS), K6 b0_ b1_ b2_ b3_ b4_ → K61 b0_ b1_ b2_ b3_ b4_ → K62 b0_ b1_ b2_ b3_ b4_) (hp : ∀ (b0_ : Int32) (b1_ : mS), post b0_ b1_ → post1 b0_ b1_ → post2 b0_ b1_) : wj_X9_heldBy_99 K62 post2 x2 x3 x4 x5 u := by
  exact j_wj_X9_heldBy_101 h g hK6 hp
theorem j_wj_X9_heldBy_64 {K6 K61 K62 : Int32 → Int32 → Int32 → Int32 → mS → Prop} {post post1 post2 : Int32 → mS → Prop} {x2 : Int32} {x3 : Int32} {x4 : Int32} {x5 : Int32} {z0 : Int32} {u : mS} (h : wj_X9_heldBy_64 K6 post x2 x3 x4 x5 z0 u) (g : wj_X9_heldBy_64 K61 post1 x2 x3 x4 x5 z0 u) (hK6 : ∀ (b0_ : Int32) (b1_ : Int32) (b2_ : Int32) (b3_ : Int32) (b4_ : mS), K6 b0_ b1_ b2_ b3_ b4_ → K61 b0_ b1_ b2_ b3_ b4_ → K62 b0_ b1_ b2_ b3_ b4_) (hp : ∀ (b0_ : Int32) (b1_ : mS), post b0_ b1_ → post1 b0_ b1_ → post2 b0_ b1_) : wj_X9_heldBy_64 K62 post2 x2 x3 x4 x5 z0 u := by
  refine ⟨fun c1 => ?_, fun c2 => ?_⟩
  · have h3 := h.1 c1
    have g4 := g.1 c1
    exact j_wj_X9_heldBy_99 h3 g4 hK6 hp
  · have h5 := h.2 c2
    have g6 := g.2 c2
    refine ⟨fun c7 => ?_, fun c8 => ?_⟩
    · have h9 := h5.1 c7
      have g10 := g6.1 c7
      exact j_wj_X9_heldBy_99 h9 g10 hK6 hp
    · have h11 := h5.2 c8
      have g12 := g6.2 c8
      refine j_wp_X9_kind_4 h11 g12 (fun w15 w16 h13 g14 => ?_)
      refine ⟨fun c17 => ?_, fun c18 => ?_⟩
      · have h19 := h13.1 c17
        have g20 := g14.1 c17
        exact j_wj_X9_heldBy_99 h19 g20 hK6 hp
      · have h21 := h13.2 c18
        have g22 := g14.2 c18
        intro y23 e24
        have h25 := h21 y23 e24
        have g26 := g22 y23 e24
        exact j_wj_X9_heldBy_101 h25 g26 hK6 hp
theorem j_wj_X9_heldBy_44 {K6 K61 K62 : Int32 → Int32 → Int32 → Int32 → mS → Prop} {post post1 post2 : Int32 → mS → Prop} {x2 : Int32} {x3 : Int32} {x4 : Int32} {x5 : Int32} {z0 : Int32} {u : mS} (h : wj_X9_heldBy_44 K6 post x2 x3 x4 x5 z0 u) (g : wj_X9_heldBy_44 K61 post1 x2 x3 x4 x5 z0 u) (hK6 : ∀ (b0_ : Int32) (b1_ : Int32) (b2_ : Int32) (b3_ : Int32) (b4_ : mS), K6 b0_ b1_ b2_ b3_ b4_ → K61 b0_ b1_ b2_ b3_ b4_ → K62 b0_ b1_ b2_ b3_ b4_) (hp : ∀ (b0_ : Int32) (b1_ : mS), post b0_ b1_ → post1 b0_ b1_ → post2 b0_ b1_) : wj_X9_heldBy_44 K62 post2 x2 x3 x4 x5 z0 u := by
  refine ⟨fun c1 => ?_, fun c2 => ?_⟩
  · have h3 := h.1 c1
    have g4 := g.1 c1
    exact j_wj_X9_heldBy_64 h3 g4 hK6 hp
  · have h5 := h.2 c2
    have g6 := g.2 c2
    refine j_wp_X9_end_4 h5 g6 (fun w9 w10 h7 g8 => ?_)
    exact j_wj_X9_heldBy_64 h7 g8 hK6 hp
theorem j_wj_X9_heldBy_43 {K6 K61 K62 : Int32 → Int32 → Int32 → Int32 → mS → Prop} {post post1 post2 : Int32 → mS → Prop} {x2 : Int32} {x3 : Int32} {x4 : Int32} {x5 : Int32} {u : mS} (h : wj_X9_heldBy_43 K6 post x2 x3 x4 x5 u) (g : wj_X9_heldBy_43 K61 post1 x2 x3 x4 x5 u) (hK6 : ∀ (b0_ : Int32) (b1_ : Int32) (b2_ : Int32) (b3_ : Int32) (b4_ : mS), K6 b0_ b1_ b2_ b3_ b4_ → K61 b0_ b1_ b2_ b3_ b4_ → K62 b0_ b1_ b2_ b3_ b4_) (hp : ∀ (b0_ : Int32) (b1_ : mS), post b0_ b1_ → post1 b0_ b1_ → post2 b0_ b1_) : wj_X9_heldBy_43 K62 post2 x2 x3 x4 x5 u := by
  exact j_wj_X9_heldBy_44 h g hK6 hp
theorem j_wj_X9_heldBy_6 {K6 K61 K62 : Int32 → Int32 → Int32 → Int32 → mS → Prop} {post post1 post2 : Int32 → mS → Prop} {x2 : Int32} {x3 : Int32} {x4 : Int32} {x5 : Int32} {u : mS} (h : wj_X9_heldBy_6 K6 post x2 x3 x4 x5 u) (g : wj_X9_heldBy_6 K61 post1 x2 x3 x4 x5 u) (hK6 : ∀ (b0_ : Int32) (b1_ : Int32) (b2_ : Int32) (b3_ : Int32) (b4_ : mS), K6 b0_ b1_ b2_ b3_ b4_ → K61 b0_ b1_ b2_ b3_ b4_ → K62 b0_ b1_ b2_ b3_ b4_) (hp : ∀ (b0_ : Int32) (b1_ : mS), post b0_ b1_ → post1 b0_ b1_ → post2 b0_ b1_) : wj_X9_heldBy_6 K62 post2 x2 x3 x4 x5 u := by
  refine ⟨fun c1 => ?_, fun c2 => ?_⟩
  · have h3 := h.1 c1
    have g4 := g.1 c1
    exact hp _ _ h3 g4
  · have h5 := h.2 c2
    have g6 := g.2 c2
    refine j_wp_X9_kind_4 h5 g6 (fun w9 w10 h7 g8 => ?_)
    refine ⟨fun c11 => ?_, fun c12 => ?_⟩
    · have h13 := h7.1 c11
      have g14 := g8.1 c11
      exact j_wj_X9_heldBy_43 h13 g14 hK6 hp
    · have h15 := h7.2 c12
      have g16 := g8.2 c12
      refine j_wp_X9_kind_4 h15 g16 (fun w19 w20 h17 g18 => ?_)
      refine ⟨fun c21 => ?_, fun c22 => ?_⟩
      · have h23 := h17.1 c21
        have g24 := g18.1 c21
        exact j_wj_X9_heldBy_43 h23 g24 hK6 hp
      · have h25 := h17.2 c22
        have g26 := g18.2 c22
        exact j_wj_X9_heldBy_44 h25 g26 hK6 hp
theorem j_wp_X9_heldBy {x1 : Int32} {x2 : Int32} {x3 : Int32} {u : mS} {post post1 post2 : Int32 → mS → Prop} (h : wp_X9_heldBy x1 x2 x3 u post) (g : wp_X9_heldBy x1 x2 x3 u post1) (hp : ∀ (b0_ : Int32) (b1_ : mS), post b0_ b1_ → post1 b0_ b1_ → post2 b0_ b1_) : wp_X9_heldBy x1 x2 x3 u post2 := by
  obtain ⟨n1, h3⟩ := h
  obtain ⟨m2, g4⟩ := g
  refine ⟨n1, mL5_j ?_ n1 m2 _ _ _ _ _ h3 g4⟩
  intro K_ L_ M_ hK_ _ _ _ _ _ a_ b_
  exact j_wj_X9_heldBy_6 a_ b_ hK_ hp
theorem j_wj_X9_variable_56 {K24 K241 K242 : Int32 → Int32 → Int32 → Int32 → mS → Prop} {post post1 post2 : Int32 → mS → Prop} {x2 : Int32} {x3 : Int32} {x4 : Int32} {x5 : Int32} {u : mS} (h : wj_X9_variable_56 K24 post x2 x3 x4 x5 u) (g : wj_X9_variable_56 K241 post1 x2 x3 x4 x5 u) (hK24 : ∀ (b0_ : Int32) (b1_ : Int32) (b2_ : Int32) (b3_ : Int32) (b4_ : mS), K24 b0_ b1_ b2_ b3_ b4_ → K241 b0_ b1_ b2_ b3_ b4_ → K242 b0_ b1_ b2_ b3_ b4_) (hp : ∀ (b0_ : Int32) (b1_ : mS), post b0_ b1_ → post1 b0_ b1_ → post2 b0_ b1_) : wj_X9_variable_56 K242 post2 x2 x3 x4 x5 u := by
  intro y1 e2
  have h3 := h y1 e2
  have g4 := g y1 e2
  exact hK24 _ _ _ _ _ h3 g4
theorem j_wj_X9_variable_24 {K24 K241 K242 : Int32 → Int32 → Int32 → Int32 → mS → Prop} {post post1 post2 : Int32 → mS → Prop} {x2 : Int32} {x3 : Int32} {x4 : Int32} {x5 : Int32} {u : mS} (h : wj_X9_variable_24 K24 post x2 x3 x4 x5 u) (g : wj_X9_variable_24 K241 post1 x2 x3 x4 x5 u) (hK24 : ∀ (b0_ : Int32) (b1_ : Int32) (b2_ : Int32) (b3_ : Int32) (b4_ : mS), K24 b0_ b1_ b2_ b3_ b4_ → K241 b0_ b1_ b2_ b3_ b4_ → K242 b0_ b1_ b2_ b3_ b4_) (hp : ∀ (b0_ : Int32) (b1_ : mS), post b0_ b1_ → post1 b0_ b1_ → post2 b0_ b1_) : wj_X9_variable_24 K242 post2 x2 x3 x4 x5 u := by
  refine ⟨fun c1 => ?_, fun c2 => ?_⟩
  · have h3 := h.1 c1
    have g4 := g.1 c1
    exact hp _ _ h3 g4
  · have h5 := h.2 c2
    have g6 := g.2 c2
    refine ⟨h5.1, ?_⟩
    have h7 := h5.2
    have g8 := g6.2
    intro y9 e10
    have h11 := h7 y9 e10
    have g12 := g8 y9 e10
    refine ⟨fun c13 => ?_, fun c14 => ?_⟩
    · have h15 := h11.1 c13
      have g16 := g12.1 c13
      exact j_wj_X9_variable_56 h15 g16 hK24 hp
    · have h17 := h11.2 c14
      have g18 := g12.2 c14
      refine ⟨h17.1, ?_⟩
      have h19 := h17.2
      have g20 := g18.2
      intro y21 e22
      have h23 := h19 y21 e22
      have g24 := g20 y21 e22
      refine ⟨fun c25 => ?_, fun c26 => ?_⟩
      · have h27 := h23.1 c25
        have g28 := g24.1 c25
        exact j_wj_X9_variable_56 h27 g28 hK24 hp
      · have h29 := h23.2 c26
        have g30 := g24.2 c26
        exact hp _ _ h29 g30
theorem j_wp_X9_variable {x1 : Int32} {x2 : Int32} {x3 : Int32} {u : mS} {post post1 post2 : Int32 → mS → Prop} (h : wp_X9_variable x1 x2 x3 u post) (g : wp_X9_variable x1 x2 x3 u post1) (hp : ∀ (b0_ : Int32) (b1_ : mS), post b0_ b1_ → post1 b0_ b1_ → post2 b0_ b1_) : wp_X9_variable x1 x2 x3 u post2 := by
  refine j_wp_X9_end_4 h g (fun w3 w4 h1 g2 => ?_)
  intro y5 e6
  have h7 := h1 y5 e6
  have g8 := g2 y5 e6
  intro y9 e10
  have h11 := h7 y9 e10
  have g12 := g8 y9 e10
  refine j_wp_X9_end_4 h11 g12 (fun w15 w16 h13 g14 => ?_)
  obtain ⟨n17, h19⟩ := h13
  obtain ⟨m18, g20⟩ := g14
  refine ⟨n17, mL5_j ?_ n17 m18 _ _ _ _ _ h19 g20⟩
  intro K_ L_ M_ hK_ _ _ _ _ _ a_ b_
  exact j_wj_X9_variable_24 a_ b_ hK_ hp
theorem j_wj_X9_isPattern_165 {K65 K651 K652 : Int32 → Int32 → Int32 → mS → Prop} {post post1 post2 : Int32 → mS → Prop} {x1 : Int32} {x2 : Int32} {x4 : Int32} {u : mS} (h : wj_X9_isPattern_165 K65 post x1 x2 x4 u) (g : wj_X9_isPattern_165 K651 post1 x1 x2 x4 u) (hK65 : ∀ (b0_ : Int32) (b1_ : Int32) (b2_ : Int32) (b3_ : mS), K65 b0_ b1_ b2_ b3_ → K651 b0_ b1_ b2_ b3_ → K652 b0_ b1_ b2_ b3_) (hp : ∀ (b0_ : Int32) (b1_ : mS), post b0_ b1_ → post1 b0_ b1_ → post2 b0_ b1_) : wj_X9_isPattern_165 K652 post2 x1 x2 x4 u := by
  intro y1 e2
  have h3 := h y1 e2
  have g4 := g y1 e2
  exact hK65 _ _ _ _ h3 g4
theorem j_wj_X9_isPattern_133 {K65 K651 K652 : Int32 → Int32 → Int32 → mS → Prop} {post post1 post2 : Int32 → mS → Prop} {x1 : Int32} {x2 : Int32} {x4 : Int32} {x5 : Int32} {u : mS} (h : wj_X9_isPattern_133 K65 post x1 x2 x4 x5 u) (g : wj_X9_isPattern_133 K651 post1 x1 x2 x4 x5 u) (hK65 : ∀ (b0_ : Int32) (b1_ : Int32) (b2_ : Int32) (b3_ : mS), K65 b0_ b1_ b2_ b3_ → K651 b0_ b1_ b2_ b3_ → K652 b0_ b1_ b2_ b3_) (hp : ∀ (b0_ : Int32) (b1_ : mS), post b0_ b1_ → post1 b0_ b1_ → post2 b0_ b1_) : wj_X9_isPattern_133 K652 post2 x1 x2 x4 x5 u := by
  refine ⟨fun c1 => ?_, fun c2 => ?_⟩
  · have h3 := h.1 c1
    have g4 := g.1 c1
    exact j_wj_X9_isPattern_165 h3 g4 hK65 hp
  · have h5 := h.2 c2
    have g6 := g.2 c2
    refine ⟨h5.1, ?_⟩
    have h7 := h5.2
    have g8 := g6.2
    intro y9 e10
    have h11 := h7 y9 e10
    have g12 := g8 y9 e10
    refine ⟨h11.1, ?_⟩
    have h13 := h11.2
    have g14 := g12.2
    intro y15 e16
    have h17 := h13 y15 e16
    have g18 := g14 y15 e16
    refine j_wp_X9_variable h17 g18 (fun w21 w22 h19 g20 => ?_)
    refine ⟨fun c23 => ?_, fun c24 => ?_⟩
    · have h25 := h19.1 c23
      have g26 := g20.1 c23
      exact j_wj_X9_isPattern_165 h25 g26 hK65 hp
    · have h27 := h19.2 c24
      have g28 := g20.2 c24
      exact hp _ _ h27 g28
theorem j_wj_X9_isPattern_106 {K65 K651 K652 : Int32 → Int32 → Int32 → mS → Prop} {post post1 post2 : Int32 → mS → Prop} {x1 : Int32} {x2 : Int32} {x4 : Int32} {x5 : Int32} {u : mS} (h : wj_X9_isPattern_106 K65 post x1 x2 x4 x5 u) (g : wj_X9_isPattern_106 K651 post1 x1 x2 x4 x5 u) (hK65 : ∀ (b0_ : Int32) (b1_ : Int32) (b2_ : Int32) (b3_ : mS), K65 b0_ b1_ b2_ b3_ → K651 b0_ b1_ b2_ b3_ → K652 b0_ b1_ b2_ b3_) (hp : ∀ (b0_ : Int32) (b1_ : mS), post b0_ b1_ → post1 b0_ b1_ → post2 b0_ b1_) : wj_X9_isPattern_106 K652 post2 x1 x2 x4 x5 u := by
  refine ⟨fun c1 => ?_, fun c2 => ?_⟩
  · have h3 := h.1 c1
    have g4 := g.1 c1
    exact j_wj_X9_isPattern_133 h3 g4 hK65 hp
  · have h5 := h.2 c2
    have g6 := g.2 c2
    refine ⟨fun c7 => ?_, fun c8 => ?_⟩
    · have h9 := h5.1 c7
      have g10 := g6.1 c7
      exact j_wj_X9_isPattern_133 h9 g10 hK65 hp
    · have h11 := h5.2 c8
      have g12 := g6.2 c8
      intro y13 e14
      have h15 := h11 y13 e14
      have g16 := g12 y13 e14
      refine j_wp_X9_heldBy h15 g16 (fun w19 w20 h17 g18 => ?_)
      refine ⟨fun c21 => ?_, fun c22 => ?_⟩
      · have h23 := h17.1 c21
        have g24 := g18.1 c21
        exact hp _ _ h23 g24
      · have h25 := h17.2 c22
        have g26 := g18.2 c22
        exact j_wj_X9_isPattern_133 h25 g26 hK65 hp
theorem j_wj_X9_isPattern_65 {K65 K651 K652 : Int32 → Int32 → Int32 → mS → Prop} {post post1 post2 : Int32 → mS → Prop} {x1 : Int32} {x2 : Int32} {x4 : Int32} {u : mS} (h : wj_X9_isPattern_65 K65 post x1 x2 x4 u) (g : wj_X9_isPattern_65 K651 post1 x1 x2 x4 u) (hK65 : ∀ (b0_ : Int32) (b1_ : Int32) (b2_ : Int32) (b3_ : mS), K65 b0_ b1_ b2_ b3_ → K651 b0_ b1_ b2_ b3_ → K652 b0_ b1_ b2_ b3_) (hp : ∀ (b0_ : Int32) (b1_ : mS), post b0_ b1_ → post1 b0_ b1_ → post2 b0_ b1_) : wj_X9_isPattern_65 K652 post2 x1 x2 x4 u := by
  refine ⟨fun c1 => ?_, fun c2 => ?_⟩
  · have h3 := h.1 c1
    have g4 := g.1 c1
    exact hp _ _ h3 g4
  · have h5 := h.2 c2
    have g6 := g.2 c2
    refine j_wp_X9_kind_4 h5 g6 (fun w9 w10 h7 g8 => ?_)
    refine ⟨fun c11 => ?_, fun c12 => ?_⟩
    · have h13 := h7.1 c11
      have g14 := g8.1 c11
      exact j_wj_X9_isPattern_106 h13 g14 hK65 hp
    · have h15 := h7.2 c12
      have g16 := g8.2 c12
      intro y17 e18
      have h19 := h15 y17 e18
      have g20 := g16 y17 e18
      refine j_wp_X9_kind_4 h19 g20 (fun w23 w24 h21 g22 => ?_)
      refine ⟨fun c25 => ?_, fun c26 => ?_⟩
      · have h27 := h21.1 c25
        have g28 := g22.1 c25
        exact j_wj_X9_isPattern_106 h27 g28 hK65 hp
      · have h29 := h21.2 c26
        have g30 := g22.2 c26
        exact hp _ _ h29 g30
theorem j_wp_X9_isPattern {x1 : Int32} {u : mS} {post post1 post2 : Int32 → mS → Prop} (h : wp_X9_isPattern x1 u post) (g : wp_X9_isPattern x1 u post1) (hp : ∀ (b0_ : Int32) (b1_ : mS), post b0_ b1_ → post1 b0_ b1_ → post2 b0_ b1_) : wp_X9_isPattern x1 u post2 := by
  refine j_wp_X9_kind_4 h g (fun w3 w4 h1 g2 => ?_)
  refine ⟨fun c5 => ?_, fun c6 => ?_⟩
  · have h7 := h1.1 c5
    have g8 := g2.1 c5
    exact hp _ _ h7 g8
  · have h9 := h1.2 c6
    have g10 := g2.2 c6
    refine j_wp_X9_count_4 h9 g10 (fun w13 w14 h11 g12 => ?_)
    refine ⟨fun c15 => ?_, fun c16 => ?_⟩
    · have h17 := h11.1 c15
      have g18 := g12.1 c15
      refine j_wp_X9_end_4 h17 g18 (fun w21 w22 h19 g20 => ?_)
      intro y23 e24
      have h25 := h19 y23 e24
      have g26 := g20 y23 e24
      intro y27 e28
      have h29 := h25 y27 e28
      have g30 := g26 y27 e28
      refine j_wp_X9_end_4 h29 g30 (fun w33 w34 h31 g32 => ?_)
      refine j_wp_X9_kind_4 h31 g32 (fun w37 w38 h35 g36 => ?_)
      refine ⟨fun c39 => ?_, fun c40 => ?_⟩
      · have h41 := h35.1 c39
        have g42 := g36.1 c39
        obtain ⟨n43, h45⟩ := h41
        obtain ⟨m44, g46⟩ := g42
        refine ⟨n43, mL4_j ?_ n43 m44 _ _ _ _ h45 g46⟩
        intro K_ L_ M_ hK_ _ _ _ _ a_ b_
        exact j_wj_X9_isPattern_65 a_ b_ hK_ hp
      · have h47 := h35.2 c40
        have g48 := g36.2 c40
        exact hp _ _ h47 g48
    · have h49 := h11.2 c16
      have g50 := g12.2 c16
      exact hp _ _ h49 g50
theorem j_wj_X9_uses_56 {K6 K61 K62 : Int32 → Int32 → Int32 → Int32 → mS → Prop} {post post1 post2 : Int32 → mS → Prop} {x1 : Int32} {x3 : Int32} {x5 : Int32} {z0 : Int32} {u : mS} (h : wj_X9_uses_56 K6 post x1 x3 x5 z0 u) (g : wj_X9_uses_56 K61 post1 x1 x3 x5 z0 u) (hK6 : ∀ (b0_ : Int32) (b1_ : Int32) (b2_ : Int32) (b3_ : Int32) (b4_ : mS), K6 b0_ b1_ b2_ b3_ b4_ → K61 b0_ b1_ b2_ b3_ b4_ → K62 b0_ b1_ b2_ b3_ b4_) (hp : ∀ (b0_ : Int32) (b1_ : mS), post b0_ b1_ → post1 b0_ b1_ → post2 b0_ b1_) : wj_X9_uses_56 K62 post2 x1 x3 x5 z0 u := by
  intro y1 e2
  have h3 := h y1 e2
  have g4 := g y1 e2
  exact hK6 _ _ _ _ _ h3 g4
theorem j_wj_X9_uses_54 {K6 K61 K62 : Int32 → Int32 → Int32 → Int32 → mS → Prop} {post post1 post2 : Int32 → mS → Prop} {x1 : Int32} {x3 : Int32} {x4 : Int32} {x5 : Int32} {u : mS} (h : wj_X9_uses_54 K6 post x1 x3 x4 x5 u) (g : wj_X9_uses_54 K61 post1 x1 x3 x4 x5 u) (hK6 : ∀ (b0_ : Int32) (b1_ : Int32) (b2_ : Int32) (b3_ : Int32) (b4_ : mS), K6 b0_ b1_ b2_ b3_ b4_ → K61 b0_ b1_ b2_ b3_ b4_ → K62 b0_ b1_ b2_ b3_ b4_) (hp : ∀ (b0_ : Int32) (b1_ : mS), post b0_ b1_ → post1 b0_ b1_ → post2 b0_ b1_) : wj_X9_uses_54 K62 post2 x1 x3 x4 x5 u := by
  exact j_wj_X9_uses_56 h g hK6 hp
theorem j_wj_X9_uses_6 {K6 K61 K62 : Int32 → Int32 → Int32 → Int32 → mS → Prop} {post post1 post2 : Int32 → mS → Prop} {x1 : Int32} {x3 : Int32} {x4 : Int32} {x5 : Int32} {u : mS} (h : wj_X9_uses_6 K6 post x1 x3 x4 x5 u) (g : wj_X9_uses_6 K61 post1 x1 x3 x4 x5 u) (hK6 : ∀ (b0_ : Int32) (b1_ : Int32) (b2_ : Int32) (b3_ : Int32) (b4_ : mS), K6 b0_ b1_ b2_ b3_ b4_ → K61 b0_ b1_ b2_ b3_ b4_ → K62 b0_ b1_ b2_ b3_ b4_) (hp : ∀ (b0_ : Int32) (b1_ : mS), post b0_ b1_ → post1 b0_ b1_ → post2 b0_ b1_) : wj_X9_uses_6 K62 post2 x1 x3 x4 x5 u := by
  refine ⟨fun c1 => ?_, fun c2 => ?_⟩
  · have h3 := h.1 c1
    have g4 := g.1 c1
    exact hp _ _ h3 g4
  · have h5 := h.2 c2
    have g6 := g.2 c2
    refine j_wp_X9_kind_4 h5 g6 (fun w9 w10 h7 g8 => ?_)
    refine ⟨fun c11 => ?_, fun c12 => ?_⟩
    · have h13 := h7.1 c11
      have g14 := g8.1 c11
      exact j_wj_X9_uses_54 h13 g14 hK6 hp
    · have h15 := h7.2 c12
      have g16 := g8.2 c12
      refine ⟨h15.1, ?_⟩
      have h17 := h15.2
      have g18 := g16.2
      intro y19 e20
      have h21 := h17 y19 e20
      have g22 := g18 y19 e20
      refine ⟨h21.1, ?_⟩
      have h23 := h21.2
      have g24 := g22.2
      intro y25 e26
      have h27 := h23 y25 e26
      have g28 := g24 y25 e26
      refine j_wp_X9_variable h27 g28 (fun w31 w32 h29 g30 => ?_)
      refine ⟨fun c33 => ?_, fun c34 => ?_⟩
      · have h35 := h29.1 c33
        have g36 := g30.1 c33
        exact j_wj_X9_uses_54 h35 g36 hK6 hp
      · have h37 := h29.2 c34
        have g38 := g30.2 c34
        intro y39 e40
        have h41 := h37 y39 e40
        have g42 := g38 y39 e40
        exact j_wj_X9_uses_56 h41 g42 hK6 hp
theorem j_wp_X9_uses {x1 : Int32} {x2 : Int32} {x3 : Int32} {u : mS} {post post1 post2 : Int32 → mS → Prop} (h : wp_X9_uses x1 x2 x3 u post) (g : wp_X9_uses x1 x2 x3 u post1) (hp : ∀ (b0_ : Int32) (b1_ : mS), post b0_ b1_ → post1 b0_ b1_ → post2 b0_ b1_) : wp_X9_uses x1 x2 x3 u post2 := by
  obtain ⟨n1, h3⟩ := h
  obtain ⟨m2, g4⟩ := g
  refine ⟨n1, mL5_j ?_ n1 m2 _ _ _ _ _ h3 g4⟩
  intro K_ L_ M_ hK_ _ _ _ _ _ a_ b_
  exact j_wj_X9_uses_6 a_ b_ hK_ hp
theorem j_wj_X9_isTemplate_97 {K24 K241 K242 : Int32 → Int32 → Int32 → Int32 → Int32 → mS → Prop} {post post1 post2 : Int32 → mS → Prop} {x1 : Int32} {x2 : Int32} {x3 : Int32} {x4 : Int32} {x5 : Int32} {u : mS} (h : wj_X9_isTemplate_97 K24 post x1 x2 x3 x4 x5 u) (g : wj_X9_isTemplate_97 K241 post1 x1 x2 x3 x4 x5 u) (hK24 : ∀ (b0_ : Int32) (b1_ : Int32) (b2_ : Int32) (b3_ : Int32) (b4_ : Int32) (b5_ : mS), K24 b0_ b1_ b2_ b3_ b4_ b5_ → K241 b0_ b1_ b2_ b3_ b4_ b5_ → K242 b0_ b1_ b2_ b3_ b4_ b5_) (hp : ∀ (b0_ : Int32) (b1_ : mS), post b0_ b1_ → post1 b0_ b1_ → post2 b0_ b1_) : wj_X9_isTemplate_97 K242 post2 x1 x2 x3 x4 x5 u := by
  intro y1 e2
  have h3 := h y1 e2
  have g4 := g y1 e2
  exact hK24 _ _ _ _ _ _ h3 g4
theorem j_wj_X9_isTemplate_66 {K24 K241 K242 : Int32 → Int32 → Int32 → Int32 → Int32 → mS → Prop} {post post1 post2 : Int32 → mS → Prop} {x1 : Int32} {x2 : Int32} {x3 : Int32} {x4 : Int32} {x5 : Int32} {z0 : Int32} {u : mS} (h : wj_X9_isTemplate_66 K24 post x1 x2 x3 x4 x5 z0 u) (g : wj_X9_isTemplate_66 K241 post1 x1 x2 x3 x4 x5 z0 u) (hK24 : ∀ (b0_ : Int32) (b1_ : Int32) (b2_ : Int32) (b3_ : Int32) (b4_ : Int32) (b5_ : mS), K24 b0_ b1_ b2_ b3_ b4_ b5_ → K241 b0_ b1_ b2_ b3_ b4_ b5_ → K242 b0_ b1_ b2_ b3_ b4_ b5_) (hp : ∀ (b0_ : Int32) (b1_ : mS), post b0_ b1_ → post1 b0_ b1_ → post2 b0_ b1_) : wj_X9_isTemplate_66 K242 post2 x1 x2 x3 x4 x5 z0 u := by
  refine ⟨fun c1 => ?_, fun c2 => ?_⟩
  · have h3 := h.1 c1
    have g4 := g.1 c1
    exact j_wj_X9_isTemplate_97 h3 g4 hK24 hp
  · have h5 := h.2 c2
    have g6 := g.2 c2
    refine j_wp_X9_heldBy h5 g6 (fun w9 w10 h7 g8 => ?_)
    intro y11 e12
    have h13 := h7 y11 e12
    have g14 := g8 y11 e12
    refine j_wp_X9_heldBy h13 g14 (fun w17 w18 h15 g16 => ?_)
    refine ⟨fun c19 => ?_, fun c20 => ?_⟩
    · have h21 := h15.1 c19
      have g22 := g16.1 c19
      exact j_wj_X9_isTemplate_97 h21 g22 hK24 hp
    · have h23 := h15.2 c20
      have g24 := g16.2 c20
      exact hp _ _ h23 g24
theorem j_wj_X9_isTemplate_185 {K106 K1061 K1062 : Int32 → Int32 → Int32 → mS → Prop} {post post1 post2 : Int32 → mS → Prop} {x1 : Int32} {x3 : Int32} {x5 : Int32} {u : mS} (h : wj_X9_isTemplate_185 K106 post x1 x3 x5 u) (g : wj_X9_isTemplate_185 K1061 post1 x1 x3 x5 u) (hK106 : ∀ (b0_ : Int32) (b1_ : Int32) (b2_ : Int32) (b3_ : mS), K106 b0_ b1_ b2_ b3_ → K1061 b0_ b1_ b2_ b3_ → K1062 b0_ b1_ b2_ b3_) (hp : ∀ (b0_ : Int32) (b1_ : mS), post b0_ b1_ → post1 b0_ b1_ → post2 b0_ b1_) : wj_X9_isTemplate_185 K1062 post2 x1 x3 x5 u := by
  intro y1 e2
  have h3 := h y1 e2
  have g4 := g y1 e2
  exact hK106 _ _ _ _ h3 g4
theorem j_wj_X9_isTemplate_149 {K106 K1061 K1062 : Int32 → Int32 → Int32 → mS → Prop} {post post1 post2 : Int32 → mS → Prop} {x1 : Int32} {x3 : Int32} {x5 : Int32} {z0 : Int32} {u : mS} (h : wj_X9_isTemplate_149 K106 post x1 x3 x5 z0 u) (g : wj_X9_isTemplate_149 K1061 post1 x1 x3 x5 z0 u) (hK106 : ∀ (b0_ : Int32) (b1_ : Int32) (b2_ : Int32) (b3_ : mS), K106 b0_ b1_ b2_ b3_ → K1061 b0_ b1_ b2_ b3_ → K1062 b0_ b1_ b2_ b3_) (hp : ∀ (b0_ : Int32) (b1_ : mS), post b0_ b1_ → post1 b0_ b1_ → post2 b0_ b1_) : wj_X9_isTemplate_149 K1062 post2 x1 x3 x5 z0 u := by
  refine ⟨fun c1 => ?_, fun c2 => ?_⟩
  · have h3 := h.1 c1
    have g4 := g.1 c1
    exact j_wj_X9_isTemplate_185 h3 g4 hK106 hp
  · have h5 := h.2 c2
    have g6 := g.2 c2
    refine j_wp_X9_kind_4 h5 g6 (fun w9 w10 h7 g8 => ?_)
    refine ⟨fun c11 => ?_, fun c12 => ?_⟩
    · have h13 := h7.1 c11
      have g14 := g8.1 c11
      exact j_wj_X9_isTemplate_185 h13 g14 hK106 hp
    · have h15 := h7.2 c12
      have g16 := g8.2 c12
      refine j_wp_X9_uses h15 g16 (fun w19 w20 h17 g18 => ?_)
      refine ⟨fun c21 => ?_, fun c22 => ?_⟩
      · have h23 := h17.1 c21
        have g24 := g18.1 c21
        exact j_wj_X9_isTemplate_185 h23 g24 hK106 hp
      · have h25 := h17.2 c22
        have g26 := g18.2 c22
        exact hp _ _ h25 g26
theorem j_wj_X9_isTemplate_136 {K106 K1061 K1062 : Int32 → Int32 → Int32 → mS → Prop} {post post1 post2 : Int32 → mS → Prop} {x1 : Int32} {x3 : Int32} {x5 : Int32} {u : mS} (h : wj_X9_isTemplate_136 K106 post x1 x3 x5 u) (g : wj_X9_isTemplate_136 K1061 post1 x1 x3 x5 u) (hK106 : ∀ (b0_ : Int32) (b1_ : Int32) (b2_ : Int32) (b3_ : mS), K106 b0_ b1_ b2_ b3_ → K1061 b0_ b1_ b2_ b3_ → K1062 b0_ b1_ b2_ b3_) (hp : ∀ (b0_ : Int32) (b1_ : mS), post b0_ b1_ → post1 b0_ b1_ → post2 b0_ b1_) : wj_X9_isTemplate_136 K1062 post2 x1 x3 x5 u := by
  exact j_wj_X9_isTemplate_149 h g hK106 hp
theorem j_wj_X9_isTemplate_106 {K106 K1061 K1062 : Int32 → Int32 → Int32 → mS → Prop} {post post1 post2 : Int32 → mS → Prop} {x1 : Int32} {x3 : Int32} {x5 : Int32} {u : mS} (h : wj_X9_isTemplate_106 K106 post x1 x3 x5 u) (g : wj_X9_isTemplate_106 K1061 post1 x1 x3 x5 u) (hK106 : ∀ (b0_ : Int32) (b1_ : Int32) (b2_ : Int32) (b3_ : mS), K106 b0_ b1_ b2_ b3_ → K1061 b0_ b1_ b2_ b3_ → K1062 b0_ b1_ b2_ b3_) (hp : ∀ (b0_ : Int32) (b1_ : mS), post b0_ b1_ → post1 b0_ b1_ → post2 b0_ b1_) : wj_X9_isTemplate_106 K1062 post2 x1 x3 x5 u := by
  refine ⟨fun c1 => ?_, fun c2 => ?_⟩
  · have h3 := h.1 c1
    have g4 := g.1 c1
    exact hp _ _ h3 g4
  · have h5 := h.2 c2
    have g6 := g.2 c2
    refine j_wp_X9_kind_4 h5 g6 (fun w9 w10 h7 g8 => ?_)
    refine ⟨fun c11 => ?_, fun c12 => ?_⟩
    · have h13 := h7.1 c11
      have g14 := g8.1 c11
      exact j_wj_X9_isTemplate_136 h13 g14 hK106 hp
    · have h15 := h7.2 c12
      have g16 := g8.2 c12
      refine ⟨fun c17 => ?_, fun c18 => ?_⟩
      · have h19 := h15.1 c17
        have g20 := g16.1 c17
        refine j_wp_X9_end_4 h19 g20 (fun w23 w24 h21 g22 => ?_)
        exact j_wj_X9_isTemplate_149 h21 g22 hK106 hp
      · have h25 := h15.2 c18
        have g26 := g16.2 c18
        exact j_wj_X9_isTemplate_136 h25 g26 hK106 hp
theorem j_wj_X9_isTemplate_24 {K24 K241 K242 : Int32 → Int32 → Int32 → Int32 → Int32 → mS → Prop} {post post1 post2 : Int32 → mS → Prop} {x1 : Int32} {x2 : Int32} {x3 : Int32} {x4 : Int32} {x5 : Int32} {u : mS} (h : wj_X9_isTemplate_24 K24 post x1 x2 x3 x4 x5 u) (g : wj_X9_isTemplate_24 K241 post1 x1 x2 x3 x4 x5 u) (hK24 : ∀ (b0_ : Int32) (b1_ : Int32) (b2_ : Int32) (b3_ : Int32) (b4_ : Int32) (b5_ : mS), K24 b0_ b1_ b2_ b3_ b4_ b5_ → K241 b0_ b1_ b2_ b3_ b4_ b5_ → K242 b0_ b1_ b2_ b3_ b4_ b5_) (hp : ∀ (b0_ : Int32) (b1_ : mS), post b0_ b1_ → post1 b0_ b1_ → post2 b0_ b1_) : wj_X9_isTemplate_24 K242 post2 x1 x2 x3 x4 x5 u := by
  refine ⟨fun c1 => ?_, fun c2 => ?_⟩
  · have h3 := h.1 c1
    have g4 := g.1 c1
    obtain ⟨n5, h7⟩ := h3
    obtain ⟨m6, g8⟩ := g4
    refine ⟨n5, mL4_j ?_ n5 m6 _ _ _ _ h7 g8⟩
    intro K_ L_ M_ hK_ _ _ _ _ a_ b_
    exact j_wj_X9_isTemplate_106 a_ b_ hK_ hp
  · have h9 := h.2 c2
    have g10 := g.2 c2
    refine j_wp_X9_kind_4 h9 g10 (fun w13 w14 h11 g12 => ?_)
    refine ⟨fun c15 => ?_, fun c16 => ?_⟩
    · have h17 := h11.1 c15
      have g18 := g12.1 c15
      exact j_wj_X9_isTemplate_66 h17 g18 hK24 hp
    · have h19 := h11.2 c16
      have g20 := g12.2 c16
      refine ⟨h19.1, ?_⟩
      have h21 := h19.2
      have g22 := g20.2
      intro y23 e24
      have h25 := h21 y23 e24
      have g26 := g22 y23 e24
      refine ⟨h25.1, ?_⟩
      have h27 := h25.2
      have g28 := g26.2
      intro y29 e30
      have h31 := h27 y29 e30
      have g32 := g28 y29 e30
      refine j_wp_X9_variable h31 g32 (fun w35 w36 h33 g34 => ?_)
      exact j_wj_X9_isTemplate_66 h33 g34 hK24 hp
theorem j_wp_X9_isTemplate {x1 : Int32} {x2 : Int32} {u : mS} {post post1 post2 : Int32 → mS → Prop} (h : wp_X9_isTemplate x1 x2 u post) (g : wp_X9_isTemplate x1 x2 u post1) (hp : ∀ (b0_ : Int32) (b1_ : mS), post b0_ b1_ → post1 b0_ b1_ → post2 b0_ b1_) : wp_X9_isTemplate x1 x2 u post2 := by
  refine j_wp_X9_end_4 h g (fun w3 w4 h1 g2 => ?_)
  refine j_wp_X9_end_4 h1 g2 (fun w7 w8 h5 g6 => ?_)
  intro y9 e10
  have h11 := h5 y9 e10
  have g12 := g6 y9 e10
  obtain ⟨n13, h15⟩ := h11
  obtain ⟨m14, g16⟩ := g12
  refine ⟨n13, mL6_j ?_ n13 m14 _ _ _ _ _ _ h15 g16⟩
  intro K_ L_ M_ hK_ _ _ _ _ _ _ a_ b_
  exact j_wj_X9_isTemplate_24 a_ b_ hK_ hp
theorem j_wj_X9_areRules_2 {K2 K21 K22 : Int32 → Int32 → mS → Prop} {post post1 post2 : Int32 → mS → Prop} {x2 : Int32} {x3 : Int32} {u : mS} (h : wj_X9_areRules_2 K2 post x2 x3 u) (g : wj_X9_areRules_2 K21 post1 x2 x3 u) (hK2 : ∀ (b0_ : Int32) (b1_ : Int32) (b2_ : mS), K2 b0_ b1_ b2_ → K21 b0_ b1_ b2_ → K22 b0_ b1_ b2_) (hp : ∀ (b0_ : Int32) (b1_ : mS), post b0_ b1_ → post1 b0_ b1_ → post2 b0_ b1_) : wj_X9_areRules_2 K22 post2 x2 x3 u := by
  refine ⟨fun c1 => ?_, fun c2 => ?_⟩
  · have h3 := h.1 c1
    have g4 := g.1 c1
    exact hp _ _ h3 g4
  · have h5 := h.2 c2
    have g6 := g.2 c2
    refine j_wp_X9_kind_4 h5 g6 (fun w9 w10 h7 g8 => ?_)
    refine ⟨fun c11 => ?_, fun c12 => ?_⟩
    · have h13 := h7.1 c11
      have g14 := g8.1 c11
      exact hp _ _ h13 g14
    · have h15 := h7.2 c12
      have g16 := g8.2 c12
      refine j_wp_X9_isPlain_4 h15 g16 (fun w19 w20 h17 g18 => ?_)
      refine ⟨fun c21 => ?_, fun c22 => ?_⟩
      · have h23 := h17.1 c21
        have g24 := g18.1 c21
        exact hp _ _ h23 g24
      · have h25 := h17.2 c22
        have g26 := g18.2 c22
        intro y27 e28
        have h29 := h25 y27 e28
        have g30 := g26 y27 e28
        refine j_wp_X9_isPattern h29 g30 (fun w33 w34 h31 g32 => ?_)
        refine ⟨fun c35 => ?_, fun c36 => ?_⟩
        · have h37 := h31.1 c35
          have g38 := g32.1 c35
          exact hp _ _ h37 g38
        · have h39 := h31.2 c36
          have g40 := g32.2 c36
          intro y41 e42
          have h43 := h39 y41 e42
          have g44 := g40 y41 e42
          intro y45 e46
          have h47 := h43 y45 e46
          have g48 := g44 y45 e46
          refine j_wp_X9_end_4 h47 g48 (fun w51 w52 h49 g50 => ?_)
          refine j_wp_X9_isTemplate h49 g50 (fun w55 w56 h53 g54 => ?_)
          refine ⟨fun c57 => ?_, fun c58 => ?_⟩
          · have h59 := h53.1 c57
            have g60 := g54.1 c57
            refine j_wp_X9_end_4 h59 g60 (fun w63 w64 h61 g62 => ?_)
            exact hK2 _ _ _ h61 g62
          · have h65 := h53.2 c58
            have g66 := g54.2 c58
            exact hp _ _ h65 g66
theorem j_wp_X9_areRules {x1 : Int32} {x2 : Int32} {u : mS} {post post1 post2 : Int32 → mS → Prop} (h : wp_X9_areRules x1 x2 u post) (g : wp_X9_areRules x1 x2 u post1) (hp : ∀ (b0_ : Int32) (b1_ : mS), post b0_ b1_ → post1 b0_ b1_ → post2 b0_ b1_) : wp_X9_areRules x1 x2 u post2 := by
  obtain ⟨n1, h3⟩ := h
  obtain ⟨m2, g4⟩ := g
  refine ⟨n1, mL3_j ?_ n1 m2 _ _ _ h3 g4⟩
  intro K_ L_ M_ hK_ _ _ _ a_ b_
  exact j_wj_X9_areRules_2 a_ b_ hK_ hp
theorem j_wp_X9_what_2 {x1 : Int32} {u : mS} {post post1 post2 : Int32 → mS → Prop} (h : wp_X9_what_2 x1 u post) (g : wp_X9_what_2 x1 u post1) (hp : ∀ (b0_ : Int32) (b1_ : mS), post b0_ b1_ → post1 b0_ b1_ → post2 b0_ b1_) : wp_X9_what_2 x1 u post2 := by
  refine ⟨h.1, ?_⟩
  have h1 := h.2
  have g2 := g.2
  intro y3 e4
  have h5 := h1 y3 e4
  have g6 := g2 y3 e4
  intro y7 e8
  have h9 := h5 y7 e8
  have g10 := g6 y7 e8
  exact hp _ _ h9 g10
theorem j_wp_X9_core {x0 : Int32} {u : mS} {post post1 post2 : Int32 → mS → Prop} (h : wp_X9_core x0 u post) (g : wp_X9_core x0 u post1) (hp : ∀ (b0_ : Int32) (b1_ : mS), post b0_ b1_ → post1 b0_ b1_ → post2 b0_ b1_) : wp_X9_core x0 u post2 := by
  refine ⟨fun c1 => ?_, fun c2 => ?_⟩
  · have h3 := h.1 c1
    have g4 := g.1 c1
    refine ⟨fun c5 => ?_, fun c6 => ?_⟩
    · have h7 := h3.1 c5
      have g8 := g4.1 c5
      refine ⟨fun c9 => ?_, fun c10 => ?_⟩
      · have h11 := h7.1 c9
        have g12 := g8.1 c9
        refine ⟨fun c13 => ?_, fun c14 => ?_⟩
        · have h15 := h11.1 c13
          have g16 := g12.1 c13
          exact hp _ _ h15 g16
        · have h17 := h11.2 c14
          have g18 := g12.2 c14
          exact hp _ _ h17 g18
      · have h19 := h7.2 c10
        have g20 := g8.2 c10
        exact hp _ _ h19 g20
    · have h21 := h3.2 c6
      have g22 := g4.2 c6
      exact hp _ _ h21 g22
  · have h23 := h.2 c2
    have g24 := g.2 c2
    exact hp _ _ h23 g24
theorem j_wj_X9_rules_64 {post post1 post2 : Int32 → mS → Prop} {u : mS} (h : wj_X9_rules_64 post u) (g : wj_X9_rules_64 post1 u) (hp : ∀ (b0_ : Int32) (b1_ : mS), post b0_ b1_ → post1 b0_ b1_ → post2 b0_ b1_) : wj_X9_rules_64 post2 u := by
  exact hp _ _ h g
theorem j_wj_X9_rules_127 {post post1 post2 : Int32 → mS → Prop} {u : mS} (h : wj_X9_rules_127 post u) (g : wj_X9_rules_127 post1 u) (hp : ∀ (b0_ : Int32) (b1_ : mS), post b0_ b1_ → post1 b0_ b1_ → post2 b0_ b1_) : wj_X9_rules_127 post2 u := by
  exact hp _ _ h g
theorem j_wj_X9_rules_193 {post post1 post2 : Int32 → mS → Prop} {x3 : Int32} {x4 : Int32} {z0 : Int32} {u : mS} (h : wj_X9_rules_193 post x3 x4 z0 u) (g : wj_X9_rules_193 post1 x3 x4 z0 u) (hp : ∀ (b0_ : Int32) (b1_ : mS), post b0_ b1_ → post1 b0_ b1_ → post2 b0_ b1_) : wj_X9_rules_193 post2 x3 x4 z0 u := by
  intro y1 e2
  have h3 := h y1 e2
  have g4 := g y1 e2
  refine ⟨h3.1, ?_⟩
  have h5 := h3.2
  have g6 := g4.2
  intro y7 e8
  have h9 := h5 y7 e8
  have g10 := g6 y7 e8
  intro y11 e12
  have h13 := h9 y11 e12
  have g14 := g10 y11 e12
  intro y15 e16
  have h17 := h13 y15 e16
  have g18 := g14 y15 e16
  intro y19 e20
  have h21 := h17 y19 e20
  have g22 := g18 y19 e20
  refine j_wp_X9_keep h21 g22 (fun w25 w26 h23 g24 => ?_)
  refine ⟨h23.1, ?_⟩
  have h27 := h23.2
  have g28 := g24.2
  intro y29 e30
  have h31 := h27 y29 e30
  have g32 := g28 y29 e30
  intro y33 e34
  have h35 := h31 y33 e34
  have g36 := g32 y33 e34
  exact hp _ _ h35 g36
theorem j_wj_X9_rules_160 {post post1 post2 : Int32 → mS → Prop} {x3 : Int32} {x4 : Int32} {u : mS} (h : wj_X9_rules_160 post x3 x4 u) (g : wj_X9_rules_160 post1 x3 x4 u) (hp : ∀ (b0_ : Int32) (b1_ : mS), post b0_ b1_ → post1 b0_ b1_ → post2 b0_ b1_) : wj_X9_rules_160 post2 x3 x4 u := by
  refine ⟨fun c1 => ?_, fun c2 => ?_⟩
  · have h3 := h.1 c1
    have g4 := g.1 c1
    intro y5 e6
    have h7 := h3 y5 e6
    have g8 := g4 y5 e6
    refine ⟨fun c9 => ?_, fun c10 => ?_⟩
    · have h11 := h7.1 c9
      have g12 := g8.1 c9
      intro y13 e14
      have h15 := h11 y13 e14
      have g16 := g12 y13 e14
      exact j_wj_X9_rules_193 h15 g16 hp
    · have h17 := h7.2 c10
      have g18 := g8.2 c10
      intro y19 e20
      have h21 := h17 y19 e20
      have g22 := g18 y19 e20
      intro y23 e24
      have h25 := h21 y23 e24
      have g26 := g22 y23 e24
      exact j_wj_X9_rules_193 h25 g26 hp
  · have h27 := h.2 c2
    have g28 := g.2 c2
    exact hp _ _ h27 g28
theorem j_wj_X9_rules_134 {K134 K1341 K1342 : Int32 → Int32 → mS → Prop} {post post1 post2 : Int32 → mS → Prop} {x3 : Int32} {x4 : Int32} {u : mS} (h : wj_X9_rules_134 K134 post x3 x4 u) (g : wj_X9_rules_134 K1341 post1 x3 x4 u) (hK134 : ∀ (b0_ : Int32) (b1_ : Int32) (b2_ : mS), K134 b0_ b1_ b2_ → K1341 b0_ b1_ b2_ → K1342 b0_ b1_ b2_) (hp : ∀ (b0_ : Int32) (b1_ : mS), post b0_ b1_ → post1 b0_ b1_ → post2 b0_ b1_) : wj_X9_rules_134 K1342 post2 x3 x4 u := by
  intro y1 e2
  have h3 := h y1 e2
  have g4 := g y1 e2
  refine ⟨fun c5 => ?_, fun c6 => ?_⟩
  · have h7 := h3.1 c5
    have g8 := g4.1 c5
    exact j_wj_X9_rules_160 h7 g8 hp
  · have h9 := h3.2 c6
    have g10 := g4.2 c6
    refine ⟨h9.1, ?_⟩
    have h11 := h9.2
    have g12 := g10.2
    intro y13 e14
    have h15 := h11 y13 e14
    have g16 := g12 y13 e14
    refine ⟨fun c17 => ?_, fun c18 => ?_⟩
    · have h19 := h15.1 c17
      have g20 := g16.1 c17
      exact j_wj_X9_rules_160 h19 g20 hp
    · have h21 := h15.2 c18
      have g22 := g16.2 c18
      intro y23 e24
      have h25 := h21 y23 e24
      have g26 := g22 y23 e24
      exact hK134 _ _ _ h25 g26
theorem j_wp_X9_rules {u : mS} {post post1 post2 : Int32 → mS → Prop} (h : wp_X9_rules u post) (g : wp_X9_rules u post1) (hp : ∀ (b0_ : Int32) (b1_ : mS), post b0_ b1_ → post1 b0_ b1_ → post2 b0_ b1_) : wp_X9_rules u post2 := by
  refine j_wp_X9_read h g (fun w3 w4 h1 g2 => ?_)
  intro y5 e6
  have h7 := h1 y5 e6
  have g8 := g2 y5 e6
  refine ⟨fun c9 => ?_, fun c10 => ?_⟩
  · have h11 := h7.1 c9
    have g12 := g8.1 c9
    intro y13 e14
    have h15 := h11 y13 e14
    have g16 := g12 y13 e14
    refine j_wp_X9_kind_2 h15 g16 (fun w19 w20 h17 g18 => ?_)
    refine ⟨fun c21 => ?_, fun c22 => ?_⟩
    · have h23 := h17.1 c21
      have g24 := g18.1 c21
      exact j_wj_X9_rules_64 h23 g24 hp
    · have h25 := h17.2 c22
      have g26 := g18.2 c22
      intro y27 e28
      have h29 := h25 y27 e28
      have g30 := g26 y27 e28
      intro y31 e32
      have h33 := h29 y31 e32
      have g34 := g30 y31 e32
      refine j_wp_X9_kind_2 h33 g34 (fun w37 w38 h35 g36 => ?_)
      refine ⟨fun c39 => ?_, fun c40 => ?_⟩
      · have h41 := h35.1 c39
        have g42 := g36.1 c39
        exact j_wj_X9_rules_64 h41 g42 hp
      · have h43 := h35.2 c40
        have g44 := g36.2 c40
        intro y45 e46
        have h47 := h43 y45 e46
        have g48 := g44 y45 e46
        refine j_wp_X9_dots_2 h47 g48 (fun w51 w52 h49 g50 => ?_)
        refine ⟨fun c53 => ?_, fun c54 => ?_⟩
        · have h55 := h49.1 c53
          have g56 := g50.1 c53
          intro y57 e58
          have h59 := h55 y57 e58
          have g60 := g56 y57 e58
          intro y61 e62
          have h63 := h59 y61 e62
          have g64 := g60 y61 e62
          refine j_wp_X9_keep h63 g64 (fun w67 w68 h65 g66 => ?_)
          refine j_wp_X9_areRules h65 g66 (fun w71 w72 h69 g70 => ?_)
          refine ⟨fun c73 => ?_, fun c74 => ?_⟩
          · have h75 := h69.1 c73
            have g76 := g70.1 c73
            intro y77 e78
            have h79 := h75 y77 e78
            have g80 := g76 y77 e78
            intro y81 e82
            have h83 := h79 y81 e82
            have g84 := g80 y81 e82
            refine j_wp_X9_what_2 h83 g84 (fun w87 w88 h85 g86 => ?_)
            refine j_wp_X9_core h85 g86 (fun w91 w92 h89 g90 => ?_)
            refine ⟨fun c93 => ?_, fun c94 => ?_⟩
            · have h95 := h89.1 c93
              have g96 := g90.1 c93
              exact j_wj_X9_rules_127 h95 g96 hp
            · have h97 := h89.2 c94
              have g98 := g90.2 c94
              refine ⟨fun c99 => ?_, fun c100 => ?_⟩
              · have h101 := h97.1 c99
                have g102 := g98.1 c99
                obtain ⟨n103, h105⟩ := h101
                obtain ⟨m104, g106⟩ := g102
                refine ⟨n103, mL3_j ?_ n103 m104 _ _ _ h105 g106⟩
                intro K_ L_ M_ hK_ _ _ _ a_ b_
                exact j_wj_X9_rules_134 a_ b_ hK_ hp
              · have h107 := h97.2 c100
                have g108 := g98.2 c100
                exact j_wj_X9_rules_127 h107 g108 hp
          · have h109 := h69.2 c74
            have g110 := g70.2 c74
            exact hp _ _ h109 g110
        · have h111 := h49.2 c54
          have g112 := g50.2 c54
          exact j_wj_X9_rules_64 h111 g112 hp
  · have h113 := h7.2 c10
    have g114 := g8.2 c10
    intro y115 e116
    have h117 := h113 y115 e116
    have g118 := g114 y115 e116
    exact hp _ _ h117 g118
theorem j_wj_X9_fails_16 {post post1 post2 : mS → Prop} {z0 : Int32} {u : mS} (h : wj_X9_fails_16 post z0 u) (g : wj_X9_fails_16 post1 z0 u) (hp : ∀ (b0_ : mS), post b0_ → post1 b0_ → post2 b0_) : wj_X9_fails_16 post2 z0 u := by
  intro y1 e2
  have h3 := h y1 e2
  have g4 := g y1 e2
  exact hp _ h3 g4
theorem j_wp_X9_fails {x1 : Int32} {u : mS} {post post1 post2 : mS → Prop} (h : wp_X9_fails x1 u post) (g : wp_X9_fails x1 u post1) (hp : ∀ (b0_ : mS), post b0_ → post1 b0_ → post2 b0_) : wp_X9_fails x1 u post2 := by
  intro y1 e2
  have h3 := h y1 e2
  have g4 := g y1 e2
  refine ⟨fun c5 => ?_, fun c6 => ?_⟩
  · have h7 := h3.1 c5
    have g8 := g4.1 c5
    intro y9 e10
    have h11 := h7 y9 e10
    have g12 := g8 y9 e10
    exact j_wj_X9_fails_16 h11 g12 hp
  · have h13 := h3.2 c6
    have g14 := g4.2 c6
    exact j_wj_X9_fails_16 h13 g14 hp
theorem j_wp_X9_bind {x1 : Int32} {x2 : Int32} {x3 : Int32} {x4 : Int32} {x5 : Int32} {u : mS} {post post1 post2 : mS → Prop} (h : wp_X9_bind x1 x2 x3 x4 x5 u post) (g : wp_X9_bind x1 x2 x3 x4 x5 u post1) (hp : ∀ (b0_ : mS), post b0_ → post1 b0_ → post2 b0_) : wp_X9_bind x1 x2 x3 x4 x5 u post2 := by
  intro y1 e2
  have h3 := h y1 e2
  have g4 := g y1 e2
  refine ⟨fun c5 => ?_, fun c6 => ?_⟩
  · have h7 := h3.1 c5
    have g8 := g4.1 c5
    intro y9 e10
    have h11 := h7 y9 e10
    have g12 := g8 y9 e10
    refine ⟨h11.1, ?_⟩
    have h13 := h11.2
    have g14 := g12.2
    intro y15 e16
    have h17 := h13 y15 e16
    have g18 := g14 y15 e16
    intro y19 e20
    have h21 := h17 y19 e20
    have g22 := g18 y19 e20
    refine ⟨h21.1, ?_⟩
    have h23 := h21.2
    have g24 := g22.2
    intro y25 e26
    have h27 := h23 y25 e26
    have g28 := g24 y25 e26
    intro y29 e30
    have h31 := h27 y29 e30
    have g32 := g28 y29 e30
    refine ⟨h31.1, ?_⟩
    have h33 := h31.2
    have g34 := g32.2
    intro y35 e36
    have h37 := h33 y35 e36
    have g38 := g34 y35 e36
    intro y39 e40
    have h41 := h37 y39 e40
    have g42 := g38 y39 e40
    refine ⟨h41.1, ?_⟩
    have h43 := h41.2
    have g44 := g42.2
    intro y45 e46
    have h47 := h43 y45 e46
    have g48 := g44 y45 e46
    intro y49 e50
    have h51 := h47 y49 e50
    have g52 := g48 y49 e50
    refine ⟨h51.1, ?_⟩
    have h53 := h51.2
    have g54 := g52.2
    intro y55 e56
    have h57 := h53 y55 e56
    have g58 := g54 y55 e56
    intro y59 e60
    have h61 := h57 y59 e60
    have g62 := g58 y59 e60
    intro y63 e64
    have h65 := h61 y63 e64
    have g66 := g62 y63 e64
    intro y67 e68
    have h69 := h65 y67 e68
    have g70 := g66 y67 e68
    exact hp _ h69 g70
  · have h71 := h3.2 c6
    have g72 := g4.2 c6
    refine j_wp_X9_fails h71 g72 (fun w75 h73 g74 => ?_)
    exact hp _ h73 g74
theorem j_wj_X9_beginning_90 {K90 K901 K902 : Int32 → mS → Prop} {post post1 post2 : mS → Prop} {x1 : Int32} {u : mS} (h : wj_X9_beginning_90 K90 post x1 u) (g : wj_X9_beginning_90 K901 post1 x1 u) (hK90 : ∀ (b0_ : Int32) (b1_ : mS), K90 b0_ b1_ → K901 b0_ b1_ → K902 b0_ b1_) (hp : ∀ (b0_ : mS), post b0_ → post1 b0_ → post2 b0_) : wj_X9_beginning_90 K902 post2 x1 u := by
  intro y1 e2
  have h3 := h y1 e2
  have g4 := g y1 e2
  refine ⟨fun c5 => ?_, fun c6 => ?_⟩
  · have h7 := h3.1 c5
    have g8 := g4.1 c5
    intro y9 e10
    have h11 := h7 y9 e10
    have g12 := g8 y9 e10
    intro y13 e14
    have h15 := h11 y13 e14
    have g16 := g12 y13 e14
    exact hp _ h15 g16
  · have h17 := h3.2 c6
    have g18 := g4.2 c6
    refine ⟨h17.1, ?_⟩
    have h19 := h17.2
    have g20 := g18.2
    intro y21 e22
    have h23 := h19 y21 e22
    have g24 := g20 y21 e22
    intro y25 e26
    have h27 := h23 y25 e26
    have g28 := g24 y25 e26
    refine ⟨h27.1, ?_⟩
    have h29 := h27.2
    have g30 := g28.2
    intro y31 e32
    have h33 := h29 y31 e32
    have g34 := g30 y31 e32
    refine j_wp_X9_bind h33 g34 (fun w37 h35 g36 => ?_)
    intro y38 e39
    have h40 := h35 y38 e39
    have g41 := g36 y38 e39
    exact hK90 _ _ h40 g41
theorem j_wp_X9_beginning {u : mS} {post post1 post2 : mS → Prop} (h : wp_X9_beginning u post) (g : wp_X9_beginning u post1) (hp : ∀ (b0_ : mS), post b0_ → post1 b0_ → post2 b0_) : wp_X9_beginning u post2 := by
  intro y1 e2
  have h3 := h y1 e2
  have g4 := g y1 e2
  refine j_wp_X9_bind h3 g4 (fun w7 h5 g6 => ?_)
  refine j_wp_X9_bind h5 g6 (fun w10 h8 g9 => ?_)
  refine j_wp_X9_bind h8 g9 (fun w13 h11 g12 => ?_)
  refine j_wp_X9_bind h11 g12 (fun w16 h14 g15 => ?_)
  refine j_wp_X9_bind h14 g15 (fun w19 h17 g18 => ?_)
  refine j_wp_X9_bind h17 g18 (fun w22 h20 g21 => ?_)
  refine j_wp_X9_bind h20 g21 (fun w25 h23 g24 => ?_)
  refine j_wp_X9_bind h23 g24 (fun w28 h26 g27 => ?_)
  obtain ⟨n29, h31⟩ := h26
  obtain ⟨m30, g32⟩ := g27
  refine ⟨n29, mL2_j ?_ n29 m30 _ _ h31 g32⟩
  intro K_ L_ M_ hK_ _ _ a_ b_
  exact j_wj_X9_beginning_90 a_ b_ hK_ hp
theorem j_wp_X9_put {x1 : Int32} {u : mS} {post post1 post2 : mS → Prop} (h : wp_X9_put x1 u post) (g : wp_X9_put x1 u post1) (hp : ∀ (b0_ : mS), post b0_ → post1 b0_ → post2 b0_) : wp_X9_put x1 u post2 := by
  intro y1 e2
  have h3 := h y1 e2
  have g4 := g y1 e2
  refine ⟨fun c5 => ?_, fun c6 => ?_⟩
  · have h7 := h3.1 c5
    have g8 := g4.1 c5
    intro y9 e10
    have h11 := h7 y9 e10
    have g12 := g8 y9 e10
    refine ⟨fun c13 => ?_, fun c14 => ?_⟩
    · have h15 := h11.1 c13
      have g16 := g12.1 c13
      intro y17 e18
      have h19 := h15 y17 e18
      have g20 := g16 y17 e18
      refine ⟨h19.1, ?_⟩
      have h21 := h19.2
      have g22 := g20.2
      intro y23 e24
      have h25 := h21 y23 e24
      have g26 := g22 y23 e24
      intro y27 e28
      have h29 := h25 y27 e28
      have g30 := g26 y27 e28
      intro y31 e32
      have h33 := h29 y31 e32
      have g34 := g30 y31 e32
      intro y35 e36
      have h37 := h33 y35 e36
      have g38 := g34 y35 e36
      exact hp _ h37 g38
    · have h39 := h11.2 c14
      have g40 := g12.2 c14
      refine j_wp_X9_fails h39 g40 (fun w43 h41 g42 => ?_)
      exact hp _ h41 g42
  · have h44 := h3.2 c6
    have g45 := g4.2 c6
    exact hp _ h44 g45
theorem j_wj_X9_space_13 {post post1 post2 : mS → Prop} {u : mS} (h : wj_X9_space_13 post u) (g : wj_X9_space_13 post1 u) (hp : ∀ (b0_ : mS), post b0_ → post1 b0_ → post2 b0_) : wj_X9_space_13 post2 u := by
  intro y1 e2
  have h3 := h y1 e2
  have g4 := g y1 e2
  exact hp _ h3 g4
theorem j_wp_X9_space {u : mS} {post post1 post2 : mS → Prop} (h : wp_X9_space u post) (g : wp_X9_space u post1) (hp : ∀ (b0_ : mS), post b0_ → post1 b0_ → post2 b0_) : wp_X9_space u post2 := by
  intro y1 e2
  have h3 := h y1 e2
  have g4 := g y1 e2
  refine ⟨fun c5 => ?_, fun c6 => ?_⟩
  · have h7 := h3.1 c5
    have g8 := g4.1 c5
    exact j_wj_X9_space_13 h7 g8 hp
  · have h9 := h3.2 c6
    have g10 := g4.2 c6
    refine j_wp_X9_put h9 g10 (fun w13 h11 g12 => ?_)
    exact j_wj_X9_space_13 h11 g12 hp
theorem j_wj_X9_putName_54 {post post1 post2 : mS → Prop} {x1 : Int32} {u : mS} (h : wj_X9_putName_54 post x1 u) (g : wj_X9_putName_54 post1 x1 u) (hp : ∀ (b0_ : mS), post b0_ → post1 b0_ → post2 b0_) : wj_X9_putName_54 post2 x1 u := by
  intro y1 e2
  have h3 := h y1 e2
  have g4 := g y1 e2
  intro y5 e6
  have h7 := h3 y5 e6
  have g8 := g4 y5 e6
  refine j_wp_X9_put h7 g8 (fun w11 h9 g10 => ?_)
  exact hp _ h9 g10
theorem j_wj_X9_putName_34 {post post1 post2 : mS → Prop} {x1 : Int32} {u : mS} (h : wj_X9_putName_34 post x1 u) (g : wj_X9_putName_34 post1 x1 u) (hp : ∀ (b0_ : mS), post b0_ → post1 b0_ → post2 b0_) : wj_X9_putName_34 post2 x1 u := by
  refine ⟨fun c1 => ?_, fun c2 => ?_⟩
  · have h3 := h.1 c1
    have g4 := g.1 c1
    exact j_wj_X9_putName_54 h3 g4 hp
  · have h5 := h.2 c2
    have g6 := g.2 c2
    intro y7 e8
    have h9 := h5 y7 e8
    have g10 := g6 y7 e8
    intro y11 e12
    have h13 := h9 y11 e12
    have g14 := g10 y11 e12
    intro y15 e16
    have h17 := h13 y15 e16
    have g18 := g14 y15 e16
    refine j_wp_X9_put h17 g18 (fun w21 h19 g20 => ?_)
    exact j_wj_X9_putName_54 h19 g20 hp
theorem j_wp_X9_putName {x1 : Int32} {u : mS} {post post1 post2 : mS → Prop} (h : wp_X9_putName x1 u post) (g : wp_X9_putName x1 u post1) (hp : ∀ (b0_ : mS), post b0_ → post1 b0_ → post2 b0_) : wp_X9_putName x1 u post2 := by
  refine ⟨fun c1 => ?_, fun c2 => ?_⟩
  · have h3 := h.1 c1
    have g4 := g.1 c1
    refine ⟨fun c5 => ?_, fun c6 => ?_⟩
    · have h7 := h3.1 c5
      have g8 := g4.1 c5
      exact j_wj_X9_putName_34 h7 g8 hp
    · have h9 := h3.2 c6
      have g10 := g4.2 c6
      intro y11 e12
      have h13 := h9 y11 e12
      have g14 := g10 y11 e12
      intro y15 e16
      have h17 := h13 y15 e16
      have g18 := g14 y15 e16
      refine j_wp_X9_put h17 g18 (fun w21 h19 g20 => ?_)
      exact j_wj_X9_putName_34 h19 g20 hp
  · have h22 := h.2 c2
    have g23 := g.2 c2
    intro y24 e25
    have h26 := h22 y24 e25
    have g27 := g23 y24 e25
    refine j_wp_X9_put h26 g27 (fun w30 h28 g29 => ?_)
    exact hp _ h28 g29
theorem j_wp_X9_putClose {u : mS} {post post1 post2 : mS → Prop} (h : wp_X9_putClose u post) (g : wp_X9_putClose u post1) (hp : ∀ (b0_ : mS), post b0_ → post1 b0_ → post2 b0_) : wp_X9_putClose u post2 := by
  refine j_wp_X9_put h g (fun w3 h1 g2 => ?_)
  intro y4 e5
  have h6 := h1 y4 e5
  have g7 := g2 y4 e5
  exact hp _ h6 g7
theorem j_wp_X9_putOpen {u : mS} {post post1 post2 : mS → Prop} (h : wp_X9_putOpen u post) (g : wp_X9_putOpen u post1) (hp : ∀ (b0_ : mS), post b0_ → post1 b0_ → post2 b0_) : wp_X9_putOpen u post2 := by
  refine j_wp_X9_space h g (fun w3 h1 g2 => ?_)
  refine j_wp_X9_put h1 g2 (fun w6 h4 g5 => ?_)
  intro y7 e8
  have h9 := h4 y7 e8
  have g10 := g5 y7 e8
  exact hp _ h9 g10
theorem j_wj_X9_putNumber_17 {post post1 post2 : mS → Prop} {x1 : Int32} {u : mS} (h : wj_X9_putNumber_17 post x1 u) (g : wj_X9_putNumber_17 post1 x1 u) (hp : ∀ (b0_ : mS), post b0_ → post1 b0_ → post2 b0_) : wj_X9_putNumber_17 post2 x1 u := by
  intro y1 e2
  have h3 := h y1 e2
  have g4 := g y1 e2
  intro y5 e6
  have h7 := h3 y5 e6
  have g8 := g4 y5 e6
  refine j_wp_X9_put h7 g8 (fun w11 h9 g10 => ?_)
  exact hp _ h9 g10
theorem j_wp_X9_putNumber {x1 : Int32} {u : mS} {post post1 post2 : mS → Prop} (h : wp_X9_putNumber x1 u post) (g : wp_X9_putNumber x1 u post1) (hp : ∀ (b0_ : mS), post b0_ → post1 b0_ → post2 b0_) : wp_X9_putNumber x1 u post2 := by
  refine ⟨fun c1 => ?_, fun c2 => ?_⟩
  · have h3 := h.1 c1
    have g4 := g.1 c1
    exact j_wj_X9_putNumber_17 h3 g4 hp
  · have h5 := h.2 c2
    have g6 := g.2 c2
    intro y7 e8
    have h9 := h5 y7 e8
    have g10 := g6 y7 e8
    intro y11 e12
    have h13 := h9 y11 e12
    have g14 := g10 y11 e12
    refine j_wp_X9_put h13 g14 (fun w17 h15 g16 => ?_)
    exact j_wj_X9_putNumber_17 h15 g16 hp
theorem j_wj_X9_putToken_82 {post post1 post2 : mS → Prop} {x2 : Int32} {u : mS} (h : wj_X9_putToken_82 post x2 u) (g : wj_X9_putToken_82 post1 x2 u) (hp : ∀ (b0_ : mS), post b0_ → post1 b0_ → post2 b0_) : wj_X9_putToken_82 post2 x2 u := by
  refine ⟨fun c1 => ?_, fun c2 => ?_⟩
  · have h3 := h.1 c1
    have g4 := g.1 c1
    exact hp _ h3 g4
  · have h5 := h.2 c2
    have g6 := g.2 c2
    refine j_wp_X9_put h5 g6 (fun w9 h7 g8 => ?_)
    refine j_wp_X9_put h7 g8 (fun w12 h10 g11 => ?_)
    exact hp _ h10 g11
theorem j_wj_X9_putToken_71 {post post1 post2 : mS → Prop} {x2 : Int32} {u : mS} (h : wj_X9_putToken_71 post x2 u) (g : wj_X9_putToken_71 post1 x2 u) (hp : ∀ (b0_ : mS), post b0_ → post1 b0_ → post2 b0_) : wj_X9_putToken_71 post2 x2 u := by
  refine ⟨fun c1 => ?_, fun c2 => ?_⟩
  · have h3 := h.1 c1
    have g4 := g.1 c1
    exact j_wj_X9_putToken_82 h3 g4 hp
  · have h5 := h.2 c2
    have g6 := g.2 c2
    refine j_wp_X9_put h5 g6 (fun w9 h7 g8 => ?_)
    exact j_wj_X9_putToken_82 h7 g8 hp
theorem j_wj_X9_putToken_54 {post post1 post2 : mS → Prop} {x1 : Int32} {x2 : Int32} {u : mS} (h : wj_X9_putToken_54 post x1 x2 u) (g : wj_X9_putToken_54 post1 x1 x2 u) (hp : ∀ (b0_ : mS), post b0_ → post1 b0_ → post2 b0_) : wj_X9_putToken_54 post2 x1 x2 u := by
  refine ⟨fun c1 => ?_, fun c2 => ?_⟩
  · have h3 := h.1 c1
    have g4 := g.1 c1
    exact j_wj_X9_putToken_71 h3 g4 hp
  · have h5 := h.2 c2
    have g6 := g.2 c2
    refine j_wp_X9_what_2 h5 g6 (fun w9 w10 h7 g8 => ?_)
    refine j_wp_X9_putNumber h7 g8 (fun w13 h11 g12 => ?_)
    exact j_wj_X9_putToken_71 h11 g12 hp
theorem j_wp_X9_putToken {x1 : Int32} {u : mS} {post post1 post2 : mS → Prop} (h : wp_X9_putToken x1 u post) (g : wp_X9_putToken x1 u post1) (hp : ∀ (b0_ : mS), post b0_ → post1 b0_ → post2 b0_) : wp_X9_putToken x1 u post2 := by
  refine j_wp_X9_kind_2 h g (fun w3 w4 h1 g2 => ?_)
  refine ⟨fun c5 => ?_, fun c6 => ?_⟩
  · have h7 := h1.1 c5
    have g8 := g2.1 c5
    refine ⟨fun c9 => ?_, fun c10 => ?_⟩
    · have h11 := h7.1 c9
      have g12 := g8.1 c9
      refine j_wp_X9_space h11 g12 (fun w15 h13 g14 => ?_)
      refine ⟨fun c16 => ?_, fun c17 => ?_⟩
      · have h18 := h13.1 c16
        have g19 := g14.1 c16
        exact j_wj_X9_putToken_54 h18 g19 hp
      · have h20 := h13.2 c17
        have g21 := g14.2 c17
        refine j_wp_X9_what_2 h20 g21 (fun w24 w25 h22 g23 => ?_)
        refine j_wp_X9_putName h22 g23 (fun w28 h26 g27 => ?_)
        exact j_wj_X9_putToken_54 h26 g27 hp
    · have h29 := h7.2 c10
      have g30 := g8.2 c10
      refine j_wp_X9_putClose h29 g30 (fun w33 h31 g32 => ?_)
      exact hp _ h31 g32
  · have h34 := h1.2 c6
    have g35 := g2.2 c6
    refine j_wp_X9_putOpen h34 g35 (fun w38 h36 g37 => ?_)
    exact hp _ h36 g37
theorem j_wj_X9_means_124 {K5 K51 K52 : Int32 → Int32 → Int32 → Int32 → mS → Prop} {K48 K481 K482 : Int32 → Int32 → Int32 → Int32 → Int32 → mS → Prop} {post post1 post2 : Int32 → mS → Prop} {x1 : Int32} {x2 : Int32} {x4 : Int32} {x6 : Int32} {z0 : Int32} {u : mS} (h : wj_X9_means_124 K5 K48 post x1 x2 x4 x6 z0 u) (g : wj_X9_means_124 K51 K481 post1 x1 x2 x4 x6 z0 u) (hK5 : ∀ (b0_ : Int32) (b1_ : Int32) (b2_ : Int32) (b3_ : Int32) (b4_ : mS), K5 b0_ b1_ b2_ b3_ b4_ → K51 b0_ b1_ b2_ b3_ b4_ → K52 b0_ b1_ b2_ b3_ b4_) (hK48 : ∀ (b0_ : Int32) (b1_ : Int32) (b2_ : Int32) (b3_ : Int32) (b4_ : Int32) (b5_ : mS), K48 b0_ b1_ b2_ b3_ b4_ b5_ → K481 b0_ b1_ b2_ b3_ b4_ b5_ → K482 b0_ b1_ b2_ b3_ b4_ b5_) (hp : ∀ (b0_ : Int32) (b1_ : mS), post b0_ b1_ → post1 b0_ b1_ → post2 b0_ b1_) : wj_X9_means_124 K52 K482 post2 x1 x2 x4 x6 z0 u := by
  intro y1 e2
  have h3 := h y1 e2
  have g4 := g y1 e2
  exact hK48 _ _ _ _ _ _ h3 g4
theorem j_wj_X9_means_119 {K5 K51 K52 : Int32 → Int32 → Int32 → Int32 → mS → Prop} {K48 K481 K482 : Int32 → Int32 → Int32 → Int32 → Int32 → mS → Prop} {post post1 post2 : Int32 → mS → Prop} {x1 : Int32} {x2 : Int32} {x4 : Int32} {x6 : Int32} {u : mS} (h : wj_X9_means_119 K5 K48 post x1 x2 x4 x6 u) (g : wj_X9_means_119 K51 K481 post1 x1 x2 x4 x6 u) (hK5 : ∀ (b0_ : Int32) (b1_ : Int32) (b2_ : Int32) (b3_ : Int32) (b4_ : mS), K5 b0_ b1_ b2_ b3_ b4_ → K51 b0_ b1_ b2_ b3_ b4_ → K52 b0_ b1_ b2_ b3_ b4_) (hK48 : ∀ (b0_ : Int32) (b1_ : Int32) (b2_ : Int32) (b3_ : Int32) (b4_ : Int32) (b5_ : mS), K48 b0_ b1_ b2_ b3_ b4_ b5_ → K481 b0_ b1_ b2_ b3_ b4_ b5_ → K482 b0_ b1_ b2_ b3_ b4_ b5_) (hp : ∀ (b0_ : Int32) (b1_ : mS), post b0_ b1_ → post1 b0_ b1_ → post2 b0_ b1_) : wj_X9_means_119 K52 K482 post2 x1 x2 x4 x6 u := by
  exact j_wj_X9_means_124 h g hK5 hK48 hp
theorem j_wj_X9_means_123 {K5 K51 K52 : Int32 → Int32 → Int32 → Int32 → mS → Prop} {K48 K481 K482 : Int32 → Int32 → Int32 → Int32 → Int32 → mS → Prop} {post post1 post2 : Int32 → mS → Prop} {x1 : Int32} {x2 : Int32} {x4 : Int32} {x6 : Int32} {u : mS} (h : wj_X9_means_123 K5 K48 post x1 x2 x4 x6 u) (g : wj_X9_means_123 K51 K481 post1 x1 x2 x4 x6 u) (hK5 : ∀ (b0_ : Int32) (b1_ : Int32) (b2_ : Int32) (b3_ : Int32) (b4_ : mS), K5 b0_ b1_ b2_ b3_ b4_ → K51 b0_ b1_ b2_ b3_ b4_ → K52 b0_ b1_ b2_ b3_ b4_) (hK48 : ∀ (b0_ : Int32) (b1_ : Int32) (b2_ : Int32) (b3_ : Int32) (b4_ : Int32) (b5_ : mS), K48 b0_ b1_ b2_ b3_ b4_ b5_ → K481 b0_ b1_ b2_ b3_ b4_ b5_ → K482 b0_ b1_ b2_ b3_ b4_ b5_) (hp : ∀ (b0_ : Int32) (b1_ : mS), post b0_ b1_ → post1 b0_ b1_ → post2 b0_ b1_) : wj_X9_means_123 K52 K482 post2 x1 x2 x4 x6 u := by
  exact j_wj_X9_means_124 h g hK5 hK48 hp
theorem j_wj_X9_means_87 {K5 K51 K52 : Int32 → Int32 → Int32 → Int32 → mS → Prop} {K48 K481 K482 : Int32 → Int32 → Int32 → Int32 → Int32 → mS → Prop} {post post1 post2 : Int32 → mS → Prop} {x1 : Int32} {x2 : Int32} {x4 : Int32} {x5 : Int32} {x6 : Int32} {z0 : Int32} {u : mS} (h : wj_X9_means_87 K5 K48 post x1 x2 x4 x5 x6 z0 u) (g : wj_X9_means_87 K51 K481 post1 x1 x2 x4 x5 x6 z0 u) (hK5 : ∀ (b0_ : Int32) (b1_ : Int32) (b2_ : Int32) (b3_ : Int32) (b4_ : mS), K5 b0_ b1_ b2_ b3_ b4_ → K51 b0_ b1_ b2_ b3_ b4_ → K52 b0_ b1_ b2_ b3_ b4_) (hK48 : ∀ (b0_ : Int32) (b1_ : Int32) (b2_ : Int32) (b3_ : Int32) (b4_ : Int32) (b5_ : mS), K48 b0_ b1_ b2_ b3_ b4_ b5_ → K481 b0_ b1_ b2_ b3_ b4_ b5_ → K482 b0_ b1_ b2_ b3_ b4_ b5_) (hp : ∀ (b0_ : Int32) (b1_ : mS), post b0_ b1_ → post1 b0_ b1_ → post2 b0_ b1_) : wj_X9_means_87 K52 K482 post2 x1 x2 x4 x5 x6 z0 u := by
  refine ⟨fun c1 => ?_, fun c2 => ?_⟩
  · have h3 := h.1 c1
    have g4 := g.1 c1
    exact j_wj_X9_means_123 h3 g4 hK5 hK48 hp
  · have h5 := h.2 c2
    have g6 := g.2 c2
    refine ⟨fun c7 => ?_, fun c8 => ?_⟩
    · have h9 := h5.1 c7
      have g10 := g6.1 c7
      exact j_wj_X9_means_119 h9 g10 hK5 hK48 hp
    · have h11 := h5.2 c8
      have g12 := g6.2 c8
      refine ⟨h11.1, ?_⟩
      have h13 := h11.2
      have g14 := g12.2
      intro y15 e16
      have h17 := h13 y15 e16
      have g18 := g14 y15 e16
      refine ⟨h17.1, ?_⟩
      have h19 := h17.2
      have g20 := g18.2
      intro y21 e22
      have h23 := h19 y21 e22
      have g24 := g20 y21 e22
      intro y25 e26
      have h27 := h23 y25 e26
      have g28 := g24 y25 e26
      intro y29 e30
      have h31 := h27 y29 e30
      have g32 := g28 y29 e30
      refine ⟨fun c33 => ?_, fun c34 => ?_⟩
      · have h35 := h31.1 c33
        have g36 := g32.1 c33
        exact j_wj_X9_means_123 h35 g36 hK5 hK48 hp
      · have h37 := h31.2 c34
        have g38 := g32.2 c34
        exact j_wj_X9_means_119 h37 g38 hK5 hK48 hp
theorem j_wj_X9_means_86 {K5 K51 K52 : Int32 → Int32 → Int32 → Int32 → mS → Prop} {K48 K481 K482 : Int32 → Int32 → Int32 → Int32 → Int32 → mS → Prop} {post post1 post2 : Int32 → mS → Prop} {x1 : Int32} {x2 : Int32} {x4 : Int32} {x5 : Int32} {x6 : Int32} {u : mS} (h : wj_X9_means_86 K5 K48 post x1 x2 x4 x5 x6 u) (g : wj_X9_means_86 K51 K481 post1 x1 x2 x4 x5 x6 u) (hK5 : ∀ (b0_ : Int32) (b1_ : Int32) (b2_ : Int32) (b3_ : Int32) (b4_ : mS), K5 b0_ b1_ b2_ b3_ b4_ → K51 b0_ b1_ b2_ b3_ b4_ → K52 b0_ b1_ b2_ b3_ b4_) (hK48 : ∀ (b0_ : Int32) (b1_ : Int32) (b2_ : Int32) (b3_ : Int32) (b4_ : Int32) (b5_ : mS), K48 b0_ b1_ b2_ b3_ b4_ b5_ → K481 b0_ b1_ b2_ b3_ b4_ b5_ → K482 b0_ b1_ b2_ b3_ b4_ b5_) (hp : ∀ (b0_ : Int32) (b1_ : mS), post b0_ b1_ → post1 b0_ b1_ → post2 b0_ b1_) : wj_X9_means_86 K52 K482 post2 x1 x2 x4 x5 x6 u := by
  exact j_wj_X9_means_87 h g hK5 hK48 hp
theorem j_wj_X9_means_143 {K5 K51 K52 : Int32 → Int32 → Int32 → Int32 → mS → Prop} {post post1 post2 : Int32 → mS → Prop} {x1 : Int32} {x2 : Int32} {x3 : Int32} {x4 : Int32} {u : mS} (h : wj_X9_means_143 K5 post x1 x2 x3 x4 u) (g : wj_X9_means_143 K51 post1 x1 x2 x3 x4 u) (hK5 : ∀ (b0_ : Int32) (b1_ : Int32) (b2_ : Int32) (b3_ : Int32) (b4_ : mS), K5 b0_ b1_ b2_ b3_ b4_ → K51 b0_ b1_ b2_ b3_ b4_ → K52 b0_ b1_ b2_ b3_ b4_) (hp : ∀ (b0_ : Int32) (b1_ : mS), post b0_ b1_ → post1 b0_ b1_ → post2 b0_ b1_) : wj_X9_means_143 K52 post2 x1 x2 x3 x4 u := by
  intro y1 e2
  have h3 := h y1 e2
  have g4 := g y1 e2
  exact hK5 _ _ _ _ _ h3 g4
theorem j_wj_X9_means_48 {K48 K481 K482 : Int32 → Int32 → Int32 → Int32 → Int32 → mS → Prop} {K5 K51 K52 : Int32 → Int32 → Int32 → Int32 → mS → Prop} {post post1 post2 : Int32 → mS → Prop} {x1 : Int32} {x2 : Int32} {x4 : Int32} {x5 : Int32} {x6 : Int32} {u : mS} (h : wj_X9_means_48 K48 K5 post x1 x2 x4 x5 x6 u) (g : wj_X9_means_48 K481 K51 post1 x1 x2 x4 x5 x6 u) (hK48 : ∀ (b0_ : Int32) (b1_ : Int32) (b2_ : Int32) (b3_ : Int32) (b4_ : Int32) (b5_ : mS), K48 b0_ b1_ b2_ b3_ b4_ b5_ → K481 b0_ b1_ b2_ b3_ b4_ b5_ → K482 b0_ b1_ b2_ b3_ b4_ b5_) (hK5 : ∀ (b0_ : Int32) (b1_ : Int32) (b2_ : Int32) (b3_ : Int32) (b4_ : mS), K5 b0_ b1_ b2_ b3_ b4_ → K51 b0_ b1_ b2_ b3_ b4_ → K52 b0_ b1_ b2_ b3_ b4_) (hp : ∀ (b0_ : Int32) (b1_ : mS), post b0_ b1_ → post1 b0_ b1_ → post2 b0_ b1_) : wj_X9_means_48 K482 K52 post2 x1 x2 x4 x5 x6 u := by
  intro y1 e2
  have h3 := h y1 e2
  have g4 := g y1 e2
  refine ⟨fun c5 => ?_, fun c6 => ?_⟩
  · have h7 := h3.1 c5
    have g8 := g4.1 c5
    refine ⟨fun c9 => ?_, fun c10 => ?_⟩
    · have h11 := h7.1 c9
      have g12 := g8.1 c9
      exact j_wj_X9_means_143 h11 g12 hK5 hp
    · have h13 := h7.2 c10
      have g14 := g8.2 c10
      exact hp _ _ h13 g14
  · have h15 := h3.2 c6
    have g16 := g4.2 c6
    refine ⟨h15.1, ?_⟩
    have h17 := h15.2
    have g18 := g16.2
    intro y19 e20
    have h21 := h17 y19 e20
    have g22 := g18 y19 e20
    refine ⟨fun c23 => ?_, fun c24 => ?_⟩
    · have h25 := h21.1 c23
      have g26 := g22.1 c23
      exact j_wj_X9_means_86 h25 g26 hK5 hK48 hp
    · have h27 := h21.2 c24
      have g28 := g22.2 c24
      refine ⟨h27.1, ?_⟩
      have h29 := h27.2
      have g30 := g28.2
      intro y31 e32
      have h33 := h29 y31 e32
      have g34 := g30 y31 e32
      intro y35 e36
      have h37 := h33 y35 e36
      have g38 := g34 y35 e36
      intro y39 e40
      have h41 := h37 y39 e40
      have g42 := g38 y39 e40
      refine ⟨fun c43 => ?_, fun c44 => ?_⟩
      · have h45 := h41.1 c43
        have g46 := g42.1 c43
        exact j_wj_X9_means_86 h45 g46 hK5 hK48 hp
      · have h47 := h41.2 c44
        have g48 := g42.2 c44
        exact j_wj_X9_means_87 h47 g48 hK5 hK48 hp
theorem j_wj_X9_means_5 {K5 K51 K52 : Int32 → Int32 → Int32 → Int32 → mS → Prop} {post post1 post2 : Int32 → mS → Prop} {x1 : Int32} {x2 : Int32} {x3 : Int32} {x4 : Int32} {u : mS} (h : wj_X9_means_5 K5 post x1 x2 x3 x4 u) (g : wj_X9_means_5 K51 post1 x1 x2 x3 x4 u) (hK5 : ∀ (b0_ : Int32) (b1_ : Int32) (b2_ : Int32) (b3_ : Int32) (b4_ : mS), K5 b0_ b1_ b2_ b3_ b4_ → K51 b0_ b1_ b2_ b3_ b4_ → K52 b0_ b1_ b2_ b3_ b4_) (hp : ∀ (b0_ : Int32) (b1_ : mS), post b0_ b1_ → post1 b0_ b1_ → post2 b0_ b1_) : wj_X9_means_5 K52 post2 x1 x2 x3 x4 u := by
  intro y1 e2
  have h3 := h y1 e2
  have g4 := g y1 e2
  refine ⟨fun c5 => ?_, fun c6 => ?_⟩
  · have h7 := h3.1 c5
    have g8 := g4.1 c5
    exact hp _ _ h7 g8
  · have h9 := h3.2 c6
    have g10 := g4.2 c6
    refine ⟨h9.1, ?_⟩
    have h11 := h9.2
    have g12 := g10.2
    intro y13 e14
    have h15 := h11 y13 e14
    have g16 := g12 y13 e14
    refine ⟨fun c17 => ?_, fun c18 => ?_⟩
    · have h19 := h15.1 c17
      have g20 := g16.1 c17
      exact j_wj_X9_means_143 h19 g20 hK5 hp
    · have h21 := h15.2 c18
      have g22 := g16.2 c18
      refine ⟨h21.1, ?_⟩
      have h23 := h21.2
      have g24 := g22.2
      intro y25 e26
      have h27 := h23 y25 e26
      have g28 := g24 y25 e26
      intro y29 e30
      have h31 := h27 y29 e30
      have g32 := g28 y29 e30
      intro y33 e34
      have h35 := h31 y33 e34
      have g36 := g32 y33 e34
      refine ⟨fun c37 => ?_, fun c38 => ?_⟩
      · have h39 := h35.1 c37
        have g40 := g36.1 c37
        obtain ⟨n41, h43⟩ := h39
        obtain ⟨m42, g44⟩ := g40
        refine ⟨n41, mL6_j ?_ n41 m42 _ _ _ _ _ _ h43 g44⟩
        intro K_ L_ M_ hK_ _ _ _ _ _ _ a_ b_
        exact j_wj_X9_means_48 a_ b_ hK_ hK5 hp
      · have h45 := h35.2 c38
        have g46 := g36.2 c38
        exact j_wj_X9_means_143 h45 g46 hK5 hp
theorem j_wp_X9_means {x1 : Int32} {x2 : Int32} {u : mS} {post post1 post2 : Int32 → mS → Prop} (h : wp_X9_means x1 x2 u post) (g : wp_X9_means x1 x2 u post1) (hp : ∀ (b0_ : Int32) (b1_ : mS), post b0_ b1_ → post1 b0_ b1_ → post2 b0_ b1_) : wp_X9_means x1 x2 u post2 := by
  obtain ⟨n1, h3⟩ := h
  obtain ⟨m2, g4⟩ := g
  refine ⟨n1, mL5_j ?_ n1 m2 _ _ _ _ _ h3 g4⟩
  intro K_ L_ M_ hK_ _ _ _ _ _ a_ b_
  exact j_wj_X9_means_5 a_ b_ hK_ hp
theorem j_wp_X9_putVariable {x1 : Int32} {u : mS} {post post1 post2 : mS → Prop} (h : wp_X9_putVariable x1 u post) (g : wp_X9_putVariable x1 u post1) (hp : ∀ (b0_ : mS), post b0_ → post1 b0_ → post2 b0_) : wp_X9_putVariable x1 u post2 := by
  refine j_wp_X9_space h g (fun w3 h1 g2 => ?_)
  refine j_wp_X9_put h1 g2 (fun w6 h4 g5 => ?_)
  refine j_wp_X9_putNumber h4 g5 (fun w9 h7 g8 => ?_)
  exact hp _ h7 g8
theorem j_wj_X9_word_106 {post post1 post2 : mS → Prop} {u : mS} (h : wj_X9_word_106 post u) (g : wj_X9_word_106 post1 u) (hp : ∀ (b0_ : mS), post b0_ → post1 b0_ → post2 b0_) : wj_X9_word_106 post2 u := by
  intro y1 e2
  have h3 := h y1 e2
  have g4 := g y1 e2
  intro y5 e6
  have h7 := h3 y5 e6
  have g8 := g4 y5 e6
  intro y9 e10
  have h11 := h7 y9 e10
  have g12 := g8 y9 e10
  exact hp _ h11 g12
theorem j_wj_X9_word_40 {post post1 post2 : mS → Prop} {z0 : Int32} {u : mS} (h : wj_X9_word_40 post z0 u) (g : wj_X9_word_40 post1 z0 u) (hp : ∀ (b0_ : mS), post b0_ → post1 b0_ → post2 b0_) : wj_X9_word_40 post2 z0 u := by
  refine j_wp_X9_fails h g (fun w3 h1 g2 => ?_)
  exact j_wj_X9_word_106 h1 g2 hp
theorem j_wp_X9_word {u : mS} {post post1 post2 : mS → Prop} (h : wp_X9_word u post) (g : wp_X9_word u post1) (hp : ∀ (b0_ : mS), post b0_ → post1 b0_ → post2 b0_) : wp_X9_word u post2 := by
  intro y1 e2
  have h3 := h y1 e2
  have g4 := g y1 e2
  refine j_wp_X9_what_2 h3 g4 (fun w7 w8 h5 g6 => ?_)
  intro y9 e10
  have h11 := h5 y9 e10
  have g12 := g6 y9 e10
  refine ⟨h11.1, ?_⟩
  have h13 := h11.2
  have g14 := g12.2
  intro y15 e16
  have h17 := h13 y15 e16
  have g18 := g14 y15 e16
  refine j_wp_X9_means h17 g18 (fun w21 w22 h19 g20 => ?_)
  refine ⟨fun c23 => ?_, fun c24 => ?_⟩
  · have h25 := h19.1 c23
    have g26 := g20.1 c23
    refine ⟨h25.1, ?_⟩
    have h27 := h25.2
    have g28 := g26.2
    intro y29 e30
    have h31 := h27 y29 e30
    have g32 := g28 y29 e30
    refine ⟨fun c33 => ?_, fun c34 => ?_⟩
    · have h35 := h31.1 c33
      have g36 := g32.1 c33
      refine ⟨h35.1, ?_⟩
      have h37 := h35.2
      have g38 := g36.2
      intro y39 e40
      have h41 := h37 y39 e40
      have g42 := g38 y39 e40
      refine ⟨fun c43 => ?_, fun c44 => ?_⟩
      · have h45 := h41.1 c43
        have g46 := g42.1 c43
        refine j_wp_X9_fails h45 g46 (fun w49 h47 g48 => ?_)
        exact j_wj_X9_word_106 h47 g48 hp
      · have h50 := h41.2 c44
        have g51 := g42.2 c44
        refine ⟨h50.1, ?_⟩
        have h52 := h50.2
        have g53 := g51.2
        intro y54 e55
        have h56 := h52 y54 e55
        have g57 := g53 y54 e55
        refine j_wp_X9_putVariable h56 g57 (fun w60 h58 g59 => ?_)
        exact j_wj_X9_word_106 h58 g59 hp
    · have h61 := h31.2 c34
      have g62 := g32.2 c34
      refine j_wp_X9_space h61 g62 (fun w65 h63 g64 => ?_)
      intro y66 e67
      have h68 := h63 y66 e67
      have g69 := g64 y66 e67
      refine j_wp_X9_what_2 h68 g69 (fun w72 w73 h70 g71 => ?_)
      refine j_wp_X9_putName h70 g71 (fun w76 h74 g75 => ?_)
      exact j_wj_X9_word_106 h74 g75 hp
  · have h77 := h19.2 c24
    have g78 := g20.2 c24
    refine ⟨fun c79 => ?_, fun c80 => ?_⟩
    · have h81 := h77.1 c79
      have g82 := g78.1 c79
      exact j_wj_X9_word_40 h81 g82 hp
    · have h83 := h77.2 c80
      have g84 := g78.2 c80
      exact j_wj_X9_word_40 h83 g84 hp
theorem j_wj_X9_count_2_61 {K6 K61 K62 : Int32 → Int32 → mS → Prop} {post post1 post2 : Int32 → mS → Prop} {x2 : Int32} {z0 : Int32} {u : mS} (h : wj_X9_count_2_61 K6 post x2 z0 u) (g : wj_X9_count_2_61 K61 post1 x2 z0 u) (hK6 : ∀ (b0_ : Int32) (b1_ : Int32) (b2_ : mS), K6 b0_ b1_ b2_ → K61 b0_ b1_ b2_ → K62 b0_ b1_ b2_) (hp : ∀ (b0_ : Int32) (b1_ : mS), post b0_ b1_ → post1 b0_ b1_ → post2 b0_ b1_) : wj_X9_count_2_61 K62 post2 x2 z0 u := by
  exact hK6 _ _ _ h g
theorem j_wj_X9_count_2_44 {K6 K61 K62 : Int32 → Int32 → mS → Prop} {post post1 post2 : Int32 → mS → Prop} {x3 : Int32} {x4 : Int32} {z0 : Int32} {u : mS} (h : wj_X9_count_2_44 K6 post x3 x4 z0 u) (g : wj_X9_count_2_44 K61 post1 x3 x4 z0 u) (hK6 : ∀ (b0_ : Int32) (b1_ : Int32) (b2_ : mS), K6 b0_ b1_ b2_ → K61 b0_ b1_ b2_ → K62 b0_ b1_ b2_) (hp : ∀ (b0_ : Int32) (b1_ : mS), post b0_ b1_ → post1 b0_ b1_ → post2 b0_ b1_) : wj_X9_count_2_44 K62 post2 x3 x4 z0 u := by
  refine ⟨fun c1 => ?_, fun c2 => ?_⟩
  · have h3 := h.1 c1
    have g4 := g.1 c1
    refine j_wp_X9_end_2 h3 g4 (fun w7 w8 h5 g6 => ?_)
    exact j_wj_X9_count_2_61 h5 g6 hK6 hp
  · have h9 := h.2 c2
    have g10 := g.2 c2
    intro y11 e12
    have h13 := h9 y11 e12
    have g14 := g10 y11 e12
    exact j_wj_X9_count_2_61 h13 g14 hK6 hp
theorem j_wj_X9_count_2_30 {K6 K61 K62 : Int32 → Int32 → mS → Prop} {post post1 post2 : Int32 → mS → Prop} {x2 : Int32} {x3 : Int32} {z0 : Int32} {u : mS} (h : wj_X9_count_2_30 K6 post x2 x3 z0 u) (g : wj_X9_count_2_30 K61 post1 x2 x3 z0 u) (hK6 : ∀ (b0_ : Int32) (b1_ : Int32) (b2_ : mS), K6 b0_ b1_ b2_ → K61 b0_ b1_ b2_ → K62 b0_ b1_ b2_) (hp : ∀ (b0_ : Int32) (b1_ : mS), post b0_ b1_ → post1 b0_ b1_ → post2 b0_ b1_) : wj_X9_count_2_30 K62 post2 x2 x3 z0 u := by
  refine ⟨fun c1 => ?_, fun c2 => ?_⟩
  · have h3 := h.1 c1
    have g4 := g.1 c1
    intro y5 e6
    have h7 := h3 y5 e6
    have g8 := g4 y5 e6
    exact j_wj_X9_count_2_44 h7 g8 hK6 hp
  · have h9 := h.2 c2
    have g10 := g.2 c2
    exact j_wj_X9_count_2_44 h9 g10 hK6 hp
theorem j_wj_X9_count_2_6 {K6 K61 K62 : Int32 → Int32 → mS → Prop} {post post1 post2 : Int32 → mS → Prop} {x2 : Int32} {x3 : Int32} {u : mS} (h : wj_X9_count_2_6 K6 post x2 x3 u) (g : wj_X9_count_2_6 K61 post1 x2 x3 u) (hK6 : ∀ (b0_ : Int32) (b1_ : Int32) (b2_ : mS), K6 b0_ b1_ b2_ → K61 b0_ b1_ b2_ → K62 b0_ b1_ b2_) (hp : ∀ (b0_ : Int32) (b1_ : mS), post b0_ b1_ → post1 b0_ b1_ → post2 b0_ b1_) : wj_X9_count_2_6 K62 post2 x2 x3 u := by
  refine j_wp_X9_kind_2 h g (fun w3 w4 h1 g2 => ?_)
  refine ⟨fun c5 => ?_, fun c6 => ?_⟩
  · have h7 := h1.1 c5
    have g8 := g2.1 c5
    exact hp _ _ h7 g8
  · have h9 := h1.2 c6
    have g10 := g2.2 c6
    refine j_wp_X9_kind_2 h9 g10 (fun w13 w14 h11 g12 => ?_)
    refine ⟨fun c15 => ?_, fun c16 => ?_⟩
    · have h17 := h11.1 c15
      have g18 := g12.1 c15
      exact j_wj_X9_count_2_30 h17 g18 hK6 hp
    · have h19 := h11.2 c16
      have g20 := g12.2 c16
      exact j_wj_X9_count_2_30 h19 g20 hK6 hp
theorem j_wp_X9_count_2 {x1 : Int32} {u : mS} {post post1 post2 : Int32 → mS → Prop} (h : wp_X9_count_2 x1 u post) (g : wp_X9_count_2 x1 u post1) (hp : ∀ (b0_ : Int32) (b1_ : mS), post b0_ b1_ → post1 b0_ b1_ → post2 b0_ b1_) : wp_X9_count_2 x1 u post2 := by
  intro y1 e2
  have h3 := h y1 e2
  have g4 := g y1 e2
  obtain ⟨n5, h7⟩ := h3
  obtain ⟨m6, g8⟩ := g4
  refine ⟨n5, mL3_j ?_ n5 m6 _ _ _ h7 g8⟩
  intro K_ L_ M_ hK_ _ _ _ a_ b_
  exact j_wj_X9_count_2_6 a_ b_ hK_ hp
theorem j_wp_X9_isPlain_2 {x1 : Int32} {x2 : Int32} {u : mS} {post post1 post2 : Int32 → mS → Prop} (h : wp_X9_isPlain_2 x1 x2 u post) (g : wp_X9_isPlain_2 x1 x2 u post1) (hp : ∀ (b0_ : Int32) (b1_ : mS), post b0_ b1_ → post1 b0_ b1_ → post2 b0_ b1_) : wp_X9_isPlain_2 x1 x2 u post2 := by
  refine j_wp_X9_kind_2 h g (fun w3 w4 h1 g2 => ?_)
  refine ⟨fun c5 => ?_, fun c6 => ?_⟩
  · have h7 := h1.1 c5
    have g8 := g2.1 c5
    exact hp _ _ h7 g8
  · have h9 := h1.2 c6
    have g10 := g2.2 c6
    refine j_wp_X9_count_2 h9 g10 (fun w13 w14 h11 g12 => ?_)
    refine ⟨fun c15 => ?_, fun c16 => ?_⟩
    · have h17 := h11.1 c15
      have g18 := g12.1 c15
      exact hp _ _ h17 g18
    · have h19 := h11.2 c16
      have g20 := g12.2 c16
      refine j_wp_X9_dots_2 h19 g20 (fun w23 w24 h21 g22 => ?_)
      refine ⟨fun c25 => ?_, fun c26 => ?_⟩
      · have h27 := h21.1 c25
        have g28 := g22.1 c25
        exact hp _ _ h27 g28
      · have h29 := h21.2 c26
        have g30 := g22.2 c26
        exact hp _ _ h29 g30
theorem j_wp_X9_scope {u : mS} {post post1 post2 : Int32 → mS → Prop} (h : wp_X9_scope u post) (g : wp_X9_scope u post1) (hp : ∀ (b0_ : Int32) (b1_ : mS), post b0_ b1_ → post1 b0_ b1_ → post2 b0_ b1_) : wp_X9_scope u post2 := by
  intro y1 e2
  have h3 := h y1 e2
  have g4 := g y1 e2
  refine ⟨fun c5 => ?_, fun c6 => ?_⟩
  · have h7 := h3.1 c5
    have g8 := g4.1 c5
    intro y9 e10
    have h11 := h7 y9 e10
    have g12 := g8 y9 e10
    intro y13 e14
    have h15 := h11 y13 e14
    have g16 := g12 y13 e14
    intro y17 e18
    have h19 := h15 y17 e18
    have g20 := g16 y17 e18
    intro y21 e22
    have h23 := h19 y21 e22
    have g24 := g20 y21 e22
    intro y25 e26
    have h27 := h23 y25 e26
    have g28 := g24 y25 e26
    intro y29 e30
    have h31 := h27 y29 e30
    have g32 := g28 y29 e30
    exact hp _ _ h31 g32
  · have h33 := h3.2 c6
    have g34 := g4.2 c6
    refine j_wp_X9_fails h33 g34 (fun w37 h35 g36 => ?_)
    exact hp _ _ h35 g36
theorem j_wj_X9_give_47 {K3 K31 K32 : Int32 → Int32 → Int32 → mS → Prop} {post post1 post2 : mS → Prop} {x2 : Int32} {x3 : Int32} {x4 : Int32} {z0 : Int32} {z1 : Int32} {u : mS} (h : wj_X9_give_47 K3 post x2 x3 x4 z0 z1 u) (g : wj_X9_give_47 K31 post1 x2 x3 x4 z0 z1 u) (hK3 : ∀ (b0_ : Int32) (b1_ : Int32) (b2_ : Int32) (b3_ : mS), K3 b0_ b1_ b2_ b3_ → K31 b0_ b1_ b2_ b3_ → K32 b0_ b1_ b2_ b3_) (hp : ∀ (b0_ : mS), post b0_ → post1 b0_ → post2 b0_) : wj_X9_give_47 K32 post2 x2 x3 x4 z0 z1 u := by
  refine ⟨h.1, ?_⟩
  have h1 := h.2
  have g2 := g.2
  intro y3 e4
  have h5 := h1 y3 e4
  have g6 := g2 y3 e4
  intro y7 e8
  have h9 := h5 y7 e8
  have g10 := g6 y7 e8
  exact hK3 _ _ _ _ h9 g10
theorem j_wj_X9_give_3 {K3 K31 K32 : Int32 → Int32 → Int32 → mS → Prop} {post post1 post2 : mS → Prop} {x2 : Int32} {x3 : Int32} {x4 : Int32} {u : mS} (h : wj_X9_give_3 K3 post x2 x3 x4 u) (g : wj_X9_give_3 K31 post1 x2 x3 x4 u) (hK3 : ∀ (b0_ : Int32) (b1_ : Int32) (b2_ : Int32) (b3_ : mS), K3 b0_ b1_ b2_ b3_ → K31 b0_ b1_ b2_ b3_ → K32 b0_ b1_ b2_ b3_) (hp : ∀ (b0_ : mS), post b0_ → post1 b0_ → post2 b0_) : wj_X9_give_3 K32 post2 x2 x3 x4 u := by
  refine ⟨fun c1 => ?_, fun c2 => ?_⟩
  · have h3 := h.1 c1
    have g4 := g.1 c1
    exact hp _ h3 g4
  · have h5 := h.2 c2
    have g6 := g.2 c2
    refine j_wp_X9_kind_2 h5 g6 (fun w9 w10 h7 g8 => ?_)
    refine ⟨fun c11 => ?_, fun c12 => ?_⟩
    · have h13 := h7.1 c11
      have g14 := g8.1 c11
      refine ⟨h13.1, ?_⟩
      have h15 := h13.2
      have g16 := g14.2
      intro y17 e18
      have h19 := h15 y17 e18
      have g20 := g16 y17 e18
      exact j_wj_X9_give_47 h19 g20 hK3 hp
    · have h21 := h7.2 c12
      have g22 := g8.2 c12
      refine ⟨h21.1, ?_⟩
      have h23 := h21.2
      have g24 := g22.2
      intro y25 e26
      have h27 := h23 y25 e26
      have g28 := g24 y25 e26
      intro y29 e30
      have h31 := h27 y29 e30
      have g32 := g28 y29 e30
      exact j_wj_X9_give_47 h31 g32 hK3 hp
theorem j_wp_X9_give {x1 : Int32} {x2 : Int32} {x3 : Int32} {u : mS} {post post1 post2 : mS → Prop} (h : wp_X9_give x1 x2 x3 u post) (g : wp_X9_give x1 x2 x3 u post1) (hp : ∀ (b0_ : mS), post b0_ → post1 b0_ → post2 b0_) : wp_X9_give x1 x2 x3 u post2 := by
  obtain ⟨n1, h3⟩ := h
  obtain ⟨m2, g4⟩ := g
  refine ⟨n1, mL4_j ?_ n1 m2 _ _ _ _ h3 g4⟩
  intro K_ L_ M_ hK_ _ _ _ _ a_ b_
  exact j_wj_X9_give_3 a_ b_ hK_ hp
theorem j_wj_X9_local_140 {post post1 post2 : mS → Prop} {u : mS} (h : wj_X9_local_140 post u) (g : wj_X9_local_140 post1 u) (hp : ∀ (b0_ : mS), post b0_ → post1 b0_ → post2 b0_) : wj_X9_local_140 post2 u := by
  refine j_wp_X9_fails h g (fun w3 h1 g2 => ?_)
  exact hp _ h1 g2
theorem j_wj_X9_local_123 {post post1 post2 : mS → Prop} {x1 : Int32} {x2 : Int32} {x3 : Int32} {x4 : Int32} {x5 : Int32} {z0 : Int32} {u : mS} (h : wj_X9_local_123 post x1 x2 x3 x4 x5 z0 u) (g : wj_X9_local_123 post1 x1 x2 x3 x4 x5 z0 u) (hp : ∀ (b0_ : mS), post b0_ → post1 b0_ → post2 b0_) : wj_X9_local_123 post2 x1 x2 x3 x4 x5 z0 u := by
  refine ⟨fun c1 => ?_, fun c2 => ?_⟩
  · have h3 := h.1 c1
    have g4 := g.1 c1
    exact j_wj_X9_local_140 h3 g4 hp
  · have h5 := h.2 c2
    have g6 := g.2 c2
    refine j_wp_X9_areRules h5 g6 (fun w9 w10 h7 g8 => ?_)
    refine ⟨fun c11 => ?_, fun c12 => ?_⟩
    · have h13 := h7.1 c11
      have g14 := g8.1 c11
      refine j_wp_X9_scope h13 g14 (fun w17 w18 h15 g16 => ?_)
      intro y19 e20
      have h21 := h15 y19 e20
      have g22 := g16 y19 e20
      refine ⟨fun c23 => ?_, fun c24 => ?_⟩
      · have h25 := h21.1 c23
        have g26 := g22.1 c23
        intro y27 e28
        have h29 := h25 y27 e28
        have g30 := g26 y27 e28
        intro y31 e32
        have h33 := h29 y31 e32
        have g34 := g30 y31 e32
        refine j_wp_X9_give h33 g34 (fun w37 h35 g36 => ?_)
        refine j_wp_X9_give h35 g36 (fun w40 h38 g39 => ?_)
        intro y41 e42
        have h43 := h38 y41 e42
        have g44 := g39 y41 e42
        refine j_wp_X9_what_2 h43 g44 (fun w47 w48 h45 g46 => ?_)
        intro y49 e50
        have h51 := h45 y49 e50
        have g52 := g46 y49 e50
        refine ⟨h51.1, ?_⟩
        have h53 := h51.2
        have g54 := g52.2
        intro y55 e56
        have h57 := h53 y55 e56
        have g58 := g54 y55 e56
        refine j_wp_X9_bind h57 g58 (fun w61 h59 g60 => ?_)
        intro y62 e63
        have h64 := h59 y62 e63
        have g65 := g60 y62 e63
        intro y66 e67
        have h68 := h64 y66 e67
        have g69 := g65 y66 e67
        refine ⟨h68.1, ?_⟩
        have h70 := h68.2
        have g71 := g69.2
        intro y72 e73
        have h74 := h70 y72 e73
        have g75 := g71 y72 e73
        intro y76 e77
        have h78 := h74 y76 e77
        have g79 := g75 y76 e77
        intro y80 e81
        have h82 := h78 y80 e81
        have g83 := g79 y80 e81
        intro y84 e85
        have h86 := h82 y84 e85
        have g87 := g83 y84 e85
        intro y88 e89
        have h90 := h86 y88 e89
        have g91 := g87 y88 e89
        exact hp _ h90 g91
      · have h92 := h21.2 c24
        have g93 := g22.2 c24
        exact hp _ h92 g93
    · have h94 := h7.2 c12
      have g95 := g8.2 c12
      exact j_wj_X9_local_140 h94 g95 hp
theorem j_wj_X9_local_93 {post post1 post2 : mS → Prop} {x1 : Int32} {x2 : Int32} {x3 : Int32} {z0 : Int32} {u : mS} (h : wj_X9_local_93 post x1 x2 x3 z0 u) (g : wj_X9_local_93 post1 x1 x2 x3 z0 u) (hp : ∀ (b0_ : mS), post b0_ → post1 b0_ → post2 b0_) : wj_X9_local_93 post2 x1 x2 x3 z0 u := by
  intro y1 e2
  have h3 := h y1 e2
  have g4 := g y1 e2
  refine ⟨fun c5 => ?_, fun c6 => ?_⟩
  · have h7 := h3.1 c5
    have g8 := g4.1 c5
    exact j_wj_X9_local_123 h7 g8 hp
  · have h9 := h3.2 c6
    have g10 := g4.2 c6
    intro y11 e12
    have h13 := h9 y11 e12
    have g14 := g10 y11 e12
    intro y15 e16
    have h17 := h13 y15 e16
    have g18 := g14 y15 e16
    refine j_wp_X9_keep h17 g18 (fun w21 w22 h19 g20 => ?_)
    exact j_wj_X9_local_123 h19 g20 hp
theorem j_wj_X9_local_76 {post post1 post2 : mS → Prop} {x1 : Int32} {x2 : Int32} {z0 : Int32} {u : mS} (h : wj_X9_local_76 post x1 x2 z0 u) (g : wj_X9_local_76 post1 x1 x2 z0 u) (hp : ∀ (b0_ : mS), post b0_ → post1 b0_ → post2 b0_) : wj_X9_local_76 post2 x1 x2 z0 u := by
  refine ⟨fun c1 => ?_, fun c2 => ?_⟩
  · have h3 := h.1 c1
    have g4 := g.1 c1
    exact j_wj_X9_local_93 h3 g4 hp
  · have h5 := h.2 c2
    have g6 := g.2 c2
    refine j_wp_X9_end_2 h5 g6 (fun w9 w10 h7 g8 => ?_)
    exact j_wj_X9_local_93 h7 g8 hp
theorem j_wj_X9_local_75 {post post1 post2 : mS → Prop} {x1 : Int32} {x2 : Int32} {u : mS} (h : wj_X9_local_75 post x1 x2 u) (g : wj_X9_local_75 post1 x1 x2 u) (hp : ∀ (b0_ : mS), post b0_ → post1 b0_ → post2 b0_) : wj_X9_local_75 post2 x1 x2 u := by
  exact j_wj_X9_local_76 h g hp
theorem j_wp_X9_local {u : mS} {post post1 post2 : mS → Prop} (h : wp_X9_local u post) (g : wp_X9_local u post1) (hp : ∀ (b0_ : mS), post b0_ → post1 b0_ → post2 b0_) : wp_X9_local u post2 := by
  intro y1 e2
  have h3 := h y1 e2
  have g4 := g y1 e2
  refine j_wp_X9_end_2 h3 g4 (fun w7 w8 h5 g6 => ?_)
  intro y9 e10
  have h11 := h5 y9 e10
  have g12 := g6 y9 e10
  intro y13 e14
  have h15 := h11 y13 e14
  have g16 := g12 y13 e14
  intro y17 e18
  have h19 := h15 y17 e18
  have g20 := g16 y17 e18
  refine j_wp_X9_isPlain_2 h19 g20 (fun w23 w24 h21 g22 => ?_)
  refine ⟨fun c25 => ?_, fun c26 => ?_⟩
  · have h27 := h21.1 c25
    have g28 := g22.1 c25
    exact j_wj_X9_local_75 h27 g28 hp
  · have h29 := h21.2 c26
    have g30 := g22.2 c26
    refine j_wp_X9_kind_2 h29 g30 (fun w33 w34 h31 g32 => ?_)
    refine ⟨fun c35 => ?_, fun c36 => ?_⟩
    · have h37 := h31.1 c35
      have g38 := g32.1 c35
      exact j_wj_X9_local_75 h37 g38 hp
    · have h39 := h31.2 c36
      have g40 := g32.2 c36
      intro y41 e42
      have h43 := h39 y41 e42
      have g44 := g40 y41 e42
      refine j_wp_X9_kind_2 h43 g44 (fun w47 w48 h45 g46 => ?_)
      refine ⟨fun c49 => ?_, fun c50 => ?_⟩
      · have h51 := h45.1 c49
        have g52 := g46.1 c49
        exact j_wj_X9_local_75 h51 g52 hp
      · have h53 := h45.2 c50
        have g54 := g46.2 c50
        refine j_wp_X9_dots_2 h53 g54 (fun w57 w58 h55 g56 => ?_)
        refine ⟨fun c59 => ?_, fun c60 => ?_⟩
        · have h61 := h55.1 c59
          have g62 := g56.1 c59
          exact j_wj_X9_local_75 h61 g62 hp
        · have h63 := h55.2 c60
          have g64 := g56.2 c60
          exact j_wj_X9_local_76 h63 g64 hp
theorem j_wj_X9_function_106 {K75 K751 K752 : Int32 → Int32 → Int32 → Int32 → Int32 → mS → Prop} {post post1 post2 : mS → Prop} {x1 : Int32} {x2 : Int32} {x4 : Int32} {x5 : Int32} {z0 : Int32} {u : mS} (h : wj_X9_function_106 K75 post x1 x2 x4 x5 z0 u) (g : wj_X9_function_106 K751 post1 x1 x2 x4 x5 z0 u) (hK75 : ∀ (b0_ : Int32) (b1_ : Int32) (b2_ : Int32) (b3_ : Int32) (b4_ : Int32) (b5_ : mS), K75 b0_ b1_ b2_ b3_ b4_ b5_ → K751 b0_ b1_ b2_ b3_ b4_ b5_ → K752 b0_ b1_ b2_ b3_ b4_ b5_) (hp : ∀ (b0_ : mS), post b0_ → post1 b0_ → post2 b0_) : wj_X9_function_106 K752 post2 x1 x2 x4 x5 z0 u := by
  intro y1 e2
  have h3 := h y1 e2
  have g4 := g y1 e2
  exact hK75 _ _ _ _ _ _ h3 g4
theorem j_wj_X9_function_105 {K75 K751 K752 : Int32 → Int32 → Int32 → Int32 → Int32 → mS → Prop} {post post1 post2 : mS → Prop} {x1 : Int32} {x2 : Int32} {x4 : Int32} {x5 : Int32} {u : mS} (h : wj_X9_function_105 K75 post x1 x2 x4 x5 u) (g : wj_X9_function_105 K751 post1 x1 x2 x4 x5 u) (hK75 : ∀ (b0_ : Int32) (b1_ : Int32) (b2_ : Int32) (b3_ : Int32) (b4_ : Int32) (b5_ : mS), K75 b0_ b1_ b2_ b3_ b4_ b5_ → K751 b0_ b1_ b2_ b3_ b4_ b5_ → K752 b0_ b1_ b2_ b3_ b4_ b5_) (hp : ∀ (b0_ : mS), post b0_ → post1 b0_ → post2 b0_) : wj_X9_function_105 K752 post2 x1 x2 x4 x5 u := by
  exact j_wj_X9_function_106 h g hK75 hp
theorem j_wj_X9_function_223 {K156 K1561 K1562 : Int32 → Int32 → Int32 → Int32 → mS → Prop} {K177 K1771 K1772 : Int32 → Int32 → Int32 → Int32 → Int32 → mS → Prop} {post post1 post2 : mS → Prop} {x2 : Int32} {x4 : Int32} {x6 : Int32} {x7 : Int32} {x8 : Int32} {u : mS} (h : wj_X9_function_223 K156 K177 post x2 x4 x6 x7 x8 u) (g : wj_X9_function_223 K1561 K1771 post1 x2 x4 x6 x7 x8 u) (hK156 : ∀ (b0_ : Int32) (b1_ : Int32) (b2_ : Int32) (b3_ : Int32) (b4_ : mS), K156 b0_ b1_ b2_ b3_ b4_ → K1561 b0_ b1_ b2_ b3_ b4_ → K1562 b0_ b1_ b2_ b3_ b4_) (hK177 : ∀ (b0_ : Int32) (b1_ : Int32) (b2_ : Int32) (b3_ : Int32) (b4_ : Int32) (b5_ : mS), K177 b0_ b1_ b2_ b3_ b4_ b5_ → K1771 b0_ b1_ b2_ b3_ b4_ b5_ → K1772 b0_ b1_ b2_ b3_ b4_ b5_) (hp : ∀ (b0_ : mS), post b0_ → post1 b0_ → post2 b0_) : wj_X9_function_223 K1562 K1772 post2 x2 x4 x6 x7 x8 u := by
  intro y1 e2
  have h3 := h y1 e2
  have g4 := g y1 e2
  exact hK177 _ _ _ _ _ _ h3 g4
theorem j_wj_X9_function_283 {K156 K1561 K1562 : Int32 → Int32 → Int32 → Int32 → mS → Prop} {post post1 post2 : mS → Prop} {x2 : Int32} {x4 : Int32} {x6 : Int32} {x7 : Int32} {z0 : Int32} {u : mS} (h : wj_X9_function_283 K156 post x2 x4 x6 x7 z0 u) (g : wj_X9_function_283 K1561 post1 x2 x4 x6 x7 z0 u) (hK156 : ∀ (b0_ : Int32) (b1_ : Int32) (b2_ : Int32) (b3_ : Int32) (b4_ : mS), K156 b0_ b1_ b2_ b3_ b4_ → K1561 b0_ b1_ b2_ b3_ b4_ → K1562 b0_ b1_ b2_ b3_ b4_) (hp : ∀ (b0_ : mS), post b0_ → post1 b0_ → post2 b0_) : wj_X9_function_283 K1562 post2 x2 x4 x6 x7 z0 u := by
  intro y1 e2
  have h3 := h y1 e2
  have g4 := g y1 e2
  intro y5 e6
  have h7 := h3 y5 e6
  have g8 := g4 y5 e6
  exact hK156 _ _ _ _ _ h7 g8
theorem j_wj_X9_function_262 {K156 K1561 K1562 : Int32 → Int32 → Int32 → Int32 → mS → Prop} {post post1 post2 : mS → Prop} {x2 : Int32} {x4 : Int32} {x6 : Int32} {x7 : Int32} {u : mS} (h : wj_X9_function_262 K156 post x2 x4 x6 x7 u) (g : wj_X9_function_262 K1561 post1 x2 x4 x6 x7 u) (hK156 : ∀ (b0_ : Int32) (b1_ : Int32) (b2_ : Int32) (b3_ : Int32) (b4_ : mS), K156 b0_ b1_ b2_ b3_ b4_ → K1561 b0_ b1_ b2_ b3_ b4_ → K1562 b0_ b1_ b2_ b3_ b4_) (hp : ∀ (b0_ : mS), post b0_ → post1 b0_ → post2 b0_) : wj_X9_function_262 K1562 post2 x2 x4 x6 x7 u := by
  intro y1 e2
  have h3 := h y1 e2
  have g4 := g y1 e2
  refine ⟨fun c5 => ?_, fun c6 => ?_⟩
  · have h7 := h3.1 c5
    have g8 := g4.1 c5
    intro y9 e10
    have h11 := h7 y9 e10
    have g12 := g8 y9 e10
    exact j_wj_X9_function_283 h11 g12 hK156 hp
  · have h13 := h3.2 c6
    have g14 := g4.2 c6
    intro y15 e16
    have h17 := h13 y15 e16
    have g18 := g14 y15 e16
    intro y19 e20
    have h21 := h17 y19 e20
    have g22 := g18 y19 e20
    exact j_wj_X9_function_283 h21 g22 hK156 hp
theorem j_wj_X9_function_177 {K177 K1771 K1772 : Int32 → Int32 → Int32 → Int32 → Int32 → mS → Prop} {K156 K1561 K1562 : Int32 → Int32 → Int32 → Int32 → mS → Prop} {post post1 post2 : mS → Prop} {x2 : Int32} {x4 : Int32} {x6 : Int32} {x7 : Int32} {x8 : Int32} {u : mS} (h : wj_X9_function_177 K177 K156 post x2 x4 x6 x7 x8 u) (g : wj_X9_function_177 K1771 K1561 post1 x2 x4 x6 x7 x8 u) (hK177 : ∀ (b0_ : Int32) (b1_ : Int32) (b2_ : Int32) (b3_ : Int32) (b4_ : Int32) (b5_ : mS), K177 b0_ b1_ b2_ b3_ b4_ b5_ → K1771 b0_ b1_ b2_ b3_ b4_ b5_ → K1772 b0_ b1_ b2_ b3_ b4_ b5_) (hK156 : ∀ (b0_ : Int32) (b1_ : Int32) (b2_ : Int32) (b3_ : Int32) (b4_ : mS), K156 b0_ b1_ b2_ b3_ b4_ → K1561 b0_ b1_ b2_ b3_ b4_ → K1562 b0_ b1_ b2_ b3_ b4_) (hp : ∀ (b0_ : mS), post b0_ → post1 b0_ → post2 b0_) : wj_X9_function_177 K1772 K1562 post2 x2 x4 x6 x7 x8 u := by
  refine ⟨fun c1 => ?_, fun c2 => ?_⟩
  · have h3 := h.1 c1
    have g4 := g.1 c1
    intro y5 e6
    have h7 := h3 y5 e6
    have g8 := g4 y5 e6
    refine ⟨fun c9 => ?_, fun c10 => ?_⟩
    · have h11 := h7.1 c9
      have g12 := g8.1 c9
      exact j_wj_X9_function_262 h11 g12 hK156 hp
    · have h13 := h7.2 c10
      have g14 := g8.2 c10
      refine j_wp_X9_what_2 h13 g14 (fun w17 w18 h15 g16 => ?_)
      refine ⟨h15.1, ?_⟩
      have h19 := h15.2
      have g20 := g16.2
      intro y21 e22
      have h23 := h19 y21 e22
      have g24 := g20 y21 e22
      intro y25 e26
      have h27 := h23 y25 e26
      have g28 := g24 y25 e26
      refine j_wp_X9_bind h27 g28 (fun w31 h29 g30 => ?_)
      exact j_wj_X9_function_262 h29 g30 hK156 hp
  · have h32 := h.2 c2
    have g33 := g.2 c2
    refine ⟨h32.1, ?_⟩
    have h34 := h32.2
    have g35 := g33.2
    intro y36 e37
    have h38 := h34 y36 e37
    have g39 := g35 y36 e37
    refine ⟨h38.1, ?_⟩
    have h40 := h38.2
    have g41 := g39.2
    intro y42 e43
    have h44 := h40 y42 e43
    have g45 := g41 y42 e43
    refine ⟨fun c46 => ?_, fun c47 => ?_⟩
    · have h48 := h44.1 c46
      have g49 := g45.1 c46
      exact j_wj_X9_function_223 h48 g49 hK156 hK177 hp
    · have h50 := h44.2 c47
      have g51 := g45.2 c47
      refine ⟨h50.1, ?_⟩
      have h52 := h50.2
      have g53 := g51.2
      intro y54 e55
      have h56 := h52 y54 e55
      have g57 := g53 y54 e55
      refine ⟨h56.1, ?_⟩
      have h58 := h56.2
      have g59 := g57.2
      intro y60 e61
      have h62 := h58 y60 e61
      have g63 := g59 y60 e61
      refine ⟨fun c64 => ?_, fun c65 => ?_⟩
      · have h66 := h62.1 c64
        have g67 := g63.1 c64
        exact j_wj_X9_function_223 h66 g67 hK156 hK177 hp
      · have h68 := h62.2 c65
        have g69 := g63.2 c65
        refine j_wp_X9_fails h68 g69 (fun w72 h70 g71 => ?_)
        exact j_wj_X9_function_223 h70 g71 hK156 hK177 hp
theorem j_wj_X9_function_333 {K333 K3331 K3332 : Int32 → Int32 → mS → Prop} {post post1 post2 : mS → Prop} {x4 : Int32} {x7 : Int32} {u : mS} (h : wj_X9_function_333 K333 post x4 x7 u) (g : wj_X9_function_333 K3331 post1 x4 x7 u) (hK333 : ∀ (b0_ : Int32) (b1_ : Int32) (b2_ : mS), K333 b0_ b1_ b2_ → K3331 b0_ b1_ b2_ → K3332 b0_ b1_ b2_) (hp : ∀ (b0_ : mS), post b0_ → post1 b0_ → post2 b0_) : wj_X9_function_333 K3332 post2 x4 x7 u := by
  intro y1 e2
  have h3 := h y1 e2
  have g4 := g y1 e2
  refine ⟨fun c5 => ?_, fun c6 => ?_⟩
  · have h7 := h3.1 c5
    have g8 := g4.1 c5
    refine j_wp_X9_putClose h7 g8 (fun w11 h9 g10 => ?_)
    intro y12 e13
    have h14 := h9 y12 e13
    have g15 := g10 y12 e13
    intro y16 e17
    have h18 := h14 y16 e17
    have g19 := g15 y16 e17
    intro y20 e21
    have h22 := h18 y20 e21
    have g23 := g19 y20 e21
    intro y24 e25
    have h26 := h22 y24 e25
    have g27 := g23 y24 e25
    exact hp _ h26 g27
  · have h28 := h3.2 c6
    have g29 := g4.2 c6
    refine j_wp_X9_putVariable h28 g29 (fun w32 h30 g31 => ?_)
    intro y33 e34
    have h35 := h30 y33 e34
    have g36 := g31 y33 e34
    exact hK333 _ _ _ h35 g36
theorem j_wj_X9_function_292 {post post1 post2 : mS → Prop} {x4 : Int32} {x6 : Int32} {u : mS} (h : wj_X9_function_292 post x4 x6 u) (g : wj_X9_function_292 post1 x4 x6 u) (hp : ∀ (b0_ : mS), post b0_ → post1 b0_ → post2 b0_) : wj_X9_function_292 post2 x4 x6 u := by
  intro y1 e2
  have h3 := h y1 e2
  have g4 := g y1 e2
  refine ⟨fun c5 => ?_, fun c6 => ?_⟩
  · have h7 := h3.1 c5
    have g8 := g4.1 c5
    refine j_wp_X9_putOpen h7 g8 (fun w11 h9 g10 => ?_)
    refine j_wp_X9_space h9 g10 (fun w14 h12 g13 => ?_)
    intro y15 e16
    have h17 := h12 y15 e16
    have g18 := g13 y15 e16
    intro y19 e20
    have h21 := h17 y19 e20
    have g22 := g18 y19 e20
    refine j_wp_X9_what_2 h21 g22 (fun w25 w26 h23 g24 => ?_)
    refine j_wp_X9_putName h23 g24 (fun w29 h27 g28 => ?_)
    refine j_wp_X9_putOpen h27 g28 (fun w32 h30 g31 => ?_)
    obtain ⟨n33, h35⟩ := h30
    obtain ⟨m34, g36⟩ := g31
    refine ⟨n33, mL3_j ?_ n33 m34 _ _ _ h35 g36⟩
    intro K_ L_ M_ hK_ _ _ _ a_ b_
    exact j_wj_X9_function_333 a_ b_ hK_ hp
  · have h37 := h3.2 c6
    have g38 := g4.2 c6
    exact hp _ h37 g38
theorem j_wj_X9_function_156 {K156 K1561 K1562 : Int32 → Int32 → Int32 → Int32 → mS → Prop} {post post1 post2 : mS → Prop} {x2 : Int32} {x4 : Int32} {x6 : Int32} {x7 : Int32} {u : mS} (h : wj_X9_function_156 K156 post x2 x4 x6 x7 u) (g : wj_X9_function_156 K1561 post1 x2 x4 x6 x7 u) (hK156 : ∀ (b0_ : Int32) (b1_ : Int32) (b2_ : Int32) (b3_ : Int32) (b4_ : mS), K156 b0_ b1_ b2_ b3_ b4_ → K1561 b0_ b1_ b2_ b3_ b4_ → K1562 b0_ b1_ b2_ b3_ b4_) (hp : ∀ (b0_ : mS), post b0_ → post1 b0_ → post2 b0_) : wj_X9_function_156 K1562 post2 x2 x4 x6 x7 u := by
  intro y1 e2
  have h3 := h y1 e2
  have g4 := g y1 e2
  refine ⟨fun c5 => ?_, fun c6 => ?_⟩
  · have h7 := h3.1 c5
    have g8 := g4.1 c5
    exact j_wj_X9_function_292 h7 g8 hp
  · have h9 := h3.2 c6
    have g10 := g4.2 c6
    intro y11 e12
    have h13 := h9 y11 e12
    have g14 := g10 y11 e12
    refine ⟨fun c15 => ?_, fun c16 => ?_⟩
    · have h17 := h13.1 c15
      have g18 := g14.1 c15
      exact j_wj_X9_function_292 h17 g18 hp
    · have h19 := h13.2 c16
      have g20 := g14.2 c16
      intro y21 e22
      have h23 := h19 y21 e22
      have g24 := g20 y21 e22
      obtain ⟨n25, h27⟩ := h23
      obtain ⟨m26, g28⟩ := g24
      refine ⟨n25, mL6_j ?_ n25 m26 _ _ _ _ _ _ h27 g28⟩
      intro K_ L_ M_ hK_ _ _ _ _ _ _ a_ b_
      exact j_wj_X9_function_177 a_ b_ hK_ hK156 hp
theorem j_wj_X9_function_75 {K75 K751 K752 : Int32 → Int32 → Int32 → Int32 → Int32 → mS → Prop} {post post1 post2 : mS → Prop} {x1 : Int32} {x2 : Int32} {x3 : Int32} {x4 : Int32} {x5 : Int32} {u : mS} (h : wj_X9_function_75 K75 post x1 x2 x3 x4 x5 u) (g : wj_X9_function_75 K751 post1 x1 x2 x3 x4 x5 u) (hK75 : ∀ (b0_ : Int32) (b1_ : Int32) (b2_ : Int32) (b3_ : Int32) (b4_ : Int32) (b5_ : mS), K75 b0_ b1_ b2_ b3_ b4_ b5_ → K751 b0_ b1_ b2_ b3_ b4_ b5_ → K752 b0_ b1_ b2_ b3_ b4_ b5_) (hp : ∀ (b0_ : mS), post b0_ → post1 b0_ → post2 b0_) : wj_X9_function_75 K752 post2 x1 x2 x3 x4 x5 u := by
  intro y1 e2
  have h3 := h y1 e2
  have g4 := g y1 e2
  refine ⟨fun c5 => ?_, fun c6 => ?_⟩
  · have h7 := h3.1 c5
    have g8 := g4.1 c5
    refine ⟨fun c9 => ?_, fun c10 => ?_⟩
    · have h11 := h7.1 c9
      have g12 := g8.1 c9
      refine j_wp_X9_scope h11 g12 (fun w15 w16 h13 g14 => ?_)
      intro y17 e18
      have h19 := h13 y17 e18
      have g20 := g14 y17 e18
      refine ⟨fun c21 => ?_, fun c22 => ?_⟩
      · have h23 := h19.1 c21
        have g24 := g20.1 c21
        refine j_wp_X9_give h23 g24 (fun w27 h25 g26 => ?_)
        intro y28 e29
        have h30 := h25 y28 e29
        have g31 := g26 y28 e29
        intro y32 e33
        have h34 := h30 y32 e33
        have g35 := g31 y32 e33
        obtain ⟨n36, h38⟩ := h34
        obtain ⟨m37, g39⟩ := g35
        refine ⟨n36, mL5_j ?_ n36 m37 _ _ _ _ _ h38 g39⟩
        intro K_ L_ M_ hK_ _ _ _ _ _ a_ b_
        exact j_wj_X9_function_156 a_ b_ hK_ hp
      · have h40 := h19.2 c22
        have g41 := g20.2 c22
        exact hp _ h40 g41
    · have h42 := h7.2 c10
      have g43 := g8.2 c10
      refine j_wp_X9_fails h42 g43 (fun w46 h44 g45 => ?_)
      exact hp _ h44 g45
  · have h47 := h3.2 c6
    have g48 := g4.2 c6
    refine ⟨fun c49 => ?_, fun c50 => ?_⟩
    · have h51 := h47.1 c49
      have g52 := g48.1 c49
      exact j_wj_X9_function_105 h51 g52 hK75 hp
    · have h53 := h47.2 c50
      have g54 := g48.2 c50
      refine j_wp_X9_kind_2 h53 g54 (fun w57 w58 h55 g56 => ?_)
      refine ⟨fun c59 => ?_, fun c60 => ?_⟩
      · have h61 := h55.1 c59
        have g62 := g56.1 c59
        exact j_wj_X9_function_105 h61 g62 hK75 hp
      · have h63 := h55.2 c60
        have g64 := g56.2 c60
        exact j_wj_X9_function_106 h63 g64 hK75 hp
theorem j_wj_X9_function_68 {post post1 post2 : mS → Prop} {x1 : Int32} {x2 : Int32} {x3 : Int32} {z0 : Int32} {u : mS} (h : wj_X9_function_68 post x1 x2 x3 z0 u) (g : wj_X9_function_68 post1 x1 x2 x3 z0 u) (hp : ∀ (b0_ : mS), post b0_ → post1 b0_ → post2 b0_) : wj_X9_function_68 post2 x1 x2 x3 z0 u := by
  intro y1 e2
  have h3 := h y1 e2
  have g4 := g y1 e2
  obtain ⟨n5, h7⟩ := h3
  obtain ⟨m6, g8⟩ := g4
  refine ⟨n5, mL6_j ?_ n5 m6 _ _ _ _ _ _ h7 g8⟩
  intro K_ L_ M_ hK_ _ _ _ _ _ _ a_ b_
  exact j_wj_X9_function_75 a_ b_ hK_ hp
theorem j_wj_X9_function_51 {post post1 post2 : mS → Prop} {x1 : Int32} {x2 : Int32} {z0 : Int32} {u : mS} (h : wj_X9_function_51 post x1 x2 z0 u) (g : wj_X9_function_51 post1 x1 x2 z0 u) (hp : ∀ (b0_ : mS), post b0_ → post1 b0_ → post2 b0_) : wj_X9_function_51 post2 x1 x2 z0 u := by
  refine ⟨fun c1 => ?_, fun c2 => ?_⟩
  · have h3 := h.1 c1
    have g4 := g.1 c1
    exact j_wj_X9_function_68 h3 g4 hp
  · have h5 := h.2 c2
    have g6 := g.2 c2
    refine j_wp_X9_end_2 h5 g6 (fun w9 w10 h7 g8 => ?_)
    exact j_wj_X9_function_68 h7 g8 hp
theorem j_wj_X9_function_50 {post post1 post2 : mS → Prop} {x1 : Int32} {x2 : Int32} {u : mS} (h : wj_X9_function_50 post x1 x2 u) (g : wj_X9_function_50 post1 x1 x2 u) (hp : ∀ (b0_ : mS), post b0_ → post1 b0_ → post2 b0_) : wj_X9_function_50 post2 x1 x2 u := by
  exact j_wj_X9_function_51 h g hp
theorem j_wp_X9_function {u : mS} {post post1 post2 : mS → Prop} (h : wp_X9_function u post) (g : wp_X9_function u post1) (hp : ∀ (b0_ : mS), post b0_ → post1 b0_ → post2 b0_) : wp_X9_function u post2 := by
  intro y1 e2
  have h3 := h y1 e2
  have g4 := g y1 e2
  refine j_wp_X9_end_2 h3 g4 (fun w7 w8 h5 g6 => ?_)
  intro y9 e10
  have h11 := h5 y9 e10
  have g12 := g6 y9 e10
  intro y13 e14
  have h15 := h11 y13 e14
  have g16 := g12 y13 e14
  intro y17 e18
  have h19 := h15 y17 e18
  have g20 := g16 y17 e18
  refine j_wp_X9_isPlain_2 h19 g20 (fun w23 w24 h21 g22 => ?_)
  refine ⟨fun c25 => ?_, fun c26 => ?_⟩
  · have h27 := h21.1 c25
    have g28 := g22.1 c25
    exact j_wj_X9_function_50 h27 g28 hp
  · have h29 := h21.2 c26
    have g30 := g22.2 c26
    refine j_wp_X9_kind_2 h29 g30 (fun w33 w34 h31 g32 => ?_)
    refine ⟨fun c35 => ?_, fun c36 => ?_⟩
    · have h37 := h31.1 c35
      have g38 := g32.1 c35
      exact j_wj_X9_function_50 h37 g38 hp
    · have h39 := h31.2 c36
      have g40 := g32.2 c36
      exact j_wj_X9_function_51 h39 g40 hp
theorem j_wj_X9_form_148 {post post1 post2 : mS → Prop} {x2 : Int32} {u : mS} (h : wj_X9_form_148 post x2 u) (g : wj_X9_form_148 post1 x2 u) (hp : ∀ (b0_ : mS), post b0_ → post1 b0_ → post2 b0_) : wj_X9_form_148 post2 x2 u := by
  intro y1 e2
  have h3 := h y1 e2
  have g4 := g y1 e2
  exact hp _ h3 g4
theorem j_wj_X9_form_125 {K125 K1251 K1252 : Int32 → Int32 → mS → Prop} {post post1 post2 : mS → Prop} {x2 : Int32} {x3 : Int32} {u : mS} (h : wj_X9_form_125 K125 post x2 x3 u) (g : wj_X9_form_125 K1251 post1 x2 x3 u) (hK125 : ∀ (b0_ : Int32) (b1_ : Int32) (b2_ : mS), K125 b0_ b1_ b2_ → K1251 b0_ b1_ b2_ → K1252 b0_ b1_ b2_) (hp : ∀ (b0_ : mS), post b0_ → post1 b0_ → post2 b0_) : wj_X9_form_125 K1252 post2 x2 x3 u := by
  refine ⟨fun c1 => ?_, fun c2 => ?_⟩
  · have h3 := h.1 c1
    have g4 := g.1 c1
    exact j_wj_X9_form_148 h3 g4 hp
  · have h5 := h.2 c2
    have g6 := g.2 c2
    intro y7 e8
    have h9 := h5 y7 e8
    have g10 := g6 y7 e8
    refine ⟨fun c11 => ?_, fun c12 => ?_⟩
    · have h13 := h9.1 c11
      have g14 := g10.1 c11
      exact j_wj_X9_form_148 h13 g14 hp
    · have h15 := h9.2 c12
      have g16 := g10.2 c12
      refine j_wp_X9_putToken h15 g16 (fun w19 h17 g18 => ?_)
      intro y20 e21
      have h22 := h17 y20 e21
      have g23 := g18 y20 e21
      exact hK125 _ _ _ h22 g23
theorem j_wj_X9_form_41 {post post1 post2 : mS → Prop} {x1 : Int32} {z0 : Int32} {z1 : Int32} {u : mS} (h : wj_X9_form_41 post x1 z0 z1 u) (g : wj_X9_form_41 post1 x1 z0 z1 u) (hp : ∀ (b0_ : mS), post b0_ → post1 b0_ → post2 b0_) : wj_X9_form_41 post2 x1 z0 z1 u := by
  refine j_wp_X9_isPlain_2 h g (fun w3 w4 h1 g2 => ?_)
  refine ⟨fun c5 => ?_, fun c6 => ?_⟩
  · have h7 := h1.1 c5
    have g8 := g2.1 c5
    refine ⟨fun c9 => ?_, fun c10 => ?_⟩
    · have h11 := h7.1 c9
      have g12 := g8.1 c9
      intro y13 e14
      have h15 := h11 y13 e14
      have g16 := g12 y13 e14
      refine j_wp_X9_end_2 h15 g16 (fun w19 w20 h17 g18 => ?_)
      intro y21 e22
      have h23 := h17 y21 e22
      have g24 := g18 y21 e22
      obtain ⟨n25, h27⟩ := h23
      obtain ⟨m26, g28⟩ := g24
      refine ⟨n25, mL3_j ?_ n25 m26 _ _ _ h27 g28⟩
      intro K_ L_ M_ hK_ _ _ _ a_ b_
      exact j_wj_X9_form_125 a_ b_ hK_ hp
    · have h29 := h7.2 c10
      have g30 := g8.2 c10
      refine j_wp_X9_putOpen h29 g30 (fun w33 h31 g32 => ?_)
      refine j_wp_X9_space h31 g32 (fun w36 h34 g35 => ?_)
      intro y37 e38
      have h39 := h34 y37 e38
      have g40 := g35 y37 e38
      intro y41 e42
      have h43 := h39 y41 e42
      have g44 := g40 y41 e42
      refine j_wp_X9_what_2 h43 g44 (fun w47 w48 h45 g46 => ?_)
      refine j_wp_X9_putName h45 g46 (fun w51 h49 g50 => ?_)
      intro y52 e53
      have h54 := h49 y52 e53
      have g55 := g50 y52 e53
      intro y56 e57
      have h58 := h54 y56 e57
      have g59 := g55 y56 e57
      intro y60 e61
      have h62 := h58 y60 e61
      have g63 := g59 y60 e61
      intro y64 e65
      have h66 := h62 y64 e65
      have g67 := g63 y64 e65
      intro y68 e69
      have h70 := h66 y68 e69
      have g71 := g67 y68 e69
      intro y72 e73
      have h74 := h70 y72 e73
      have g75 := g71 y72 e73
      exact hp _ h74 g75
  · have h76 := h1.2 c6
    have g77 := g2.2 c6
    refine j_wp_X9_fails h76 g77 (fun w80 h78 g79 => ?_)
    exact hp _ h78 g79
theorem j_wp_X9_form {x1 : Int32} {u : mS} {post post1 post2 : mS → Prop} (h : wp_X9_form x1 u post) (g : wp_X9_form x1 u post1) (hp : ∀ (b0_ : mS), post b0_ → post1 b0_ → post2 b0_) : wp_X9_form x1 u post2 := by
  refine ⟨fun c1 => ?_, fun c2 => ?_⟩
  · have h3 := h.1 c1
    have g4 := g.1 c1
    refine ⟨fun c5 => ?_, fun c6 => ?_⟩
    · have h7 := h3.1 c5
      have g8 := g4.1 c5
      intro y9 e10
      have h11 := h7 y9 e10
      have g12 := g8 y9 e10
      refine ⟨fun c13 => ?_, fun c14 => ?_⟩
      · have h15 := h11.1 c13
        have g16 := g12.1 c13
        exact j_wj_X9_form_41 h15 g16 hp
      · have h17 := h11.2 c14
        have g18 := g12.2 c14
        exact j_wj_X9_form_41 h17 g18 hp
    · have h19 := h3.2 c6
      have g20 := g4.2 c6
      refine j_wp_X9_local h19 g20 (fun w23 h21 g22 => ?_)
      exact hp _ h21 g22
  · have h24 := h.2 c2
    have g25 := g.2 c2
    refine j_wp_X9_function h24 g25 (fun w28 h26 g27 => ?_)
    exact hp _ h26 g27
theorem j_wj_X9_turn_2_3_37 {K3 K31 K32 : Int32 → Int32 → Int32 → mS → Prop} {post post1 post2 : mS → Prop} {x4 : Int32} {x5 : Int32} {x6 : Int32} {z0 : Int32} {z1 : Int32} {u : mS} (h : wj_X9_turn_2_3_37 K3 post x4 x5 x6 z0 z1 u) (g : wj_X9_turn_2_3_37 K31 post1 x4 x5 x6 z0 z1 u) (hK3 : ∀ (b0_ : Int32) (b1_ : Int32) (b2_ : Int32) (b3_ : mS), K3 b0_ b1_ b2_ b3_ → K31 b0_ b1_ b2_ b3_ → K32 b0_ b1_ b2_ b3_) (hp : ∀ (b0_ : mS), post b0_ → post1 b0_ → post2 b0_) : wj_X9_turn_2_3_37 K32 post2 x4 x5 x6 z0 z1 u := by
  refine ⟨h.1, ?_⟩
  have h1 := h.2
  have g2 := g.2
  intro y3 e4
  have h5 := h1 y3 e4
  have g6 := g2 y3 e4
  intro y7 e8
  have h9 := h5 y7 e8
  have g10 := g6 y7 e8
  exact hK3 _ _ _ _ h9 g10
theorem j_wj_X9_turn_2_3_3 {K3 K31 K32 : Int32 → Int32 → Int32 → mS → Prop} {post post1 post2 : mS → Prop} {x4 : Int32} {x5 : Int32} {x6 : Int32} {u : mS} (h : wj_X9_turn_2_3_3 K3 post x4 x5 x6 u) (g : wj_X9_turn_2_3_3 K31 post1 x4 x5 x6 u) (hK3 : ∀ (b0_ : Int32) (b1_ : Int32) (b2_ : Int32) (b3_ : mS), K3 b0_ b1_ b2_ b3_ → K31 b0_ b1_ b2_ b3_ → K32 b0_ b1_ b2_ b3_) (hp : ∀ (b0_ : mS), post b0_ → post1 b0_ → post2 b0_) : wj_X9_turn_2_3_3 K32 post2 x4 x5 x6 u := by
  refine ⟨fun c1 => ?_, fun c2 => ?_⟩
  · have h3 := h.1 c1
    have g4 := g.1 c1
    exact hp _ h3 g4
  · have h5 := h.2 c2
    have g6 := g.2 c2
    refine j_wp_X9_kind_2 h5 g6 (fun w9 w10 h7 g8 => ?_)
    refine ⟨fun c11 => ?_, fun c12 => ?_⟩
    · have h13 := h7.1 c11
      have g14 := g8.1 c11
      refine ⟨h13.1, ?_⟩
      have h15 := h13.2
      have g16 := g14.2
      intro y17 e18
      have h19 := h15 y17 e18
      have g20 := g16 y17 e18
      exact j_wj_X9_turn_2_3_37 h19 g20 hK3 hp
    · have h21 := h7.2 c12
      have g22 := g8.2 c12
      refine ⟨h21.1, ?_⟩
      have h23 := h21.2
      have g24 := g22.2
      intro y25 e26
      have h27 := h23 y25 e26
      have g28 := g24 y25 e26
      intro y29 e30
      have h31 := h27 y29 e30
      have g32 := g28 y29 e30
      exact j_wj_X9_turn_2_3_37 h31 g32 hK3 hp
theorem j_wp_X9_turn_2_3 {x3 : Int32} {x4 : Int32} {x5 : Int32} {u : mS} {post post1 post2 : mS → Prop} (h : wp_X9_turn_2_3 x3 x4 x5 u post) (g : wp_X9_turn_2_3 x3 x4 x5 u post1) (hp : ∀ (b0_ : mS), post b0_ → post1 b0_ → post2 b0_) : wp_X9_turn_2_3 x3 x4 x5 u post2 := by
  obtain ⟨n1, h3⟩ := h
  obtain ⟨m2, g4⟩ := g
  refine ⟨n1, mL4_j ?_ n1 m2 _ _ _ _ h3 g4⟩
  intro K_ L_ M_ hK_ _ _ _ _ a_ b_
  exact j_wj_X9_turn_2_3_3 a_ b_ hK_ hp
theorem j_wj_X9_pairs_177 {K105 K1051 K1052 : Int32 → Int32 → Int32 → Int32 → Int32 → Int32 → Int32 → mS → Prop} {post post1 post2 : Int32 → mS → Prop} {x4 : Int32} {x5 : Int32} {x7 : Int32} {x8 : Int32} {x10 : Int32} {x11 : Int32} {z0 : Int32} {u : mS} (h : wj_X9_pairs_177 K105 post x4 x5 x7 x8 x10 x11 z0 u) (g : wj_X9_pairs_177 K1051 post1 x4 x5 x7 x8 x10 x11 z0 u) (hK105 : ∀ (b0_ : Int32) (b1_ : Int32) (b2_ : Int32) (b3_ : Int32) (b4_ : Int32) (b5_ : Int32) (b6_ : Int32) (b7_ : mS), K105 b0_ b1_ b2_ b3_ b4_ b5_ b6_ b7_ → K1051 b0_ b1_ b2_ b3_ b4_ b5_ b6_ b7_ → K1052 b0_ b1_ b2_ b3_ b4_ b5_ b6_ b7_) (hp : ∀ (b0_ : Int32) (b1_ : mS), post b0_ b1_ → post1 b0_ b1_ → post2 b0_ b1_) : wj_X9_pairs_177 K1052 post2 x4 x5 x7 x8 x10 x11 z0 u := by
  intro y1 e2
  have h3 := h y1 e2
  have g4 := g y1 e2
  exact hK105 _ _ _ _ _ _ _ _ h3 g4
theorem j_wj_X9_pairs_143 {K105 K1051 K1052 : Int32 → Int32 → Int32 → Int32 → Int32 → Int32 → Int32 → mS → Prop} {post post1 post2 : Int32 → mS → Prop} {x4 : Int32} {x5 : Int32} {x7 : Int32} {x8 : Int32} {x9 : Int32} {x10 : Int32} {x11 : Int32} {u : mS} (h : wj_X9_pairs_143 K105 post x4 x5 x7 x8 x9 x10 x11 u) (g : wj_X9_pairs_143 K1051 post1 x4 x5 x7 x8 x9 x10 x11 u) (hK105 : ∀ (b0_ : Int32) (b1_ : Int32) (b2_ : Int32) (b3_ : Int32) (b4_ : Int32) (b5_ : Int32) (b6_ : Int32) (b7_ : mS), K105 b0_ b1_ b2_ b3_ b4_ b5_ b6_ b7_ → K1051 b0_ b1_ b2_ b3_ b4_ b5_ b6_ b7_ → K1052 b0_ b1_ b2_ b3_ b4_ b5_ b6_ b7_) (hp : ∀ (b0_ : Int32) (b1_ : mS), post b0_ b1_ → post1 b0_ b1_ → post2 b0_ b1_) : wj_X9_pairs_143 K1052 post2 x4 x5 x7 x8 x9 x10 x11 u := by
  refine j_wp_X9_end_2 h g (fun w3 w4 h1 g2 => ?_)
  intro y5 e6
  have h7 := h1 y5 e6
  have g8 := g2 y5 e6
  refine ⟨fun c9 => ?_, fun c10 => ?_⟩
  · have h11 := h7.1 c9
    have g12 := g8.1 c9
    exact j_wj_X9_pairs_177 h11 g12 hK105 hp
  · have h13 := h7.2 c10
    have g14 := g8.2 c10
    refine j_wp_X9_end_4 h13 g14 (fun w17 w18 h15 g16 => ?_)
    exact j_wj_X9_pairs_177 h15 g16 hK105 hp
theorem j_wj_X9_pairs_122 {K105 K1051 K1052 : Int32 → Int32 → Int32 → Int32 → Int32 → Int32 → Int32 → mS → Prop} {post post1 post2 : Int32 → mS → Prop} {x4 : Int32} {x5 : Int32} {x7 : Int32} {x8 : Int32} {x9 : Int32} {x10 : Int32} {x11 : Int32} {u : mS} (h : wj_X9_pairs_122 K105 post x4 x5 x7 x8 x9 x10 x11 u) (g : wj_X9_pairs_122 K1051 post1 x4 x5 x7 x8 x9 x10 x11 u) (hK105 : ∀ (b0_ : Int32) (b1_ : Int32) (b2_ : Int32) (b3_ : Int32) (b4_ : Int32) (b5_ : Int32) (b6_ : Int32) (b7_ : mS), K105 b0_ b1_ b2_ b3_ b4_ b5_ b6_ b7_ → K1051 b0_ b1_ b2_ b3_ b4_ b5_ b6_ b7_ → K1052 b0_ b1_ b2_ b3_ b4_ b5_ b6_ b7_) (hp : ∀ (b0_ : Int32) (b1_ : mS), post b0_ b1_ → post1 b0_ b1_ → post2 b0_ b1_) : wj_X9_pairs_122 K1052 post2 x4 x5 x7 x8 x9 x10 x11 u := by
  refine ⟨h.1, ?_⟩
  have h1 := h.2
  have g2 := g.2
  intro y3 e4
  have h5 := h1 y3 e4
  have g6 := g2 y3 e4
  refine ⟨h5.1, ?_⟩
  have h7 := h5.2
  have g8 := g6.2
  intro y9 e10
  have h11 := h7 y9 e10
  have g12 := g8 y9 e10
  intro y13 e14
  have h15 := h11 y13 e14
  have g16 := g12 y13 e14
  exact j_wj_X9_pairs_143 h15 g16 hK105 hp
theorem j_wj_X9_pairs_105 {K105 K1051 K1052 : Int32 → Int32 → Int32 → Int32 → Int32 → Int32 → Int32 → mS → Prop} {post post1 post2 : Int32 → mS → Prop} {x4 : Int32} {x5 : Int32} {x7 : Int32} {x8 : Int32} {x9 : Int32} {x10 : Int32} {x11 : Int32} {u : mS} (h : wj_X9_pairs_105 K105 post x4 x5 x7 x8 x9 x10 x11 u) (g : wj_X9_pairs_105 K1051 post1 x4 x5 x7 x8 x9 x10 x11 u) (hK105 : ∀ (b0_ : Int32) (b1_ : Int32) (b2_ : Int32) (b3_ : Int32) (b4_ : Int32) (b5_ : Int32) (b6_ : Int32) (b7_ : mS), K105 b0_ b1_ b2_ b3_ b4_ b5_ b6_ b7_ → K1051 b0_ b1_ b2_ b3_ b4_ b5_ b6_ b7_ → K1052 b0_ b1_ b2_ b3_ b4_ b5_ b6_ b7_) (hp : ∀ (b0_ : Int32) (b1_ : mS), post b0_ b1_ → post1 b0_ b1_ → post2 b0_ b1_) : wj_X9_pairs_105 K1052 post2 x4 x5 x7 x8 x9 x10 x11 u := by
  refine ⟨fun c1 => ?_, fun c2 => ?_⟩
  · have h3 := h.1 c1
    have g4 := g.1 c1
    exact hp _ _ h3 g4
  · have h5 := h.2 c2
    have g6 := g.2 c2
    refine ⟨fun c7 => ?_, fun c8 => ?_⟩
    · have h9 := h5.1 c7
      have g10 := g6.1 c7
      exact j_wj_X9_pairs_122 h9 g10 hK105 hp
    · have h11 := h5.2 c8
      have g12 := g6.2 c8
      refine ⟨fun c13 => ?_, fun c14 => ?_⟩
      · have h15 := h11.1 c13
        have g16 := g12.1 c13
        exact j_wj_X9_pairs_143 h15 g16 hK105 hp
      · have h17 := h11.2 c14
        have g18 := g12.2 c14
        exact j_wj_X9_pairs_122 h17 g18 hK105 hp
theorem j_wj_X9_pairs_89 {post post1 post2 : Int32 → mS → Prop} {x1 : Int32} {x2 : Int32} {x3 : Int32} {x4 : Int32} {x5 : Int32} {x7 : Int32} {u : mS} (h : wj_X9_pairs_89 post x1 x2 x3 x4 x5 x7 u) (g : wj_X9_pairs_89 post1 x1 x2 x3 x4 x5 x7 u) (hp : ∀ (b0_ : Int32) (b1_ : mS), post b0_ b1_ → post1 b0_ b1_ → post2 b0_ b1_) : wj_X9_pairs_89 post2 x1 x2 x3 x4 x5 x7 u := by
  intro y1 e2
  have h3 := h y1 e2
  have g4 := g y1 e2
  intro y5 e6
  have h7 := h3 y5 e6
  have g8 := g4 y5 e6
  obtain ⟨n9, h11⟩ := h7
  obtain ⟨m10, g12⟩ := g8
  refine ⟨n9, mL8_j ?_ n9 m10 _ _ _ _ _ _ _ _ h11 g12⟩
  intro K_ L_ M_ hK_ _ _ _ _ _ _ _ _ a_ b_
  exact j_wj_X9_pairs_105 a_ b_ hK_ hp
theorem j_wj_X9_pairs_51 {post post1 post2 : Int32 → mS → Prop} {x1 : Int32} {x2 : Int32} {x3 : Int32} {x4 : Int32} {x5 : Int32} {z0 : Int32} {u : mS} (h : wj_X9_pairs_51 post x1 x2 x3 x4 x5 z0 u) (g : wj_X9_pairs_51 post1 x1 x2 x3 x4 x5 z0 u) (hp : ∀ (b0_ : Int32) (b1_ : mS), post b0_ b1_ → post1 b0_ b1_ → post2 b0_ b1_) : wj_X9_pairs_51 post2 x1 x2 x3 x4 x5 z0 u := by
  refine j_wp_X9_count_2 h g (fun w3 w4 h1 g2 => ?_)
  refine ⟨fun c5 => ?_, fun c6 => ?_⟩
  · have h7 := h1.1 c5
    have g8 := g2.1 c5
    refine ⟨fun c9 => ?_, fun c10 => ?_⟩
    · have h11 := h7.1 c9
      have g12 := g8.1 c9
      exact j_wj_X9_pairs_89 h11 g12 hp
    · have h13 := h7.2 c10
      have g14 := g8.2 c10
      exact hp _ _ h13 g14
  · have h15 := h1.2 c6
    have g16 := g2.2 c6
    intro y17 e18
    have h19 := h15 y17 e18
    have g20 := g16 y17 e18
    refine ⟨fun c21 => ?_, fun c22 => ?_⟩
    · have h23 := h19.1 c21
      have g24 := g20.1 c21
      exact j_wj_X9_pairs_89 h23 g24 hp
    · have h25 := h19.2 c22
      have g26 := g20.2 c22
      exact hp _ _ h25 g26
theorem j_wp_X9_pairs {x1 : Int32} {x2 : Int32} {x3 : Int32} {x4 : Int32} {u : mS} {post post1 post2 : Int32 → mS → Prop} (h : wp_X9_pairs x1 x2 x3 x4 u post) (g : wp_X9_pairs x1 x2 x3 x4 u post1) (hp : ∀ (b0_ : Int32) (b1_ : mS), post b0_ b1_ → post1 b0_ b1_ → post2 b0_ b1_) : wp_X9_pairs x1 x2 x3 x4 u post2 := by
  refine j_wp_X9_kind_2 h g (fun w3 w4 h1 g2 => ?_)
  refine ⟨fun c5 => ?_, fun c6 => ?_⟩
  · have h7 := h1.1 c5
    have g8 := g2.1 c5
    exact hp _ _ h7 g8
  · have h9 := h1.2 c6
    have g10 := g2.2 c6
    refine j_wp_X9_dots_2 h9 g10 (fun w13 w14 h11 g12 => ?_)
    refine ⟨fun c15 => ?_, fun c16 => ?_⟩
    · have h17 := h11.1 c15
      have g18 := g12.1 c15
      refine j_wp_X9_count_4 h17 g18 (fun w21 w22 h19 g20 => ?_)
      refine j_wp_X9_dots_4 h19 g20 (fun w25 w26 h23 g24 => ?_)
      refine ⟨fun c27 => ?_, fun c28 => ?_⟩
      · have h29 := h23.1 c27
        have g30 := g24.1 c27
        exact j_wj_X9_pairs_51 h29 g30 hp
      · have h31 := h23.2 c28
        have g32 := g24.2 c28
        exact j_wj_X9_pairs_51 h31 g32 hp
    · have h33 := h11.2 c16
      have g34 := g12.2 c16
      exact hp _ _ h33 g34
theorem j_wj_X9_matches_89 {K9 K91 K92 : Int32 → mS → Prop} {post post1 post2 : Int32 → mS → Prop} {x3 : Int32} {u : mS} (h : wj_X9_matches_89 K9 post x3 u) (g : wj_X9_matches_89 K91 post1 x3 u) (hK9 : ∀ (b0_ : Int32) (b1_ : mS), K9 b0_ b1_ → K91 b0_ b1_ → K92 b0_ b1_) (hp : ∀ (b0_ : Int32) (b1_ : mS), post b0_ b1_ → post1 b0_ b1_ → post2 b0_ b1_) : wj_X9_matches_89 K92 post2 x3 u := by
  exact hK9 _ _ h g
theorem j_wj_X9_matches_72 {K9 K91 K92 : Int32 → mS → Prop} {post post1 post2 : Int32 → mS → Prop} {x3 : Int32} {x4 : Int32} {x5 : Int32} {x6 : Int32} {u : mS} (h : wj_X9_matches_72 K9 post x3 x4 x5 x6 u) (g : wj_X9_matches_72 K91 post1 x3 x4 x5 x6 u) (hK9 : ∀ (b0_ : Int32) (b1_ : mS), K9 b0_ b1_ → K91 b0_ b1_ → K92 b0_ b1_) (hp : ∀ (b0_ : Int32) (b1_ : mS), post b0_ b1_ → post1 b0_ b1_ → post2 b0_ b1_) : wj_X9_matches_72 K92 post2 x3 x4 x5 x6 u := by
  refine ⟨fun c1 => ?_, fun c2 => ?_⟩
  · have h3 := h.1 c1
    have g4 := g.1 c1
    exact j_wj_X9_matches_89 h3 g4 hK9 hp
  · have h5 := h.2 c2
    have g6 := g.2 c2
    refine j_wp_X9_pairs h5 g6 (fun w9 w10 h7 g8 => ?_)
    exact j_wj_X9_matches_89 h7 g8 hK9 hp
theorem j_wj_X9_matches_9 {K9 K91 K92 : Int32 → mS → Prop} {post post1 post2 : Int32 → mS → Prop} {x3 : Int32} {u : mS} (h : wj_X9_matches_9 K9 post x3 u) (g : wj_X9_matches_9 K91 post1 x3 u) (hK9 : ∀ (b0_ : Int32) (b1_ : mS), K9 b0_ b1_ → K91 b0_ b1_ → K92 b0_ b1_) (hp : ∀ (b0_ : Int32) (b1_ : mS), post b0_ b1_ → post1 b0_ b1_ → post2 b0_ b1_) : wj_X9_matches_9 K92 post2 x3 u := by
  refine ⟨fun c1 => ?_, fun c2 => ?_⟩
  · have h3 := h.1 c1
    have g4 := g.1 c1
    refine ⟨fun c5 => ?_, fun c6 => ?_⟩
    · have h7 := h3.1 c5
      have g8 := g4.1 c5
      exact hp _ _ h7 g8
    · have h9 := h3.2 c6
      have g10 := g4.2 c6
      exact hp _ _ h9 g10
  · have h11 := h.2 c2
    have g12 := g.2 c2
    intro y13 e14
    have h15 := h11 y13 e14
    have g16 := g12 y13 e14
    refine ⟨h15.1, ?_⟩
    have h17 := h15.2
    have g18 := g16.2
    intro y19 e20
    have h21 := h17 y19 e20
    have g22 := g18 y19 e20
    intro y23 e24
    have h25 := h21 y23 e24
    have g26 := g22 y23 e24
    refine ⟨h25.1, ?_⟩
    have h27 := h25.2
    have g28 := g26.2
    intro y29 e30
    have h31 := h27 y29 e30
    have g32 := g28 y29 e30
    intro y33 e34
    have h35 := h31 y33 e34
    have g36 := g32 y33 e34
    refine j_wp_X9_kind_4 h35 g36 (fun w39 w40 h37 g38 => ?_)
    refine ⟨fun c41 => ?_, fun c42 => ?_⟩
    · have h43 := h37.1 c41
      have g44 := g38.1 c41
      exact j_wj_X9_matches_72 h43 g44 hK9 hp
    · have h45 := h37.2 c42
      have g46 := g38.2 c42
      refine ⟨h45.1, ?_⟩
      have h47 := h45.2
      have g48 := g46.2
      intro y49 e50
      have h51 := h47 y49 e50
      have g52 := g48 y49 e50
      refine ⟨h51.1, ?_⟩
      have h53 := h51.2
      have g54 := g52.2
      intro y55 e56
      have h57 := h53 y55 e56
      have g58 := g54 y55 e56
      refine ⟨fun c59 => ?_, fun c60 => ?_⟩
      · have h61 := h57.1 c59
        have g62 := g58.1 c59
        exact j_wj_X9_matches_72 h61 g62 hK9 hp
      · have h63 := h57.2 c60
        have g64 := g58.2 c60
        exact hp _ _ h63 g64
theorem j_wp_X9_matches {x1 : Int32} {x2 : Int32} {u : mS} {post post1 post2 : Int32 → mS → Prop} (h : wp_X9_matches x1 x2 u post) (g : wp_X9_matches x1 x2 u post1) (hp : ∀ (b0_ : Int32) (b1_ : mS), post b0_ b1_ → post1 b0_ b1_ → post2 b0_ b1_) : wp_X9_matches x1 x2 u post2 := by
  refine j_wp_X9_pairs h g (fun w3 w4 h1 g2 => ?_)
  obtain ⟨n5, h7⟩ := h1
  obtain ⟨m6, g8⟩ := g2
  refine ⟨n5, mL2_j ?_ n5 m6 _ _ h7 g8⟩
  intro K_ L_ M_ hK_ _ _ a_ b_
  exact j_wj_X9_matches_9 a_ b_ hK_ hp
theorem j_wp_X9_isHeld {x1 : Int32} {u : mS} {post post1 post2 : Int32 → mS → Prop} (h : wp_X9_isHeld x1 u post) (g : wp_X9_isHeld x1 u post1) (hp : ∀ (b0_ : Int32) (b1_ : mS), post b0_ b1_ → post1 b0_ b1_ → post2 b0_ b1_) : wp_X9_isHeld x1 u post2 := by
  intro y1 e2
  have h3 := h y1 e2
  have g4 := g y1 e2
  refine ⟨fun c5 => ?_, fun c6 => ?_⟩
  · have h7 := h3.1 c5
    have g8 := g4.1 c5
    exact hp _ _ h7 g8
  · have h9 := h3.2 c6
    have g10 := g4.2 c6
    intro y11 e12
    have h13 := h9 y11 e12
    have g14 := g10 y11 e12
    intro y15 e16
    have h17 := h13 y15 e16
    have g18 := g14 y15 e16
    refine ⟨h17.1, ?_⟩
    have h19 := h17.2
    have g20 := g18.2
    intro y21 e22
    have h23 := h19 y21 e22
    have g24 := g20 y21 e22
    refine ⟨fun c25 => ?_, fun c26 => ?_⟩
    · have h27 := h23.1 c25
      have g28 := g24.1 c25
      exact hp _ _ h27 g28
    · have h29 := h23.2 c26
      have g30 := g24.2 c26
      exact hp _ _ h29 g30
theorem j_wj_X9_walk_168 {K9 K91 K92 : Int32 → Int32 → Int32 → Int32 → Int32 → mS → Prop} {post post1 post2 : Int32 → mS → Prop} {x3 : Int32} {x4 : Int32} {x7 : Int32} {x8 : Int32} {x9 : Int32} {u : mS} (h : wj_X9_walk_168 K9 post x3 x4 x7 x8 x9 u) (g : wj_X9_walk_168 K91 post1 x3 x4 x7 x8 x9 u) (hK9 : ∀ (b0_ : Int32) (b1_ : Int32) (b2_ : Int32) (b3_ : Int32) (b4_ : Int32) (b5_ : mS), K9 b0_ b1_ b2_ b3_ b4_ b5_ → K91 b0_ b1_ b2_ b3_ b4_ b5_ → K92 b0_ b1_ b2_ b3_ b4_ b5_) (hp : ∀ (b0_ : Int32) (b1_ : mS), post b0_ b1_ → post1 b0_ b1_ → post2 b0_ b1_) : wj_X9_walk_168 K92 post2 x3 x4 x7 x8 x9 u := by
  exact hK9 _ _ _ _ _ _ h g
theorem j_wj_X9_walk_136 {K136 K1361 K1362 : Int32 → Int32 → Int32 → Int32 → Int32 → Int32 → mS → Prop} {K9 K91 K92 : Int32 → Int32 → Int32 → Int32 → Int32 → mS → Prop} {post post1 post2 : Int32 → mS → Prop} {x3 : Int32} {x4 : Int32} {x7 : Int32} {x8 : Int32} {x9 : Int32} {x12 : Int32} {u : mS} (h : wj_X9_walk_136 K136 K9 post x3 x4 x7 x8 x9 x12 u) (g : wj_X9_walk_136 K1361 K91 post1 x3 x4 x7 x8 x9 x12 u) (hK136 : ∀ (b0_ : Int32) (b1_ : Int32) (b2_ : Int32) (b3_ : Int32) (b4_ : Int32) (b5_ : Int32) (b6_ : mS), K136 b0_ b1_ b2_ b3_ b4_ b5_ b6_ → K1361 b0_ b1_ b2_ b3_ b4_ b5_ b6_ → K1362 b0_ b1_ b2_ b3_ b4_ b5_ b6_) (hK9 : ∀ (b0_ : Int32) (b1_ : Int32) (b2_ : Int32) (b3_ : Int32) (b4_ : Int32) (b5_ : mS), K9 b0_ b1_ b2_ b3_ b4_ b5_ → K91 b0_ b1_ b2_ b3_ b4_ b5_ → K92 b0_ b1_ b2_ b3_ b4_ b5_) (hp : ∀ (b0_ : Int32) (b1_ : mS), post b0_ b1_ → post1 b0_ b1_ → post2 b0_ b1_) : wj_X9_walk_136 K1362 K92 post2 x3 x4 x7 x8 x9 x12 u := by
  refine ⟨h.1, ?_⟩
  have h1 := h.2
  have g2 := g.2
  intro y3 e4
  have h5 := h1 y3 e4
  have g6 := g2 y3 e4
  refine ⟨fun c7 => ?_, fun c8 => ?_⟩
  · have h9 := h5.1 c7
    have g10 := g6.1 c7
    intro y11 e12
    have h13 := h9 y11 e12
    have g14 := g10 y11 e12
    exact j_wj_X9_walk_168 h13 g14 hK9 hp
  · have h15 := h5.2 c8
    have g16 := g6.2 c8
    refine j_wp_X9_end_2 h15 g16 (fun w19 w20 h17 g18 => ?_)
    intro y21 e22
    have h23 := h17 y21 e22
    have g24 := g18 y21 e22
    exact hK136 _ _ _ _ _ _ _ h23 g24
theorem j_wj_X9_walk_93 {K93 K931 K932 : Int32 → Int32 → Int32 → Int32 → Int32 → Int32 → Int32 → mS → Prop} {K9 K91 K92 : Int32 → Int32 → Int32 → Int32 → Int32 → mS → Prop} {post post1 post2 : Int32 → mS → Prop} {x3 : Int32} {x4 : Int32} {x7 : Int32} {x8 : Int32} {x9 : Int32} {x10 : Int32} {x11 : Int32} {u : mS} (h : wj_X9_walk_93 K93 K9 post x3 x4 x7 x8 x9 x10 x11 u) (g : wj_X9_walk_93 K931 K91 post1 x3 x4 x7 x8 x9 x10 x11 u) (hK93 : ∀ (b0_ : Int32) (b1_ : Int32) (b2_ : Int32) (b3_ : Int32) (b4_ : Int32) (b5_ : Int32) (b6_ : Int32) (b7_ : mS), K93 b0_ b1_ b2_ b3_ b4_ b5_ b6_ b7_ → K931 b0_ b1_ b2_ b3_ b4_ b5_ b6_ b7_ → K932 b0_ b1_ b2_ b3_ b4_ b5_ b6_ b7_) (hK9 : ∀ (b0_ : Int32) (b1_ : Int32) (b2_ : Int32) (b3_ : Int32) (b4_ : Int32) (b5_ : mS), K9 b0_ b1_ b2_ b3_ b4_ b5_ → K91 b0_ b1_ b2_ b3_ b4_ b5_ → K92 b0_ b1_ b2_ b3_ b4_ b5_) (hp : ∀ (b0_ : Int32) (b1_ : mS), post b0_ b1_ → post1 b0_ b1_ → post2 b0_ b1_) : wj_X9_walk_93 K932 K92 post2 x3 x4 x7 x8 x9 x10 x11 u := by
  refine j_wp_X9_kind_2 h g (fun w3 w4 h1 g2 => ?_)
  refine ⟨fun c5 => ?_, fun c6 => ?_⟩
  · have h7 := h1.1 c5
    have g8 := g2.1 c5
    refine ⟨fun c9 => ?_, fun c10 => ?_⟩
    · have h11 := h7.1 c9
      have g12 := g8.1 c9
      obtain ⟨n13, h15⟩ := h11
      obtain ⟨m14, g16⟩ := g12
      refine ⟨n13, mL7_j ?_ n13 m14 _ _ _ _ _ _ _ h15 g16⟩
      intro K_ L_ M_ hK_ _ _ _ _ _ _ _ a_ b_
      exact j_wj_X9_walk_136 a_ b_ hK_ hK9 hp
    · have h17 := h7.2 c10
      have g18 := g8.2 c10
      exact hp _ _ h17 g18
  · have h19 := h1.2 c6
    have g20 := g2.2 c6
    refine j_wp_X9_end_2 h19 g20 (fun w23 w24 h21 g22 => ?_)
    intro y25 e26
    have h27 := h21 y25 e26
    have g28 := g22 y25 e26
    exact hK93 _ _ _ _ _ _ _ _ h27 g28
theorem j_wj_X9_walk_27 {K27 K271 K272 : Int32 → Int32 → Int32 → Int32 → Int32 → mS → Prop} {K9 K91 K92 : Int32 → Int32 → Int32 → Int32 → Int32 → mS → Prop} {post post1 post2 : Int32 → mS → Prop} {x3 : Int32} {x4 : Int32} {x7 : Int32} {x8 : Int32} {x9 : Int32} {u : mS} (h : wj_X9_walk_27 K27 K9 post x3 x4 x7 x8 x9 u) (g : wj_X9_walk_27 K271 K91 post1 x3 x4 x7 x8 x9 u) (hK27 : ∀ (b0_ : Int32) (b1_ : Int32) (b2_ : Int32) (b3_ : Int32) (b4_ : Int32) (b5_ : mS), K27 b0_ b1_ b2_ b3_ b4_ b5_ → K271 b0_ b1_ b2_ b3_ b4_ b5_ → K272 b0_ b1_ b2_ b3_ b4_ b5_) (hK9 : ∀ (b0_ : Int32) (b1_ : Int32) (b2_ : Int32) (b3_ : Int32) (b4_ : Int32) (b5_ : mS), K9 b0_ b1_ b2_ b3_ b4_ b5_ → K91 b0_ b1_ b2_ b3_ b4_ b5_ → K92 b0_ b1_ b2_ b3_ b4_ b5_) (hp : ∀ (b0_ : Int32) (b1_ : mS), post b0_ b1_ → post1 b0_ b1_ → post2 b0_ b1_) : wj_X9_walk_27 K272 K92 post2 x3 x4 x7 x8 x9 u := by
  refine j_wp_X9_end_4 h g (fun w3 w4 h1 g2 => ?_)
  refine ⟨fun c5 => ?_, fun c6 => ?_⟩
  · have h7 := h1.1 c5
    have g8 := g2.1 c5
    refine j_wp_X9_end_4 h7 g8 (fun w11 w12 h9 g10 => ?_)
    refine j_wp_X9_kind_4 h9 g10 (fun w15 w16 h13 g14 => ?_)
    refine ⟨fun c17 => ?_, fun c18 => ?_⟩
    · have h19 := h13.1 c17
      have g20 := g14.1 c17
      exact j_wj_X9_walk_168 h19 g20 hK9 hp
    · have h21 := h13.2 c18
      have g22 := g14.2 c18
      obtain ⟨n23, h25⟩ := h21
      obtain ⟨m24, g26⟩ := g22
      refine ⟨n23, mL8_j ?_ n23 m24 _ _ _ _ _ _ _ _ h25 g26⟩
      intro K_ L_ M_ hK_ _ _ _ _ _ _ _ _ a_ b_
      exact j_wj_X9_walk_93 a_ b_ hK_ hK9 hp
  · have h27 := h1.2 c6
    have g28 := g2.2 c6
    refine j_wp_X9_end_4 h27 g28 (fun w31 w32 h29 g30 => ?_)
    refine j_wp_X9_end_2 h29 g30 (fun w35 w36 h33 g34 => ?_)
    exact hK27 _ _ _ _ _ _ h33 g34
theorem j_wj_X9_walk_9 {K9 K91 K92 : Int32 → Int32 → Int32 → Int32 → Int32 → mS → Prop} {post post1 post2 : Int32 → mS → Prop} {x3 : Int32} {x4 : Int32} {x5 : Int32} {x6 : Int32} {x7 : Int32} {u : mS} (h : wj_X9_walk_9 K9 post x3 x4 x5 x6 x7 u) (g : wj_X9_walk_9 K91 post1 x3 x4 x5 x6 x7 u) (hK9 : ∀ (b0_ : Int32) (b1_ : Int32) (b2_ : Int32) (b3_ : Int32) (b4_ : Int32) (b5_ : mS), K9 b0_ b1_ b2_ b3_ b4_ b5_ → K91 b0_ b1_ b2_ b3_ b4_ b5_ → K92 b0_ b1_ b2_ b3_ b4_ b5_) (hp : ∀ (b0_ : Int32) (b1_ : mS), post b0_ b1_ → post1 b0_ b1_ → post2 b0_ b1_) : wj_X9_walk_9 K92 post2 x3 x4 x5 x6 x7 u := by
  refine ⟨fun c1 => ?_, fun c2 => ?_⟩
  · have h3 := h.1 c1
    have g4 := g.1 c1
    exact hp _ _ h3 g4
  · have h5 := h.2 c2
    have g6 := g.2 c2
    intro y7 e8
    have h9 := h5 y7 e8
    have g10 := g6 y7 e8
    intro y11 e12
    have h13 := h9 y11 e12
    have g14 := g10 y11 e12
    obtain ⟨n15, h17⟩ := h13
    obtain ⟨m16, g18⟩ := g14
    refine ⟨n15, mL6_j ?_ n15 m16 _ _ _ _ _ _ h17 g18⟩
    intro K_ L_ M_ hK_ _ _ _ _ _ _ a_ b_
    exact j_wj_X9_walk_27 a_ b_ hK_ hK9 hp
theorem j_wp_X9_walk {x1 : Int32} {x2 : Int32} {x3 : Int32} {x4 : Int32} {u : mS} {post post1 post2 : Int32 → mS → Prop} (h : wp_X9_walk x1 x2 x3 x4 u post) (g : wp_X9_walk x1 x2 x3 x4 u post1) (hp : ∀ (b0_ : Int32) (b1_ : mS), post b0_ b1_ → post1 b0_ b1_ → post2 b0_ b1_) : wp_X9_walk x1 x2 x3 x4 u post2 := by
  obtain ⟨n1, h3⟩ := h
  obtain ⟨m2, g4⟩ := g
  refine ⟨n1, mL6_j ?_ n1 m2 _ _ _ _ _ _ h3 g4⟩
  intro K_ L_ M_ hK_ _ _ _ _ _ _ a_ b_
  exact j_wj_X9_walk_9 a_ b_ hK_ hp
theorem j_wj_X9_roundsOf_93 {K7 K71 K72 : Int32 → Int32 → Int32 → Int32 → Int32 → mS → Prop} {post post1 post2 : Int32 → mS → Prop} {x1 : Int32} {x2 : Int32} {x4 : Int32} {x5 : Int32} {x6 : Int32} {u : mS} (h : wj_X9_roundsOf_93 K7 post x1 x2 x4 x5 x6 u) (g : wj_X9_roundsOf_93 K71 post1 x1 x2 x4 x5 x6 u) (hK7 : ∀ (b0_ : Int32) (b1_ : Int32) (b2_ : Int32) (b3_ : Int32) (b4_ : Int32) (b5_ : mS), K7 b0_ b1_ b2_ b3_ b4_ b5_ → K71 b0_ b1_ b2_ b3_ b4_ b5_ → K72 b0_ b1_ b2_ b3_ b4_ b5_) (hp : ∀ (b0_ : Int32) (b1_ : mS), post b0_ b1_ → post1 b0_ b1_ → post2 b0_ b1_) : wj_X9_roundsOf_93 K72 post2 x1 x2 x4 x5 x6 u := by
  intro y1 e2
  have h3 := h y1 e2
  have g4 := g y1 e2
  exact hK7 _ _ _ _ _ _ h3 g4
theorem j_wj_X9_roundsOf_91 {K7 K71 K72 : Int32 → Int32 → Int32 → Int32 → Int32 → mS → Prop} {post post1 post2 : Int32 → mS → Prop} {x1 : Int32} {x2 : Int32} {x4 : Int32} {x6 : Int32} {z0 : Int32} {u : mS} (h : wj_X9_roundsOf_91 K7 post x1 x2 x4 x6 z0 u) (g : wj_X9_roundsOf_91 K71 post1 x1 x2 x4 x6 z0 u) (hK7 : ∀ (b0_ : Int32) (b1_ : Int32) (b2_ : Int32) (b3_ : Int32) (b4_ : Int32) (b5_ : mS), K7 b0_ b1_ b2_ b3_ b4_ b5_ → K71 b0_ b1_ b2_ b3_ b4_ b5_ → K72 b0_ b1_ b2_ b3_ b4_ b5_) (hp : ∀ (b0_ : Int32) (b1_ : mS), post b0_ b1_ → post1 b0_ b1_ → post2 b0_ b1_) : wj_X9_roundsOf_91 K72 post2 x1 x2 x4 x6 z0 u := by
  exact j_wj_X9_roundsOf_93 h g hK7 hp
theorem j_wj_X9_roundsOf_85 {K7 K71 K72 : Int32 → Int32 → Int32 → Int32 → Int32 → mS → Prop} {post post1 post2 : Int32 → mS → Prop} {x1 : Int32} {x2 : Int32} {x4 : Int32} {x6 : Int32} {x8 : Int32} {u : mS} (h : wj_X9_roundsOf_85 K7 post x1 x2 x4 x6 x8 u) (g : wj_X9_roundsOf_85 K71 post1 x1 x2 x4 x6 x8 u) (hK7 : ∀ (b0_ : Int32) (b1_ : Int32) (b2_ : Int32) (b3_ : Int32) (b4_ : Int32) (b5_ : mS), K7 b0_ b1_ b2_ b3_ b4_ b5_ → K71 b0_ b1_ b2_ b3_ b4_ b5_ → K72 b0_ b1_ b2_ b3_ b4_ b5_) (hp : ∀ (b0_ : Int32) (b1_ : mS), post b0_ b1_ → post1 b0_ b1_ → post2 b0_ b1_) : wj_X9_roundsOf_85 K72 post2 x1 x2 x4 x6 x8 u := by
  exact j_wj_X9_roundsOf_91 h g hK7 hp
theorem j_wj_X9_roundsOf_50 {K7 K71 K72 : Int32 → Int32 → Int32 → Int32 → Int32 → mS → Prop} {post post1 post2 : Int32 → mS → Prop} {x1 : Int32} {x2 : Int32} {x4 : Int32} {x5 : Int32} {x6 : Int32} {z0 : Int32} {u : mS} (h : wj_X9_roundsOf_50 K7 post x1 x2 x4 x5 x6 z0 u) (g : wj_X9_roundsOf_50 K71 post1 x1 x2 x4 x5 x6 z0 u) (hK7 : ∀ (b0_ : Int32) (b1_ : Int32) (b2_ : Int32) (b3_ : Int32) (b4_ : Int32) (b5_ : mS), K7 b0_ b1_ b2_ b3_ b4_ b5_ → K71 b0_ b1_ b2_ b3_ b4_ b5_ → K72 b0_ b1_ b2_ b3_ b4_ b5_) (hp : ∀ (b0_ : Int32) (b1_ : mS), post b0_ b1_ → post1 b0_ b1_ → post2 b0_ b1_) : wj_X9_roundsOf_50 K72 post2 x1 x2 x4 x5 x6 z0 u := by
  refine ⟨fun c1 => ?_, fun c2 => ?_⟩
  · have h3 := h.1 c1
    have g4 := g.1 c1
    exact j_wj_X9_roundsOf_93 h3 g4 hK7 hp
  · have h5 := h.2 c2
    have g6 := g.2 c2
    intro y7 e8
    have h9 := h5 y7 e8
    have g10 := g6 y7 e8
    refine j_wp_X9_walk h9 g10 (fun w13 w14 h11 g12 => ?_)
    refine ⟨fun c15 => ?_, fun c16 => ?_⟩
    · have h17 := h11.1 c15
      have g18 := g12.1 c15
      exact j_wj_X9_roundsOf_85 h17 g18 hK7 hp
    · have h19 := h11.2 c16
      have g20 := g12.2 c16
      refine ⟨fun c21 => ?_, fun c22 => ?_⟩
      · have h23 := h19.1 c21
        have g24 := g20.1 c21
        exact j_wj_X9_roundsOf_91 h23 g24 hK7 hp
      · have h25 := h19.2 c22
        have g26 := g20.2 c22
        exact j_wj_X9_roundsOf_85 h25 g26 hK7 hp
theorem j_wj_X9_roundsOf_7 {K7 K71 K72 : Int32 → Int32 → Int32 → Int32 → Int32 → mS → Prop} {post post1 post2 : Int32 → mS → Prop} {x1 : Int32} {x2 : Int32} {x4 : Int32} {x5 : Int32} {x6 : Int32} {u : mS} (h : wj_X9_roundsOf_7 K7 post x1 x2 x4 x5 x6 u) (g : wj_X9_roundsOf_7 K71 post1 x1 x2 x4 x5 x6 u) (hK7 : ∀ (b0_ : Int32) (b1_ : Int32) (b2_ : Int32) (b3_ : Int32) (b4_ : Int32) (b5_ : mS), K7 b0_ b1_ b2_ b3_ b4_ b5_ → K71 b0_ b1_ b2_ b3_ b4_ b5_ → K72 b0_ b1_ b2_ b3_ b4_ b5_) (hp : ∀ (b0_ : Int32) (b1_ : mS), post b0_ b1_ → post1 b0_ b1_ → post2 b0_ b1_) : wj_X9_roundsOf_7 K72 post2 x1 x2 x4 x5 x6 u := by
  refine ⟨fun c1 => ?_, fun c2 => ?_⟩
  · have h3 := h.1 c1
    have g4 := g.1 c1
    exact hp _ _ h3 g4
  · have h5 := h.2 c2
    have g6 := g.2 c2
    refine j_wp_X9_kind_4 h5 g6 (fun w9 w10 h7 g8 => ?_)
    refine ⟨fun c11 => ?_, fun c12 => ?_⟩
    · have h13 := h7.1 c11
      have g14 := g8.1 c11
      exact j_wj_X9_roundsOf_50 h13 g14 hK7 hp
    · have h15 := h7.2 c12
      have g16 := g8.2 c12
      refine ⟨h15.1, ?_⟩
      have h17 := h15.2
      have g18 := g16.2
      intro y19 e20
      have h21 := h17 y19 e20
      have g22 := g18 y19 e20
      refine ⟨h21.1, ?_⟩
      have h23 := h21.2
      have g24 := g22.2
      intro y25 e26
      have h27 := h23 y25 e26
      have g28 := g24 y25 e26
      refine j_wp_X9_variable h27 g28 (fun w31 w32 h29 g30 => ?_)
      exact j_wj_X9_roundsOf_50 h29 g30 hK7 hp
theorem j_wp_X9_roundsOf {x1 : Int32} {x2 : Int32} {x3 : Int32} {x4 : Int32} {u : mS} {post post1 post2 : Int32 → mS → Prop} (h : wp_X9_roundsOf x1 x2 x3 x4 u post) (g : wp_X9_roundsOf x1 x2 x3 x4 u post1) (hp : ∀ (b0_ : Int32) (b1_ : mS), post b0_ b1_ → post1 b0_ b1_ → post2 b0_ b1_) : wp_X9_roundsOf x1 x2 x3 x4 u post2 := by
  obtain ⟨n1, h3⟩ := h
  obtain ⟨m2, g4⟩ := g
  refine ⟨n1, mL6_j ?_ n1 m2 _ _ _ _ _ _ h3 g4⟩
  intro K_ L_ M_ hK_ _ _ _ _ _ _ a_ b_
  exact j_wj_X9_roundsOf_7 a_ b_ hK_ hp
theorem j_wj_X9_hold_31 {post post1 post2 : Int32 → mS → Prop} {x3 : Int32} {x4 : Int32} {x5 : Int32} {u : mS} (h : wj_X9_hold_31 post x3 x4 x5 u) (g : wj_X9_hold_31 post1 x3 x4 x5 u) (hp : ∀ (b0_ : Int32) (b1_ : mS), post b0_ b1_ → post1 b0_ b1_ → post2 b0_ b1_) : wj_X9_hold_31 post2 x3 x4 x5 u := by
  refine ⟨fun c1 => ?_, fun c2 => ?_⟩
  · have h3 := h.1 c1
    have g4 := g.1 c1
    intro y5 e6
    have h7 := h3 y5 e6
    have g8 := g4 y5 e6
    refine ⟨h7.1, ?_⟩
    have h9 := h7.2
    have g10 := g8.2
    intro y11 e12
    have h13 := h9 y11 e12
    have g14 := g10 y11 e12
    intro y15 e16
    have h17 := h13 y15 e16
    have g18 := g14 y15 e16
    refine ⟨h17.1, ?_⟩
    have h19 := h17.2
    have g20 := g18.2
    intro y21 e22
    have h23 := h19 y21 e22
    have g24 := g20 y21 e22
    intro y25 e26
    have h27 := h23 y25 e26
    have g28 := g24 y25 e26
    refine ⟨h27.1, ?_⟩
    have h29 := h27.2
    have g30 := g28.2
    intro y31 e32
    have h33 := h29 y31 e32
    have g34 := g30 y31 e32
    intro y35 e36
    have h37 := h33 y35 e36
    have g38 := g34 y35 e36
    intro y39 e40
    have h41 := h37 y39 e40
    have g42 := g38 y39 e40
    intro y43 e44
    have h45 := h41 y43 e44
    have g46 := g42 y43 e44
    exact hp _ _ h45 g46
  · have h47 := h.2 c2
    have g48 := g.2 c2
    intro y49 e50
    have h51 := h47 y49 e50
    have g52 := g48 y49 e50
    exact hp _ _ h51 g52
theorem j_wp_X9_hold {x1 : Int32} {x2 : Int32} {x3 : Int32} {u : mS} {post post1 post2 : Int32 → mS → Prop} (h : wp_X9_hold x1 x2 x3 u post) (g : wp_X9_hold x1 x2 x3 u post1) (hp : ∀ (b0_ : Int32) (b1_ : mS), post b0_ b1_ → post1 b0_ b1_ → post2 b0_ b1_) : wp_X9_hold x1 x2 x3 u post2 := by
  refine j_wp_X9_end_4 h g (fun w3 w4 h1 g2 => ?_)
  refine j_wp_X9_roundsOf h1 g2 (fun w7 w8 h5 g6 => ?_)
  refine ⟨fun c9 => ?_, fun c10 => ?_⟩
  · have h11 := h5.1 c9
    have g12 := g6.1 c9
    exact j_wj_X9_hold_31 h11 g12 hp
  · have h13 := h5.2 c10
    have g14 := g6.2 c10
    refine j_wp_X9_fails h13 g14 (fun w17 h15 g16 => ?_)
    exact j_wj_X9_hold_31 h15 g16 hp
theorem j_wp_X9_again {x1 : Int32} {u : mS} {post post1 post2 : Int32 → mS → Prop} (h : wp_X9_again x1 u post) (g : wp_X9_again x1 u post1) (hp : ∀ (b0_ : Int32) (b1_ : mS), post b0_ b1_ → post1 b0_ b1_ → post2 b0_ b1_) : wp_X9_again x1 u post2 := by
  intro y1 e2
  have h3 := h y1 e2
  have g4 := g y1 e2
  intro y5 e6
  have h7 := h3 y5 e6
  have g8 := g4 y5 e6
  refine ⟨h7.1, ?_⟩
  have h9 := h7.2
  have g10 := g8.2
  intro y11 e12
  have h13 := h9 y11 e12
  have g14 := g10 y11 e12
  intro y15 e16
  have h17 := h13 y15 e16
  have g18 := g14 y15 e16
  refine ⟨h17.1, ?_⟩
  have h19 := h17.2
  have g20 := g18.2
  intro y21 e22
  have h23 := h19 y21 e22
  have g24 := g20 y21 e22
  intro y25 e26
  have h27 := h23 y25 e26
  have g28 := g24 y25 e26
  intro y29 e30
  have h31 := h27 y29 e30
  have g32 := g28 y29 e30
  refine ⟨h31.1, ?_⟩
  have h33 := h31.2
  have g34 := g32.2
  intro y35 e36
  have h37 := h33 y35 e36
  have g38 := g34 y35 e36
  intro y39 e40
  have h41 := h37 y39 e40
  have g42 := g38 y39 e40
  intro y43 e44
  have h45 := h41 y43 e44
  have g46 := g42 y43 e44
  refine ⟨h45.1, ?_⟩
  have h47 := h45.2
  have g48 := g46.2
  intro y49 e50
  have h51 := h47 y49 e50
  have g52 := g48 y49 e50
  refine ⟨fun c53 => ?_, fun c54 => ?_⟩
  · have h55 := h51.1 c53
    have g56 := g52.1 c53
    intro y57 e58
    have h59 := h55 y57 e58
    have g60 := g56 y57 e58
    intro y61 e62
    have h63 := h59 y61 e62
    have g64 := g60 y61 e62
    intro y65 e66
    have h67 := h63 y65 e66
    have g68 := g64 y65 e66
    intro y69 e70
    have h71 := h67 y69 e70
    have g72 := g68 y69 e70
    exact hp _ _ h71 g72
  · have h73 := h51.2 c54
    have g74 := g52.2 c54
    intro y75 e76
    have h77 := h73 y75 e76
    have g78 := g74 y75 e76
    intro y79 e80
    have h81 := h77 y79 e80
    have g82 := g78 y79 e80
    refine ⟨h81.1, ?_⟩
    have h83 := h81.2
    have g84 := g82.2
    intro y85 e86
    have h87 := h83 y85 e86
    have g88 := g84 y85 e86
    exact hp _ _ h87 g88
theorem j_wj_X9_add_26 {post post1 post2 : mS → Prop} {x1 : Int32} {x2 : Int32} {u : mS} (h : wj_X9_add_26 post x1 x2 u) (g : wj_X9_add_26 post1 x1 x2 u) (hp : ∀ (b0_ : mS), post b0_ → post1 b0_ → post2 b0_) : wj_X9_add_26 post2 x1 x2 u := by
  intro y1 e2
  have h3 := h y1 e2
  have g4 := g y1 e2
  refine ⟨fun c5 => ?_, fun c6 => ?_⟩
  · have h7 := h3.1 c5
    have g8 := g4.1 c5
    intro y9 e10
    have h11 := h7 y9 e10
    have g12 := g8 y9 e10
    refine ⟨h11.1, ?_⟩
    have h13 := h11.2
    have g14 := g12.2
    intro y15 e16
    have h17 := h13 y15 e16
    have g18 := g14 y15 e16
    intro y19 e20
    have h21 := h17 y19 e20
    have g22 := g18 y19 e20
    refine ⟨h21.1, ?_⟩
    have h23 := h21.2
    have g24 := g22.2
    intro y25 e26
    have h27 := h23 y25 e26
    have g28 := g24 y25 e26
    intro y29 e30
    have h31 := h27 y29 e30
    have g32 := g28 y29 e30
    intro y33 e34
    have h35 := h31 y33 e34
    have g36 := g32 y33 e34
    intro y37 e38
    have h39 := h35 y37 e38
    have g40 := g36 y37 e38
    exact hp _ h39 g40
  · have h41 := h3.2 c6
    have g42 := g4.2 c6
    refine j_wp_X9_fails h41 g42 (fun w45 h43 g44 => ?_)
    exact hp _ h43 g44
theorem j_wp_X9_add {x1 : Int32} {x2 : Int32} {u : mS} {post post1 post2 : mS → Prop} (h : wp_X9_add x1 x2 u post) (g : wp_X9_add x1 x2 u post1) (hp : ∀ (b0_ : mS), post b0_ → post1 b0_ → post2 b0_) : wp_X9_add x1 x2 u post2 := by
  intro y1 e2
  have h3 := h y1 e2
  have g4 := g y1 e2
  refine ⟨fun c5 => ?_, fun c6 => ?_⟩
  · have h7 := h3.1 c5
    have g8 := g4.1 c5
    exact j_wj_X9_add_26 h7 g8 hp
  · have h9 := h3.2 c6
    have g10 := g4.2 c6
    refine ⟨fun c11 => ?_, fun c12 => ?_⟩
    · have h13 := h9.1 c11
      have g14 := g10.1 c11
      exact j_wj_X9_add_26 h13 g14 hp
    · have h15 := h9.2 c12
      have g16 := g10.2 c12
      intro y17 e18
      have h19 := h15 y17 e18
      have g20 := g16 y17 e18
      intro y21 e22
      have h23 := h19 y21 e22
      have g24 := g20 y21 e22
      intro y25 e26
      have h27 := h23 y25 e26
      have g28 := g24 y25 e26
      exact j_wj_X9_add_26 h27 g28 hp
theorem j_wj_X9_bring_11 {K11 K111 K112 : Int32 → Int32 → mS → Prop} {post post1 post2 : mS → Prop} {x2 : Int32} {x3 : Int32} {u : mS} (h : wj_X9_bring_11 K11 post x2 x3 u) (g : wj_X9_bring_11 K111 post1 x2 x3 u) (hK11 : ∀ (b0_ : Int32) (b1_ : Int32) (b2_ : mS), K11 b0_ b1_ b2_ → K111 b0_ b1_ b2_ → K112 b0_ b1_ b2_) (hp : ∀ (b0_ : mS), post b0_ → post1 b0_ → post2 b0_) : wj_X9_bring_11 K112 post2 x2 x3 u := by
  refine ⟨fun c1 => ?_, fun c2 => ?_⟩
  · have h3 := h.1 c1
    have g4 := g.1 c1
    exact hp _ h3 g4
  · have h5 := h.2 c2
    have g6 := g.2 c2
    intro y7 e8
    have h9 := h5 y7 e8
    have g10 := g6 y7 e8
    refine ⟨fun c11 => ?_, fun c12 => ?_⟩
    · have h13 := h9.1 c11
      have g14 := g10.1 c11
      exact hp _ h13 g14
    · have h15 := h9.2 c12
      have g16 := g10.2 c12
      refine ⟨h15.1, ?_⟩
      have h17 := h15.2
      have g18 := g16.2
      intro y19 e20
      have h21 := h17 y19 e20
      have g22 := g18 y19 e20
      refine ⟨h21.1, ?_⟩
      have h23 := h21.2
      have g24 := g22.2
      intro y25 e26
      have h27 := h23 y25 e26
      have g28 := g24 y25 e26
      refine j_wp_X9_add h27 g28 (fun w31 h29 g30 => ?_)
      intro y32 e33
      have h34 := h29 y32 e33
      have g35 := g30 y32 e33
      exact hK11 _ _ _ h34 g35
theorem j_wp_X9_bring {x1 : Int32} {u : mS} {post post1 post2 : mS → Prop} (h : wp_X9_bring x1 u post) (g : wp_X9_bring x1 u post1) (hp : ∀ (b0_ : mS), post b0_ → post1 b0_ → post2 b0_) : wp_X9_bring x1 u post2 := by
  refine j_wp_X9_end_2 h g (fun w3 w4 h1 g2 => ?_)
  obtain ⟨n5, h7⟩ := h1
  obtain ⟨m6, g8⟩ := g2
  refine ⟨n5, mL3_j ?_ n5 m6 _ _ _ h7 g8⟩
  intro K_ L_ M_ hK_ _ _ _ a_ b_
  exact j_wj_X9_bring_11 a_ b_ hK_ hp
theorem j_wj_X9_fill_223 {K37 K371 K372 : Int32 → Int32 → Int32 → Int32 → mS → Prop} {post post1 post2 : mS → Prop} {x1 : Int32} {x2 : Int32} {x4 : Int32} {x5 : Int32} {u : mS} (h : wj_X9_fill_223 K37 post x1 x2 x4 x5 u) (g : wj_X9_fill_223 K371 post1 x1 x2 x4 x5 u) (hK37 : ∀ (b0_ : Int32) (b1_ : Int32) (b2_ : Int32) (b3_ : Int32) (b4_ : mS), K37 b0_ b1_ b2_ b3_ b4_ → K371 b0_ b1_ b2_ b3_ b4_ → K372 b0_ b1_ b2_ b3_ b4_) (hp : ∀ (b0_ : mS), post b0_ → post1 b0_ → post2 b0_) : wj_X9_fill_223 K372 post2 x1 x2 x4 x5 u := by
  intro y1 e2
  have h3 := h y1 e2
  have g4 := g y1 e2
  exact hK37 _ _ _ _ _ h3 g4
theorem j_wj_X9_fill_181 {K37 K371 K372 : Int32 → Int32 → Int32 → Int32 → mS → Prop} {post post1 post2 : mS → Prop} {x1 : Int32} {x2 : Int32} {x4 : Int32} {x5 : Int32} {z0 : Int32} {u : mS} (h : wj_X9_fill_181 K37 post x1 x2 x4 x5 z0 u) (g : wj_X9_fill_181 K371 post1 x1 x2 x4 x5 z0 u) (hK37 : ∀ (b0_ : Int32) (b1_ : Int32) (b2_ : Int32) (b3_ : Int32) (b4_ : mS), K37 b0_ b1_ b2_ b3_ b4_ → K371 b0_ b1_ b2_ b3_ b4_ → K372 b0_ b1_ b2_ b3_ b4_) (hp : ∀ (b0_ : mS), post b0_ → post1 b0_ → post2 b0_) : wj_X9_fill_181 K372 post2 x1 x2 x4 x5 z0 u := by
  refine ⟨fun c1 => ?_, fun c2 => ?_⟩
  · have h3 := h.1 c1
    have g4 := g.1 c1
    refine j_wp_X9_walk h3 g4 (fun w7 w8 h5 g6 => ?_)
    refine j_wp_X9_bring h5 g6 (fun w11 h9 g10 => ?_)
    exact j_wj_X9_fill_223 h9 g10 hK37 hp
  · have h12 := h.2 c2
    have g13 := g.2 c2
    refine ⟨h12.1, ?_⟩
    have h14 := h12.2
    have g15 := g13.2
    intro y16 e17
    have h18 := h14 y16 e17
    have g19 := g15 y16 e17
    refine ⟨h18.1, ?_⟩
    have h20 := h18.2
    have g21 := g19.2
    intro y22 e23
    have h24 := h20 y22 e23
    have g25 := g21 y22 e23
    refine j_wp_X9_add h24 g25 (fun w28 h26 g27 => ?_)
    exact j_wj_X9_fill_223 h26 g27 hK37 hp
theorem j_wj_X9_fill_152 {K37 K371 K372 : Int32 → Int32 → Int32 → Int32 → mS → Prop} {post post1 post2 : mS → Prop} {x1 : Int32} {x2 : Int32} {x4 : Int32} {x5 : Int32} {x6 : Int32} {u : mS} (h : wj_X9_fill_152 K37 post x1 x2 x4 x5 x6 u) (g : wj_X9_fill_152 K371 post1 x1 x2 x4 x5 x6 u) (hK37 : ∀ (b0_ : Int32) (b1_ : Int32) (b2_ : Int32) (b3_ : Int32) (b4_ : mS), K37 b0_ b1_ b2_ b3_ b4_ → K371 b0_ b1_ b2_ b3_ b4_ → K372 b0_ b1_ b2_ b3_ b4_) (hp : ∀ (b0_ : mS), post b0_ → post1 b0_ → post2 b0_) : wj_X9_fill_152 K372 post2 x1 x2 x4 x5 x6 u := by
  refine ⟨fun c1 => ?_, fun c2 => ?_⟩
  · have h3 := h.1 c1
    have g4 := g.1 c1
    exact j_wj_X9_fill_181 h3 g4 hK37 hp
  · have h5 := h.2 c2
    have g6 := g.2 c2
    refine ⟨h5.1, ?_⟩
    have h7 := h5.2
    have g8 := g6.2
    intro y9 e10
    have h11 := h7 y9 e10
    have g12 := g8 y9 e10
    refine ⟨h11.1, ?_⟩
    have h13 := h11.2
    have g14 := g12.2
    intro y15 e16
    have h17 := h13 y15 e16
    have g18 := g14 y15 e16
    refine j_wp_X9_variable h17 g18 (fun w21 w22 h19 g20 => ?_)
    exact j_wj_X9_fill_181 h19 g20 hK37 hp
theorem j_wj_X9_fill_37 {K37 K371 K372 : Int32 → Int32 → Int32 → Int32 → mS → Prop} {post post1 post2 : mS → Prop} {x1 : Int32} {x2 : Int32} {x4 : Int32} {x5 : Int32} {u : mS} (h : wj_X9_fill_37 K37 post x1 x2 x4 x5 u) (g : wj_X9_fill_37 K371 post1 x1 x2 x4 x5 u) (hK37 : ∀ (b0_ : Int32) (b1_ : Int32) (b2_ : Int32) (b3_ : Int32) (b4_ : mS), K37 b0_ b1_ b2_ b3_ b4_ → K371 b0_ b1_ b2_ b3_ b4_ → K372 b0_ b1_ b2_ b3_ b4_) (hp : ∀ (b0_ : mS), post b0_ → post1 b0_ → post2 b0_) : wj_X9_fill_37 K372 post2 x1 x2 x4 x5 u := by
  refine ⟨fun c1 => ?_, fun c2 => ?_⟩
  · have h3 := h.1 c1
    have g4 := g.1 c1
    exact hp _ h3 g4
  · have h5 := h.2 c2
    have g6 := g.2 c2
    intro y7 e8
    have h9 := h5 y7 e8
    have g10 := g6 y7 e8
    refine ⟨fun c11 => ?_, fun c12 => ?_⟩
    · have h13 := h9.1 c11
      have g14 := g10.1 c11
      exact hp _ h13 g14
    · have h15 := h9.2 c12
      have g16 := g10.2 c12
      refine j_wp_X9_kind_4 h15 g16 (fun w19 w20 h17 g18 => ?_)
      refine ⟨fun c21 => ?_, fun c22 => ?_⟩
      · have h23 := h17.1 c21
        have g24 := g18.1 c21
        refine ⟨fun c25 => ?_, fun c26 => ?_⟩
        · have h27 := h23.1 c25
          have g28 := g24.1 c25
          exact j_wj_X9_fill_152 h27 g28 hK37 hp
        · have h29 := h23.2 c26
          have g30 := g24.2 c26
          refine j_wp_X9_isHeld h29 g30 (fun w33 w34 h31 g32 => ?_)
          refine ⟨fun c35 => ?_, fun c36 => ?_⟩
          · have h37 := h31.1 c35
            have g38 := g32.1 c35
            exact j_wj_X9_fill_152 h37 g38 hK37 hp
          · have h39 := h31.2 c36
            have g40 := g32.2 c36
            refine j_wp_X9_end_4 h39 g40 (fun w43 w44 h41 g42 => ?_)
            refine ⟨fun c45 => ?_, fun c46 => ?_⟩
            · have h47 := h41.1 c45
              have g48 := g42.1 c45
              exact j_wj_X9_fill_152 h47 g48 hK37 hp
            · have h49 := h41.2 c46
              have g50 := g42.2 c46
              refine j_wp_X9_end_4 h49 g50 (fun w53 w54 h51 g52 => ?_)
              refine j_wp_X9_kind_4 h51 g52 (fun w57 w58 h55 g56 => ?_)
              refine ⟨fun c59 => ?_, fun c60 => ?_⟩
              · have h61 := h55.1 c59
                have g62 := g56.1 c59
                exact j_wj_X9_fill_152 h61 g62 hK37 hp
              · have h63 := h55.2 c60
                have g64 := g56.2 c60
                refine j_wp_X9_hold h63 g64 (fun w67 w68 h65 g66 => ?_)
                refine j_wp_X9_isHeld h65 g66 (fun w71 w72 h69 g70 => ?_)
                refine ⟨fun c73 => ?_, fun c74 => ?_⟩
                · have h75 := h69.1 c73
                  have g76 := g70.1 c73
                  exact j_wj_X9_fill_152 h75 g76 hK37 hp
                · have h77 := h69.2 c74
                  have g78 := g70.2 c74
                  exact hK37 _ _ _ _ _ h77 g78
      · have h79 := h17.2 c22
        have g80 := g18.2 c22
        refine j_wp_X9_again h79 g80 (fun w83 w84 h81 g82 => ?_)
        exact hK37 _ _ _ _ _ h81 g82
theorem j_wp_X9_fill {x1 : Int32} {x2 : Int32} {u : mS} {post post1 post2 : mS → Prop} (h : wp_X9_fill x1 x2 u post) (g : wp_X9_fill x1 x2 u post1) (hp : ∀ (b0_ : mS), post b0_ → post1 b0_ → post2 b0_) : wp_X9_fill x1 x2 u post2 := by
  refine j_wp_X9_end_4 h g (fun w3 w4 h1 g2 => ?_)
  refine j_wp_X9_end_4 h1 g2 (fun w7 w8 h5 g6 => ?_)
  intro y9 e10
  have h11 := h5 y9 e10
  have g12 := g6 y9 e10
  intro y13 e14
  have h15 := h11 y13 e14
  have g16 := g12 y13 e14
  intro y17 e18
  have h19 := h15 y17 e18
  have g20 := g16 y17 e18
  obtain ⟨n21, h23⟩ := h19
  obtain ⟨m22, g24⟩ := g20
  refine ⟨n21, mL5_j ?_ n21 m22 _ _ _ _ _ h23 g24⟩
  intro K_ L_ M_ hK_ _ _ _ _ _ a_ b_
  exact j_wj_X9_fill_37 a_ b_ hK_ hp
theorem j_wp_X9_kind_13 {x1 : Int32} {u : mS} {post post1 post2 : Int32 → mS → Prop} (h : wp_X9_kind_13 x1 u post) (g : wp_X9_kind_13 x1 u post1) (hp : ∀ (b0_ : Int32) (b1_ : mS), post b0_ b1_ → post1 b0_ b1_ → post2 b0_ b1_) : wp_X9_kind_13 x1 u post2 := by
  refine ⟨h.1, ?_⟩
  have h1 := h.2
  have g2 := g.2
  intro y3 e4
  have h5 := h1 y3 e4
  have g6 := g2 y3 e4
  intro y7 e8
  have h9 := h5 y7 e8
  have g10 := g6 y7 e8
  exact hp _ _ h9 g10
theorem j_wj_X9_turn_13_14_37 {K3 K31 K32 : Int32 → Int32 → Int32 → mS → Prop} {post post1 post2 : mS → Prop} {x4 : Int32} {x5 : Int32} {x6 : Int32} {z0 : Int32} {z1 : Int32} {u : mS} (h : wj_X9_turn_13_14_37 K3 post x4 x5 x6 z0 z1 u) (g : wj_X9_turn_13_14_37 K31 post1 x4 x5 x6 z0 z1 u) (hK3 : ∀ (b0_ : Int32) (b1_ : Int32) (b2_ : Int32) (b3_ : mS), K3 b0_ b1_ b2_ b3_ → K31 b0_ b1_ b2_ b3_ → K32 b0_ b1_ b2_ b3_) (hp : ∀ (b0_ : mS), post b0_ → post1 b0_ → post2 b0_) : wj_X9_turn_13_14_37 K32 post2 x4 x5 x6 z0 z1 u := by
  refine ⟨h.1, ?_⟩
  have h1 := h.2
  have g2 := g.2
  intro y3 e4
  have h5 := h1 y3 e4
  have g6 := g2 y3 e4
  intro y7 e8
  have h9 := h5 y7 e8
  have g10 := g6 y7 e8
  exact hK3 _ _ _ _ h9 g10
theorem j_wj_X9_turn_13_14_3 {K3 K31 K32 : Int32 → Int32 → Int32 → mS → Prop} {post post1 post2 : mS → Prop} {x4 : Int32} {x5 : Int32} {x6 : Int32} {u : mS} (h : wj_X9_turn_13_14_3 K3 post x4 x5 x6 u) (g : wj_X9_turn_13_14_3 K31 post1 x4 x5 x6 u) (hK3 : ∀ (b0_ : Int32) (b1_ : Int32) (b2_ : Int32) (b3_ : mS), K3 b0_ b1_ b2_ b3_ → K31 b0_ b1_ b2_ b3_ → K32 b0_ b1_ b2_ b3_) (hp : ∀ (b0_ : mS), post b0_ → post1 b0_ → post2 b0_) : wj_X9_turn_13_14_3 K32 post2 x4 x5 x6 u := by
  refine ⟨fun c1 => ?_, fun c2 => ?_⟩
  · have h3 := h.1 c1
    have g4 := g.1 c1
    exact hp _ h3 g4
  · have h5 := h.2 c2
    have g6 := g.2 c2
    refine j_wp_X9_kind_13 h5 g6 (fun w9 w10 h7 g8 => ?_)
    refine ⟨fun c11 => ?_, fun c12 => ?_⟩
    · have h13 := h7.1 c11
      have g14 := g8.1 c11
      refine ⟨h13.1, ?_⟩
      have h15 := h13.2
      have g16 := g14.2
      intro y17 e18
      have h19 := h15 y17 e18
      have g20 := g16 y17 e18
      exact j_wj_X9_turn_13_14_37 h19 g20 hK3 hp
    · have h21 := h7.2 c12
      have g22 := g8.2 c12
      refine ⟨h21.1, ?_⟩
      have h23 := h21.2
      have g24 := g22.2
      intro y25 e26
      have h27 := h23 y25 e26
      have g28 := g24 y25 e26
      intro y29 e30
      have h31 := h27 y29 e30
      have g32 := g28 y29 e30
      exact j_wj_X9_turn_13_14_37 h31 g32 hK3 hp
theorem j_wp_X9_turn_13_14 {x3 : Int32} {x4 : Int32} {x5 : Int32} {u : mS} {post post1 post2 : mS → Prop} (h : wp_X9_turn_13_14 x3 x4 x5 u post) (g : wp_X9_turn_13_14 x3 x4 x5 u post1) (hp : ∀ (b0_ : mS), post b0_ → post1 b0_ → post2 b0_) : wp_X9_turn_13_14 x3 x4 x5 u post2 := by
  obtain ⟨n1, h3⟩ := h
  obtain ⟨m2, g4⟩ := g
  refine ⟨n1, mL4_j ?_ n1 m2 _ _ _ _ h3 g4⟩
  intro K_ L_ M_ hK_ _ _ _ _ a_ b_
  exact j_wj_X9_turn_13_14_3 a_ b_ hK_ hp
theorem j_wj_X9_use_182 {K182 K1821 K1822 : Int32 → mS → Prop} {post post1 post2 : mS → Prop} {x5 : Int32} {u : mS} (h : wj_X9_use_182 K182 post x5 u) (g : wj_X9_use_182 K1821 post1 x5 u) (hK182 : ∀ (b0_ : Int32) (b1_ : mS), K182 b0_ b1_ → K1821 b0_ b1_ → K1822 b0_ b1_) (hp : ∀ (b0_ : mS), post b0_ → post1 b0_ → post2 b0_) : wj_X9_use_182 K1822 post2 x5 u := by
  intro y1 e2
  have h3 := h y1 e2
  have g4 := g y1 e2
  refine ⟨fun c5 => ?_, fun c6 => ?_⟩
  · have h7 := h3.1 c5
    have g8 := g4.1 c5
    exact hp _ h7 g8
  · have h9 := h3.2 c6
    have g10 := g4.2 c6
    intro y11 e12
    have h13 := h9 y11 e12
    have g14 := g10 y11 e12
    intro y15 e16
    have h17 := h13 y15 e16
    have g18 := g14 y15 e16
    refine ⟨h17.1, ?_⟩
    have h19 := h17.2
    have g20 := g18.2
    intro y21 e22
    have h23 := h19 y21 e22
    have g24 := g20 y21 e22
    refine ⟨h23.1, ?_⟩
    have h25 := h23.2
    have g26 := g24.2
    intro y27 e28
    have h29 := h25 y27 e28
    have g30 := g26 y27 e28
    intro y31 e32
    have h33 := h29 y31 e32
    have g34 := g30 y31 e32
    intro y35 e36
    have h37 := h33 y35 e36
    have g38 := g34 y35 e36
    refine ⟨h37.1, ?_⟩
    have h39 := h37.2
    have g40 := g38.2
    intro y41 e42
    have h43 := h39 y41 e42
    have g44 := g40 y41 e42
    refine ⟨h43.1, ?_⟩
    have h45 := h43.2
    have g46 := g44.2
    intro y47 e48
    have h49 := h45 y47 e48
    have g50 := g46 y47 e48
    intro y51 e52
    have h53 := h49 y51 e52
    have g54 := g50 y51 e52
    exact hK182 _ _ h53 g54
theorem j_wj_X9_use_114 {post post1 post2 : mS → Prop} {x1 : Int32} {x2 : Int32} {x3 : Int32} {x4 : Int32} {u : mS} (h : wj_X9_use_114 post x1 x2 x3 x4 u) (g : wj_X9_use_114 post1 x1 x2 x3 x4 u) (hp : ∀ (b0_ : mS), post b0_ → post1 b0_ → post2 b0_) : wj_X9_use_114 post2 x1 x2 x3 x4 u := by
  refine ⟨h.1, ?_⟩
  have h1 := h.2
  have g2 := g.2
  intro y3 e4
  have h5 := h1 y3 e4
  have g6 := g2 y3 e4
  refine ⟨fun c7 => ?_, fun c8 => ?_⟩
  · have h9 := h5.1 c7
    have g10 := g6.1 c7
    intro y11 e12
    have h13 := h9 y11 e12
    have g14 := g10 y11 e12
    intro y15 e16
    have h17 := h13 y15 e16
    have g18 := g14 y15 e16
    refine j_wp_X9_fill h17 g18 (fun w21 h19 g20 => ?_)
    intro y22 e23
    have h24 := h19 y22 e23
    have g25 := g20 y22 e23
    refine ⟨fun c26 => ?_, fun c27 => ?_⟩
    · have h28 := h24.1 c26
      have g29 := g25.1 c26
      intro y30 e31
      have h32 := h28 y30 e31
      have g33 := g29 y30 e31
      refine j_wp_X9_turn_13_14 h32 g33 (fun w36 h34 g35 => ?_)
      intro y37 e38
      have h39 := h34 y37 e38
      have g40 := g35 y37 e38
      intro y41 e42
      have h43 := h39 y41 e42
      have g44 := g40 y41 e42
      intro y45 e46
      have h47 := h43 y45 e46
      have g48 := g44 y45 e46
      obtain ⟨n49, h51⟩ := h47
      obtain ⟨m50, g52⟩ := g48
      refine ⟨n49, mL2_j ?_ n49 m50 _ _ h51 g52⟩
      intro K_ L_ M_ hK_ _ _ a_ b_
      exact j_wj_X9_use_182 a_ b_ hK_ hp
    · have h53 := h24.2 c27
      have g54 := g25.2 c27
      exact hp _ h53 g54
  · have h55 := h5.2 c8
    have g56 := g6.2 c8
    refine j_wp_X9_fails h55 g56 (fun w59 h57 g58 => ?_)
    exact hp _ h57 g58
theorem j_wj_X9_use_74 {K74 K741 K742 : Int32 → Int32 → Int32 → Int32 → mS → Prop} {post post1 post2 : mS → Prop} {x1 : Int32} {x2 : Int32} {x3 : Int32} {x4 : Int32} {u : mS} (h : wj_X9_use_74 K74 post x1 x2 x3 x4 u) (g : wj_X9_use_74 K741 post1 x1 x2 x3 x4 u) (hK74 : ∀ (b0_ : Int32) (b1_ : Int32) (b2_ : Int32) (b3_ : Int32) (b4_ : mS), K74 b0_ b1_ b2_ b3_ b4_ → K741 b0_ b1_ b2_ b3_ b4_ → K742 b0_ b1_ b2_ b3_ b4_) (hp : ∀ (b0_ : mS), post b0_ → post1 b0_ → post2 b0_) : wj_X9_use_74 K742 post2 x1 x2 x3 x4 u := by
  refine ⟨h.1, ?_⟩
  have h1 := h.2
  have g2 := g.2
  intro y3 e4
  have h5 := h1 y3 e4
  have g6 := g2 y3 e4
  refine ⟨fun c7 => ?_, fun c8 => ?_⟩
  · have h9 := h5.1 c7
    have g10 := g6.1 c7
    exact j_wj_X9_use_114 h9 g10 hp
  · have h11 := h5.2 c8
    have g12 := g6.2 c8
    intro y13 e14
    have h15 := h11 y13 e14
    have g16 := g12 y13 e14
    intro y17 e18
    have h19 := h15 y17 e18
    have g20 := g16 y17 e18
    refine j_wp_X9_matches h19 g20 (fun w23 w24 h21 g22 => ?_)
    refine ⟨fun c25 => ?_, fun c26 => ?_⟩
    · have h27 := h21.1 c25
      have g28 := g22.1 c25
      exact j_wj_X9_use_114 h27 g28 hp
    · have h29 := h21.2 c26
      have g30 := g22.2 c26
      refine j_wp_X9_end_4 h29 g30 (fun w33 w34 h31 g32 => ?_)
      exact hK74 _ _ _ _ _ h31 g32
theorem j_wp_X9_use {x1 : Int32} {u : mS} {post post1 post2 : mS → Prop} (h : wp_X9_use x1 u post) (g : wp_X9_use x1 u post1) (hp : ∀ (b0_ : mS), post b0_ → post1 b0_ → post2 b0_) : wp_X9_use x1 u post2 := by
  intro y1 e2
  have h3 := h y1 e2
  have g4 := g y1 e2
  refine ⟨fun c5 => ?_, fun c6 => ?_⟩
  · have h7 := h3.1 c5
    have g8 := g4.1 c5
    intro y9 e10
    have h11 := h7 y9 e10
    have g12 := g8 y9 e10
    intro y13 e14
    have h15 := h11 y13 e14
    have g16 := g12 y13 e14
    intro y17 e18
    have h19 := h15 y17 e18
    have g20 := g16 y17 e18
    refine j_wp_X9_scope h19 g20 (fun w23 w24 h21 g22 => ?_)
    intro y25 e26
    have h27 := h21 y25 e26
    have g28 := g22 y25 e26
    refine ⟨fun c29 => ?_, fun c30 => ?_⟩
    · have h31 := h27.1 c29
      have g32 := g28.1 c29
      intro y33 e34
      have h35 := h31 y33 e34
      have g36 := g32 y33 e34
      refine j_wp_X9_end_2 h35 g36 (fun w39 w40 h37 g38 => ?_)
      intro y41 e42
      have h43 := h37 y41 e42
      have g44 := g38 y41 e42
      refine j_wp_X9_turn_2_3 h43 g44 (fun w47 h45 g46 => ?_)
      refine ⟨h45.1, ?_⟩
      have h48 := h45.2
      have g49 := g46.2
      intro y50 e51
      have h52 := h48 y50 e51
      have g53 := g49 y50 e51
      obtain ⟨n54, h56⟩ := h52
      obtain ⟨m55, g57⟩ := g53
      refine ⟨n54, mL5_j ?_ n54 m55 _ _ _ _ _ h56 g57⟩
      intro K_ L_ M_ hK_ _ _ _ _ _ a_ b_
      exact j_wj_X9_use_74 a_ b_ hK_ hp
    · have h58 := h27.2 c30
      have g59 := g28.2 c30
      exact hp _ h58 g59
  · have h60 := h3.2 c6
    have g61 := g4.2 c6
    refine j_wp_X9_fails h60 g61 (fun w64 h62 g63 => ?_)
    exact hp _ h62 g63
theorem j_wj_X9_list_94 {post post1 post2 : mS → Prop} {z0 : Int32} {u : mS} (h : wj_X9_list_94 post z0 u) (g : wj_X9_list_94 post1 z0 u) (hp : ∀ (b0_ : mS), post b0_ → post1 b0_ → post2 b0_) : wj_X9_list_94 post2 z0 u := by
  refine j_wp_X9_fails h g (fun w3 h1 g2 => ?_)
  exact hp _ h1 g2
theorem j_wj_X9_list_150 {post post1 post2 : mS → Prop} {u : mS} (h : wj_X9_list_150 post u) (g : wj_X9_list_150 post1 u) (hp : ∀ (b0_ : mS), post b0_ → post1 b0_ → post2 b0_) : wj_X9_list_150 post2 u := by
  refine j_wp_X9_putOpen h g (fun w3 h1 g2 => ?_)
  intro y4 e5
  have h6 := h1 y4 e5
  have g7 := g2 y4 e5
  intro y8 e9
  have h10 := h6 y8 e9
  have g11 := g7 y8 e9
  intro y12 e13
  have h14 := h10 y12 e13
  have g15 := g11 y12 e13
  intro y16 e17
  have h18 := h14 y16 e17
  have g19 := g15 y16 e17
  intro y20 e21
  have h22 := h18 y20 e21
  have g23 := g19 y20 e21
  intro y24 e25
  have h26 := h22 y24 e25
  have g27 := g23 y24 e25
  exact hp _ h26 g27
theorem j_wj_X9_list_127 {post post1 post2 : mS → Prop} {x1 : Int32} {x2 : Int32} {u : mS} (h : wj_X9_list_127 post x1 x2 u) (g : wj_X9_list_127 post1 x1 x2 u) (hp : ∀ (b0_ : mS), post b0_ → post1 b0_ → post2 b0_) : wj_X9_list_127 post2 x1 x2 u := by
  refine ⟨fun c1 => ?_, fun c2 => ?_⟩
  · have h3 := h.1 c1
    have g4 := g.1 c1
    exact j_wj_X9_list_150 h3 g4 hp
  · have h5 := h.2 c2
    have g6 := g.2 c2
    refine ⟨h5.1, ?_⟩
    have h7 := h5.2
    have g8 := g6.2
    intro y9 e10
    have h11 := h7 y9 e10
    have g12 := g8 y9 e10
    refine ⟨fun c13 => ?_, fun c14 => ?_⟩
    · have h15 := h11.1 c13
      have g16 := g12.1 c13
      exact j_wj_X9_list_150 h15 g16 hp
    · have h17 := h11.2 c14
      have g18 := g12.2 c14
      refine j_wp_X9_use h17 g18 (fun w21 h19 g20 => ?_)
      exact hp _ h19 g20
theorem j_wj_X9_list_78 {post post1 post2 : mS → Prop} {x1 : Int32} {z0 : Int32} {u : mS} (h : wj_X9_list_78 post x1 z0 u) (g : wj_X9_list_78 post1 x1 z0 u) (hp : ∀ (b0_ : mS), post b0_ → post1 b0_ → post2 b0_) : wj_X9_list_78 post2 x1 z0 u := by
  refine ⟨fun c1 => ?_, fun c2 => ?_⟩
  · have h3 := h.1 c1
    have g4 := g.1 c1
    refine ⟨fun c5 => ?_, fun c6 => ?_⟩
    · have h7 := h3.1 c5
      have g8 := g4.1 c5
      exact j_wj_X9_list_127 h7 g8 hp
    · have h9 := h3.2 c6
      have g10 := g4.2 c6
      refine ⟨h9.1, ?_⟩
      have h11 := h9.2
      have g12 := g10.2
      intro y13 e14
      have h15 := h11 y13 e14
      have g16 := g12 y13 e14
      refine ⟨fun c17 => ?_, fun c18 => ?_⟩
      · have h19 := h15.1 c17
        have g20 := g16.1 c17
        exact j_wj_X9_list_127 h19 g20 hp
      · have h21 := h15.2 c18
        have g22 := g16.2 c18
        refine ⟨h21.1, ?_⟩
        have h23 := h21.2
        have g24 := g22.2
        intro y25 e26
        have h27 := h23 y25 e26
        have g28 := g24 y25 e26
        refine j_wp_X9_form h27 g28 (fun w31 h29 g30 => ?_)
        exact hp _ h29 g30
  · have h32 := h.2 c2
    have g33 := g.2 c2
    refine ⟨fun c34 => ?_, fun c35 => ?_⟩
    · have h36 := h32.1 c34
      have g37 := g33.1 c34
      exact j_wj_X9_list_94 h36 g37 hp
    · have h38 := h32.2 c35
      have g39 := g33.2 c35
      exact j_wj_X9_list_94 h38 g39 hp
theorem j_wp_X9_list {u : mS} {post post1 post2 : mS → Prop} (h : wp_X9_list u post) (g : wp_X9_list u post1) (hp : ∀ (b0_ : mS), post b0_ → post1 b0_ → post2 b0_) : wp_X9_list u post2 := by
  intro y1 e2
  have h3 := h y1 e2
  have g4 := g y1 e2
  refine ⟨fun c5 => ?_, fun c6 => ?_⟩
  · have h7 := h3.1 c5
    have g8 := g4.1 c5
    intro y9 e10
    have h11 := h7 y9 e10
    have g12 := g8 y9 e10
    intro y13 e14
    have h15 := h11 y13 e14
    have g16 := g12 y13 e14
    refine j_wp_X9_kind_2 h15 g16 (fun w19 w20 h17 g18 => ?_)
    refine ⟨fun c21 => ?_, fun c22 => ?_⟩
    · have h23 := h17.1 c21
      have g24 := g18.1 c21
      refine ⟨fun c25 => ?_, fun c26 => ?_⟩
      · have h27 := h23.1 c25
        have g28 := g24.1 c25
        exact j_wj_X9_list_78 h27 g28 hp
      · have h29 := h23.2 c26
        have g30 := g24.2 c26
        intro y31 e32
        have h33 := h29 y31 e32
        have g34 := g30 y31 e32
        intro y35 e36
        have h37 := h33 y35 e36
        have g38 := g34 y35 e36
        refine j_wp_X9_what_2 h37 g38 (fun w41 w42 h39 g40 => ?_)
        intro y43 e44
        have h45 := h39 y43 e44
        have g46 := g40 y43 e44
        intro y47 e48
        have h49 := h45 y47 e48
        have g50 := g46 y47 e48
        refine ⟨h49.1, ?_⟩
        have h51 := h49.2
        have g52 := g50.2
        intro y53 e54
        have h55 := h51 y53 e54
        have g56 := g52 y53 e54
        refine j_wp_X9_means h55 g56 (fun w59 w60 h57 g58 => ?_)
        exact j_wj_X9_list_78 h57 g58 hp
    · have h61 := h17.2 c22
      have g62 := g18.2 c22
      refine j_wp_X9_fails h61 g62 (fun w65 h63 g64 => ?_)
      exact hp _ h63 g64
  · have h66 := h3.2 c6
    have g67 := g4.2 c6
    refine j_wp_X9_fails h66 g67 (fun w70 h68 g69 => ?_)
    exact hp _ h68 g69
theorem j_wj_X9_step_125 {post post1 post2 : mS → Prop} {u : mS} (h : wj_X9_step_125 post u) (g : wj_X9_step_125 post1 u) (hp : ∀ (b0_ : mS), post b0_ → post1 b0_ → post2 b0_) : wj_X9_step_125 post2 u := by
  intro y1 e2
  have h3 := h y1 e2
  have g4 := g y1 e2
  intro y5 e6
  have h7 := h3 y5 e6
  have g8 := g4 y5 e6
  intro y9 e10
  have h11 := h7 y9 e10
  have g12 := g8 y9 e10
  intro y13 e14
  have h15 := h11 y13 e14
  have g16 := g12 y13 e14
  intro y17 e18
  have h19 := h15 y17 e18
  have g20 := g16 y17 e18
  intro y21 e22
  have h23 := h19 y21 e22
  have g24 := g20 y21 e22
  exact hp _ h23 g24
theorem j_wj_X9_step_116 {post post1 post2 : mS → Prop} {x1 : Int32} {u : mS} (h : wj_X9_step_116 post x1 u) (g : wj_X9_step_116 post1 x1 u) (hp : ∀ (b0_ : mS), post b0_ → post1 b0_ → post2 b0_) : wj_X9_step_116 post2 x1 u := by
  refine ⟨fun c1 => ?_, fun c2 => ?_⟩
  · have h3 := h.1 c1
    have g4 := g.1 c1
    exact j_wj_X9_step_125 h3 g4 hp
  · have h5 := h.2 c2
    have g6 := g.2 c2
    refine j_wp_X9_putClose h5 g6 (fun w9 h7 g8 => ?_)
    exact j_wj_X9_step_125 h7 g8 hp
theorem j_wj_X9_step_47 {post post1 post2 : mS → Prop} {x1 : Int32} {u : mS} (h : wj_X9_step_47 post x1 u) (g : wj_X9_step_47 post1 x1 u) (hp : ∀ (b0_ : mS), post b0_ → post1 b0_ → post2 b0_) : wj_X9_step_47 post2 x1 u := by
  intro y1 e2
  have h3 := h y1 e2
  have g4 := g y1 e2
  refine ⟨fun c5 => ?_, fun c6 => ?_⟩
  · have h7 := h3.1 c5
    have g8 := g4.1 c5
    refine ⟨fun c9 => ?_, fun c10 => ?_⟩
    · have h11 := h7.1 c9
      have g12 := g8.1 c9
      refine ⟨fun c13 => ?_, fun c14 => ?_⟩
      · have h15 := h11.1 c13
        have g16 := g12.1 c13
        refine ⟨fun c17 => ?_, fun c18 => ?_⟩
        · have h19 := h15.1 c17
          have g20 := g16.1 c17
          refine ⟨fun c21 => ?_, fun c22 => ?_⟩
          · have h23 := h19.1 c21
            have g24 := g20.1 c21
            exact j_wj_X9_step_116 h23 g24 hp
          · have h25 := h19.2 c22
            have g26 := g20.2 c22
            refine ⟨fun c27 => ?_, fun c28 => ?_⟩
            · have h29 := h25.1 c27
              have g30 := g26.1 c27
              refine j_wp_X9_fails h29 g30 (fun w33 h31 g32 => ?_)
              exact hp _ h31 g32
            · have h34 := h25.2 c28
              have g35 := g26.2 c28
              exact j_wj_X9_step_116 h34 g35 hp
        · have h36 := h15.2 c18
          have g37 := g16.2 c18
          intro y38 e39
          have h40 := h36 y38 e39
          have g41 := g37 y38 e39
          refine j_wp_X9_putToken h40 g41 (fun w44 h42 g43 => ?_)
          intro y45 e46
          have h47 := h42 y45 e46
          have g48 := g43 y45 e46
          intro y49 e50
          have h51 := h47 y49 e50
          have g52 := g48 y49 e50
          intro y53 e54
          have h55 := h51 y53 e54
          have g56 := g52 y53 e54
          exact hp _ h55 g56
      · have h57 := h11.2 c14
        have g58 := g12.2 c14
        refine j_wp_X9_word h57 g58 (fun w61 h59 g60 => ?_)
        exact hp _ h59 g60
    · have h62 := h7.2 c10
      have g63 := g8.2 c10
      refine j_wp_X9_list h62 g63 (fun w66 h64 g65 => ?_)
      exact hp _ h64 g65
  · have h67 := h3.2 c6
    have g68 := g4.2 c6
    exact hp _ h67 g68
theorem j_wp_X9_step {u : mS} {post post1 post2 : mS → Prop} (h : wp_X9_step u post) (g : wp_X9_step u post1) (hp : ∀ (b0_ : mS), post b0_ → post1 b0_ → post2 b0_) : wp_X9_step u post2 := by
  intro y1 e2
  have h3 := h y1 e2
  have g4 := g y1 e2
  refine j_wp_X9_kind_2 h3 g4 (fun w7 w8 h5 g6 => ?_)
  intro y9 e10
  have h11 := h5 y9 e10
  have g12 := g6 y9 e10
  refine ⟨fun c13 => ?_, fun c14 => ?_⟩
  · have h15 := h11.1 c13
    have g16 := g12.1 c13
    exact j_wj_X9_step_47 h15 g16 hp
  · have h17 := h11.2 c14
    have g18 := g12.2 c14
    refine ⟨fun c19 => ?_, fun c20 => ?_⟩
    · have h21 := h17.1 c19
      have g22 := g18.1 c19
      exact j_wj_X9_step_47 h21 g22 hp
    · have h23 := h17.2 c20
      have g24 := g18.2 c20
      refine ⟨fun c25 => ?_, fun c26 => ?_⟩
      · have h27 := h23.1 c25
        have g28 := g24.1 c25
        exact j_wj_X9_step_47 h27 g28 hp
      · have h29 := h23.2 c26
        have g30 := g24.2 c26
        refine ⟨fun c31 => ?_, fun c32 => ?_⟩
        · have h33 := h29.1 c31
          have g34 := g30.1 c31
          exact j_wj_X9_step_47 h33 g34 hp
        · have h35 := h29.2 c32
          have g36 := g30.2 c32
          refine j_wp_X9_put h35 g36 (fun w39 h37 g38 => ?_)
          intro y40 e41
          have h42 := h37 y40 e41
          have g43 := g38 y40 e41
          exact j_wj_X9_step_47 h42 g43 hp
theorem j_wj_X9_expand_10 {post post1 post2 : Int32 → mS → Prop} {u : mS} (h : wj_X9_expand_10 post u) (g : wj_X9_expand_10 post1 u) (hp : ∀ (b0_ : Int32) (b1_ : mS), post b0_ b1_ → post1 b0_ b1_ → post2 b0_ b1_) : wj_X9_expand_10 post2 u := by
  exact hp _ _ h g
theorem j_wj_X9_expand_122 {post post1 post2 : Int32 → mS → Prop} {u : mS} (h : wj_X9_expand_122 post u) (g : wj_X9_expand_122 post1 u) (hp : ∀ (b0_ : Int32) (b1_ : mS), post b0_ b1_ → post1 b0_ b1_ → post2 b0_ b1_) : wj_X9_expand_122 post2 u := by
  intro y1 e2
  have h3 := h y1 e2
  have g4 := g y1 e2
  refine ⟨fun c5 => ?_, fun c6 => ?_⟩
  · have h7 := h3.1 c5
    have g8 := g4.1 c5
    intro y9 e10
    have h11 := h7 y9 e10
    have g12 := g8 y9 e10
    exact hp _ _ h11 g12
  · have h13 := h3.2 c6
    have g14 := g4.2 c6
    intro y15 e16
    have h17 := h13 y15 e16
    have g18 := g14 y15 e16
    intro y19 e20
    have h21 := h17 y19 e20
    have g22 := g18 y19 e20
    exact hp _ _ h21 g22
theorem j_wj_X9_expand_110 {post post1 post2 : Int32 → mS → Prop} {u : mS} (h : wj_X9_expand_110 post u) (g : wj_X9_expand_110 post1 u) (hp : ∀ (b0_ : Int32) (b1_ : mS), post b0_ b1_ → post1 b0_ b1_ → post2 b0_ b1_) : wj_X9_expand_110 post2 u := by
  intro y1 e2
  have h3 := h y1 e2
  have g4 := g y1 e2
  refine ⟨fun c5 => ?_, fun c6 => ?_⟩
  · have h7 := h3.1 c5
    have g8 := g4.1 c5
    exact j_wj_X9_expand_122 h7 g8 hp
  · have h9 := h3.2 c6
    have g10 := g4.2 c6
    intro y11 e12
    have h13 := h9 y11 e12
    have g14 := g10 y11 e12
    exact j_wj_X9_expand_122 h13 g14 hp
theorem j_wj_X9_expand_86 {K86 K861 K862 : mS → Prop} {post post1 post2 : Int32 → mS → Prop} {u : mS} (h : wj_X9_expand_86 K86 post u) (g : wj_X9_expand_86 K861 post1 u) (hK86 : ∀ (b0_ : mS), K86 b0_ → K861 b0_ → K862 b0_) (hp : ∀ (b0_ : Int32) (b1_ : mS), post b0_ b1_ → post1 b0_ b1_ → post2 b0_ b1_) : wj_X9_expand_86 K862 post2 u := by
  intro y1 e2
  have h3 := h y1 e2
  have g4 := g y1 e2
  refine ⟨fun c5 => ?_, fun c6 => ?_⟩
  · have h7 := h3.1 c5
    have g8 := g4.1 c5
    exact j_wj_X9_expand_110 h7 g8 hp
  · have h9 := h3.2 c6
    have g10 := g4.2 c6
    intro y11 e12
    have h13 := h9 y11 e12
    have g14 := g10 y11 e12
    refine ⟨fun c15 => ?_, fun c16 => ?_⟩
    · have h17 := h13.1 c15
      have g18 := g14.1 c15
      exact j_wj_X9_expand_110 h17 g18 hp
    · have h19 := h13.2 c16
      have g20 := g14.2 c16
      refine j_wp_X9_step h19 g20 (fun w23 h21 g22 => ?_)
      exact hK86 _ h21 g22
theorem j_wj_X9_expand_64 {post post1 post2 : Int32 → mS → Prop} {x2 : Int32} {z0 : Int32} {u : mS} (h : wj_X9_expand_64 post x2 z0 u) (g : wj_X9_expand_64 post1 x2 z0 u) (hp : ∀ (b0_ : Int32) (b1_ : mS), post b0_ b1_ → post1 b0_ b1_ → post2 b0_ b1_) : wj_X9_expand_64 post2 x2 z0 u := by
  intro y1 e2
  have h3 := h y1 e2
  have g4 := g y1 e2
  intro y5 e6
  have h7 := h3 y5 e6
  have g8 := g4 y5 e6
  refine j_wp_X9_beginning h7 g8 (fun w11 h9 g10 => ?_)
  refine ⟨fun c12 => ?_, fun c13 => ?_⟩
  · have h14 := h9.1 c12
    have g15 := g10.1 c12
    obtain ⟨n16, h18⟩ := h14
    obtain ⟨m17, g19⟩ := g15
    refine ⟨n16, mL1_j ?_ n16 m17 _ h18 g19⟩
    intro K_ L_ M_ hK_ _ a_ b_
    exact j_wj_X9_expand_86 a_ b_ hK_ hp
  · have h20 := h9.2 c13
    have g21 := g10.2 c13
    intro y22 e23
    have h24 := h20 y22 e23
    have g25 := g21 y22 e23
    exact hp _ _ h24 g25
theorem j_wp_X9_expand {x1 : Int32} {u : mS} {post post1 post2 : Int32 → mS → Prop} (h : wp_X9_expand x1 u post) (g : wp_X9_expand x1 u post1) (hp : ∀ (b0_ : Int32) (b1_ : mS), post b0_ b1_ → post1 b0_ b1_ → post2 b0_ b1_) : wp_X9_expand x1 u post2 := by
  refine ⟨fun c1 => ?_, fun c2 => ?_⟩
  · have h3 := h.1 c1
    have g4 := g.1 c1
    exact j_wj_X9_expand_10 h3 g4 hp
  · have h5 := h.2 c2
    have g6 := g.2 c2
    refine ⟨fun c7 => ?_, fun c8 => ?_⟩
    · have h9 := h5.1 c7
      have g10 := g6.1 c7
      refine j_wp_X9_read h9 g10 (fun w13 w14 h11 g12 => ?_)
      intro y15 e16
      have h17 := h11 y15 e16
      have g18 := g12 y15 e16
      intro y19 e20
      have h21 := h17 y19 e20
      have g22 := g18 y19 e20
      intro y23 e24
      have h25 := h21 y23 e24
      have g26 := g22 y23 e24
      intro y27 e28
      have h29 := h25 y27 e28
      have g30 := g26 y27 e28
      intro y31 e32
      have h33 := h29 y31 e32
      have g34 := g30 y31 e32
      intro y35 e36
      have h37 := h33 y35 e36
      have g38 := g34 y35 e36
      intro y39 e40
      have h41 := h37 y39 e40
      have g42 := g38 y39 e40
      refine ⟨fun c43 => ?_, fun c44 => ?_⟩
      · have h45 := h41.1 c43
        have g46 := g42.1 c43
        exact j_wj_X9_expand_64 h45 g46 hp
      · have h47 := h41.2 c44
        have g48 := g42.2 c44
        exact j_wj_X9_expand_64 h47 g48 hp
    · have h49 := h5.2 c8
      have g50 := g6.2 c8
      exact j_wj_X9_expand_10 h49 g50 hp
