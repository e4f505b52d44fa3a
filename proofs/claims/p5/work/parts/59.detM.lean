theorem el_p {A X Y goal : Prop} (h : (A → X) ∧ (¬ A → Y)) (h1 : A → X → goal) (h2 : ¬ A → Y → goal) : goal := by
  by_cases c : A
  · exact h1 c (h.1 c)
  · exact h2 c (h.2 c)
theorem el_n {A X Y goal : Prop} (h : (¬ A → X) ∧ (A → Y)) (h1 : ¬ A → X → goal) (h2 : A → Y → goal) : goal := by
  by_cases c : A
  · exact h2 c (h.2 c)
  · exact h1 c (h.1 c)
theorem d_wp_X9_look {x1 : Int32} {u : mS} {post : Int32 → mS → Prop} {goal : Prop} (h : wp_X9_look x1 u post) (hp : ∀ (b0_ : Int32) (b1_ : mS), post b0_ b1_ → (∀ (post_ : Int32 → mS → Prop), post_ b0_ b1_ → wp_X9_look x1 u post_) → goal) : goal := by
  have h1 := h _ rfl
  refine el_p h1 (fun c2 h3 => ?_) (fun c2 h3 => ?_)
  · exact hp _ _ h3 (fun post_ hq_ => by
            rintro _ rfl
            refine ⟨fun _ => ?_, fun q_ => absurd c2 q_⟩
            exact hq_)
  · have v5 := h3.1
    have h4 := h3.2
    have h6 := h4 _ rfl
    exact hp _ _ h6 (fun post_ hq_ => by
            rintro _ rfl
            refine ⟨fun q_ => absurd q_ c2, fun _ => ?_⟩
            refine ⟨v5, ?_⟩
            rintro _ rfl
            exact hq_)
theorem d_wp_X9_isLetter {x0 : Int32} {u : mS} {post : Int32 → mS → Prop} {goal : Prop} (h : wp_X9_isLetter x0 u post) (hp : ∀ (b0_ : Int32) (b1_ : mS), post b0_ b1_ → (∀ (post_ : Int32 → mS → Prop), post_ b0_ b1_ → wp_X9_isLetter x0 u post_) → goal) : goal := by
  refine el_p h (fun c1 h2 => ?_) (fun c1 h2 => ?_)
  · exact hp _ _ h2 (fun post_ hq_ => by
            refine ⟨fun _ => ?_, fun q_ => absurd c1 q_⟩
            exact hq_)
  · refine el_p h2 (fun c3 h4 => ?_) (fun c3 h4 => ?_)
    · exact hp _ _ h4 (fun post_ hq_ => by
              refine ⟨fun q_ => absurd q_ c1, fun _ => ?_⟩
              refine ⟨fun _ => ?_, fun q_ => absurd c3 q_⟩
              exact hq_)
    · exact hp _ _ h4 (fun post_ hq_ => by
              refine ⟨fun q_ => absurd q_ c1, fun _ => ?_⟩
              refine ⟨fun q_ => absurd q_ c3, fun _ => ?_⟩
              exact hq_)
theorem d_wp_X9_isDigit {x0 : Int32} {u : mS} {post : Int32 → mS → Prop} {goal : Prop} (h : wp_X9_isDigit x0 u post) (hp : ∀ (b0_ : Int32) (b1_ : mS), post b0_ b1_ → (∀ (post_ : Int32 → mS → Prop), post_ b0_ b1_ → wp_X9_isDigit x0 u post_) → goal) : goal := by
  refine el_p h (fun c1 h2 => ?_) (fun c1 h2 => ?_)
  · exact hp _ _ h2 (fun post_ hq_ => by
            refine ⟨fun _ => ?_, fun q_ => absurd c1 q_⟩
            exact hq_)
  · refine el_p h2 (fun c3 h4 => ?_) (fun c3 h4 => ?_)
    · exact hp _ _ h4 (fun post_ hq_ => by
              refine ⟨fun q_ => absurd q_ c1, fun _ => ?_⟩
              refine ⟨fun _ => ?_, fun q_ => absurd c3 q_⟩
              exact hq_)
    · exact hp _ _ h4 (fun post_ hq_ => by
              refine ⟨fun q_ => absurd q_ c1, fun _ => ?_⟩
              refine ⟨fun q_ => absurd q_ c3, fun _ => ?_⟩
              exact hq_)
theorem d_wj_X9_run_54 {K11 : Int32 → Int32 → Int32 → mS → Prop} {post : Int32 → mS → Prop} {x1 : Int32} {x2 : Int32} {x3 : Int32} {u : mS} {goal : Prop} (h : wj_X9_run_54 K11 post x1 x2 x3 u) (hK11 : ∀ (b0_ : Int32) (b1_ : Int32) (b2_ : Int32) (b3_ : mS), K11 b0_ b1_ b2_ b3_ → (∀ (K11_ : Int32 → Int32 → Int32 → mS → Prop) (post_ : Int32 → mS → Prop), K11_ b0_ b1_ b2_ b3_ → wj_X9_run_54 K11_ post_ x1 x2 x3 u) → goal) (hp : ∀ (b0_ : Int32) (b1_ : mS), post b0_ b1_ → (∀ (K11_ : Int32 → Int32 → Int32 → mS → Prop) (post_ : Int32 → mS → Prop), post_ b0_ b1_ → wj_X9_run_54 K11_ post_ x1 x2 x3 u) → goal) : goal := by
  have h1 := h _ rfl
  exact hK11 _ _ _ _ h1 (fun K11_ post_ hq_ => by
        rintro _ rfl
        exact hq_)
theorem d_wj_X9_run_60 {post : Int32 → mS → Prop} {x2 : Int32} {u : mS} {goal : Prop} (h : wj_X9_run_60 post x2 u) (hp : ∀ (b0_ : Int32) (b1_ : mS), post b0_ b1_ → (∀ (post_ : Int32 → mS → Prop), post_ b0_ b1_ → wj_X9_run_60 post_ x2 u) → goal) : goal := by
  exact hp _ _ h (fun post_ hq_ => hq_)
theorem d_wj_X9_run_11 {K11 : Int32 → Int32 → Int32 → mS → Prop} {post : Int32 → mS → Prop} {x1 : Int32} {x2 : Int32} {x3 : Int32} {u : mS} {goal : Prop} (h : wj_X9_run_11 K11 post x1 x2 x3 u) (hK11 : ∀ (b0_ : Int32) (b1_ : Int32) (b2_ : Int32) (b3_ : mS), K11 b0_ b1_ b2_ b3_ → (∀ (K11_ : Int32 → Int32 → Int32 → mS → Prop) (post_ : Int32 → mS → Prop), K11_ b0_ b1_ b2_ b3_ → wj_X9_run_11 K11_ post_ x1 x2 x3 u) → goal) (hp : ∀ (b0_ : Int32) (b1_ : mS), post b0_ b1_ → (∀ (K11_ : Int32 → Int32 → Int32 → mS → Prop) (post_ : Int32 → mS → Prop), post_ b0_ b1_ → wj_X9_run_11 K11_ post_ x1 x2 x3 u) → goal) : goal := by
  have h1 := h _ rfl
  have h2 := h1 _ rfl
  refine el_p h2 (fun c3 h4 => ?_) (fun c3 h4 => ?_)
  · exact d_wj_X9_run_60 h4 (fun b0_ b1_ g_ r_ => hp _ _ g_ (fun K11_ post_ hq_ => by
            rintro _ rfl
            rintro _ rfl
            refine ⟨fun _ => ?_, fun q_ => absurd c3 q_⟩
            exact r_ _ hq_))
  · refine el_p h4 (fun c5 h6 => ?_) (fun c5 h6 => ?_)
    · have h7 := h6 _ rfl
      refine d_wp_X9_look h7 (fun w10 w11 h8 r9 => ?_)
      refine d_wp_X9_isDigit h8 (fun w14 w15 h12 r13 => ?_)
      refine el_p h12 (fun c16 h17 => ?_) (fun c16 h17 => ?_)
      · exact d_wj_X9_run_60 h17 (fun b0_ b1_ g_ r_ => hp _ _ g_ (fun K11_ post_ hq_ => by
                rintro _ rfl
                rintro _ rfl
                refine ⟨fun q_ => absurd q_ c3, fun _ => ?_⟩
                refine ⟨fun _ => ?_, fun q_ => absurd c5 q_⟩
                rintro _ rfl
                refine r9 _ ?_
                refine r13 _ ?_
                refine ⟨fun _ => ?_, fun q_ => absurd c16 q_⟩
                exact r_ _ hq_))
      · exact d_wj_X9_run_54 h17 (fun b0_ b1_ b2_ b3_ g_ r_ => hK11 _ _ _ _ g_ (fun K11_ post_ hq_ => by
                rintro _ rfl
                rintro _ rfl
                refine ⟨fun q_ => absurd q_ c3, fun _ => ?_⟩
                refine ⟨fun _ => ?_, fun q_ => absurd c5 q_⟩
                rintro _ rfl
                refine r9 _ ?_
                refine r13 _ ?_
                refine ⟨fun q_ => absurd q_ c16, fun _ => ?_⟩
                exact r_ _ _ hq_)) (fun b0_ b1_ g_ r_ => hp _ _ g_ (fun K11_ post_ hq_ => by
                rintro _ rfl
                rintro _ rfl
                refine ⟨fun q_ => absurd q_ c3, fun _ => ?_⟩
                refine ⟨fun _ => ?_, fun q_ => absurd c5 q_⟩
                rintro _ rfl
                refine r9 _ ?_
                refine r13 _ ?_
                refine ⟨fun q_ => absurd q_ c16, fun _ => ?_⟩
                exact r_ _ _ hq_))
    · have h18 := h6 _ rfl
      refine d_wp_X9_look h18 (fun w21 w22 h19 r20 => ?_)
      refine d_wp_X9_isLetter h19 (fun w25 w26 h23 r24 => ?_)
      refine el_p h23 (fun c27 h28 => ?_) (fun c27 h28 => ?_)
      · exact d_wj_X9_run_60 h28 (fun b0_ b1_ g_ r_ => hp _ _ g_ (fun K11_ post_ hq_ => by
                rintro _ rfl
                rintro _ rfl
                refine ⟨fun q_ => absurd q_ c3, fun _ => ?_⟩
                refine ⟨fun q_ => absurd q_ c5, fun _ => ?_⟩
                rintro _ rfl
                refine r20 _ ?_
                refine r24 _ ?_
                refine ⟨fun _ => ?_, fun q_ => absurd c27 q_⟩
                exact r_ _ hq_))
      · exact d_wj_X9_run_54 h28 (fun b0_ b1_ b2_ b3_ g_ r_ => hK11 _ _ _ _ g_ (fun K11_ post_ hq_ => by
                rintro _ rfl
                rintro _ rfl
                refine ⟨fun q_ => absurd q_ c3, fun _ => ?_⟩
                refine ⟨fun q_ => absurd q_ c5, fun _ => ?_⟩
                rintro _ rfl
                refine r20 _ ?_
                refine r24 _ ?_
                refine ⟨fun q_ => absurd q_ c27, fun _ => ?_⟩
                exact r_ _ _ hq_)) (fun b0_ b1_ g_ r_ => hp _ _ g_ (fun K11_ post_ hq_ => by
                rintro _ rfl
                rintro _ rfl
                refine ⟨fun q_ => absurd q_ c3, fun _ => ?_⟩
                refine ⟨fun q_ => absurd q_ c5, fun _ => ?_⟩
                rintro _ rfl
                refine r20 _ ?_
                refine r24 _ ?_
                refine ⟨fun q_ => absurd q_ c27, fun _ => ?_⟩
                exact r_ _ _ hq_))
theorem dl_wj_X9_run_11 {post : Int32 → mS → Prop} {goal : Prop} : ∀ (n_ : Nat) (x1 : Int32) (x2 : Int32) (x3 : Int32) (u : mS), mL4 (fun K_ => wj_X9_run_11 K_ post) n_ x1 x2 x3 u → (∀ (b0_ : Int32) (b1_ : mS), post b0_ b1_ → (∀ (post_ : Int32 → mS → Prop), post_ b0_ b1_ → ∃ m_, mL4 (fun K_ => wj_X9_run_11 K_ post_) m_ x1 x2 x3 u) → goal) → goal
  | 0, _, _, _, _, h, _ => h.elim
  | n_ + 1, x1, x2, x3, u, h, hp => d_wj_X9_run_11 h (fun b0_ b1_ b2_ b3_ g_ r_ => dl_wj_X9_run_11 n_ b0_ b1_ b2_ b3_ g_ (fun b0_ b1_ g2_ r2_ => hp b0_ b1_ g2_ (fun post_ hq_ => (r2_ post_ hq_).elim (fun m_ hm_ => ⟨m_ + 1, r_ _ _ hm_⟩)))) (fun b0_ b1_ g_ r_ => hp b0_ b1_ g_ (fun post_ hq_ => ⟨1, r_ _ _ hq_⟩))
theorem d_wp_X9_run {x1 : Int32} {u : mS} {post : Int32 → mS → Prop} {goal : Prop} (h : wp_X9_run x1 u post) (hp : ∀ (b0_ : Int32) (b1_ : mS), post b0_ b1_ → (∀ (post_ : Int32 → mS → Prop), post_ b0_ b1_ → wp_X9_run x1 u post_) → goal) : goal := by
  refine d_wp_X9_look h (fun w3 w4 h1 r2 => ?_)
  refine d_wp_X9_isLetter h1 (fun w7 w8 h5 r6 => ?_)
  obtain ⟨n9, h10⟩ := h5
  exact dl_wj_X9_run_11 n9 _ _ _ _ h10 (fun b0_ b1_ g_ r_ => hp _ _ g_ (fun post_ hq_ => by
        refine r2 _ ?_
        refine r6 _ ?_
        exact r_ _ hq_))
theorem d_wj_X9_token_63 {post : Int32 → mS → Prop} {x1 : Int32} {u : mS} {goal : Prop} (h : wj_X9_token_63 post x1 u) (hp : ∀ (b0_ : Int32) (b1_ : mS), post b0_ b1_ → (∀ (post_ : Int32 → mS → Prop), post_ b0_ b1_ → wj_X9_token_63 post_ x1 u) → goal) : goal := by
  refine d_wp_X9_run h (fun w3 w4 h1 r2 => ?_)
  exact hp _ _ h1 (fun post_ hq_ => by
        refine r2 _ ?_
        exact hq_)
theorem d_wj_X9_token_139 {post : Int32 → mS → Prop} {u : mS} {goal : Prop} (h : wj_X9_token_139 post u) (hp : ∀ (b0_ : Int32) (b1_ : mS), post b0_ b1_ → (∀ (post_ : Int32 → mS → Prop), post_ b0_ b1_ → wj_X9_token_139 post_ u) → goal) : goal := by
  exact hp _ _ h (fun post_ hq_ => hq_)
theorem d_wp_X9_token {x1 : Int32} {u : mS} {post : Int32 → mS → Prop} {goal : Prop} (h : wp_X9_token x1 u post) (hp : ∀ (b0_ : Int32) (b1_ : mS), post b0_ b1_ → (∀ (post_ : Int32 → mS → Prop), post_ b0_ b1_ → wp_X9_token x1 u post_) → goal) : goal := by
  refine d_wp_X9_look h (fun w3 w4 h1 r2 => ?_)
  refine d_wp_X9_isLetter h1 (fun w7 w8 h5 r6 => ?_)
  refine el_p h5 (fun c9 h10 => ?_) (fun c9 h10 => ?_)
  · refine d_wp_X9_isDigit h10 (fun w13 w14 h11 r12 => ?_)
    refine el_p h11 (fun c15 h16 => ?_) (fun c15 h16 => ?_)
    · refine el_n h16 (fun c17 h18 => ?_) (fun c17 h18 => ?_)
      · refine el_p h18 (fun c19 h20 => ?_) (fun c19 h20 => ?_)
        · exact d_wj_X9_token_139 h20 (fun b0_ b1_ g_ r_ => hp _ _ g_ (fun post_ hq_ => by
                  refine r2 _ ?_
                  refine r6 _ ?_
                  refine ⟨fun _ => ?_, fun q_ => absurd c9 q_⟩
                  refine r12 _ ?_
                  refine ⟨fun _ => ?_, fun q_ => absurd c15 q_⟩
                  refine ⟨fun _ => ?_, fun q_ => absurd q_ c17⟩
                  refine ⟨fun _ => ?_, fun q_ => absurd c19 q_⟩
                  exact r_ _ hq_))
        · refine el_p h20 (fun c21 h22 => ?_) (fun c21 h22 => ?_)
          · exact d_wj_X9_token_139 h22 (fun b0_ b1_ g_ r_ => hp _ _ g_ (fun post_ hq_ => by
                    refine r2 _ ?_
                    refine r6 _ ?_
                    refine ⟨fun _ => ?_, fun q_ => absurd c9 q_⟩
                    refine r12 _ ?_
                    refine ⟨fun _ => ?_, fun q_ => absurd c15 q_⟩
                    refine ⟨fun _ => ?_, fun q_ => absurd q_ c17⟩
                    refine ⟨fun q_ => absurd q_ c19, fun _ => ?_⟩
                    refine ⟨fun _ => ?_, fun q_ => absurd c21 q_⟩
                    exact r_ _ hq_))
          · refine el_p h22 (fun c23 h24 => ?_) (fun c23 h24 => ?_)
            · exact d_wj_X9_token_139 h24 (fun b0_ b1_ g_ r_ => hp _ _ g_ (fun post_ hq_ => by
                      refine r2 _ ?_
                      refine r6 _ ?_
                      refine ⟨fun _ => ?_, fun q_ => absurd c9 q_⟩
                      refine r12 _ ?_
                      refine ⟨fun _ => ?_, fun q_ => absurd c15 q_⟩
                      refine ⟨fun _ => ?_, fun q_ => absurd q_ c17⟩
                      refine ⟨fun q_ => absurd q_ c19, fun _ => ?_⟩
                      refine ⟨fun q_ => absurd q_ c21, fun _ => ?_⟩
                      refine ⟨fun _ => ?_, fun q_ => absurd c23 q_⟩
                      exact r_ _ hq_))
            · refine el_p h24 (fun c25 h26 => ?_) (fun c25 h26 => ?_)
              · exact d_wj_X9_token_139 h26 (fun b0_ b1_ g_ r_ => hp _ _ g_ (fun post_ hq_ => by
                        refine r2 _ ?_
                        refine r6 _ ?_
                        refine ⟨fun _ => ?_, fun q_ => absurd c9 q_⟩
                        refine r12 _ ?_
                        refine ⟨fun _ => ?_, fun q_ => absurd c15 q_⟩
                        refine ⟨fun _ => ?_, fun q_ => absurd q_ c17⟩
                        refine ⟨fun q_ => absurd q_ c19, fun _ => ?_⟩
                        refine ⟨fun q_ => absurd q_ c21, fun _ => ?_⟩
                        refine ⟨fun q_ => absurd q_ c23, fun _ => ?_⟩
                        refine ⟨fun _ => ?_, fun q_ => absurd c25 q_⟩
                        exact r_ _ hq_))
              · refine el_p h26 (fun c27 h28 => ?_) (fun c27 h28 => ?_)
                · exact d_wj_X9_token_139 h28 (fun b0_ b1_ g_ r_ => hp _ _ g_ (fun post_ hq_ => by
                          refine r2 _ ?_
                          refine r6 _ ?_
                          refine ⟨fun _ => ?_, fun q_ => absurd c9 q_⟩
                          refine r12 _ ?_
                          refine ⟨fun _ => ?_, fun q_ => absurd c15 q_⟩
                          refine ⟨fun _ => ?_, fun q_ => absurd q_ c17⟩
                          refine ⟨fun q_ => absurd q_ c19, fun _ => ?_⟩
                          refine ⟨fun q_ => absurd q_ c21, fun _ => ?_⟩
                          refine ⟨fun q_ => absurd q_ c23, fun _ => ?_⟩
                          refine ⟨fun q_ => absurd q_ c25, fun _ => ?_⟩
                          refine ⟨fun _ => ?_, fun q_ => absurd c27 q_⟩
                          exact r_ _ hq_))
                · refine el_p h28 (fun c29 h30 => ?_) (fun c29 h30 => ?_)
                  · exact d_wj_X9_token_139 h30 (fun b0_ b1_ g_ r_ => hp _ _ g_ (fun post_ hq_ => by
                            refine r2 _ ?_
                            refine r6 _ ?_
                            refine ⟨fun _ => ?_, fun q_ => absurd c9 q_⟩
                            refine r12 _ ?_
                            refine ⟨fun _ => ?_, fun q_ => absurd c15 q_⟩
                            refine ⟨fun _ => ?_, fun q_ => absurd q_ c17⟩
                            refine ⟨fun q_ => absurd q_ c19, fun _ => ?_⟩
                            refine ⟨fun q_ => absurd q_ c21, fun _ => ?_⟩
                            refine ⟨fun q_ => absurd q_ c23, fun _ => ?_⟩
                            refine ⟨fun q_ => absurd q_ c25, fun _ => ?_⟩
                            refine ⟨fun q_ => absurd q_ c27, fun _ => ?_⟩
                            refine ⟨fun _ => ?_, fun q_ => absurd c29 q_⟩
                            exact r_ _ hq_))
                  · refine el_n h30 (fun c31 h32 => ?_) (fun c31 h32 => ?_)
                    · exact hp _ _ h32 (fun post_ hq_ => by
                              refine r2 _ ?_
                              refine r6 _ ?_
                              refine ⟨fun _ => ?_, fun q_ => absurd c9 q_⟩
                              refine r12 _ ?_
                              refine ⟨fun _ => ?_, fun q_ => absurd c15 q_⟩
                              refine ⟨fun _ => ?_, fun q_ => absurd q_ c17⟩
                              refine ⟨fun q_ => absurd q_ c19, fun _ => ?_⟩
                              refine ⟨fun q_ => absurd q_ c21, fun _ => ?_⟩
                              refine ⟨fun q_ => absurd q_ c23, fun _ => ?_⟩
                              refine ⟨fun q_ => absurd q_ c25, fun _ => ?_⟩
                              refine ⟨fun q_ => absurd q_ c27, fun _ => ?_⟩
                              refine ⟨fun q_ => absurd q_ c29, fun _ => ?_⟩
                              refine ⟨fun _ => ?_, fun q_ => absurd q_ c31⟩
                              exact hq_)
                    · exact d_wj_X9_token_139 h32 (fun b0_ b1_ g_ r_ => hp _ _ g_ (fun post_ hq_ => by
                              refine r2 _ ?_
                              refine r6 _ ?_
                              refine ⟨fun _ => ?_, fun q_ => absurd c9 q_⟩
                              refine r12 _ ?_
                              refine ⟨fun _ => ?_, fun q_ => absurd c15 q_⟩
                              refine ⟨fun _ => ?_, fun q_ => absurd q_ c17⟩
                              refine ⟨fun q_ => absurd q_ c19, fun _ => ?_⟩
                              refine ⟨fun q_ => absurd q_ c21, fun _ => ?_⟩
                              refine ⟨fun q_ => absurd q_ c23, fun _ => ?_⟩
                              refine ⟨fun q_ => absurd q_ c25, fun _ => ?_⟩
                              refine ⟨fun q_ => absurd q_ c27, fun _ => ?_⟩
                              refine ⟨fun q_ => absurd q_ c29, fun _ => ?_⟩
                              refine ⟨fun q_ => absurd c31 q_, fun _ => ?_⟩
                              exact r_ _ hq_))
      · have h33 := h18 _ rfl
        refine d_wp_X9_look h33 (fun w36 w37 h34 r35 => ?_)
        refine el_n h34 (fun c38 h39 => ?_) (fun c38 h39 => ?_)
        · exact hp _ _ h39 (fun post_ hq_ => by
                  refine r2 _ ?_
                  refine r6 _ ?_
                  refine ⟨fun _ => ?_, fun q_ => absurd c9 q_⟩
                  refine r12 _ ?_
                  refine ⟨fun _ => ?_, fun q_ => absurd c15 q_⟩
                  refine ⟨fun q_ => absurd c17 q_, fun _ => ?_⟩
                  rintro _ rfl
                  refine r35 _ ?_
                  refine ⟨fun _ => ?_, fun q_ => absurd q_ c38⟩
                  exact hq_)
        · exact hp _ _ h39 (fun post_ hq_ => by
                  refine r2 _ ?_
                  refine r6 _ ?_
                  refine ⟨fun _ => ?_, fun q_ => absurd c9 q_⟩
                  refine r12 _ ?_
                  refine ⟨fun _ => ?_, fun q_ => absurd c15 q_⟩
                  refine ⟨fun q_ => absurd c17 q_, fun _ => ?_⟩
                  rintro _ rfl
                  refine r35 _ ?_
                  refine ⟨fun q_ => absurd c38 q_, fun _ => ?_⟩
                  exact hq_)
    · refine d_wp_X9_run h16 (fun w42 w43 h40 r41 => ?_)
      refine el_p h40 (fun c44 h45 => ?_) (fun c44 h45 => ?_)
      · exact d_wj_X9_token_63 h45 (fun b0_ b1_ g_ r_ => hp _ _ g_ (fun post_ hq_ => by
                refine r2 _ ?_
                refine r6 _ ?_
                refine ⟨fun _ => ?_, fun q_ => absurd c9 q_⟩
                refine r12 _ ?_
                refine ⟨fun q_ => absurd q_ c15, fun _ => ?_⟩
                refine r41 _ ?_
                refine ⟨fun _ => ?_, fun q_ => absurd c44 q_⟩
                exact r_ _ hq_))
      · refine d_wp_X9_run h45 (fun w48 w49 h46 r47 => ?_)
        refine el_n h46 (fun c50 h51 => ?_) (fun c50 h51 => ?_)
        · exact hp _ _ h51 (fun post_ hq_ => by
                  refine r2 _ ?_
                  refine r6 _ ?_
                  refine ⟨fun _ => ?_, fun q_ => absurd c9 q_⟩
                  refine r12 _ ?_
                  refine ⟨fun q_ => absurd q_ c15, fun _ => ?_⟩
                  refine r41 _ ?_
                  refine ⟨fun q_ => absurd q_ c44, fun _ => ?_⟩
                  refine r47 _ ?_
                  refine ⟨fun _ => ?_, fun q_ => absurd q_ c50⟩
                  exact hq_)
        · refine el_p h51 (fun c52 h53 => ?_) (fun c52 h53 => ?_)
          · exact hp _ _ h53 (fun post_ hq_ => by
                    refine r2 _ ?_
                    refine r6 _ ?_
                    refine ⟨fun _ => ?_, fun q_ => absurd c9 q_⟩
                    refine r12 _ ?_
                    refine ⟨fun q_ => absurd q_ c15, fun _ => ?_⟩
                    refine r41 _ ?_
                    refine ⟨fun q_ => absurd q_ c44, fun _ => ?_⟩
                    refine r47 _ ?_
                    refine ⟨fun q_ => absurd c50 q_, fun _ => ?_⟩
                    refine ⟨fun _ => ?_, fun q_ => absurd c52 q_⟩
                    exact hq_)
          · exact d_wj_X9_token_63 h53 (fun b0_ b1_ g_ r_ => hp _ _ g_ (fun post_ hq_ => by
                    refine r2 _ ?_
                    refine r6 _ ?_
                    refine ⟨fun _ => ?_, fun q_ => absurd c9 q_⟩
                    refine r12 _ ?_
                    refine ⟨fun q_ => absurd q_ c15, fun _ => ?_⟩
                    refine r41 _ ?_
                    refine ⟨fun q_ => absurd q_ c44, fun _ => ?_⟩
                    refine r47 _ ?_
                    refine ⟨fun q_ => absurd c50 q_, fun _ => ?_⟩
                    refine ⟨fun q_ => absurd q_ c52, fun _ => ?_⟩
                    exact r_ _ hq_))
  · refine d_wp_X9_run h10 (fun w56 w57 h54 r55 => ?_)
    refine el_p h54 (fun c58 h59 => ?_) (fun c58 h59 => ?_)
    · exact hp _ _ h59 (fun post_ hq_ => by
              refine r2 _ ?_
              refine r6 _ ?_
              refine ⟨fun q_ => absurd q_ c9, fun _ => ?_⟩
              refine r55 _ ?_
              refine ⟨fun _ => ?_, fun q_ => absurd c58 q_⟩
              exact hq_)
    · refine d_wp_X9_run h59 (fun w62 w63 h60 r61 => ?_)
      exact hp _ _ h60 (fun post_ hq_ => by
              refine r2 _ ?_
              refine r6 _ ?_
              refine ⟨fun q_ => absurd q_ c9, fun _ => ?_⟩
              refine r55 _ ?_
              refine ⟨fun q_ => absurd q_ c58, fun _ => ?_⟩
              refine r61 _ ?_
              exact hq_)
theorem d_wj_X9_code_110 {K48 : Int32 → Int32 → Int32 → Int32 → Int32 → mS → Prop} {post : Int32 → mS → Prop} {x1 : Int32} {x2 : Int32} {x3 : Int32} {x5 : Int32} {z0 : Int32} {u : mS} {goal : Prop} (h : wj_X9_code_110 K48 post x1 x2 x3 x5 z0 u) (hK48 : ∀ (b0_ : Int32) (b1_ : Int32) (b2_ : Int32) (b3_ : Int32) (b4_ : Int32) (b5_ : mS), K48 b0_ b1_ b2_ b3_ b4_ b5_ → (∀ (K48_ : Int32 → Int32 → Int32 → Int32 → Int32 → mS → Prop) (post_ : Int32 → mS → Prop), K48_ b0_ b1_ b2_ b3_ b4_ b5_ → wj_X9_code_110 K48_ post_ x1 x2 x3 x5 z0 u) → goal) (hp : ∀ (b0_ : Int32) (b1_ : mS), post b0_ b1_ → (∀ (K48_ : Int32 → Int32 → Int32 → Int32 → Int32 → mS → Prop) (post_ : Int32 → mS → Prop), post_ b0_ b1_ → wj_X9_code_110 K48_ post_ x1 x2 x3 x5 z0 u) → goal) : goal := by
  have h1 := h _ rfl
  exact hK48 _ _ _ _ _ _ h1 (fun K48_ post_ hq_ => by
        rintro _ rfl
        exact hq_)
theorem d_wj_X9_code_132 {post : Int32 → mS → Prop} {x4 : Int32} {z0 : Int32} {z1 : Int32} {u : mS} {goal : Prop} (h : wj_X9_code_132 post x4 z0 z1 u) (hp : ∀ (b0_ : Int32) (b1_ : mS), post b0_ b1_ → (∀ (post_ : Int32 → mS → Prop), post_ b0_ b1_ → wj_X9_code_132 post_ x4 z0 z1 u) → goal) : goal := by
  have h1 := h _ rfl
  have h2 := h1 _ rfl
  exact hp _ _ h2 (fun post_ hq_ => by
        rintro _ rfl
        rintro _ rfl
        exact hq_)
theorem d_wj_X9_code_48 {K48 : Int32 → Int32 → Int32 → Int32 → Int32 → mS → Prop} {post : Int32 → mS → Prop} {x1 : Int32} {x2 : Int32} {x3 : Int32} {x4 : Int32} {x5 : Int32} {u : mS} {goal : Prop} (h : wj_X9_code_48 K48 post x1 x2 x3 x4 x5 u) (hK48 : ∀ (b0_ : Int32) (b1_ : Int32) (b2_ : Int32) (b3_ : Int32) (b4_ : Int32) (b5_ : mS), K48 b0_ b1_ b2_ b3_ b4_ b5_ → (∀ (K48_ : Int32 → Int32 → Int32 → Int32 → Int32 → mS → Prop) (post_ : Int32 → mS → Prop), K48_ b0_ b1_ b2_ b3_ b4_ b5_ → wj_X9_code_48 K48_ post_ x1 x2 x3 x4 x5 u) → goal) (hp : ∀ (b0_ : Int32) (b1_ : mS), post b0_ b1_ → (∀ (K48_ : Int32 → Int32 → Int32 → Int32 → Int32 → mS → Prop) (post_ : Int32 → mS → Prop), post_ b0_ b1_ → wj_X9_code_48 K48_ post_ x1 x2 x3 x4 x5 u) → goal) : goal := by
  have h1 := h _ rfl
  refine el_p h1 (fun c2 h3 => ?_) (fun c2 h3 => ?_)
  · refine d_wp_X9_isDigit h3 (fun w6 w7 h4 r5 => ?_)
    refine el_p h4 (fun c8 h9 => ?_) (fun c8 h9 => ?_)
    · exact d_wj_X9_code_132 h9 (fun b0_ b1_ g_ r_ => hp _ _ g_ (fun K48_ post_ hq_ => by
              rintro _ rfl
              refine ⟨fun _ => ?_, fun q_ => absurd c2 q_⟩
              refine r5 _ ?_
              refine ⟨fun _ => ?_, fun q_ => absurd c8 q_⟩
              exact r_ _ hq_))
    · exact d_wj_X9_code_132 h9 (fun b0_ b1_ g_ r_ => hp _ _ g_ (fun K48_ post_ hq_ => by
              rintro _ rfl
              refine ⟨fun _ => ?_, fun q_ => absurd c2 q_⟩
              refine r5 _ ?_
              refine ⟨fun q_ => absurd q_ c8, fun _ => ?_⟩
              exact r_ _ hq_))
  · refine d_wp_X9_isDigit h3 (fun w12 w13 h10 r11 => ?_)
    refine el_p h10 (fun c14 h15 => ?_) (fun c14 h15 => ?_)
    · refine d_wp_X9_isLetter h15 (fun w18 w19 h16 r17 => ?_)
      refine el_p h16 (fun c20 h21 => ?_) (fun c20 h21 => ?_)
      · have h22 := h21 _ rfl
        exact d_wj_X9_code_110 h22 (fun b0_ b1_ b2_ b3_ b4_ b5_ g_ r_ => hK48 _ _ _ _ _ _ g_ (fun K48_ post_ hq_ => by
                rintro _ rfl
                refine ⟨fun q_ => absurd q_ c2, fun _ => ?_⟩
                refine r11 _ ?_
                refine ⟨fun _ => ?_, fun q_ => absurd c14 q_⟩
                refine r17 _ ?_
                refine ⟨fun _ => ?_, fun q_ => absurd c20 q_⟩
                rintro _ rfl
                exact r_ _ _ hq_)) (fun b0_ b1_ g_ r_ => hp _ _ g_ (fun K48_ post_ hq_ => by
                rintro _ rfl
                refine ⟨fun q_ => absurd q_ c2, fun _ => ?_⟩
                refine r11 _ ?_
                refine ⟨fun _ => ?_, fun q_ => absurd c14 q_⟩
                refine r17 _ ?_
                refine ⟨fun _ => ?_, fun q_ => absurd c20 q_⟩
                rintro _ rfl
                exact r_ _ _ hq_))
      · have h23 := h21 _ rfl
        refine d_wp_X9_look h23 (fun w26 w27 h24 r25 => ?_)
        have h28 := h24 _ rfl
        have h29 := h28 _ rfl
        exact d_wj_X9_code_110 h29 (fun b0_ b1_ b2_ b3_ b4_ b5_ g_ r_ => hK48 _ _ _ _ _ _ g_ (fun K48_ post_ hq_ => by
                rintro _ rfl
                refine ⟨fun q_ => absurd q_ c2, fun _ => ?_⟩
                refine r11 _ ?_
                refine ⟨fun _ => ?_, fun q_ => absurd c14 q_⟩
                refine r17 _ ?_
                refine ⟨fun q_ => absurd q_ c20, fun _ => ?_⟩
                rintro _ rfl
                refine r25 _ ?_
                rintro _ rfl
                rintro _ rfl
                exact r_ _ _ hq_)) (fun b0_ b1_ g_ r_ => hp _ _ g_ (fun K48_ post_ hq_ => by
                rintro _ rfl
                refine ⟨fun q_ => absurd q_ c2, fun _ => ?_⟩
                refine r11 _ ?_
                refine ⟨fun _ => ?_, fun q_ => absurd c14 q_⟩
                refine r17 _ ?_
                refine ⟨fun q_ => absurd q_ c20, fun _ => ?_⟩
                rintro _ rfl
                refine r25 _ ?_
                rintro _ rfl
                rintro _ rfl
                exact r_ _ _ hq_))
    · have h30 := h15 _ rfl
      refine d_wp_X9_look h30 (fun w33 w34 h31 r32 => ?_)
      have h35 := h31 _ rfl
      have h36 := h35 _ rfl
      exact d_wj_X9_code_110 h36 (fun b0_ b1_ b2_ b3_ b4_ b5_ g_ r_ => hK48 _ _ _ _ _ _ g_ (fun K48_ post_ hq_ => by
              rintro _ rfl
              refine ⟨fun q_ => absurd q_ c2, fun _ => ?_⟩
              refine r11 _ ?_
              refine ⟨fun q_ => absurd q_ c14, fun _ => ?_⟩
              rintro _ rfl
              refine r32 _ ?_
              rintro _ rfl
              rintro _ rfl
              exact r_ _ _ hq_)) (fun b0_ b1_ g_ r_ => hp _ _ g_ (fun K48_ post_ hq_ => by
              rintro _ rfl
              refine ⟨fun q_ => absurd q_ c2, fun _ => ?_⟩
              refine r11 _ ?_
              refine ⟨fun q_ => absurd q_ c14, fun _ => ?_⟩
              rintro _ rfl
              refine r32 _ ?_
              rintro _ rfl
              rintro _ rfl
              exact r_ _ _ hq_))
theorem dl_wj_X9_code_48 {post : Int32 → mS → Prop} {goal : Prop} : ∀ (n_ : Nat) (x1 : Int32) (x2 : Int32) (x3 : Int32) (x4 : Int32) (x5 : Int32) (u : mS), mL6 (fun K_ => wj_X9_code_48 K_ post) n_ x1 x2 x3 x4 x5 u → (∀ (b0_ : Int32) (b1_ : mS), post b0_ b1_ → (∀ (post_ : Int32 → mS → Prop), post_ b0_ b1_ → ∃ m_, mL6 (fun K_ => wj_X9_code_48 K_ post_) m_ x1 x2 x3 x4 x5 u) → goal) → goal
  | 0, _, _, _, _, _, _, h, _ => h.elim
  | n_ + 1, x1, x2, x3, x4, x5, u, h, hp => d_wj_X9_code_48 h (fun b0_ b1_ b2_ b3_ b4_ b5_ g_ r_ => dl_wj_X9_code_48 n_ b0_ b1_ b2_ b3_ b4_ b5_ g_ (fun b0_ b1_ g2_ r2_ => hp b0_ b1_ g2_ (fun post_ hq_ => (r2_ post_ hq_).elim (fun m_ hm_ => ⟨m_ + 1, r_ _ _ hm_⟩)))) (fun b0_ b1_ g_ r_ => hp b0_ b1_ g_ (fun post_ hq_ => ⟨1, r_ _ _ hq_⟩))
theorem d_wp_X9_code {x1 : Int32} {x2 : Int32} {u : mS} {post : Int32 → mS → Prop} {goal : Prop} (h : wp_X9_code x1 x2 u post) (hp : ∀ (b0_ : Int32) (b1_ : mS), post b0_ b1_ → (∀ (post_ : Int32 → mS → Prop), post_ b0_ b1_ → wp_X9_code x1 x2 u post_) → goal) : goal := by
  refine d_wp_X9_look h (fun w3 w4 h1 r2 => ?_)
  refine el_n h1 (fun c5 h6 => ?_) (fun c5 h6 => ?_)
  · refine el_n h6 (fun c7 h8 => ?_) (fun c7 h8 => ?_)
    · refine el_n h8 (fun c9 h10 => ?_) (fun c9 h10 => ?_)
      · refine el_n h10 (fun c11 h12 => ?_) (fun c11 h12 => ?_)
        · obtain ⟨n13, h14⟩ := h12
          exact dl_wj_X9_code_48 n13 _ _ _ _ _ _ h14 (fun b0_ b1_ g_ r_ => hp _ _ g_ (fun post_ hq_ => by
                  refine r2 _ ?_
                  refine ⟨fun _ => ?_, fun q_ => absurd q_ c5⟩
                  refine ⟨fun _ => ?_, fun q_ => absurd q_ c7⟩
                  refine ⟨fun _ => ?_, fun q_ => absurd q_ c9⟩
                  refine ⟨fun _ => ?_, fun q_ => absurd q_ c11⟩
                  exact r_ _ hq_))
        · exact hp _ _ h12 (fun post_ hq_ => by
                  refine r2 _ ?_
                  refine ⟨fun _ => ?_, fun q_ => absurd q_ c5⟩
                  refine ⟨fun _ => ?_, fun q_ => absurd q_ c7⟩
                  refine ⟨fun _ => ?_, fun q_ => absurd q_ c9⟩
                  refine ⟨fun q_ => absurd c11 q_, fun _ => ?_⟩
                  exact hq_)
      · exact hp _ _ h10 (fun post_ hq_ => by
                refine r2 _ ?_
                refine ⟨fun _ => ?_, fun q_ => absurd q_ c5⟩
                refine ⟨fun _ => ?_, fun q_ => absurd q_ c7⟩
                refine ⟨fun q_ => absurd c9 q_, fun _ => ?_⟩
                exact hq_)
    · exact hp _ _ h8 (fun post_ hq_ => by
              refine r2 _ ?_
              refine ⟨fun _ => ?_, fun q_ => absurd q_ c5⟩
              refine ⟨fun q_ => absurd c7 q_, fun _ => ?_⟩
              exact hq_)
  · exact hp _ _ h6 (fun post_ hq_ => by
            refine r2 _ ?_
            refine ⟨fun q_ => absurd c5 q_, fun _ => ?_⟩
            exact hq_)
theorem d_wj_X9_fits_23 {post : Int32 → mS → Prop} {x1 : Int32} {u : mS} {goal : Prop} (h : wj_X9_fits_23 post x1 u) (hp : ∀ (b0_ : Int32) (b1_ : mS), post b0_ b1_ → (∀ (post_ : Int32 → mS → Prop), post_ b0_ b1_ → wj_X9_fits_23 post_ x1 u) → goal) : goal := by
  refine el_p h (fun c1 h2 => ?_) (fun c1 h2 => ?_)
  · exact hp _ _ h2 (fun post_ hq_ => by
            refine ⟨fun _ => ?_, fun q_ => absurd c1 q_⟩
            exact hq_)
  · exact hp _ _ h2 (fun post_ hq_ => by
            refine ⟨fun q_ => absurd q_ c1, fun _ => ?_⟩
            exact hq_)
theorem d_wj_X9_fits_85 {post : Int32 → mS → Prop} {u : mS} {goal : Prop} (h : wj_X9_fits_85 post u) (hp : ∀ (b0_ : Int32) (b1_ : mS), post b0_ b1_ → (∀ (post_ : Int32 → mS → Prop), post_ b0_ b1_ → wj_X9_fits_85 post_ u) → goal) : goal := by
  exact hp _ _ h (fun post_ hq_ => hq_)
theorem d_wj_X9_fits_9 {post : Int32 → mS → Prop} {x0 : Int32} {x1 : Int32} {x2 : Int32} {z0 : Int32} {u : mS} {goal : Prop} (h : wj_X9_fits_9 post x0 x1 x2 z0 u) (hp : ∀ (b0_ : Int32) (b1_ : mS), post b0_ b1_ → (∀ (post_ : Int32 → mS → Prop), post_ b0_ b1_ → wj_X9_fits_9 post_ x0 x1 x2 z0 u) → goal) : goal := by
  refine el_n h (fun c1 h2 => ?_) (fun c1 h2 => ?_)
  · refine el_n h2 (fun c3 h4 => ?_) (fun c3 h4 => ?_)
    · refine el_n h4 (fun c5 h6 => ?_) (fun c5 h6 => ?_)
      · refine el_p h6 (fun c7 h8 => ?_) (fun c7 h8 => ?_)
        · exact d_wj_X9_fits_85 h8 (fun b0_ b1_ g_ r_ => hp _ _ g_ (fun post_ hq_ => by
                  refine ⟨fun _ => ?_, fun q_ => absurd q_ c1⟩
                  refine ⟨fun _ => ?_, fun q_ => absurd q_ c3⟩
                  refine ⟨fun _ => ?_, fun q_ => absurd q_ c5⟩
                  refine ⟨fun _ => ?_, fun q_ => absurd c7 q_⟩
                  exact r_ _ hq_))
        · refine el_n h8 (fun c9 h10 => ?_) (fun c9 h10 => ?_)
          · exact hp _ _ h10 (fun post_ hq_ => by
                    refine ⟨fun _ => ?_, fun q_ => absurd q_ c1⟩
                    refine ⟨fun _ => ?_, fun q_ => absurd q_ c3⟩
                    refine ⟨fun _ => ?_, fun q_ => absurd q_ c5⟩
                    refine ⟨fun q_ => absurd q_ c7, fun _ => ?_⟩
                    refine ⟨fun _ => ?_, fun q_ => absurd q_ c9⟩
                    exact hq_)
          · exact d_wj_X9_fits_85 h10 (fun b0_ b1_ g_ r_ => hp _ _ g_ (fun post_ hq_ => by
                    refine ⟨fun _ => ?_, fun q_ => absurd q_ c1⟩
                    refine ⟨fun _ => ?_, fun q_ => absurd q_ c3⟩
                    refine ⟨fun _ => ?_, fun q_ => absurd q_ c5⟩
                    refine ⟨fun q_ => absurd q_ c7, fun _ => ?_⟩
                    refine ⟨fun q_ => absurd c9 q_, fun _ => ?_⟩
                    exact r_ _ hq_))
      · refine el_p h6 (fun c11 h12 => ?_) (fun c11 h12 => ?_)
        · exact hp _ _ h12 (fun post_ hq_ => by
                  refine ⟨fun _ => ?_, fun q_ => absurd q_ c1⟩
                  refine ⟨fun _ => ?_, fun q_ => absurd q_ c3⟩
                  refine ⟨fun q_ => absurd c5 q_, fun _ => ?_⟩
                  refine ⟨fun _ => ?_, fun q_ => absurd c11 q_⟩
                  exact hq_)
        · refine el_p h12 (fun c13 h14 => ?_) (fun c13 h14 => ?_)
          · exact hp _ _ h14 (fun post_ hq_ => by
                    refine ⟨fun _ => ?_, fun q_ => absurd q_ c1⟩
                    refine ⟨fun _ => ?_, fun q_ => absurd q_ c3⟩
                    refine ⟨fun q_ => absurd c5 q_, fun _ => ?_⟩
                    refine ⟨fun q_ => absurd q_ c11, fun _ => ?_⟩
                    refine ⟨fun _ => ?_, fun q_ => absurd c13 q_⟩
                    exact hq_)
          · refine el_p h14 (fun c15 h16 => ?_) (fun c15 h16 => ?_)
            · exact hp _ _ h16 (fun post_ hq_ => by
                      refine ⟨fun _ => ?_, fun q_ => absurd q_ c1⟩
                      refine ⟨fun _ => ?_, fun q_ => absurd q_ c3⟩
                      refine ⟨fun q_ => absurd c5 q_, fun _ => ?_⟩
                      refine ⟨fun q_ => absurd q_ c11, fun _ => ?_⟩
                      refine ⟨fun q_ => absurd q_ c13, fun _ => ?_⟩
                      refine ⟨fun _ => ?_, fun q_ => absurd c15 q_⟩
                      exact hq_)
            · exact hp _ _ h16 (fun post_ hq_ => by
                      refine ⟨fun _ => ?_, fun q_ => absurd q_ c1⟩
                      refine ⟨fun _ => ?_, fun q_ => absurd q_ c3⟩
                      refine ⟨fun q_ => absurd c5 q_, fun _ => ?_⟩
                      refine ⟨fun q_ => absurd q_ c11, fun _ => ?_⟩
                      refine ⟨fun q_ => absurd q_ c13, fun _ => ?_⟩
                      refine ⟨fun q_ => absurd q_ c15, fun _ => ?_⟩
                      exact hq_)
    · refine el_p h4 (fun c17 h18 => ?_) (fun c17 h18 => ?_)
      · exact hp _ _ h18 (fun post_ hq_ => by
                refine ⟨fun _ => ?_, fun q_ => absurd q_ c1⟩
                refine ⟨fun q_ => absurd c3 q_, fun _ => ?_⟩
                refine ⟨fun _ => ?_, fun q_ => absurd c17 q_⟩
                exact hq_)
      · exact hp _ _ h18 (fun post_ hq_ => by
                refine ⟨fun _ => ?_, fun q_ => absurd q_ c1⟩
                refine ⟨fun q_ => absurd c3 q_, fun _ => ?_⟩
                refine ⟨fun q_ => absurd q_ c17, fun _ => ?_⟩
                exact hq_)
  · refine el_p h2 (fun c19 h20 => ?_) (fun c19 h20 => ?_)
    · exact d_wj_X9_fits_23 h20 (fun b0_ b1_ g_ r_ => hp _ _ g_ (fun post_ hq_ => by
              refine ⟨fun q_ => absurd c1 q_, fun _ => ?_⟩
              refine ⟨fun _ => ?_, fun q_ => absurd c19 q_⟩
              exact r_ _ hq_))
    · refine el_n h20 (fun c21 h22 => ?_) (fun c21 h22 => ?_)
      · exact hp _ _ h22 (fun post_ hq_ => by
                refine ⟨fun q_ => absurd c1 q_, fun _ => ?_⟩
                refine ⟨fun q_ => absurd q_ c19, fun _ => ?_⟩
                refine ⟨fun _ => ?_, fun q_ => absurd q_ c21⟩
                exact hq_)
      · exact d_wj_X9_fits_23 h22 (fun b0_ b1_ g_ r_ => hp _ _ g_ (fun post_ hq_ => by
                refine ⟨fun q_ => absurd c1 q_, fun _ => ?_⟩
                refine ⟨fun q_ => absurd q_ c19, fun _ => ?_⟩
                refine ⟨fun q_ => absurd c21 q_, fun _ => ?_⟩
                exact r_ _ hq_))
theorem d_wp_X9_fits {x0 : Int32} {x1 : Int32} {x2 : Int32} {u : mS} {post : Int32 → mS → Prop} {goal : Prop} (h : wp_X9_fits x0 x1 x2 u post) (hp : ∀ (b0_ : Int32) (b1_ : mS), post b0_ b1_ → (∀ (post_ : Int32 → mS → Prop), post_ b0_ b1_ → wp_X9_fits x0 x1 x2 u post_) → goal) : goal := by
  refine el_p h (fun c1 h2 => ?_) (fun c1 h2 => ?_)
  · exact d_wj_X9_fits_9 h2 (fun b0_ b1_ g_ r_ => hp _ _ g_ (fun post_ hq_ => by
            refine ⟨fun _ => ?_, fun q_ => absurd c1 q_⟩
            exact r_ _ hq_))
  · exact d_wj_X9_fits_9 h2 (fun b0_ b1_ g_ r_ => hp _ _ g_ (fun post_ hq_ => by
            refine ⟨fun q_ => absurd q_ c1, fun _ => ?_⟩
            exact r_ _ hq_))
theorem d_wj_X9_read_84 {post : Int32 → mS → Prop} {x4 : Int32} {u : mS} {goal : Prop} (h : wj_X9_read_84 post x4 u) (hp : ∀ (b0_ : Int32) (b1_ : mS), post b0_ b1_ → (∀ (post_ : Int32 → mS → Prop), post_ b0_ b1_ → wj_X9_read_84 post_ x4 u) → goal) : goal := by
  exact hp _ _ h (fun post_ hq_ => hq_)
theorem d_wj_X9_read_123 {K9 : Int32 → Int32 → Int32 → Int32 → mS → Prop} {post : Int32 → mS → Prop} {x1 : Int32} {x4 : Int32} {x5 : Int32} {x7 : Int32} {z0 : Int32} {u : mS} {goal : Prop} (h : wj_X9_read_123 K9 post x1 x4 x5 x7 z0 u) (hK9 : ∀ (b0_ : Int32) (b1_ : Int32) (b2_ : Int32) (b3_ : Int32) (b4_ : mS), K9 b0_ b1_ b2_ b3_ b4_ → (∀ (K9_ : Int32 → Int32 → Int32 → Int32 → mS → Prop) (post_ : Int32 → mS → Prop), K9_ b0_ b1_ b2_ b3_ b4_ → wj_X9_read_123 K9_ post_ x1 x4 x5 x7 z0 u) → goal) (hp : ∀ (b0_ : Int32) (b1_ : mS), post b0_ b1_ → (∀ (K9_ : Int32 → Int32 → Int32 → Int32 → mS → Prop) (post_ : Int32 → mS → Prop), post_ b0_ b1_ → wj_X9_read_123 K9_ post_ x1 x4 x5 x7 z0 u) → goal) : goal := by
  have h1 := h _ rfl
  exact hK9 _ _ _ _ _ h1 (fun K9_ post_ hq_ => by
        rintro _ rfl
        exact hq_)
theorem d_wj_X9_read_60 {K9 : Int32 → Int32 → Int32 → Int32 → mS → Prop} {post : Int32 → mS → Prop} {x1 : Int32} {x2 : Int32} {x3 : Int32} {x4 : Int32} {x5 : Int32} {z0 : Int32} {u : mS} {goal : Prop} (h : wj_X9_read_60 K9 post x1 x2 x3 x4 x5 z0 u) (hK9 : ∀ (b0_ : Int32) (b1_ : Int32) (b2_ : Int32) (b3_ : Int32) (b4_ : mS), K9 b0_ b1_ b2_ b3_ b4_ → (∀ (K9_ : Int32 → Int32 → Int32 → Int32 → mS → Prop) (post_ : Int32 → mS → Prop), K9_ b0_ b1_ b2_ b3_ b4_ → wj_X9_read_60 K9_ post_ x1 x2 x3 x4 x5 z0 u) → goal) (hp : ∀ (b0_ : Int32) (b1_ : mS), post b0_ b1_ → (∀ (K9_ : Int32 → Int32 → Int32 → Int32 → mS → Prop) (post_ : Int32 → mS → Prop), post_ b0_ b1_ → wj_X9_read_60 K9_ post_ x1 x2 x3 x4 x5 z0 u) → goal) : goal := by
  have h1 := h _ rfl
  refine el_p h1 (fun c2 h3 => ?_) (fun c2 h3 => ?_)
  · exact d_wj_X9_read_84 h3 (fun b0_ b1_ g_ r_ => hp _ _ g_ (fun K9_ post_ hq_ => by
            rintro _ rfl
            refine ⟨fun _ => ?_, fun q_ => absurd c2 q_⟩
            exact r_ _ hq_))
  · refine d_wp_X9_fits h3 (fun w6 w7 h4 r5 => ?_)
    refine el_n h4 (fun c8 h9 => ?_) (fun c8 h9 => ?_)
    · have v11 := h9.1
      have h10 := h9.2
      have h12 := h10 _ rfl
      have h13 := h12 _ rfl
      refine el_n h13 (fun c14 h15 => ?_) (fun c14 h15 => ?_)
      · refine el_n h15 (fun c16 h17 => ?_) (fun c16 h17 => ?_)
        · exact d_wj_X9_read_123 h17 (fun b0_ b1_ b2_ b3_ b4_ g_ r_ => hK9 _ _ _ _ _ g_ (fun K9_ post_ hq_ => by
                  rintro _ rfl
                  refine ⟨fun q_ => absurd q_ c2, fun _ => ?_⟩
                  refine r5 _ ?_
                  refine ⟨fun _ => ?_, fun q_ => absurd q_ c8⟩
                  refine ⟨v11, ?_⟩
                  rintro _ rfl
                  rintro _ rfl
                  refine ⟨fun _ => ?_, fun q_ => absurd q_ c14⟩
                  refine ⟨fun _ => ?_, fun q_ => absurd q_ c16⟩
                  exact r_ _ _ hq_)) (fun b0_ b1_ g_ r_ => hp _ _ g_ (fun K9_ post_ hq_ => by
                  rintro _ rfl
                  refine ⟨fun q_ => absurd q_ c2, fun _ => ?_⟩
                  refine r5 _ ?_
                  refine ⟨fun _ => ?_, fun q_ => absurd q_ c8⟩
                  refine ⟨v11, ?_⟩
                  rintro _ rfl
                  rintro _ rfl
                  refine ⟨fun _ => ?_, fun q_ => absurd q_ c14⟩
                  refine ⟨fun _ => ?_, fun q_ => absurd q_ c16⟩
                  exact r_ _ _ hq_))
        · have h18 := h17 _ rfl
          exact d_wj_X9_read_123 h18 (fun b0_ b1_ b2_ b3_ b4_ g_ r_ => hK9 _ _ _ _ _ g_ (fun K9_ post_ hq_ => by
                  rintro _ rfl
                  refine ⟨fun q_ => absurd q_ c2, fun _ => ?_⟩
                  refine r5 _ ?_
                  refine ⟨fun _ => ?_, fun q_ => absurd q_ c8⟩
                  refine ⟨v11, ?_⟩
                  rintro _ rfl
                  rintro _ rfl
                  refine ⟨fun _ => ?_, fun q_ => absurd q_ c14⟩
                  refine ⟨fun q_ => absurd c16 q_, fun _ => ?_⟩
                  rintro _ rfl
                  exact r_ _ _ hq_)) (fun b0_ b1_ g_ r_ => hp _ _ g_ (fun K9_ post_ hq_ => by
                  rintro _ rfl
                  refine ⟨fun q_ => absurd q_ c2, fun _ => ?_⟩
                  refine r5 _ ?_
                  refine ⟨fun _ => ?_, fun q_ => absurd q_ c8⟩
                  refine ⟨v11, ?_⟩
                  rintro _ rfl
                  rintro _ rfl
                  refine ⟨fun _ => ?_, fun q_ => absurd q_ c14⟩
                  refine ⟨fun q_ => absurd c16 q_, fun _ => ?_⟩
                  rintro _ rfl
                  exact r_ _ _ hq_))
      · have h19 := h15 _ rfl
        exact d_wj_X9_read_123 h19 (fun b0_ b1_ b2_ b3_ b4_ g_ r_ => hK9 _ _ _ _ _ g_ (fun K9_ post_ hq_ => by
                rintro _ rfl
                refine ⟨fun q_ => absurd q_ c2, fun _ => ?_⟩
                refine r5 _ ?_
                refine ⟨fun _ => ?_, fun q_ => absurd q_ c8⟩
                refine ⟨v11, ?_⟩
                rintro _ rfl
                rintro _ rfl
                refine ⟨fun q_ => absurd c14 q_, fun _ => ?_⟩
                rintro _ rfl
                exact r_ _ _ hq_)) (fun b0_ b1_ g_ r_ => hp _ _ g_ (fun K9_ post_ hq_ => by
                rintro _ rfl
                refine ⟨fun q_ => absurd q_ c2, fun _ => ?_⟩
                refine r5 _ ?_
                refine ⟨fun _ => ?_, fun q_ => absurd q_ c8⟩
                refine ⟨v11, ?_⟩
                rintro _ rfl
                rintro _ rfl
                refine ⟨fun q_ => absurd c14 q_, fun _ => ?_⟩
                rintro _ rfl
                exact r_ _ _ hq_))
    · exact d_wj_X9_read_84 h9 (fun b0_ b1_ g_ r_ => hp _ _ g_ (fun K9_ post_ hq_ => by
              rintro _ rfl
              refine ⟨fun q_ => absurd q_ c2, fun _ => ?_⟩
              refine r5 _ ?_
              refine ⟨fun q_ => absurd c8 q_, fun _ => ?_⟩
              exact r_ _ hq_))
theorem d_wj_X9_read_145 {post : Int32 → mS → Prop} {u : mS} {goal : Prop} (h : wj_X9_read_145 post u) (hp : ∀ (b0_ : Int32) (b1_ : mS), post b0_ b1_ → (∀ (post_ : Int32 → mS → Prop), post_ b0_ b1_ → wj_X9_read_145 post_ u) → goal) : goal := by
  have h1 := h _ rfl
  exact hp _ _ h1 (fun post_ hq_ => by
        rintro _ rfl
        exact hq_)
theorem d_wj_X9_read_164 {K164 : Int32 → mS → Prop} {post : Int32 → mS → Prop} {x5 : Int32} {u : mS} {goal : Prop} (h : wj_X9_read_164 K164 post x5 u) (hK164 : ∀ (b0_ : Int32) (b1_ : mS), K164 b0_ b1_ → (∀ (K164_ : Int32 → mS → Prop) (post_ : Int32 → mS → Prop), K164_ b0_ b1_ → wj_X9_read_164 K164_ post_ x5 u) → goal) (hp : ∀ (b0_ : Int32) (b1_ : mS), post b0_ b1_ → (∀ (K164_ : Int32 → mS → Prop) (post_ : Int32 → mS → Prop), post_ b0_ b1_ → wj_X9_read_164 K164_ post_ x5 u) → goal) : goal := by
  refine el_p h (fun c1 h2 => ?_) (fun c1 h2 => ?_)
  · exact hp _ _ h2 (fun K164_ post_ hq_ => by
            refine ⟨fun _ => ?_, fun q_ => absurd c1 q_⟩
            exact hq_)
  · have h3 := h2 _ rfl
    have h4 := h3 _ rfl
    have v6 := h4.1
    have h5 := h4.2
    have h7 := h5 _ rfl
    have v9 := h7.1
    have h8 := h7.2
    have h10 := h8 _ rfl
    have h11 := h10 _ rfl
    have h12 := h11 _ rfl
    have v14 := h12.1
    have h13 := h12.2
    have h15 := h13 _ rfl
    have h16 := h15 _ rfl
    exact hK164 _ _ h16 (fun K164_ post_ hq_ => by
            refine ⟨fun q_ => absurd q_ c1, fun _ => ?_⟩
            rintro _ rfl
            rintro _ rfl
            refine ⟨v6, ?_⟩
            rintro _ rfl
            refine ⟨v9, ?_⟩
            rintro _ rfl
            rintro _ rfl
            rintro _ rfl
            refine ⟨v14, ?_⟩
            rintro _ rfl
            rintro _ rfl
            exact hq_)
theorem dl_wj_X9_read_164 {post : Int32 → mS → Prop} {goal : Prop} : ∀ (n_ : Nat) (x5 : Int32) (u : mS), mL2 (fun K_ => wj_X9_read_164 K_ post) n_ x5 u → (∀ (b0_ : Int32) (b1_ : mS), post b0_ b1_ → (∀ (post_ : Int32 → mS → Prop), post_ b0_ b1_ → ∃ m_, mL2 (fun K_ => wj_X9_read_164 K_ post_) m_ x5 u) → goal) → goal
  | 0, _, _, h, _ => h.elim
  | n_ + 1, x5, u, h, hp => d_wj_X9_read_164 h (fun b0_ b1_ g_ r_ => dl_wj_X9_read_164 n_ b0_ b1_ g_ (fun b0_ b1_ g2_ r2_ => hp b0_ b1_ g2_ (fun post_ hq_ => (r2_ post_ hq_).elim (fun m_ hm_ => ⟨m_ + 1, r_ _ _ hm_⟩)))) (fun b0_ b1_ g_ r_ => hp b0_ b1_ g_ (fun post_ hq_ => ⟨1, r_ _ _ hq_⟩))
theorem d_wj_X9_read_9 {K9 : Int32 → Int32 → Int32 → Int32 → mS → Prop} {post : Int32 → mS → Prop} {x1 : Int32} {x2 : Int32} {x3 : Int32} {x4 : Int32} {u : mS} {goal : Prop} (h : wj_X9_read_9 K9 post x1 x2 x3 x4 u) (hK9 : ∀ (b0_ : Int32) (b1_ : Int32) (b2_ : Int32) (b3_ : Int32) (b4_ : mS), K9 b0_ b1_ b2_ b3_ b4_ → (∀ (K9_ : Int32 → Int32 → Int32 → Int32 → mS → Prop) (post_ : Int32 → mS → Prop), K9_ b0_ b1_ b2_ b3_ b4_ → wj_X9_read_9 K9_ post_ x1 x2 x3 x4 u) → goal) (hp : ∀ (b0_ : Int32) (b1_ : mS), post b0_ b1_ → (∀ (K9_ : Int32 → Int32 → Int32 → Int32 → mS → Prop) (post_ : Int32 → mS → Prop), post_ b0_ b1_ → wj_X9_read_9 K9_ post_ x1 x2 x3 x4 u) → goal) : goal := by
  have h1 := h _ rfl
  refine el_p h1 (fun c2 h3 => ?_) (fun c2 h3 => ?_)
  · refine el_p h3 (fun c4 h5 => ?_) (fun c4 h5 => ?_)
    · exact d_wj_X9_read_145 h5 (fun b0_ b1_ g_ r_ => hp _ _ g_ (fun K9_ post_ hq_ => by
              rintro _ rfl
              refine ⟨fun _ => ?_, fun q_ => absurd c2 q_⟩
              refine ⟨fun _ => ?_, fun q_ => absurd c4 q_⟩
              exact r_ _ hq_))
    · refine el_n h5 (fun c6 h7 => ?_) (fun c6 h7 => ?_)
      · have h8 := h7 _ rfl
        have h9 := h8 _ rfl
        have h10 := h9 _ rfl
        obtain ⟨n11, h12⟩ := h10
        exact dl_wj_X9_read_164 n11 _ _ h12 (fun b0_ b1_ g_ r_ => hp _ _ g_ (fun K9_ post_ hq_ => by
                rintro _ rfl
                refine ⟨fun _ => ?_, fun q_ => absurd c2 q_⟩
                refine ⟨fun q_ => absurd q_ c4, fun _ => ?_⟩
                refine ⟨fun _ => ?_, fun q_ => absurd q_ c6⟩
                rintro _ rfl
                rintro _ rfl
                rintro _ rfl
                exact r_ _ hq_))
      · exact d_wj_X9_read_145 h7 (fun b0_ b1_ g_ r_ => hp _ _ g_ (fun K9_ post_ hq_ => by
                rintro _ rfl
                refine ⟨fun _ => ?_, fun q_ => absurd c2 q_⟩
                refine ⟨fun q_ => absurd q_ c4, fun _ => ?_⟩
                refine ⟨fun q_ => absurd c6 q_, fun _ => ?_⟩
                exact r_ _ hq_))
  · refine d_wp_X9_look h3 (fun w15 w16 h13 r14 => ?_)
    refine el_n h13 (fun c17 h18 => ?_) (fun c17 h18 => ?_)
    · refine d_wp_X9_token h18 (fun w21 w22 h19 r20 => ?_)
      refine el_p h19 (fun c23 h24 => ?_) (fun c23 h24 => ?_)
      · exact d_wj_X9_read_60 h24 (fun b0_ b1_ b2_ b3_ b4_ g_ r_ => hK9 _ _ _ _ _ g_ (fun K9_ post_ hq_ => by
                rintro _ rfl
                refine ⟨fun q_ => absurd q_ c2, fun _ => ?_⟩
                refine r14 _ ?_
                refine ⟨fun _ => ?_, fun q_ => absurd q_ c17⟩
                refine r20 _ ?_
                refine ⟨fun _ => ?_, fun q_ => absurd c23 q_⟩
                exact r_ _ _ hq_)) (fun b0_ b1_ g_ r_ => hp _ _ g_ (fun K9_ post_ hq_ => by
                rintro _ rfl
                refine ⟨fun q_ => absurd q_ c2, fun _ => ?_⟩
                refine r14 _ ?_
                refine ⟨fun _ => ?_, fun q_ => absurd q_ c17⟩
                refine r20 _ ?_
                refine ⟨fun _ => ?_, fun q_ => absurd c23 q_⟩
                exact r_ _ _ hq_))
      · refine d_wp_X9_code h24 (fun w27 w28 h25 r26 => ?_)
        exact d_wj_X9_read_60 h25 (fun b0_ b1_ b2_ b3_ b4_ g_ r_ => hK9 _ _ _ _ _ g_ (fun K9_ post_ hq_ => by
                rintro _ rfl
                refine ⟨fun q_ => absurd q_ c2, fun _ => ?_⟩
                refine r14 _ ?_
                refine ⟨fun _ => ?_, fun q_ => absurd q_ c17⟩
                refine r20 _ ?_
                refine ⟨fun q_ => absurd q_ c23, fun _ => ?_⟩
                refine r26 _ ?_
                exact r_ _ _ hq_)) (fun b0_ b1_ g_ r_ => hp _ _ g_ (fun K9_ post_ hq_ => by
                rintro _ rfl
                refine ⟨fun q_ => absurd q_ c2, fun _ => ?_⟩
                refine r14 _ ?_
                refine ⟨fun _ => ?_, fun q_ => absurd q_ c17⟩
                refine r20 _ ?_
                refine ⟨fun q_ => absurd q_ c23, fun _ => ?_⟩
                refine r26 _ ?_
                exact r_ _ _ hq_))
    · have h29 := h18 _ rfl
      exact hK9 _ _ _ _ _ h29 (fun K9_ post_ hq_ => by
              rintro _ rfl
              refine ⟨fun q_ => absurd q_ c2, fun _ => ?_⟩
              refine r14 _ ?_
              refine ⟨fun q_ => absurd c17 q_, fun _ => ?_⟩
              rintro _ rfl
              exact hq_)
theorem dl_wj_X9_read_9 {post : Int32 → mS → Prop} {goal : Prop} : ∀ (n_ : Nat) (x1 : Int32) (x2 : Int32) (x3 : Int32) (x4 : Int32) (u : mS), mL5 (fun K_ => wj_X9_read_9 K_ post) n_ x1 x2 x3 x4 u → (∀ (b0_ : Int32) (b1_ : mS), post b0_ b1_ → (∀ (post_ : Int32 → mS → Prop), post_ b0_ b1_ → ∃ m_, mL5 (fun K_ => wj_X9_read_9 K_ post_) m_ x1 x2 x3 x4 u) → goal) → goal
  | 0, _, _, _, _, _, h, _ => h.elim
  | n_ + 1, x1, x2, x3, x4, u, h, hp => d_wj_X9_read_9 h (fun b0_ b1_ b2_ b3_ b4_ g_ r_ => dl_wj_X9_read_9 n_ b0_ b1_ b2_ b3_ b4_ g_ (fun b0_ b1_ g2_ r2_ => hp b0_ b1_ g2_ (fun post_ hq_ => (r2_ post_ hq_).elim (fun m_ hm_ => ⟨m_ + 1, r_ _ _ hm_⟩)))) (fun b0_ b1_ g_ r_ => hp b0_ b1_ g_ (fun post_ hq_ => ⟨1, r_ _ _ hq_⟩))
theorem d_wp_X9_read {u : mS} {post : Int32 → mS → Prop} {goal : Prop} (h : wp_X9_read u post) (hp : ∀ (b0_ : Int32) (b1_ : mS), post b0_ b1_ → (∀ (post_ : Int32 → mS → Prop), post_ b0_ b1_ → wp_X9_read u post_) → goal) : goal := by
  obtain ⟨n1, h2⟩ := h
  exact dl_wj_X9_read_9 n1 _ _ _ _ _ h2 (fun b0_ b1_ g_ r_ => hp _ _ g_ (fun post_ hq_ => r_ _ hq_))
theorem d_wp_X9_kind_2 {x1 : Int32} {u : mS} {post : Int32 → mS → Prop} {goal : Prop} (h : wp_X9_kind_2 x1 u post) (hp : ∀ (b0_ : Int32) (b1_ : mS), post b0_ b1_ → (∀ (post_ : Int32 → mS → Prop), post_ b0_ b1_ → wp_X9_kind_2 x1 u post_) → goal) : goal := by
  have v2 := h.1
  have h1 := h.2
  have h3 := h1 _ rfl
  have h4 := h3 _ rfl
  exact hp _ _ h4 (fun post_ hq_ => by
        refine ⟨v2, ?_⟩
        rintro _ rfl
        rintro _ rfl
        exact hq_)
theorem d_wj_X9_end_2_56 {K7 : Int32 → Int32 → Int32 → mS → Prop} {post : Int32 → mS → Prop} {x2 : Int32} {x3 : Int32} {z0 : Int32} {u : mS} {goal : Prop} (h : wj_X9_end_2_56 K7 post x2 x3 z0 u) (hK7 : ∀ (b0_ : Int32) (b1_ : Int32) (b2_ : Int32) (b3_ : mS), K7 b0_ b1_ b2_ b3_ → (∀ (K7_ : Int32 → Int32 → Int32 → mS → Prop) (post_ : Int32 → mS → Prop), K7_ b0_ b1_ b2_ b3_ → wj_X9_end_2_56 K7_ post_ x2 x3 z0 u) → goal) (hp : ∀ (b0_ : Int32) (b1_ : mS), post b0_ b1_ → (∀ (K7_ : Int32 → Int32 → Int32 → mS → Prop) (post_ : Int32 → mS → Prop), post_ b0_ b1_ → wj_X9_end_2_56 K7_ post_ x2 x3 z0 u) → goal) : goal := by
  exact hK7 _ _ _ _ h (fun K7_ post_ hq_ => hq_)
theorem d_wj_X9_end_2_43 {K7 : Int32 → Int32 → Int32 → mS → Prop} {post : Int32 → mS → Prop} {x3 : Int32} {z0 : Int32} {u : mS} {goal : Prop} (h : wj_X9_end_2_43 K7 post x3 z0 u) (hK7 : ∀ (b0_ : Int32) (b1_ : Int32) (b2_ : Int32) (b3_ : mS), K7 b0_ b1_ b2_ b3_ → (∀ (K7_ : Int32 → Int32 → Int32 → mS → Prop) (post_ : Int32 → mS → Prop), K7_ b0_ b1_ b2_ b3_ → wj_X9_end_2_43 K7_ post_ x3 z0 u) → goal) (hp : ∀ (b0_ : Int32) (b1_ : mS), post b0_ b1_ → (∀ (K7_ : Int32 → Int32 → Int32 → mS → Prop) (post_ : Int32 → mS → Prop), post_ b0_ b1_ → wj_X9_end_2_43 K7_ post_ x3 z0 u) → goal) : goal := by
  have h1 := h _ rfl
  refine el_p h1 (fun c2 h3 => ?_) (fun c2 h3 => ?_)
  · exact d_wj_X9_end_2_56 h3 (fun b0_ b1_ b2_ b3_ g_ r_ => hK7 _ _ _ _ g_ (fun K7_ post_ hq_ => by
            rintro _ rfl
            refine ⟨fun _ => ?_, fun q_ => absurd c2 q_⟩
            exact r_ _ _ hq_)) (fun b0_ b1_ g_ r_ => hp _ _ g_ (fun K7_ post_ hq_ => by
            rintro _ rfl
            refine ⟨fun _ => ?_, fun q_ => absurd c2 q_⟩
            exact r_ _ _ hq_))
  · exact d_wj_X9_end_2_56 h3 (fun b0_ b1_ b2_ b3_ g_ r_ => hK7 _ _ _ _ g_ (fun K7_ post_ hq_ => by
            rintro _ rfl
            refine ⟨fun q_ => absurd q_ c2, fun _ => ?_⟩
            exact r_ _ _ hq_)) (fun b0_ b1_ g_ r_ => hp _ _ g_ (fun K7_ post_ hq_ => by
            rintro _ rfl
            refine ⟨fun q_ => absurd q_ c2, fun _ => ?_⟩
            exact r_ _ _ hq_))
theorem d_wj_X9_end_2_7 {K7 : Int32 → Int32 → Int32 → mS → Prop} {post : Int32 → mS → Prop} {x2 : Int32} {x3 : Int32} {x4 : Int32} {u : mS} {goal : Prop} (h : wj_X9_end_2_7 K7 post x2 x3 x4 u) (hK7 : ∀ (b0_ : Int32) (b1_ : Int32) (b2_ : Int32) (b3_ : mS), K7 b0_ b1_ b2_ b3_ → (∀ (K7_ : Int32 → Int32 → Int32 → mS → Prop) (post_ : Int32 → mS → Prop), K7_ b0_ b1_ b2_ b3_ → wj_X9_end_2_7 K7_ post_ x2 x3 x4 u) → goal) (hp : ∀ (b0_ : Int32) (b1_ : mS), post b0_ b1_ → (∀ (K7_ : Int32 → Int32 → Int32 → mS → Prop) (post_ : Int32 → mS → Prop), post_ b0_ b1_ → wj_X9_end_2_7 K7_ post_ x2 x3 x4 u) → goal) : goal := by
  refine el_p h (fun c1 h2 => ?_) (fun c1 h2 => ?_)
  · exact hp _ _ h2 (fun K7_ post_ hq_ => by
            refine ⟨fun _ => ?_, fun q_ => absurd c1 q_⟩
            exact hq_)
  · refine d_wp_X9_kind_2 h2 (fun w5 w6 h3 r4 => ?_)
    refine el_n h3 (fun c7 h8 => ?_) (fun c7 h8 => ?_)
    · refine d_wp_X9_kind_2 h8 (fun w11 w12 h9 r10 => ?_)
      refine el_n h9 (fun c13 h14 => ?_) (fun c13 h14 => ?_)
      · exact d_wj_X9_end_2_43 h14 (fun b0_ b1_ b2_ b3_ g_ r_ => hK7 _ _ _ _ g_ (fun K7_ post_ hq_ => by
                refine ⟨fun q_ => absurd q_ c1, fun _ => ?_⟩
                refine r4 _ ?_
                refine ⟨fun _ => ?_, fun q_ => absurd q_ c7⟩
                refine r10 _ ?_
                refine ⟨fun _ => ?_, fun q_ => absurd q_ c13⟩
                exact r_ _ _ hq_)) (fun b0_ b1_ g_ r_ => hp _ _ g_ (fun K7_ post_ hq_ => by
                refine ⟨fun q_ => absurd q_ c1, fun _ => ?_⟩
                refine r4 _ ?_
                refine ⟨fun _ => ?_, fun q_ => absurd q_ c7⟩
                refine r10 _ ?_
                refine ⟨fun _ => ?_, fun q_ => absurd q_ c13⟩
                exact r_ _ _ hq_))
      · have h15 := h14 _ rfl
        exact d_wj_X9_end_2_43 h15 (fun b0_ b1_ b2_ b3_ g_ r_ => hK7 _ _ _ _ g_ (fun K7_ post_ hq_ => by
                refine ⟨fun q_ => absurd q_ c1, fun _ => ?_⟩
                refine r4 _ ?_
                refine ⟨fun _ => ?_, fun q_ => absurd q_ c7⟩
                refine r10 _ ?_
                refine ⟨fun q_ => absurd c13 q_, fun _ => ?_⟩
                rintro _ rfl
                exact r_ _ _ hq_)) (fun b0_ b1_ g_ r_ => hp _ _ g_ (fun K7_ post_ hq_ => by
                refine ⟨fun q_ => absurd q_ c1, fun _ => ?_⟩
                refine r4 _ ?_
                refine ⟨fun _ => ?_, fun q_ => absurd q_ c7⟩
                refine r10 _ ?_
                refine ⟨fun q_ => absurd c13 q_, fun _ => ?_⟩
                rintro _ rfl
                exact r_ _ _ hq_))
    · have h16 := h8 _ rfl
      exact d_wj_X9_end_2_43 h16 (fun b0_ b1_ b2_ b3_ g_ r_ => hK7 _ _ _ _ g_ (fun K7_ post_ hq_ => by
              refine ⟨fun q_ => absurd q_ c1, fun _ => ?_⟩
              refine r4 _ ?_
              refine ⟨fun q_ => absurd c7 q_, fun _ => ?_⟩
              rintro _ rfl
              exact r_ _ _ hq_)) (fun b0_ b1_ g_ r_ => hp _ _ g_ (fun K7_ post_ hq_ => by
              refine ⟨fun q_ => absurd q_ c1, fun _ => ?_⟩
              refine r4 _ ?_
              refine ⟨fun q_ => absurd c7 q_, fun _ => ?_⟩
              rintro _ rfl
              exact r_ _ _ hq_))
theorem dl_wj_X9_end_2_7 {post : Int32 → mS → Prop} {goal : Prop} : ∀ (n_ : Nat) (x2 : Int32) (x3 : Int32) (x4 : Int32) (u : mS), mL4 (fun K_ => wj_X9_end_2_7 K_ post) n_ x2 x3 x4 u → (∀ (b0_ : Int32) (b1_ : mS), post b0_ b1_ → (∀ (post_ : Int32 → mS → Prop), post_ b0_ b1_ → ∃ m_, mL4 (fun K_ => wj_X9_end_2_7 K_ post_) m_ x2 x3 x4 u) → goal) → goal
  | 0, _, _, _, _, h, _ => h.elim
  | n_ + 1, x2, x3, x4, u, h, hp => d_wj_X9_end_2_7 h (fun b0_ b1_ b2_ b3_ g_ r_ => dl_wj_X9_end_2_7 n_ b0_ b1_ b2_ b3_ g_ (fun b0_ b1_ g2_ r2_ => hp b0_ b1_ g2_ (fun post_ hq_ => (r2_ post_ hq_).elim (fun m_ hm_ => ⟨m_ + 1, r_ _ _ hm_⟩)))) (fun b0_ b1_ g_ r_ => hp b0_ b1_ g_ (fun post_ hq_ => ⟨1, r_ _ _ hq_⟩))
theorem d_wp_X9_end_2 {x1 : Int32} {u : mS} {post : Int32 → mS → Prop} {goal : Prop} (h : wp_X9_end_2 x1 u post) (hp : ∀ (b0_ : Int32) (b1_ : mS), post b0_ b1_ → (∀ (post_ : Int32 → mS → Prop), post_ b0_ b1_ → wp_X9_end_2 x1 u post_) → goal) : goal := by
  obtain ⟨n1, h2⟩ := h
  exact dl_wj_X9_end_2_7 n1 _ _ _ _ h2 (fun b0_ b1_ g_ r_ => hp _ _ g_ (fun post_ hq_ => r_ _ hq_))
theorem d_wj_X9_dots_2_61 {K6 : Int32 → Int32 → mS → Prop} {post : Int32 → mS → Prop} {x2 : Int32} {z0 : Int32} {u : mS} {goal : Prop} (h : wj_X9_dots_2_61 K6 post x2 z0 u) (hK6 : ∀ (b0_ : Int32) (b1_ : Int32) (b2_ : mS), K6 b0_ b1_ b2_ → (∀ (K6_ : Int32 → Int32 → mS → Prop) (post_ : Int32 → mS → Prop), K6_ b0_ b1_ b2_ → wj_X9_dots_2_61 K6_ post_ x2 z0 u) → goal) (hp : ∀ (b0_ : Int32) (b1_ : mS), post b0_ b1_ → (∀ (K6_ : Int32 → Int32 → mS → Prop) (post_ : Int32 → mS → Prop), post_ b0_ b1_ → wj_X9_dots_2_61 K6_ post_ x2 z0 u) → goal) : goal := by
  exact hK6 _ _ _ h (fun K6_ post_ hq_ => hq_)
theorem d_wj_X9_dots_2_44 {K6 : Int32 → Int32 → mS → Prop} {post : Int32 → mS → Prop} {x3 : Int32} {x4 : Int32} {z0 : Int32} {u : mS} {goal : Prop} (h : wj_X9_dots_2_44 K6 post x3 x4 z0 u) (hK6 : ∀ (b0_ : Int32) (b1_ : Int32) (b2_ : mS), K6 b0_ b1_ b2_ → (∀ (K6_ : Int32 → Int32 → mS → Prop) (post_ : Int32 → mS → Prop), K6_ b0_ b1_ b2_ → wj_X9_dots_2_44 K6_ post_ x3 x4 z0 u) → goal) (hp : ∀ (b0_ : Int32) (b1_ : mS), post b0_ b1_ → (∀ (K6_ : Int32 → Int32 → mS → Prop) (post_ : Int32 → mS → Prop), post_ b0_ b1_ → wj_X9_dots_2_44 K6_ post_ x3 x4 z0 u) → goal) : goal := by
  refine el_p h (fun c1 h2 => ?_) (fun c1 h2 => ?_)
  · refine d_wp_X9_end_2 h2 (fun w5 w6 h3 r4 => ?_)
    exact d_wj_X9_dots_2_61 h3 (fun b0_ b1_ b2_ g_ r_ => hK6 _ _ _ g_ (fun K6_ post_ hq_ => by
            refine ⟨fun _ => ?_, fun q_ => absurd c1 q_⟩
            refine r4 _ ?_
            exact r_ _ _ hq_)) (fun b0_ b1_ g_ r_ => hp _ _ g_ (fun K6_ post_ hq_ => by
            refine ⟨fun _ => ?_, fun q_ => absurd c1 q_⟩
            refine r4 _ ?_
            exact r_ _ _ hq_))
  · have h7 := h2 _ rfl
    exact d_wj_X9_dots_2_61 h7 (fun b0_ b1_ b2_ g_ r_ => hK6 _ _ _ g_ (fun K6_ post_ hq_ => by
            refine ⟨fun q_ => absurd q_ c1, fun _ => ?_⟩
            rintro _ rfl
            exact r_ _ _ hq_)) (fun b0_ b1_ g_ r_ => hp _ _ g_ (fun K6_ post_ hq_ => by
            refine ⟨fun q_ => absurd q_ c1, fun _ => ?_⟩
            rintro _ rfl
            exact r_ _ _ hq_))
theorem d_wj_X9_dots_2_30 {K6 : Int32 → Int32 → mS → Prop} {post : Int32 → mS → Prop} {x2 : Int32} {x3 : Int32} {z0 : Int32} {u : mS} {goal : Prop} (h : wj_X9_dots_2_30 K6 post x2 x3 z0 u) (hK6 : ∀ (b0_ : Int32) (b1_ : Int32) (b2_ : mS), K6 b0_ b1_ b2_ → (∀ (K6_ : Int32 → Int32 → mS → Prop) (post_ : Int32 → mS → Prop), K6_ b0_ b1_ b2_ → wj_X9_dots_2_30 K6_ post_ x2 x3 z0 u) → goal) (hp : ∀ (b0_ : Int32) (b1_ : mS), post b0_ b1_ → (∀ (K6_ : Int32 → Int32 → mS → Prop) (post_ : Int32 → mS → Prop), post_ b0_ b1_ → wj_X9_dots_2_30 K6_ post_ x2 x3 z0 u) → goal) : goal := by
  refine el_p h (fun c1 h2 => ?_) (fun c1 h2 => ?_)
  · exact d_wj_X9_dots_2_44 h2 (fun b0_ b1_ b2_ g_ r_ => hK6 _ _ _ g_ (fun K6_ post_ hq_ => by
            refine ⟨fun _ => ?_, fun q_ => absurd c1 q_⟩
            exact r_ _ _ hq_)) (fun b0_ b1_ g_ r_ => hp _ _ g_ (fun K6_ post_ hq_ => by
            refine ⟨fun _ => ?_, fun q_ => absurd c1 q_⟩
            exact r_ _ _ hq_))
  · have h3 := h2 _ rfl
    exact d_wj_X9_dots_2_44 h3 (fun b0_ b1_ b2_ g_ r_ => hK6 _ _ _ g_ (fun K6_ post_ hq_ => by
            refine ⟨fun q_ => absurd q_ c1, fun _ => ?_⟩
            rintro _ rfl
            exact r_ _ _ hq_)) (fun b0_ b1_ g_ r_ => hp _ _ g_ (fun K6_ post_ hq_ => by
            refine ⟨fun q_ => absurd q_ c1, fun _ => ?_⟩
            rintro _ rfl
            exact r_ _ _ hq_))
theorem d_wj_X9_dots_2_6 {K6 : Int32 → Int32 → mS → Prop} {post : Int32 → mS → Prop} {x2 : Int32} {x3 : Int32} {u : mS} {goal : Prop} (h : wj_X9_dots_2_6 K6 post x2 x3 u) (hK6 : ∀ (b0_ : Int32) (b1_ : Int32) (b2_ : mS), K6 b0_ b1_ b2_ → (∀ (K6_ : Int32 → Int32 → mS → Prop) (post_ : Int32 → mS → Prop), K6_ b0_ b1_ b2_ → wj_X9_dots_2_6 K6_ post_ x2 x3 u) → goal) (hp : ∀ (b0_ : Int32) (b1_ : mS), post b0_ b1_ → (∀ (K6_ : Int32 → Int32 → mS → Prop) (post_ : Int32 → mS → Prop), post_ b0_ b1_ → wj_X9_dots_2_6 K6_ post_ x2 x3 u) → goal) : goal := by
  refine d_wp_X9_kind_2 h (fun w3 w4 h1 r2 => ?_)
  refine el_p h1 (fun c5 h6 => ?_) (fun c5 h6 => ?_)
  · exact hp _ _ h6 (fun K6_ post_ hq_ => by
            refine r2 _ ?_
            refine ⟨fun _ => ?_, fun q_ => absurd c5 q_⟩
            exact hq_)
  · refine d_wp_X9_kind_2 h6 (fun w9 w10 h7 r8 => ?_)
    refine el_n h7 (fun c11 h12 => ?_) (fun c11 h12 => ?_)
    · exact d_wj_X9_dots_2_30 h12 (fun b0_ b1_ b2_ g_ r_ => hK6 _ _ _ g_ (fun K6_ post_ hq_ => by
              refine r2 _ ?_
              refine ⟨fun q_ => absurd q_ c5, fun _ => ?_⟩
              refine r8 _ ?_
              refine ⟨fun _ => ?_, fun q_ => absurd q_ c11⟩
              exact r_ _ _ hq_)) (fun b0_ b1_ g_ r_ => hp _ _ g_ (fun K6_ post_ hq_ => by
              refine r2 _ ?_
              refine ⟨fun q_ => absurd q_ c5, fun _ => ?_⟩
              refine r8 _ ?_
              refine ⟨fun _ => ?_, fun q_ => absurd q_ c11⟩
              exact r_ _ _ hq_))
    · exact d_wj_X9_dots_2_30 h12 (fun b0_ b1_ b2_ g_ r_ => hK6 _ _ _ g_ (fun K6_ post_ hq_ => by
              refine r2 _ ?_
              refine ⟨fun q_ => absurd q_ c5, fun _ => ?_⟩
              refine r8 _ ?_
              refine ⟨fun q_ => absurd c11 q_, fun _ => ?_⟩
              exact r_ _ _ hq_)) (fun b0_ b1_ g_ r_ => hp _ _ g_ (fun K6_ post_ hq_ => by
              refine r2 _ ?_
              refine ⟨fun q_ => absurd q_ c5, fun _ => ?_⟩
              refine r8 _ ?_
              refine ⟨fun q_ => absurd c11 q_, fun _ => ?_⟩
              exact r_ _ _ hq_))
theorem dl_wj_X9_dots_2_6 {post : Int32 → mS → Prop} {goal : Prop} : ∀ (n_ : Nat) (x2 : Int32) (x3 : Int32) (u : mS), mL3 (fun K_ => wj_X9_dots_2_6 K_ post) n_ x2 x3 u → (∀ (b0_ : Int32) (b1_ : mS), post b0_ b1_ → (∀ (post_ : Int32 → mS → Prop), post_ b0_ b1_ → ∃ m_, mL3 (fun K_ => wj_X9_dots_2_6 K_ post_) m_ x2 x3 u) → goal) → goal
  | 0, _, _, _, h, _ => h.elim
  | n_ + 1, x2, x3, u, h, hp => d_wj_X9_dots_2_6 h (fun b0_ b1_ b2_ g_ r_ => dl_wj_X9_dots_2_6 n_ b0_ b1_ b2_ g_ (fun b0_ b1_ g2_ r2_ => hp b0_ b1_ g2_ (fun post_ hq_ => (r2_ post_ hq_).elim (fun m_ hm_ => ⟨m_ + 1, r_ _ _ hm_⟩)))) (fun b0_ b1_ g_ r_ => hp b0_ b1_ g_ (fun post_ hq_ => ⟨1, r_ _ _ hq_⟩))
theorem d_wp_X9_dots_2 {x1 : Int32} {u : mS} {post : Int32 → mS → Prop} {goal : Prop} (h : wp_X9_dots_2 x1 u post) (hp : ∀ (b0_ : Int32) (b1_ : mS), post b0_ b1_ → (∀ (post_ : Int32 → mS → Prop), post_ b0_ b1_ → wp_X9_dots_2 x1 u post_) → goal) : goal := by
  have h1 := h _ rfl
  obtain ⟨n2, h3⟩ := h1
  exact dl_wj_X9_dots_2_6 n2 _ _ _ h3 (fun b0_ b1_ g_ r_ => hp _ _ g_ (fun post_ hq_ => by
        rintro _ rfl
        exact r_ _ hq_))
theorem d_wj_X9_keep_3 {K3 : Int32 → Int32 → Int32 → Int32 → mS → Prop} {post : Int32 → mS → Prop} {x1 : Int32} {x2 : Int32} {x3 : Int32} {x4 : Int32} {u : mS} {goal : Prop} (h : wj_X9_keep_3 K3 post x1 x2 x3 x4 u) (hK3 : ∀ (b0_ : Int32) (b1_ : Int32) (b2_ : Int32) (b3_ : Int32) (b4_ : mS), K3 b0_ b1_ b2_ b3_ b4_ → (∀ (K3_ : Int32 → Int32 → Int32 → Int32 → mS → Prop) (post_ : Int32 → mS → Prop), K3_ b0_ b1_ b2_ b3_ b4_ → wj_X9_keep_3 K3_ post_ x1 x2 x3 x4 u) → goal) (hp : ∀ (b0_ : Int32) (b1_ : mS), post b0_ b1_ → (∀ (K3_ : Int32 → Int32 → Int32 → Int32 → mS → Prop) (post_ : Int32 → mS → Prop), post_ b0_ b1_ → wj_X9_keep_3 K3_ post_ x1 x2 x3 x4 u) → goal) : goal := by
  refine el_p h (fun c1 h2 => ?_) (fun c1 h2 => ?_)
  · have h3 := h2 _ rfl
    have h4 := h3 _ rfl
    exact hp _ _ h4 (fun K3_ post_ hq_ => by
            refine ⟨fun _ => ?_, fun q_ => absurd c1 q_⟩
            rintro _ rfl
            rintro _ rfl
            exact hq_)
  · have h5 := h2 _ rfl
    have h6 := h5 _ rfl
    have v8 := h6.1
    have h7 := h6.2
    have h9 := h7 _ rfl
    have v11 := h9.1
    have h10 := h9.2
    have h12 := h10 _ rfl
    have h13 := h12 _ rfl
    have h14 := h13 _ rfl
    have v16 := h14.1
    have h15 := h14.2
    have h17 := h15 _ rfl
    have v19 := h17.1
    have h18 := h17.2
    have h20 := h18 _ rfl
    have h21 := h20 _ rfl
    exact hK3 _ _ _ _ _ h21 (fun K3_ post_ hq_ => by
            refine ⟨fun q_ => absurd q_ c1, fun _ => ?_⟩
            rintro _ rfl
            rintro _ rfl
            refine ⟨v8, ?_⟩
            rintro _ rfl
            refine ⟨v11, ?_⟩
            rintro _ rfl
            rintro _ rfl
            rintro _ rfl
            refine ⟨v16, ?_⟩
            rintro _ rfl
            refine ⟨v19, ?_⟩
            rintro _ rfl
            rintro _ rfl
            exact hq_)
theorem dl_wj_X9_keep_3 {post : Int32 → mS → Prop} {goal : Prop} : ∀ (n_ : Nat) (x1 : Int32) (x2 : Int32) (x3 : Int32) (x4 : Int32) (u : mS), mL5 (fun K_ => wj_X9_keep_3 K_ post) n_ x1 x2 x3 x4 u → (∀ (b0_ : Int32) (b1_ : mS), post b0_ b1_ → (∀ (post_ : Int32 → mS → Prop), post_ b0_ b1_ → ∃ m_, mL5 (fun K_ => wj_X9_keep_3 K_ post_) m_ x1 x2 x3 x4 u) → goal) → goal
  | 0, _, _, _, _, _, h, _ => h.elim
  | n_ + 1, x1, x2, x3, x4, u, h, hp => d_wj_X9_keep_3 h (fun b0_ b1_ b2_ b3_ b4_ g_ r_ => dl_wj_X9_keep_3 n_ b0_ b1_ b2_ b3_ b4_ g_ (fun b0_ b1_ g2_ r2_ => hp b0_ b1_ g2_ (fun post_ hq_ => (r2_ post_ hq_).elim (fun m_ hm_ => ⟨m_ + 1, r_ _ _ hm_⟩)))) (fun b0_ b1_ g_ r_ => hp b0_ b1_ g_ (fun post_ hq_ => ⟨1, r_ _ _ hq_⟩))
theorem d_wp_X9_keep {x1 : Int32} {x2 : Int32} {x3 : Int32} {u : mS} {post : Int32 → mS → Prop} {goal : Prop} (h : wp_X9_keep x1 x2 x3 u post) (hp : ∀ (b0_ : Int32) (b1_ : mS), post b0_ b1_ → (∀ (post_ : Int32 → mS → Prop), post_ b0_ b1_ → wp_X9_keep x1 x2 x3 u post_) → goal) : goal := by
  obtain ⟨n1, h2⟩ := h
  exact dl_wj_X9_keep_3 n1 _ _ _ _ _ h2 (fun b0_ b1_ g_ r_ => hp _ _ g_ (fun post_ hq_ => r_ _ hq_))
theorem d_wp_X9_kind_4 {x1 : Int32} {u : mS} {post : Int32 → mS → Prop} {goal : Prop} (h : wp_X9_kind_4 x1 u post) (hp : ∀ (b0_ : Int32) (b1_ : mS), post b0_ b1_ → (∀ (post_ : Int32 → mS → Prop), post_ b0_ b1_ → wp_X9_kind_4 x1 u post_) → goal) : goal := by
  have v2 := h.1
  have h1 := h.2
  have h3 := h1 _ rfl
  have h4 := h3 _ rfl
  exact hp _ _ h4 (fun post_ hq_ => by
        refine ⟨v2, ?_⟩
        rintro _ rfl
        rintro _ rfl
        exact hq_)
theorem d_wj_X9_end_4_56 {K7 : Int32 → Int32 → Int32 → mS → Prop} {post : Int32 → mS → Prop} {x2 : Int32} {x3 : Int32} {z0 : Int32} {u : mS} {goal : Prop} (h : wj_X9_end_4_56 K7 post x2 x3 z0 u) (hK7 : ∀ (b0_ : Int32) (b1_ : Int32) (b2_ : Int32) (b3_ : mS), K7 b0_ b1_ b2_ b3_ → (∀ (K7_ : Int32 → Int32 → Int32 → mS → Prop) (post_ : Int32 → mS → Prop), K7_ b0_ b1_ b2_ b3_ → wj_X9_end_4_56 K7_ post_ x2 x3 z0 u) → goal) (hp : ∀ (b0_ : Int32) (b1_ : mS), post b0_ b1_ → (∀ (K7_ : Int32 → Int32 → Int32 → mS → Prop) (post_ : Int32 → mS → Prop), post_ b0_ b1_ → wj_X9_end_4_56 K7_ post_ x2 x3 z0 u) → goal) : goal := by
  exact hK7 _ _ _ _ h (fun K7_ post_ hq_ => hq_)
theorem d_wj_X9_end_4_43 {K7 : Int32 → Int32 → Int32 → mS → Prop} {post : Int32 → mS → Prop} {x3 : Int32} {z0 : Int32} {u : mS} {goal : Prop} (h : wj_X9_end_4_43 K7 post x3 z0 u) (hK7 : ∀ (b0_ : Int32) (b1_ : Int32) (b2_ : Int32) (b3_ : mS), K7 b0_ b1_ b2_ b3_ → (∀ (K7_ : Int32 → Int32 → Int32 → mS → Prop) (post_ : Int32 → mS → Prop), K7_ b0_ b1_ b2_ b3_ → wj_X9_end_4_43 K7_ post_ x3 z0 u) → goal) (hp : ∀ (b0_ : Int32) (b1_ : mS), post b0_ b1_ → (∀ (K7_ : Int32 → Int32 → Int32 → mS → Prop) (post_ : Int32 → mS → Prop), post_ b0_ b1_ → wj_X9_end_4_43 K7_ post_ x3 z0 u) → goal) : goal := by
  have h1 := h _ rfl
  refine el_p h1 (fun c2 h3 => ?_) (fun c2 h3 => ?_)
  · exact d_wj_X9_end_4_56 h3 (fun b0_ b1_ b2_ b3_ g_ r_ => hK7 _ _ _ _ g_ (fun K7_ post_ hq_ => by
            rintro _ rfl
            refine ⟨fun _ => ?_, fun q_ => absurd c2 q_⟩
            exact r_ _ _ hq_)) (fun b0_ b1_ g_ r_ => hp _ _ g_ (fun K7_ post_ hq_ => by
            rintro _ rfl
            refine ⟨fun _ => ?_, fun q_ => absurd c2 q_⟩
            exact r_ _ _ hq_))
  · exact d_wj_X9_end_4_56 h3 (fun b0_ b1_ b2_ b3_ g_ r_ => hK7 _ _ _ _ g_ (fun K7_ post_ hq_ => by
            rintro _ rfl
            refine ⟨fun q_ => absurd q_ c2, fun _ => ?_⟩
            exact r_ _ _ hq_)) (fun b0_ b1_ g_ r_ => hp _ _ g_ (fun K7_ post_ hq_ => by
            rintro _ rfl
            refine ⟨fun q_ => absurd q_ c2, fun _ => ?_⟩
            exact r_ _ _ hq_))
theorem d_wj_X9_end_4_7 {K7 : Int32 → Int32 → Int32 → mS → Prop} {post : Int32 → mS → Prop} {x2 : Int32} {x3 : Int32} {x4 : Int32} {u : mS} {goal : Prop} (h : wj_X9_end_4_7 K7 post x2 x3 x4 u) (hK7 : ∀ (b0_ : Int32) (b1_ : Int32) (b2_ : Int32) (b3_ : mS), K7 b0_ b1_ b2_ b3_ → (∀ (K7_ : Int32 → Int32 → Int32 → mS → Prop) (post_ : Int32 → mS → Prop), K7_ b0_ b1_ b2_ b3_ → wj_X9_end_4_7 K7_ post_ x2 x3 x4 u) → goal) (hp : ∀ (b0_ : Int32) (b1_ : mS), post b0_ b1_ → (∀ (K7_ : Int32 → Int32 → Int32 → mS → Prop) (post_ : Int32 → mS → Prop), post_ b0_ b1_ → wj_X9_end_4_7 K7_ post_ x2 x3 x4 u) → goal) : goal := by
  refine el_p h (fun c1 h2 => ?_) (fun c1 h2 => ?_)
  · exact hp _ _ h2 (fun K7_ post_ hq_ => by
            refine ⟨fun _ => ?_, fun q_ => absurd c1 q_⟩
            exact hq_)
  · refine d_wp_X9_kind_4 h2 (fun w5 w6 h3 r4 => ?_)
    refine el_n h3 (fun c7 h8 => ?_) (fun c7 h8 => ?_)
    · refine d_wp_X9_kind_4 h8 (fun w11 w12 h9 r10 => ?_)
      refine el_n h9 (fun c13 h14 => ?_) (fun c13 h14 => ?_)
      · exact d_wj_X9_end_4_43 h14 (fun b0_ b1_ b2_ b3_ g_ r_ => hK7 _ _ _ _ g_ (fun K7_ post_ hq_ => by
                refine ⟨fun q_ => absurd q_ c1, fun _ => ?_⟩
                refine r4 _ ?_
                refine ⟨fun _ => ?_, fun q_ => absurd q_ c7⟩
                refine r10 _ ?_
                refine ⟨fun _ => ?_, fun q_ => absurd q_ c13⟩
                exact r_ _ _ hq_)) (fun b0_ b1_ g_ r_ => hp _ _ g_ (fun K7_ post_ hq_ => by
                refine ⟨fun q_ => absurd q_ c1, fun _ => ?_⟩
                refine r4 _ ?_
                refine ⟨fun _ => ?_, fun q_ => absurd q_ c7⟩
                refine r10 _ ?_
                refine ⟨fun _ => ?_, fun q_ => absurd q_ c13⟩
                exact r_ _ _ hq_))
      · have h15 := h14 _ rfl
        exact d_wj_X9_end_4_43 h15 (fun b0_ b1_ b2_ b3_ g_ r_ => hK7 _ _ _ _ g_ (fun K7_ post_ hq_ => by
                refine ⟨fun q_ => absurd q_ c1, fun _ => ?_⟩
                refine r4 _ ?_
                refine ⟨fun _ => ?_, fun q_ => absurd q_ c7⟩
                refine r10 _ ?_
                refine ⟨fun q_ => absurd c13 q_, fun _ => ?_⟩
                rintro _ rfl
                exact r_ _ _ hq_)) (fun b0_ b1_ g_ r_ => hp _ _ g_ (fun K7_ post_ hq_ => by
                refine ⟨fun q_ => absurd q_ c1, fun _ => ?_⟩
                refine r4 _ ?_
                refine ⟨fun _ => ?_, fun q_ => absurd q_ c7⟩
                refine r10 _ ?_
                refine ⟨fun q_ => absurd c13 q_, fun _ => ?_⟩
                rintro _ rfl
                exact r_ _ _ hq_))
    · have h16 := h8 _ rfl
      exact d_wj_X9_end_4_43 h16 (fun b0_ b1_ b2_ b3_ g_ r_ => hK7 _ _ _ _ g_ (fun K7_ post_ hq_ => by
              refine ⟨fun q_ => absurd q_ c1, fun _ => ?_⟩
              refine r4 _ ?_
              refine ⟨fun q_ => absurd c7 q_, fun _ => ?_⟩
              rintro _ rfl
              exact r_ _ _ hq_)) (fun b0_ b1_ g_ r_ => hp _ _ g_ (fun K7_ post_ hq_ => by
              refine ⟨fun q_ => absurd q_ c1, fun _ => ?_⟩
              refine r4 _ ?_
              refine ⟨fun q_ => absurd c7 q_, fun _ => ?_⟩
              rintro _ rfl
              exact r_ _ _ hq_))
theorem dl_wj_X9_end_4_7 {post : Int32 → mS → Prop} {goal : Prop} : ∀ (n_ : Nat) (x2 : Int32) (x3 : Int32) (x4 : Int32) (u : mS), mL4 (fun K_ => wj_X9_end_4_7 K_ post) n_ x2 x3 x4 u → (∀ (b0_ : Int32) (b1_ : mS), post b0_ b1_ → (∀ (post_ : Int32 → mS → Prop), post_ b0_ b1_ → ∃ m_, mL4 (fun K_ => wj_X9_end_4_7 K_ post_) m_ x2 x3 x4 u) → goal) → goal
  | 0, _, _, _, _, h, _ => h.elim
  | n_ + 1, x2, x3, x4, u, h, hp => d_wj_X9_end_4_7 h (fun b0_ b1_ b2_ b3_ g_ r_ => dl_wj_X9_end_4_7 n_ b0_ b1_ b2_ b3_ g_ (fun b0_ b1_ g2_ r2_ => hp b0_ b1_ g2_ (fun post_ hq_ => (r2_ post_ hq_).elim (fun m_ hm_ => ⟨m_ + 1, r_ _ _ hm_⟩)))) (fun b0_ b1_ g_ r_ => hp b0_ b1_ g_ (fun post_ hq_ => ⟨1, r_ _ _ hq_⟩))
theorem d_wp_X9_end_4 {x1 : Int32} {u : mS} {post : Int32 → mS → Prop} {goal : Prop} (h : wp_X9_end_4 x1 u post) (hp : ∀ (b0_ : Int32) (b1_ : mS), post b0_ b1_ → (∀ (post_ : Int32 → mS → Prop), post_ b0_ b1_ → wp_X9_end_4 x1 u post_) → goal) : goal := by
  obtain ⟨n1, h2⟩ := h
  exact dl_wj_X9_end_4_7 n1 _ _ _ _ h2 (fun b0_ b1_ g_ r_ => hp _ _ g_ (fun post_ hq_ => r_ _ hq_))
theorem d_wj_X9_count_4_61 {K6 : Int32 → Int32 → mS → Prop} {post : Int32 → mS → Prop} {x2 : Int32} {z0 : Int32} {u : mS} {goal : Prop} (h : wj_X9_count_4_61 K6 post x2 z0 u) (hK6 : ∀ (b0_ : Int32) (b1_ : Int32) (b2_ : mS), K6 b0_ b1_ b2_ → (∀ (K6_ : Int32 → Int32 → mS → Prop) (post_ : Int32 → mS → Prop), K6_ b0_ b1_ b2_ → wj_X9_count_4_61 K6_ post_ x2 z0 u) → goal) (hp : ∀ (b0_ : Int32) (b1_ : mS), post b0_ b1_ → (∀ (K6_ : Int32 → Int32 → mS → Prop) (post_ : Int32 → mS → Prop), post_ b0_ b1_ → wj_X9_count_4_61 K6_ post_ x2 z0 u) → goal) : goal := by
  exact hK6 _ _ _ h (fun K6_ post_ hq_ => hq_)
theorem d_wj_X9_count_4_44 {K6 : Int32 → Int32 → mS → Prop} {post : Int32 → mS → Prop} {x3 : Int32} {x4 : Int32} {z0 : Int32} {u : mS} {goal : Prop} (h : wj_X9_count_4_44 K6 post x3 x4 z0 u) (hK6 : ∀ (b0_ : Int32) (b1_ : Int32) (b2_ : mS), K6 b0_ b1_ b2_ → (∀ (K6_ : Int32 → Int32 → mS → Prop) (post_ : Int32 → mS → Prop), K6_ b0_ b1_ b2_ → wj_X9_count_4_44 K6_ post_ x3 x4 z0 u) → goal) (hp : ∀ (b0_ : Int32) (b1_ : mS), post b0_ b1_ → (∀ (K6_ : Int32 → Int32 → mS → Prop) (post_ : Int32 → mS → Prop), post_ b0_ b1_ → wj_X9_count_4_44 K6_ post_ x3 x4 z0 u) → goal) : goal := by
  refine el_p h (fun c1 h2 => ?_) (fun c1 h2 => ?_)
  · refine d_wp_X9_end_4 h2 (fun w5 w6 h3 r4 => ?_)
    exact d_wj_X9_count_4_61 h3 (fun b0_ b1_ b2_ g_ r_ => hK6 _ _ _ g_ (fun K6_ post_ hq_ => by
            refine ⟨fun _ => ?_, fun q_ => absurd c1 q_⟩
            refine r4 _ ?_
            exact r_ _ _ hq_)) (fun b0_ b1_ g_ r_ => hp _ _ g_ (fun K6_ post_ hq_ => by
            refine ⟨fun _ => ?_, fun q_ => absurd c1 q_⟩
            refine r4 _ ?_
            exact r_ _ _ hq_))
  · have h7 := h2 _ rfl
    exact d_wj_X9_count_4_61 h7 (fun b0_ b1_ b2_ g_ r_ => hK6 _ _ _ g_ (fun K6_ post_ hq_ => by
            refine ⟨fun q_ => absurd q_ c1, fun _ => ?_⟩
            rintro _ rfl
            exact r_ _ _ hq_)) (fun b0_ b1_ g_ r_ => hp _ _ g_ (fun K6_ post_ hq_ => by
            refine ⟨fun q_ => absurd q_ c1, fun _ => ?_⟩
            rintro _ rfl
            exact r_ _ _ hq_))
theorem d_wj_X9_count_4_30 {K6 : Int32 → Int32 → mS → Prop} {post : Int32 → mS → Prop} {x2 : Int32} {x3 : Int32} {z0 : Int32} {u : mS} {goal : Prop} (h : wj_X9_count_4_30 K6 post x2 x3 z0 u) (hK6 : ∀ (b0_ : Int32) (b1_ : Int32) (b2_ : mS), K6 b0_ b1_ b2_ → (∀ (K6_ : Int32 → Int32 → mS → Prop) (post_ : Int32 → mS → Prop), K6_ b0_ b1_ b2_ → wj_X9_count_4_30 K6_ post_ x2 x3 z0 u) → goal) (hp : ∀ (b0_ : Int32) (b1_ : mS), post b0_ b1_ → (∀ (K6_ : Int32 → Int32 → mS → Prop) (post_ : Int32 → mS → Prop), post_ b0_ b1_ → wj_X9_count_4_30 K6_ post_ x2 x3 z0 u) → goal) : goal := by
  refine el_p h (fun c1 h2 => ?_) (fun c1 h2 => ?_)
  · have h3 := h2 _ rfl
    exact d_wj_X9_count_4_44 h3 (fun b0_ b1_ b2_ g_ r_ => hK6 _ _ _ g_ (fun K6_ post_ hq_ => by
            refine ⟨fun _ => ?_, fun q_ => absurd c1 q_⟩
            rintro _ rfl
            exact r_ _ _ hq_)) (fun b0_ b1_ g_ r_ => hp _ _ g_ (fun K6_ post_ hq_ => by
            refine ⟨fun _ => ?_, fun q_ => absurd c1 q_⟩
            rintro _ rfl
            exact r_ _ _ hq_))
  · exact d_wj_X9_count_4_44 h2 (fun b0_ b1_ b2_ g_ r_ => hK6 _ _ _ g_ (fun K6_ post_ hq_ => by
            refine ⟨fun q_ => absurd q_ c1, fun _ => ?_⟩
            exact r_ _ _ hq_)) (fun b0_ b1_ g_ r_ => hp _ _ g_ (fun K6_ post_ hq_ => by
            refine ⟨fun q_ => absurd q_ c1, fun _ => ?_⟩
            exact r_ _ _ hq_))
theorem d_wj_X9_count_4_6 {K6 : Int32 → Int32 → mS → Prop} {post : Int32 → mS → Prop} {x2 : Int32} {x3 : Int32} {u : mS} {goal : Prop} (h : wj_X9_count_4_6 K6 post x2 x3 u) (hK6 : ∀ (b0_ : Int32) (b1_ : Int32) (b2_ : mS), K6 b0_ b1_ b2_ → (∀ (K6_ : Int32 → Int32 → mS → Prop) (post_ : Int32 → mS → Prop), K6_ b0_ b1_ b2_ → wj_X9_count_4_6 K6_ post_ x2 x3 u) → goal) (hp : ∀ (b0_ : Int32) (b1_ : mS), post b0_ b1_ → (∀ (K6_ : Int32 → Int32 → mS → Prop) (post_ : Int32 → mS → Prop), post_ b0_ b1_ → wj_X9_count_4_6 K6_ post_ x2 x3 u) → goal) : goal := by
  refine d_wp_X9_kind_4 h (fun w3 w4 h1 r2 => ?_)
  refine el_p h1 (fun c5 h6 => ?_) (fun c5 h6 => ?_)
  · exact hp _ _ h6 (fun K6_ post_ hq_ => by
            refine r2 _ ?_
            refine ⟨fun _ => ?_, fun q_ => absurd c5 q_⟩
            exact hq_)
  · refine d_wp_X9_kind_4 h6 (fun w9 w10 h7 r8 => ?_)
    refine el_n h7 (fun c11 h12 => ?_) (fun c11 h12 => ?_)
    · exact d_wj_X9_count_4_30 h12 (fun b0_ b1_ b2_ g_ r_ => hK6 _ _ _ g_ (fun K6_ post_ hq_ => by
              refine r2 _ ?_
              refine ⟨fun q_ => absurd q_ c5, fun _ => ?_⟩
              refine r8 _ ?_
              refine ⟨fun _ => ?_, fun q_ => absurd q_ c11⟩
              exact r_ _ _ hq_)) (fun b0_ b1_ g_ r_ => hp _ _ g_ (fun K6_ post_ hq_ => by
              refine r2 _ ?_
              refine ⟨fun q_ => absurd q_ c5, fun _ => ?_⟩
              refine r8 _ ?_
              refine ⟨fun _ => ?_, fun q_ => absurd q_ c11⟩
              exact r_ _ _ hq_))
    · exact d_wj_X9_count_4_30 h12 (fun b0_ b1_ b2_ g_ r_ => hK6 _ _ _ g_ (fun K6_ post_ hq_ => by
              refine r2 _ ?_
              refine ⟨fun q_ => absurd q_ c5, fun _ => ?_⟩
              refine r8 _ ?_
              refine ⟨fun q_ => absurd c11 q_, fun _ => ?_⟩
              exact r_ _ _ hq_)) (fun b0_ b1_ g_ r_ => hp _ _ g_ (fun K6_ post_ hq_ => by
              refine r2 _ ?_
              refine ⟨fun q_ => absurd q_ c5, fun _ => ?_⟩
              refine r8 _ ?_
              refine ⟨fun q_ => absurd c11 q_, fun _ => ?_⟩
              exact r_ _ _ hq_))
theorem dl_wj_X9_count_4_6 {post : Int32 → mS → Prop} {goal : Prop} : ∀ (n_ : Nat) (x2 : Int32) (x3 : Int32) (u : mS), mL3 (fun K_ => wj_X9_count_4_6 K_ post) n_ x2 x3 u → (∀ (b0_ : Int32) (b1_ : mS), post b0_ b1_ → (∀ (post_ : Int32 → mS → Prop), post_ b0_ b1_ → ∃ m_, mL3 (fun K_ => wj_X9_count_4_6 K_ post_) m_ x2 x3 u) → goal) → goal
  | 0, _, _, _, h, _ => h.elim
  | n_ + 1, x2, x3, u, h, hp => d_wj_X9_count_4_6 h (fun b0_ b1_ b2_ g_ r_ => dl_wj_X9_count_4_6 n_ b0_ b1_ b2_ g_ (fun b0_ b1_ g2_ r2_ => hp b0_ b1_ g2_ (fun post_ hq_ => (r2_ post_ hq_).elim (fun m_ hm_ => ⟨m_ + 1, r_ _ _ hm_⟩)))) (fun b0_ b1_ g_ r_ => hp b0_ b1_ g_ (fun post_ hq_ => ⟨1, r_ _ _ hq_⟩))
theorem d_wp_X9_count_4 {x1 : Int32} {u : mS} {post : Int32 → mS → Prop} {goal : Prop} (h : wp_X9_count_4 x1 u post) (hp : ∀ (b0_ : Int32) (b1_ : mS), post b0_ b1_ → (∀ (post_ : Int32 → mS → Prop), post_ b0_ b1_ → wp_X9_count_4 x1 u post_) → goal) : goal := by
  have h1 := h _ rfl
  obtain ⟨n2, h3⟩ := h1
  exact dl_wj_X9_count_4_6 n2 _ _ _ h3 (fun b0_ b1_ g_ r_ => hp _ _ g_ (fun post_ hq_ => by
        rintro _ rfl
        exact r_ _ hq_))
theorem d_wj_X9_dots_4_61 {K6 : Int32 → Int32 → mS → Prop} {post : Int32 → mS → Prop} {x2 : Int32} {z0 : Int32} {u : mS} {goal : Prop} (h : wj_X9_dots_4_61 K6 post x2 z0 u) (hK6 : ∀ (b0_ : Int32) (b1_ : Int32) (b2_ : mS), K6 b0_ b1_ b2_ → (∀ (K6_ : Int32 → Int32 → mS → Prop) (post_ : Int32 → mS → Prop), K6_ b0_ b1_ b2_ → wj_X9_dots_4_61 K6_ post_ x2 z0 u) → goal) (hp : ∀ (b0_ : Int32) (b1_ : mS), post b0_ b1_ → (∀ (K6_ : Int32 → Int32 → mS → Prop) (post_ : Int32 → mS → Prop), post_ b0_ b1_ → wj_X9_dots_4_61 K6_ post_ x2 z0 u) → goal) : goal := by
  exact hK6 _ _ _ h (fun K6_ post_ hq_ => hq_)
theorem d_wj_X9_dots_4_44 {K6 : Int32 → Int32 → mS → Prop} {post : Int32 → mS → Prop} {x3 : Int32} {x4 : Int32} {z0 : Int32} {u : mS} {goal : Prop} (h : wj_X9_dots_4_44 K6 post x3 x4 z0 u) (hK6 : ∀ (b0_ : Int32) (b1_ : Int32) (b2_ : mS), K6 b0_ b1_ b2_ → (∀ (K6_ : Int32 → Int32 → mS → Prop) (post_ : Int32 → mS → Prop), K6_ b0_ b1_ b2_ → wj_X9_dots_4_44 K6_ post_ x3 x4 z0 u) → goal) (hp : ∀ (b0_ : Int32) (b1_ : mS), post b0_ b1_ → (∀ (K6_ : Int32 → Int32 → mS → Prop) (post_ : Int32 → mS → Prop), post_ b0_ b1_ → wj_X9_dots_4_44 K6_ post_ x3 x4 z0 u) → goal) : goal := by
  refine el_p h (fun c1 h2 => ?_) (fun c1 h2 => ?_)
  · refine d_wp_X9_end_4 h2 (fun w5 w6 h3 r4 => ?_)
    exact d_wj_X9_dots_4_61 h3 (fun b0_ b1_ b2_ g_ r_ => hK6 _ _ _ g_ (fun K6_ post_ hq_ => by
            refine ⟨fun _ => ?_, fun q_ => absurd c1 q_⟩
            refine r4 _ ?_
            exact r_ _ _ hq_)) (fun b0_ b1_ g_ r_ => hp _ _ g_ (fun K6_ post_ hq_ => by
            refine ⟨fun _ => ?_, fun q_ => absurd c1 q_⟩
            refine r4 _ ?_
            exact r_ _ _ hq_))
  · have h7 := h2 _ rfl
    exact d_wj_X9_dots_4_61 h7 (fun b0_ b1_ b2_ g_ r_ => hK6 _ _ _ g_ (fun K6_ post_ hq_ => by
            refine ⟨fun q_ => absurd q_ c1, fun _ => ?_⟩
            rintro _ rfl
            exact r_ _ _ hq_)) (fun b0_ b1_ g_ r_ => hp _ _ g_ (fun K6_ post_ hq_ => by
            refine ⟨fun q_ => absurd q_ c1, fun _ => ?_⟩
            rintro _ rfl
            exact r_ _ _ hq_))
theorem d_wj_X9_dots_4_30 {K6 : Int32 → Int32 → mS → Prop} {post : Int32 → mS → Prop} {x2 : Int32} {x3 : Int32} {z0 : Int32} {u : mS} {goal : Prop} (h : wj_X9_dots_4_30 K6 post x2 x3 z0 u) (hK6 : ∀ (b0_ : Int32) (b1_ : Int32) (b2_ : mS), K6 b0_ b1_ b2_ → (∀ (K6_ : Int32 → Int32 → mS → Prop) (post_ : Int32 → mS → Prop), K6_ b0_ b1_ b2_ → wj_X9_dots_4_30 K6_ post_ x2 x3 z0 u) → goal) (hp : ∀ (b0_ : Int32) (b1_ : mS), post b0_ b1_ → (∀ (K6_ : Int32 → Int32 → mS → Prop) (post_ : Int32 → mS → Prop), post_ b0_ b1_ → wj_X9_dots_4_30 K6_ post_ x2 x3 z0 u) → goal) : goal := by
  refine el_p h (fun c1 h2 => ?_) (fun c1 h2 => ?_)
  · exact d_wj_X9_dots_4_44 h2 (fun b0_ b1_ b2_ g_ r_ => hK6 _ _ _ g_ (fun K6_ post_ hq_ => by
            refine ⟨fun _ => ?_, fun q_ => absurd c1 q_⟩
            exact r_ _ _ hq_)) (fun b0_ b1_ g_ r_ => hp _ _ g_ (fun K6_ post_ hq_ => by
            refine ⟨fun _ => ?_, fun q_ => absurd c1 q_⟩
            exact r_ _ _ hq_))
  · have h3 := h2 _ rfl
    exact d_wj_X9_dots_4_44 h3 (fun b0_ b1_ b2_ g_ r_ => hK6 _ _ _ g_ (fun K6_ post_ hq_ => by
            refine ⟨fun q_ => absurd q_ c1, fun _ => ?_⟩
            rintro _ rfl
            exact r_ _ _ hq_)) (fun b0_ b1_ g_ r_ => hp _ _ g_ (fun K6_ post_ hq_ => by
            refine ⟨fun q_ => absurd q_ c1, fun _ => ?_⟩
            rintro _ rfl
            exact r_ _ _ hq_))
theorem d_wj_X9_dots_4_6 {K6 : Int32 → Int32 → mS → Prop} {post : Int32 → mS → Prop} {x2 : Int32} {x3 : Int32} {u : mS} {goal : Prop} (h : wj_X9_dots_4_6 K6 post x2 x3 u) (hK6 : ∀ (b0_ : Int32) (b1_ : Int32) (b2_ : mS), K6 b0_ b1_ b2_ → (∀ (K6_ : Int32 → Int32 → mS → Prop) (post_ : Int32 → mS → Prop), K6_ b0_ b1_ b2_ → wj_X9_dots_4_6 K6_ post_ x2 x3 u) → goal) (hp : ∀ (b0_ : Int32) (b1_ : mS), post b0_ b1_ → (∀ (K6_ : Int32 → Int32 → mS → Prop) (post_ : Int32 → mS → Prop), post_ b0_ b1_ → wj_X9_dots_4_6 K6_ post_ x2 x3 u) → goal) : goal := by
  refine d_wp_X9_kind_4 h (fun w3 w4 h1 r2 => ?_)
  refine el_p h1 (fun c5 h6 => ?_) (fun c5 h6 => ?_)
  · exact hp _ _ h6 (fun K6_ post_ hq_ => by
            refine r2 _ ?_
            refine ⟨fun _ => ?_, fun q_ => absurd c5 q_⟩
            exact hq_)
  · refine d_wp_X9_kind_4 h6 (fun w9 w10 h7 r8 => ?_)
    refine el_n h7 (fun c11 h12 => ?_) (fun c11 h12 => ?_)
    · exact d_wj_X9_dots_4_30 h12 (fun b0_ b1_ b2_ g_ r_ => hK6 _ _ _ g_ (fun K6_ post_ hq_ => by
              refine r2 _ ?_
              refine ⟨fun q_ => absurd q_ c5, fun _ => ?_⟩
              refine r8 _ ?_
              refine ⟨fun _ => ?_, fun q_ => absurd q_ c11⟩
              exact r_ _ _ hq_)) (fun b0_ b1_ g_ r_ => hp _ _ g_ (fun K6_ post_ hq_ => by
              refine r2 _ ?_
              refine ⟨fun q_ => absurd q_ c5, fun _ => ?_⟩
              refine r8 _ ?_
              refine ⟨fun _ => ?_, fun q_ => absurd q_ c11⟩
              exact r_ _ _ hq_))
    · exact d_wj_X9_dots_4_30 h12 (fun b0_ b1_ b2_ g_ r_ => hK6 _ _ _ g_ (fun K6_ post_ hq_ => by
              refine r2 _ ?_
              refine ⟨fun q_ => absurd q_ c5, fun _ => ?_⟩
              refine r8 _ ?_
              refine ⟨fun q_ => absurd c11 q_, fun _ => ?_⟩
              exact r_ _ _ hq_)) (fun b0_ b1_ g_ r_ => hp _ _ g_ (fun K6_ post_ hq_ => by
              refine r2 _ ?_
              refine ⟨fun q_ => absurd q_ c5, fun _ => ?_⟩
              refine r8 _ ?_
              refine ⟨fun q_ => absurd c11 q_, fun _ => ?_⟩
              exact r_ _ _ hq_))
theorem dl_wj_X9_dots_4_6 {post : Int32 → mS → Prop} {goal : Prop} : ∀ (n_ : Nat) (x2 : Int32) (x3 : Int32) (u : mS), mL3 (fun K_ => wj_X9_dots_4_6 K_ post) n_ x2 x3 u → (∀ (b0_ : Int32) (b1_ : mS), post b0_ b1_ → (∀ (post_ : Int32 → mS → Prop), post_ b0_ b1_ → ∃ m_, mL3 (fun K_ => wj_X9_dots_4_6 K_ post_) m_ x2 x3 u) → goal) → goal
  | 0, _, _, _, h, _ => h.elim
  | n_ + 1, x2, x3, u, h, hp => d_wj_X9_dots_4_6 h (fun b0_ b1_ b2_ g_ r_ => dl_wj_X9_dots_4_6 n_ b0_ b1_ b2_ g_ (fun b0_ b1_ g2_ r2_ => hp b0_ b1_ g2_ (fun post_ hq_ => (r2_ post_ hq_).elim (fun m_ hm_ => ⟨m_ + 1, r_ _ _ hm_⟩)))) (fun b0_ b1_ g_ r_ => hp b0_ b1_ g_ (fun post_ hq_ => ⟨1, r_ _ _ hq_⟩))
theorem d_wp_X9_dots_4 {x1 : Int32} {u : mS} {post : Int32 → mS → Prop} {goal : Prop} (h : wp_X9_dots_4 x1 u post) (hp : ∀ (b0_ : Int32) (b1_ : mS), post b0_ b1_ → (∀ (post_ : Int32 → mS → Prop), post_ b0_ b1_ → wp_X9_dots_4 x1 u post_) → goal) : goal := by
  have h1 := h _ rfl
  obtain ⟨n2, h3⟩ := h1
  exact dl_wj_X9_dots_4_6 n2 _ _ _ h3 (fun b0_ b1_ g_ r_ => hp _ _ g_ (fun post_ hq_ => by
        rintro _ rfl
        exact r_ _ hq_))
theorem d_wp_X9_isPlain_4 {x1 : Int32} {x2 : Int32} {u : mS} {post : Int32 → mS → Prop} {goal : Prop} (h : wp_X9_isPlain_4 x1 x2 u post) (hp : ∀ (b0_ : Int32) (b1_ : mS), post b0_ b1_ → (∀ (post_ : Int32 → mS → Prop), post_ b0_ b1_ → wp_X9_isPlain_4 x1 x2 u post_) → goal) : goal := by
  refine d_wp_X9_kind_4 h (fun w3 w4 h1 r2 => ?_)
  refine el_n h1 (fun c5 h6 => ?_) (fun c5 h6 => ?_)
  · exact hp _ _ h6 (fun post_ hq_ => by
            refine r2 _ ?_
            refine ⟨fun _ => ?_, fun q_ => absurd q_ c5⟩
            exact hq_)
  · refine d_wp_X9_count_4 h6 (fun w9 w10 h7 r8 => ?_)
    refine el_n h7 (fun c11 h12 => ?_) (fun c11 h12 => ?_)
    · exact hp _ _ h12 (fun post_ hq_ => by
              refine r2 _ ?_
              refine ⟨fun q_ => absurd c5 q_, fun _ => ?_⟩
              refine r8 _ ?_
              refine ⟨fun _ => ?_, fun q_ => absurd q_ c11⟩
              exact hq_)
    · refine d_wp_X9_dots_4 h12 (fun w15 w16 h13 r14 => ?_)
      refine el_n h13 (fun c17 h18 => ?_) (fun c17 h18 => ?_)
      · exact hp _ _ h18 (fun post_ hq_ => by
                refine r2 _ ?_
                refine ⟨fun q_ => absurd c5 q_, fun _ => ?_⟩
                refine r8 _ ?_
                refine ⟨fun q_ => absurd c11 q_, fun _ => ?_⟩
                refine r14 _ ?_
                refine ⟨fun _ => ?_, fun q_ => absurd q_ c17⟩
                exact hq_)
      · exact hp _ _ h18 (fun post_ hq_ => by
                refine r2 _ ?_
                refine ⟨fun q_ => absurd c5 q_, fun _ => ?_⟩
                refine r8 _ ?_
                refine ⟨fun q_ => absurd c11 q_, fun _ => ?_⟩
                refine r14 _ ?_
                refine ⟨fun q_ => absurd c17 q_, fun _ => ?_⟩
                exact hq_)
theorem d_wj_X9_heldBy_101 {K6 : Int32 → Int32 → Int32 → Int32 → mS → Prop} {post : Int32 → mS → Prop} {x2 : Int32} {x3 : Int32} {x5 : Int32} {z0 : Int32} {u : mS} {goal : Prop} (h : wj_X9_heldBy_101 K6 post x2 x3 x5 z0 u) (hK6 : ∀ (b0_ : Int32) (b1_ : Int32) (b2_ : Int32) (b3_ : Int32) (b4_ : mS), K6 b0_ b1_ b2_ b3_ b4_ → (∀ (K6_ : Int32 → Int32 → Int32 → Int32 → mS → Prop) (post_ : Int32 → mS → Prop), K6_ b0_ b1_ b2_ b3_ b4_ → wj_X9_heldBy_101 K6_ post_ x2 x3 x5 z0 u) → goal) (hp : ∀ (b0_ : Int32) (b1_ : mS), post b0_ b1_ → (∀ (K6_ : Int32 → Int32 → Int32 → Int32 → mS → Prop) (post_ : Int32 → mS → Prop), post_ b0_ b1_ → wj_X9_heldBy_101 K6_ post_ x2 x3 x5 z0 u) → goal) : goal := by
  have h1 := h _ rfl
  exact hK6 _ _ _ _ _ h1 (fun K6_ post_ hq_ => by
        rintro _ rfl
        exact hq_)
theorem d_wj_X9_heldBy_99 {K6 : Int32 → Int32 → Int32 → Int32 → mS → Prop} {post : Int32 → mS → Prop} {x2 : Int32} {x3 : Int32} {x4 : Int32} {x5 : Int32} {u : mS} {goal : Prop} (h : wj_X9_heldBy_99 K6 post x2 x3 x4 x5 u) (hK6 : ∀ (b0_ : Int32) (b1_ : Int32) (b2_ : Int32) (b3_ : Int32) (b4_ : mS), K6 b0_ b1_ b2_ b3_ b4_ → (∀ (K6_ : Int32 → Int32 → Int32 → Int32 → mS → Prop) (post_ : Int32 → mS → Prop), K6_ b0_ b1_ b2_ b3_ b4_ → wj_X9_heldBy_99 K6_ post_ x2 x3 x4 x5 u) → goal) (hp : ∀ (b0_ : Int32) (b1_ : mS), post b0_ b1_ → (∀ (K6_ : Int32 → Int32 → Int32 → Int32 → mS → Prop) (post_ : Int32 → mS → Prop), post_ b0_ b1_ → wj_X9_heldBy_99 K6_ post_ x2 x3 x4 x5 u) → goal) : goal := by
  exact d_wj_X9_heldBy_101 h (fun b0_ b1_ b2_ b3_ b4_ g_ r_ => hK6 _ _ _ _ _ g_ (fun K6_ post_ hq_ => r_ _ _ hq_)) (fun b0_ b1_ g_ r_ => hp _ _ g_ (fun K6_ post_ hq_ => r_ _ _ hq_))
theorem d_wj_X9_heldBy_64 {K6 : Int32 → Int32 → Int32 → Int32 → mS → Prop} {post : Int32 → mS → Prop} {x2 : Int32} {x3 : Int32} {x4 : Int32} {x5 : Int32} {z0 : Int32} {u : mS} {goal : Prop} (h : wj_X9_heldBy_64 K6 post x2 x3 x4 x5 z0 u) (hK6 : ∀ (b0_ : Int32) (b1_ : Int32) (b2_ : Int32) (b3_ : Int32) (b4_ : mS), K6 b0_ b1_ b2_ b3_ b4_ → (∀ (K6_ : Int32 → Int32 → Int32 → Int32 → mS → Prop) (post_ : Int32 → mS → Prop), K6_ b0_ b1_ b2_ b3_ b4_ → wj_X9_heldBy_64 K6_ post_ x2 x3 x4 x5 z0 u) → goal) (hp : ∀ (b0_ : Int32) (b1_ : mS), post b0_ b1_ → (∀ (K6_ : Int32 → Int32 → Int32 → Int32 → mS → Prop) (post_ : Int32 → mS → Prop), post_ b0_ b1_ → wj_X9_heldBy_64 K6_ post_ x2 x3 x4 x5 z0 u) → goal) : goal := by
  refine el_p h (fun c1 h2 => ?_) (fun c1 h2 => ?_)
  · exact d_wj_X9_heldBy_99 h2 (fun b0_ b1_ b2_ b3_ b4_ g_ r_ => hK6 _ _ _ _ _ g_ (fun K6_ post_ hq_ => by
            refine ⟨fun _ => ?_, fun q_ => absurd c1 q_⟩
            exact r_ _ _ hq_)) (fun b0_ b1_ g_ r_ => hp _ _ g_ (fun K6_ post_ hq_ => by
            refine ⟨fun _ => ?_, fun q_ => absurd c1 q_⟩
            exact r_ _ _ hq_))
  · refine el_p h2 (fun c3 h4 => ?_) (fun c3 h4 => ?_)
    · exact d_wj_X9_heldBy_99 h4 (fun b0_ b1_ b2_ b3_ b4_ g_ r_ => hK6 _ _ _ _ _ g_ (fun K6_ post_ hq_ => by
              refine ⟨fun q_ => absurd q_ c1, fun _ => ?_⟩
              refine ⟨fun _ => ?_, fun q_ => absurd c3 q_⟩
              exact r_ _ _ hq_)) (fun b0_ b1_ g_ r_ => hp _ _ g_ (fun K6_ post_ hq_ => by
              refine ⟨fun q_ => absurd q_ c1, fun _ => ?_⟩
              refine ⟨fun _ => ?_, fun q_ => absurd c3 q_⟩
              exact r_ _ _ hq_))
    · refine d_wp_X9_kind_4 h4 (fun w7 w8 h5 r6 => ?_)
      refine el_n h5 (fun c9 h10 => ?_) (fun c9 h10 => ?_)
      · exact d_wj_X9_heldBy_99 h10 (fun b0_ b1_ b2_ b3_ b4_ g_ r_ => hK6 _ _ _ _ _ g_ (fun K6_ post_ hq_ => by
                refine ⟨fun q_ => absurd q_ c1, fun _ => ?_⟩
                refine ⟨fun q_ => absurd q_ c3, fun _ => ?_⟩
                refine r6 _ ?_
                refine ⟨fun _ => ?_, fun q_ => absurd q_ c9⟩
                exact r_ _ _ hq_)) (fun b0_ b1_ g_ r_ => hp _ _ g_ (fun K6_ post_ hq_ => by
                refine ⟨fun q_ => absurd q_ c1, fun _ => ?_⟩
                refine ⟨fun q_ => absurd q_ c3, fun _ => ?_⟩
                refine r6 _ ?_
                refine ⟨fun _ => ?_, fun q_ => absurd q_ c9⟩
                exact r_ _ _ hq_))
      · have h11 := h10 _ rfl
        exact d_wj_X9_heldBy_101 h11 (fun b0_ b1_ b2_ b3_ b4_ g_ r_ => hK6 _ _ _ _ _ g_ (fun K6_ post_ hq_ => by
                refine ⟨fun q_ => absurd q_ c1, fun _ => ?_⟩
                refine ⟨fun q_ => absurd q_ c3, fun _ => ?_⟩
                refine r6 _ ?_
                refine ⟨fun q_ => absurd c9 q_, fun _ => ?_⟩
                rintro _ rfl
                exact r_ _ _ hq_)) (fun b0_ b1_ g_ r_ => hp _ _ g_ (fun K6_ post_ hq_ => by
                refine ⟨fun q_ => absurd q_ c1, fun _ => ?_⟩
                refine ⟨fun q_ => absurd q_ c3, fun _ => ?_⟩
                refine r6 _ ?_
                refine ⟨fun q_ => absurd c9 q_, fun _ => ?_⟩
                rintro _ rfl
                exact r_ _ _ hq_))
theorem d_wj_X9_heldBy_44 {K6 : Int32 → Int32 → Int32 → Int32 → mS → Prop} {post : Int32 → mS → Prop} {x2 : Int32} {x3 : Int32} {x4 : Int32} {x5 : Int32} {z0 : Int32} {u : mS} {goal : Prop} (h : wj_X9_heldBy_44 K6 post x2 x3 x4 x5 z0 u) (hK6 : ∀ (b0_ : Int32) (b1_ : Int32) (b2_ : Int32) (b3_ : Int32) (b4_ : mS), K6 b0_ b1_ b2_ b3_ b4_ → (∀ (K6_ : Int32 → Int32 → Int32 → Int32 → mS → Prop) (post_ : Int32 → mS → Prop), K6_ b0_ b1_ b2_ b3_ b4_ → wj_X9_heldBy_44 K6_ post_ x2 x3 x4 x5 z0 u) → goal) (hp : ∀ (b0_ : Int32) (b1_ : mS), post b0_ b1_ → (∀ (K6_ : Int32 → Int32 → Int32 → Int32 → mS → Prop) (post_ : Int32 → mS → Prop), post_ b0_ b1_ → wj_X9_heldBy_44 K6_ post_ x2 x3 x4 x5 z0 u) → goal) : goal := by
  refine el_p h (fun c1 h2 => ?_) (fun c1 h2 => ?_)
  · exact d_wj_X9_heldBy_64 h2 (fun b0_ b1_ b2_ b3_ b4_ g_ r_ => hK6 _ _ _ _ _ g_ (fun K6_ post_ hq_ => by
            refine ⟨fun _ => ?_, fun q_ => absurd c1 q_⟩
            exact r_ _ _ hq_)) (fun b0_ b1_ g_ r_ => hp _ _ g_ (fun K6_ post_ hq_ => by
            refine ⟨fun _ => ?_, fun q_ => absurd c1 q_⟩
            exact r_ _ _ hq_))
  · refine d_wp_X9_end_4 h2 (fun w5 w6 h3 r4 => ?_)
    exact d_wj_X9_heldBy_64 h3 (fun b0_ b1_ b2_ b3_ b4_ g_ r_ => hK6 _ _ _ _ _ g_ (fun K6_ post_ hq_ => by
            refine ⟨fun q_ => absurd q_ c1, fun _ => ?_⟩
            refine r4 _ ?_
            exact r_ _ _ hq_)) (fun b0_ b1_ g_ r_ => hp _ _ g_ (fun K6_ post_ hq_ => by
            refine ⟨fun q_ => absurd q_ c1, fun _ => ?_⟩
            refine r4 _ ?_
            exact r_ _ _ hq_))
theorem d_wj_X9_heldBy_43 {K6 : Int32 → Int32 → Int32 → Int32 → mS → Prop} {post : Int32 → mS → Prop} {x2 : Int32} {x3 : Int32} {x4 : Int32} {x5 : Int32} {u : mS} {goal : Prop} (h : wj_X9_heldBy_43 K6 post x2 x3 x4 x5 u) (hK6 : ∀ (b0_ : Int32) (b1_ : Int32) (b2_ : Int32) (b3_ : Int32) (b4_ : mS), K6 b0_ b1_ b2_ b3_ b4_ → (∀ (K6_ : Int32 → Int32 → Int32 → Int32 → mS → Prop) (post_ : Int32 → mS → Prop), K6_ b0_ b1_ b2_ b3_ b4_ → wj_X9_heldBy_43 K6_ post_ x2 x3 x4 x5 u) → goal) (hp : ∀ (b0_ : Int32) (b1_ : mS), post b0_ b1_ → (∀ (K6_ : Int32 → Int32 → Int32 → Int32 → mS → Prop) (post_ : Int32 → mS → Prop), post_ b0_ b1_ → wj_X9_heldBy_43 K6_ post_ x2 x3 x4 x5 u) → goal) : goal := by
  exact d_wj_X9_heldBy_44 h (fun b0_ b1_ b2_ b3_ b4_ g_ r_ => hK6 _ _ _ _ _ g_ (fun K6_ post_ hq_ => r_ _ _ hq_)) (fun b0_ b1_ g_ r_ => hp _ _ g_ (fun K6_ post_ hq_ => r_ _ _ hq_))
theorem d_wj_X9_heldBy_6 {K6 : Int32 → Int32 → Int32 → Int32 → mS → Prop} {post : Int32 → mS → Prop} {x2 : Int32} {x3 : Int32} {x4 : Int32} {x5 : Int32} {u : mS} {goal : Prop} (h : wj_X9_heldBy_6 K6 post x2 x3 x4 x5 u) (hK6 : ∀ (b0_ : Int32) (b1_ : Int32) (b2_ : Int32) (b3_ : Int32) (b4_ : mS), K6 b0_ b1_ b2_ b3_ b4_ → (∀ (K6_ : Int32 → Int32 → Int32 → Int32 → mS → Prop) (post_ : Int32 → mS → Prop), K6_ b0_ b1_ b2_ b3_ b4_ → wj_X9_heldBy_6 K6_ post_ x2 x3 x4 x5 u) → goal) (hp : ∀ (b0_ : Int32) (b1_ : mS), post b0_ b1_ → (∀ (K6_ : Int32 → Int32 → Int32 → Int32 → mS → Prop) (post_ : Int32 → mS → Prop), post_ b0_ b1_ → wj_X9_heldBy_6 K6_ post_ x2 x3 x4 x5 u) → goal) : goal := by
  refine el_p h (fun c1 h2 => ?_) (fun c1 h2 => ?_)
  · exact hp _ _ h2 (fun K6_ post_ hq_ => by
            refine ⟨fun _ => ?_, fun q_ => absurd c1 q_⟩
            exact hq_)
  · refine d_wp_X9_kind_4 h2 (fun w5 w6 h3 r4 => ?_)
    refine el_p h3 (fun c7 h8 => ?_) (fun c7 h8 => ?_)
    · exact d_wj_X9_heldBy_43 h8 (fun b0_ b1_ b2_ b3_ b4_ g_ r_ => hK6 _ _ _ _ _ g_ (fun K6_ post_ hq_ => by
              refine ⟨fun q_ => absurd q_ c1, fun _ => ?_⟩
              refine r4 _ ?_
              refine ⟨fun _ => ?_, fun q_ => absurd c7 q_⟩
              exact r_ _ _ hq_)) (fun b0_ b1_ g_ r_ => hp _ _ g_ (fun K6_ post_ hq_ => by
              refine ⟨fun q_ => absurd q_ c1, fun _ => ?_⟩
              refine r4 _ ?_
              refine ⟨fun _ => ?_, fun q_ => absurd c7 q_⟩
              exact r_ _ _ hq_))
    · refine d_wp_X9_kind_4 h8 (fun w11 w12 h9 r10 => ?_)
      refine el_p h9 (fun c13 h14 => ?_) (fun c13 h14 => ?_)
      · exact d_wj_X9_heldBy_43 h14 (fun b0_ b1_ b2_ b3_ b4_ g_ r_ => hK6 _ _ _ _ _ g_ (fun K6_ post_ hq_ => by
                refine ⟨fun q_ => absurd q_ c1, fun _ => ?_⟩
                refine r4 _ ?_
                refine ⟨fun q_ => absurd q_ c7, fun _ => ?_⟩
                refine r10 _ ?_
                refine ⟨fun _ => ?_, fun q_ => absurd c13 q_⟩
                exact r_ _ _ hq_)) (fun b0_ b1_ g_ r_ => hp _ _ g_ (fun K6_ post_ hq_ => by
                refine ⟨fun q_ => absurd q_ c1, fun _ => ?_⟩
                refine r4 _ ?_
                refine ⟨fun q_ => absurd q_ c7, fun _ => ?_⟩
                refine r10 _ ?_
                refine ⟨fun _ => ?_, fun q_ => absurd c13 q_⟩
                exact r_ _ _ hq_))
      · exact d_wj_X9_heldBy_44 h14 (fun b0_ b1_ b2_ b3_ b4_ g_ r_ => hK6 _ _ _ _ _ g_ (fun K6_ post_ hq_ => by
                refine ⟨fun q_ => absurd q_ c1, fun _ => ?_⟩
                refine r4 _ ?_
                refine ⟨fun q_ => absurd q_ c7, fun _ => ?_⟩
                refine r10 _ ?_
                refine ⟨fun q_ => absurd q_ c13, fun _ => ?_⟩
                exact r_ _ _ hq_)) (fun b0_ b1_ g_ r_ => hp _ _ g_ (fun K6_ post_ hq_ => by
                refine ⟨fun q_ => absurd q_ c1, fun _ => ?_⟩
                refine r4 _ ?_
                refine ⟨fun q_ => absurd q_ c7, fun _ => ?_⟩
                refine r10 _ ?_
                refine ⟨fun q_ => absurd q_ c13, fun _ => ?_⟩
                exact r_ _ _ hq_))
theorem dl_wj_X9_heldBy_6 {post : Int32 → mS → Prop} {goal : Prop} : ∀ (n_ : Nat) (x2 : Int32) (x3 : Int32) (x4 : Int32) (x5 : Int32) (u : mS), mL5 (fun K_ => wj_X9_heldBy_6 K_ post) n_ x2 x3 x4 x5 u → (∀ (b0_ : Int32) (b1_ : mS), post b0_ b1_ → (∀ (post_ : Int32 → mS → Prop), post_ b0_ b1_ → ∃ m_, mL5 (fun K_ => wj_X9_heldBy_6 K_ post_) m_ x2 x3 x4 x5 u) → goal) → goal
  | 0, _, _, _, _, _, h, _ => h.elim
  | n_ + 1, x2, x3, x4, x5, u, h, hp => d_wj_X9_heldBy_6 h (fun b0_ b1_ b2_ b3_ b4_ g_ r_ => dl_wj_X9_heldBy_6 n_ b0_ b1_ b2_ b3_ b4_ g_ (fun b0_ b1_ g2_ r2_ => hp b0_ b1_ g2_ (fun post_ hq_ => (r2_ post_ hq_).elim (fun m_ hm_ => ⟨m_ + 1, r_ _ _ hm_⟩)))) (fun b0_ b1_ g_ r_ => hp b0_ b1_ g_ (fun post_ hq_ => ⟨1, r_ _ _ hq_⟩))
theorem d_wp_X9_heldBy {x1 : Int32} {x2 : Int32} {x3 : Int32} {u : mS} {post : Int32 → mS → Prop} {goal : Prop} (h : wp_X9_heldBy x1 x2 x3 u post) (hp : ∀ (b0_ : Int32) (b1_ : mS), post b0_ b1_ → (∀ (post_ : Int32 → mS → Prop), post_ b0_ b1_ → wp_X9_heldBy x1 x2 x3 u post_) → goal) : goal := by
  obtain ⟨n1, h2⟩ := h
  exact dl_wj_X9_heldBy_6 n1 _ _ _ _ _ h2 (fun b0_ b1_ g_ r_ => hp _ _ g_ (fun post_ hq_ => r_ _ hq_))
theorem d_wj_X9_variable_56 {K24 : Int32 → Int32 → Int32 → Int32 → mS → Prop} {post : Int32 → mS → Prop} {x2 : Int32} {x3 : Int32} {x4 : Int32} {x5 : Int32} {u : mS} {goal : Prop} (h : wj_X9_variable_56 K24 post x2 x3 x4 x5 u) (hK24 : ∀ (b0_ : Int32) (b1_ : Int32) (b2_ : Int32) (b3_ : Int32) (b4_ : mS), K24 b0_ b1_ b2_ b3_ b4_ → (∀ (K24_ : Int32 → Int32 → Int32 → Int32 → mS → Prop) (post_ : Int32 → mS → Prop), K24_ b0_ b1_ b2_ b3_ b4_ → wj_X9_variable_56 K24_ post_ x2 x3 x4 x5 u) → goal) (hp : ∀ (b0_ : Int32) (b1_ : mS), post b0_ b1_ → (∀ (K24_ : Int32 → Int32 → Int32 → Int32 → mS → Prop) (post_ : Int32 → mS → Prop), post_ b0_ b1_ → wj_X9_variable_56 K24_ post_ x2 x3 x4 x5 u) → goal) : goal := by
  have h1 := h _ rfl
  exact hK24 _ _ _ _ _ h1 (fun K24_ post_ hq_ => by
        rintro _ rfl
        exact hq_)
theorem d_wj_X9_variable_24 {K24 : Int32 → Int32 → Int32 → Int32 → mS → Prop} {post : Int32 → mS → Prop} {x2 : Int32} {x3 : Int32} {x4 : Int32} {x5 : Int32} {u : mS} {goal : Prop} (h : wj_X9_variable_24 K24 post x2 x3 x4 x5 u) (hK24 : ∀ (b0_ : Int32) (b1_ : Int32) (b2_ : Int32) (b3_ : Int32) (b4_ : mS), K24 b0_ b1_ b2_ b3_ b4_ → (∀ (K24_ : Int32 → Int32 → Int32 → Int32 → mS → Prop) (post_ : Int32 → mS → Prop), K24_ b0_ b1_ b2_ b3_ b4_ → wj_X9_variable_24 K24_ post_ x2 x3 x4 x5 u) → goal) (hp : ∀ (b0_ : Int32) (b1_ : mS), post b0_ b1_ → (∀ (K24_ : Int32 → Int32 → Int32 → Int32 → mS → Prop) (post_ : Int32 → mS → Prop), post_ b0_ b1_ → wj_X9_variable_24 K24_ post_ x2 x3 x4 x5 u) → goal) : goal := by
  refine el_p h (fun c1 h2 => ?_) (fun c1 h2 => ?_)
  · exact hp _ _ h2 (fun K24_ post_ hq_ => by
            refine ⟨fun _ => ?_, fun q_ => absurd c1 q_⟩
            exact hq_)
  · have v4 := h2.1
    have h3 := h2.2
    have h5 := h3 _ rfl
    refine el_n h5 (fun c6 h7 => ?_) (fun c6 h7 => ?_)
    · exact d_wj_X9_variable_56 h7 (fun b0_ b1_ b2_ b3_ b4_ g_ r_ => hK24 _ _ _ _ _ g_ (fun K24_ post_ hq_ => by
              refine ⟨fun q_ => absurd q_ c1, fun _ => ?_⟩
              refine ⟨v4, ?_⟩
              rintro _ rfl
              refine ⟨fun _ => ?_, fun q_ => absurd q_ c6⟩
              exact r_ _ _ hq_)) (fun b0_ b1_ g_ r_ => hp _ _ g_ (fun K24_ post_ hq_ => by
              refine ⟨fun q_ => absurd q_ c1, fun _ => ?_⟩
              refine ⟨v4, ?_⟩
              rintro _ rfl
              refine ⟨fun _ => ?_, fun q_ => absurd q_ c6⟩
              exact r_ _ _ hq_))
    · have v9 := h7.1
      have h8 := h7.2
      have h10 := h8 _ rfl
      refine el_n h10 (fun c11 h12 => ?_) (fun c11 h12 => ?_)
      · exact d_wj_X9_variable_56 h12 (fun b0_ b1_ b2_ b3_ b4_ g_ r_ => hK24 _ _ _ _ _ g_ (fun K24_ post_ hq_ => by
                refine ⟨fun q_ => absurd q_ c1, fun _ => ?_⟩
                refine ⟨v4, ?_⟩
                rintro _ rfl
                refine ⟨fun q_ => absurd c6 q_, fun _ => ?_⟩
                refine ⟨v9, ?_⟩
                rintro _ rfl
                refine ⟨fun _ => ?_, fun q_ => absurd q_ c11⟩
                exact r_ _ _ hq_)) (fun b0_ b1_ g_ r_ => hp _ _ g_ (fun K24_ post_ hq_ => by
                refine ⟨fun q_ => absurd q_ c1, fun _ => ?_⟩
                refine ⟨v4, ?_⟩
                rintro _ rfl
                refine ⟨fun q_ => absurd c6 q_, fun _ => ?_⟩
                refine ⟨v9, ?_⟩
                rintro _ rfl
                refine ⟨fun _ => ?_, fun q_ => absurd q_ c11⟩
                exact r_ _ _ hq_))
      · exact hp _ _ h12 (fun K24_ post_ hq_ => by
                refine ⟨fun q_ => absurd q_ c1, fun _ => ?_⟩
                refine ⟨v4, ?_⟩
                rintro _ rfl
                refine ⟨fun q_ => absurd c6 q_, fun _ => ?_⟩
                refine ⟨v9, ?_⟩
                rintro _ rfl
                refine ⟨fun q_ => absurd c11 q_, fun _ => ?_⟩
                exact hq_)
theorem dl_wj_X9_variable_24 {post : Int32 → mS → Prop} {goal : Prop} : ∀ (n_ : Nat) (x2 : Int32) (x3 : Int32) (x4 : Int32) (x5 : Int32) (u : mS), mL5 (fun K_ => wj_X9_variable_24 K_ post) n_ x2 x3 x4 x5 u → (∀ (b0_ : Int32) (b1_ : mS), post b0_ b1_ → (∀ (post_ : Int32 → mS → Prop), post_ b0_ b1_ → ∃ m_, mL5 (fun K_ => wj_X9_variable_24 K_ post_) m_ x2 x3 x4 x5 u) → goal) → goal
  | 0, _, _, _, _, _, h, _ => h.elim
  | n_ + 1, x2, x3, x4, x5, u, h, hp => d_wj_X9_variable_24 h (fun b0_ b1_ b2_ b3_ b4_ g_ r_ => dl_wj_X9_variable_24 n_ b0_ b1_ b2_ b3_ b4_ g_ (fun b0_ b1_ g2_ r2_ => hp b0_ b1_ g2_ (fun post_ hq_ => (r2_ post_ hq_).elim (fun m_ hm_ => ⟨m_ + 1, r_ _ _ hm_⟩)))) (fun b0_ b1_ g_ r_ => hp b0_ b1_ g_ (fun post_ hq_ => ⟨1, r_ _ _ hq_⟩))
theorem d_wp_X9_variable {x1 : Int32} {x2 : Int32} {x3 : Int32} {u : mS} {post : Int32 → mS → Prop} {goal : Prop} (h : wp_X9_variable x1 x2 x3 u post) (hp : ∀ (b0_ : Int32) (b1_ : mS), post b0_ b1_ → (∀ (post_ : Int32 → mS → Prop), post_ b0_ b1_ → wp_X9_variable x1 x2 x3 u post_) → goal) : goal := by
  refine d_wp_X9_end_4 h (fun w3 w4 h1 r2 => ?_)
  have h5 := h1 _ rfl
  have h6 := h5 _ rfl
  refine d_wp_X9_end_4 h6 (fun w9 w10 h7 r8 => ?_)
  obtain ⟨n11, h12⟩ := h7
  exact dl_wj_X9_variable_24 n11 _ _ _ _ _ h12 (fun b0_ b1_ g_ r_ => hp _ _ g_ (fun post_ hq_ => by
        refine r2 _ ?_
        rintro _ rfl
        rintro _ rfl
        refine r8 _ ?_
        exact r_ _ hq_))
theorem d_wj_X9_isPattern_165 {K65 : Int32 → Int32 → Int32 → mS → Prop} {post : Int32 → mS → Prop} {x1 : Int32} {x2 : Int32} {x4 : Int32} {u : mS} {goal : Prop} (h : wj_X9_isPattern_165 K65 post x1 x2 x4 u) (hK65 : ∀ (b0_ : Int32) (b1_ : Int32) (b2_ : Int32) (b3_ : mS), K65 b0_ b1_ b2_ b3_ → (∀ (K65_ : Int32 → Int32 → Int32 → mS → Prop) (post_ : Int32 → mS → Prop), K65_ b0_ b1_ b2_ b3_ → wj_X9_isPattern_165 K65_ post_ x1 x2 x4 u) → goal) (hp : ∀ (b0_ : Int32) (b1_ : mS), post b0_ b1_ → (∀ (K65_ : Int32 → Int32 → Int32 → mS → Prop) (post_ : Int32 → mS → Prop), post_ b0_ b1_ → wj_X9_isPattern_165 K65_ post_ x1 x2 x4 u) → goal) : goal := by
  have h1 := h _ rfl
  exact hK65 _ _ _ _ h1 (fun K65_ post_ hq_ => by
        rintro _ rfl
        exact hq_)
theorem d_wj_X9_isPattern_133 {K65 : Int32 → Int32 → Int32 → mS → Prop} {post : Int32 → mS → Prop} {x1 : Int32} {x2 : Int32} {x4 : Int32} {x5 : Int32} {u : mS} {goal : Prop} (h : wj_X9_isPattern_133 K65 post x1 x2 x4 x5 u) (hK65 : ∀ (b0_ : Int32) (b1_ : Int32) (b2_ : Int32) (b3_ : mS), K65 b0_ b1_ b2_ b3_ → (∀ (K65_ : Int32 → Int32 → Int32 → mS → Prop) (post_ : Int32 → mS → Prop), K65_ b0_ b1_ b2_ b3_ → wj_X9_isPattern_133 K65_ post_ x1 x2 x4 x5 u) → goal) (hp : ∀ (b0_ : Int32) (b1_ : mS), post b0_ b1_ → (∀ (K65_ : Int32 → Int32 → Int32 → mS → Prop) (post_ : Int32 → mS → Prop), post_ b0_ b1_ → wj_X9_isPattern_133 K65_ post_ x1 x2 x4 x5 u) → goal) : goal := by
  refine el_n h (fun c1 h2 => ?_) (fun c1 h2 => ?_)
  · exact d_wj_X9_isPattern_165 h2 (fun b0_ b1_ b2_ b3_ g_ r_ => hK65 _ _ _ _ g_ (fun K65_ post_ hq_ => by
            refine ⟨fun _ => ?_, fun q_ => absurd q_ c1⟩
            exact r_ _ _ hq_)) (fun b0_ b1_ g_ r_ => hp _ _ g_ (fun K65_ post_ hq_ => by
            refine ⟨fun _ => ?_, fun q_ => absurd q_ c1⟩
            exact r_ _ _ hq_))
  · have v4 := h2.1
    have h3 := h2.2
    have h5 := h3 _ rfl
    have v7 := h5.1
    have h6 := h5.2
    have h8 := h6 _ rfl
    refine d_wp_X9_variable h8 (fun w11 w12 h9 r10 => ?_)
    refine el_p h9 (fun c13 h14 => ?_) (fun c13 h14 => ?_)
    · exact d_wj_X9_isPattern_165 h14 (fun b0_ b1_ b2_ b3_ g_ r_ => hK65 _ _ _ _ g_ (fun K65_ post_ hq_ => by
              refine ⟨fun q_ => absurd c1 q_, fun _ => ?_⟩
              refine ⟨v4, ?_⟩
              rintro _ rfl
              refine ⟨v7, ?_⟩
              rintro _ rfl
              refine r10 _ ?_
              refine ⟨fun _ => ?_, fun q_ => absurd c13 q_⟩
              exact r_ _ _ hq_)) (fun b0_ b1_ g_ r_ => hp _ _ g_ (fun K65_ post_ hq_ => by
              refine ⟨fun q_ => absurd c1 q_, fun _ => ?_⟩
              refine ⟨v4, ?_⟩
              rintro _ rfl
              refine ⟨v7, ?_⟩
              rintro _ rfl
              refine r10 _ ?_
              refine ⟨fun _ => ?_, fun q_ => absurd c13 q_⟩
              exact r_ _ _ hq_))
    · exact hp _ _ h14 (fun K65_ post_ hq_ => by
              refine ⟨fun q_ => absurd c1 q_, fun _ => ?_⟩
              refine ⟨v4, ?_⟩
              rintro _ rfl
              refine ⟨v7, ?_⟩
              rintro _ rfl
              refine r10 _ ?_
              refine ⟨fun q_ => absurd q_ c13, fun _ => ?_⟩
              exact hq_)
theorem d_wj_X9_isPattern_106 {K65 : Int32 → Int32 → Int32 → mS → Prop} {post : Int32 → mS → Prop} {x1 : Int32} {x2 : Int32} {x4 : Int32} {x5 : Int32} {u : mS} {goal : Prop} (h : wj_X9_isPattern_106 K65 post x1 x2 x4 x5 u) (hK65 : ∀ (b0_ : Int32) (b1_ : Int32) (b2_ : Int32) (b3_ : mS), K65 b0_ b1_ b2_ b3_ → (∀ (K65_ : Int32 → Int32 → Int32 → mS → Prop) (post_ : Int32 → mS → Prop), K65_ b0_ b1_ b2_ b3_ → wj_X9_isPattern_106 K65_ post_ x1 x2 x4 x5 u) → goal) (hp : ∀ (b0_ : Int32) (b1_ : mS), post b0_ b1_ → (∀ (K65_ : Int32 → Int32 → Int32 → mS → Prop) (post_ : Int32 → mS → Prop), post_ b0_ b1_ → wj_X9_isPattern_106 K65_ post_ x1 x2 x4 x5 u) → goal) : goal := by
  refine el_p h (fun c1 h2 => ?_) (fun c1 h2 => ?_)
  · exact d_wj_X9_isPattern_133 h2 (fun b0_ b1_ b2_ b3_ g_ r_ => hK65 _ _ _ _ g_ (fun K65_ post_ hq_ => by
            refine ⟨fun _ => ?_, fun q_ => absurd c1 q_⟩
            exact r_ _ _ hq_)) (fun b0_ b1_ g_ r_ => hp _ _ g_ (fun K65_ post_ hq_ => by
            refine ⟨fun _ => ?_, fun q_ => absurd c1 q_⟩
            exact r_ _ _ hq_))
  · refine el_p h2 (fun c3 h4 => ?_) (fun c3 h4 => ?_)
    · exact d_wj_X9_isPattern_133 h4 (fun b0_ b1_ b2_ b3_ g_ r_ => hK65 _ _ _ _ g_ (fun K65_ post_ hq_ => by
              refine ⟨fun q_ => absurd q_ c1, fun _ => ?_⟩
              refine ⟨fun _ => ?_, fun q_ => absurd c3 q_⟩
              exact r_ _ _ hq_)) (fun b0_ b1_ g_ r_ => hp _ _ g_ (fun K65_ post_ hq_ => by
              refine ⟨fun q_ => absurd q_ c1, fun _ => ?_⟩
              refine ⟨fun _ => ?_, fun q_ => absurd c3 q_⟩
              exact r_ _ _ hq_))
    · have h5 := h4 _ rfl
      refine d_wp_X9_heldBy h5 (fun w8 w9 h6 r7 => ?_)
      refine el_p h6 (fun c10 h11 => ?_) (fun c10 h11 => ?_)
      · exact hp _ _ h11 (fun K65_ post_ hq_ => by
                refine ⟨fun q_ => absurd q_ c1, fun _ => ?_⟩
                refine ⟨fun q_ => absurd q_ c3, fun _ => ?_⟩
                rintro _ rfl
                refine r7 _ ?_
                refine ⟨fun _ => ?_, fun q_ => absurd c10 q_⟩
                exact hq_)
      · exact d_wj_X9_isPattern_133 h11 (fun b0_ b1_ b2_ b3_ g_ r_ => hK65 _ _ _ _ g_ (fun K65_ post_ hq_ => by
                refine ⟨fun q_ => absurd q_ c1, fun _ => ?_⟩
                refine ⟨fun q_ => absurd q_ c3, fun _ => ?_⟩
                rintro _ rfl
                refine r7 _ ?_
                refine ⟨fun q_ => absurd q_ c10, fun _ => ?_⟩
                exact r_ _ _ hq_)) (fun b0_ b1_ g_ r_ => hp _ _ g_ (fun K65_ post_ hq_ => by
                refine ⟨fun q_ => absurd q_ c1, fun _ => ?_⟩
                refine ⟨fun q_ => absurd q_ c3, fun _ => ?_⟩
                rintro _ rfl
                refine r7 _ ?_
                refine ⟨fun q_ => absurd q_ c10, fun _ => ?_⟩
                exact r_ _ _ hq_))
theorem d_wj_X9_isPattern_65 {K65 : Int32 → Int32 → Int32 → mS → Prop} {post : Int32 → mS → Prop} {x1 : Int32} {x2 : Int32} {x4 : Int32} {u : mS} {goal : Prop} (h : wj_X9_isPattern_65 K65 post x1 x2 x4 u) (hK65 : ∀ (b0_ : Int32) (b1_ : Int32) (b2_ : Int32) (b3_ : mS), K65 b0_ b1_ b2_ b3_ → (∀ (K65_ : Int32 → Int32 → Int32 → mS → Prop) (post_ : Int32 → mS → Prop), K65_ b0_ b1_ b2_ b3_ → wj_X9_isPattern_65 K65_ post_ x1 x2 x4 u) → goal) (hp : ∀ (b0_ : Int32) (b1_ : mS), post b0_ b1_ → (∀ (K65_ : Int32 → Int32 → Int32 → mS → Prop) (post_ : Int32 → mS → Prop), post_ b0_ b1_ → wj_X9_isPattern_65 K65_ post_ x1 x2 x4 u) → goal) : goal := by
  refine el_p h (fun c1 h2 => ?_) (fun c1 h2 => ?_)
  · exact hp _ _ h2 (fun K65_ post_ hq_ => by
            refine ⟨fun _ => ?_, fun q_ => absurd c1 q_⟩
            exact hq_)
  · refine d_wp_X9_kind_4 h2 (fun w5 w6 h3 r4 => ?_)
    refine el_n h3 (fun c7 h8 => ?_) (fun c7 h8 => ?_)
    · exact d_wj_X9_isPattern_106 h8 (fun b0_ b1_ b2_ b3_ g_ r_ => hK65 _ _ _ _ g_ (fun K65_ post_ hq_ => by
              refine ⟨fun q_ => absurd q_ c1, fun _ => ?_⟩
              refine r4 _ ?_
              refine ⟨fun _ => ?_, fun q_ => absurd q_ c7⟩
              exact r_ _ _ hq_)) (fun b0_ b1_ g_ r_ => hp _ _ g_ (fun K65_ post_ hq_ => by
              refine ⟨fun q_ => absurd q_ c1, fun _ => ?_⟩
              refine r4 _ ?_
              refine ⟨fun _ => ?_, fun q_ => absurd q_ c7⟩
              exact r_ _ _ hq_))
    · have h9 := h8 _ rfl
      refine d_wp_X9_kind_4 h9 (fun w12 w13 h10 r11 => ?_)
      refine el_p h10 (fun c14 h15 => ?_) (fun c14 h15 => ?_)
      · exact d_wj_X9_isPattern_106 h15 (fun b0_ b1_ b2_ b3_ g_ r_ => hK65 _ _ _ _ g_ (fun K65_ post_ hq_ => by
                refine ⟨fun q_ => absurd q_ c1, fun _ => ?_⟩
                refine r4 _ ?_
                refine ⟨fun q_ => absurd c7 q_, fun _ => ?_⟩
                rintro _ rfl
                refine r11 _ ?_
                refine ⟨fun _ => ?_, fun q_ => absurd c14 q_⟩
                exact r_ _ _ hq_)) (fun b0_ b1_ g_ r_ => hp _ _ g_ (fun K65_ post_ hq_ => by
                refine ⟨fun q_ => absurd q_ c1, fun _ => ?_⟩
                refine r4 _ ?_
                refine ⟨fun q_ => absurd c7 q_, fun _ => ?_⟩
                rintro _ rfl
                refine r11 _ ?_
                refine ⟨fun _ => ?_, fun q_ => absurd c14 q_⟩
                exact r_ _ _ hq_))
      · exact hp _ _ h15 (fun K65_ post_ hq_ => by
                refine ⟨fun q_ => absurd q_ c1, fun _ => ?_⟩
                refine r4 _ ?_
                refine ⟨fun q_ => absurd c7 q_, fun _ => ?_⟩
                rintro _ rfl
                refine r11 _ ?_
                refine ⟨fun q_ => absurd q_ c14, fun _ => ?_⟩
                exact hq_)
theorem dl_wj_X9_isPattern_65 {post : Int32 → mS → Prop} {goal : Prop} : ∀ (n_ : Nat) (x1 : Int32) (x2 : Int32) (x4 : Int32) (u : mS), mL4 (fun K_ => wj_X9_isPattern_65 K_ post) n_ x1 x2 x4 u → (∀ (b0_ : Int32) (b1_ : mS), post b0_ b1_ → (∀ (post_ : Int32 → mS → Prop), post_ b0_ b1_ → ∃ m_, mL4 (fun K_ => wj_X9_isPattern_65 K_ post_) m_ x1 x2 x4 u) → goal) → goal
  | 0, _, _, _, _, h, _ => h.elim
  | n_ + 1, x1, x2, x4, u, h, hp => d_wj_X9_isPattern_65 h (fun b0_ b1_ b2_ b3_ g_ r_ => dl_wj_X9_isPattern_65 n_ b0_ b1_ b2_ b3_ g_ (fun b0_ b1_ g2_ r2_ => hp b0_ b1_ g2_ (fun post_ hq_ => (r2_ post_ hq_).elim (fun m_ hm_ => ⟨m_ + 1, r_ _ _ hm_⟩)))) (fun b0_ b1_ g_ r_ => hp b0_ b1_ g_ (fun post_ hq_ => ⟨1, r_ _ _ hq_⟩))
theorem d_wp_X9_isPattern {x1 : Int32} {u : mS} {post : Int32 → mS → Prop} {goal : Prop} (h : wp_X9_isPattern x1 u post) (hp : ∀ (b0_ : Int32) (b1_ : mS), post b0_ b1_ → (∀ (post_ : Int32 → mS → Prop), post_ b0_ b1_ → wp_X9_isPattern x1 u post_) → goal) : goal := by
  refine d_wp_X9_kind_4 h (fun w3 w4 h1 r2 => ?_)
  refine el_n h1 (fun c5 h6 => ?_) (fun c5 h6 => ?_)
  · exact hp _ _ h6 (fun post_ hq_ => by
            refine r2 _ ?_
            refine ⟨fun _ => ?_, fun q_ => absurd q_ c5⟩
            exact hq_)
  · refine d_wp_X9_count_4 h6 (fun w9 w10 h7 r8 => ?_)
    refine el_n h7 (fun c11 h12 => ?_) (fun c11 h12 => ?_)
    · refine d_wp_X9_end_4 h12 (fun w15 w16 h13 r14 => ?_)
      have h17 := h13 _ rfl
      have h18 := h17 _ rfl
      refine d_wp_X9_end_4 h18 (fun w21 w22 h19 r20 => ?_)
      refine d_wp_X9_kind_4 h19 (fun w25 w26 h23 r24 => ?_)
      refine el_n h23 (fun c27 h28 => ?_) (fun c27 h28 => ?_)
      · obtain ⟨n29, h30⟩ := h28
        exact dl_wj_X9_isPattern_65 n29 _ _ _ _ h30 (fun b0_ b1_ g_ r_ => hp _ _ g_ (fun post_ hq_ => by
                refine r2 _ ?_
                refine ⟨fun q_ => absurd c5 q_, fun _ => ?_⟩
                refine r8 _ ?_
                refine ⟨fun _ => ?_, fun q_ => absurd q_ c11⟩
                refine r14 _ ?_
                rintro _ rfl
                rintro _ rfl
                refine r20 _ ?_
                refine r24 _ ?_
                refine ⟨fun _ => ?_, fun q_ => absurd q_ c27⟩
                exact r_ _ hq_))
      · exact hp _ _ h28 (fun post_ hq_ => by
                refine r2 _ ?_
                refine ⟨fun q_ => absurd c5 q_, fun _ => ?_⟩
                refine r8 _ ?_
                refine ⟨fun _ => ?_, fun q_ => absurd q_ c11⟩
                refine r14 _ ?_
                rintro _ rfl
                rintro _ rfl
                refine r20 _ ?_
                refine r24 _ ?_
                refine ⟨fun q_ => absurd c27 q_, fun _ => ?_⟩
                exact hq_)
    · exact hp _ _ h12 (fun post_ hq_ => by
              refine r2 _ ?_
              refine ⟨fun q_ => absurd c5 q_, fun _ => ?_⟩
              refine r8 _ ?_
              refine ⟨fun q_ => absurd c11 q_, fun _ => ?_⟩
              exact hq_)
theorem d_wj_X9_uses_56 {K6 : Int32 → Int32 → Int32 → Int32 → mS → Prop} {post : Int32 → mS → Prop} {x1 : Int32} {x3 : Int32} {x5 : Int32} {z0 : Int32} {u : mS} {goal : Prop} (h : wj_X9_uses_56 K6 post x1 x3 x5 z0 u) (hK6 : ∀ (b0_ : Int32) (b1_ : Int32) (b2_ : Int32) (b3_ : Int32) (b4_ : mS), K6 b0_ b1_ b2_ b3_ b4_ → (∀ (K6_ : Int32 → Int32 → Int32 → Int32 → mS → Prop) (post_ : Int32 → mS → Prop), K6_ b0_ b1_ b2_ b3_ b4_ → wj_X9_uses_56 K6_ post_ x1 x3 x5 z0 u) → goal) (hp : ∀ (b0_ : Int32) (b1_ : mS), post b0_ b1_ → (∀ (K6_ : Int32 → Int32 → Int32 → Int32 → mS → Prop) (post_ : Int32 → mS → Prop), post_ b0_ b1_ → wj_X9_uses_56 K6_ post_ x1 x3 x5 z0 u) → goal) : goal := by
  have h1 := h _ rfl
  exact hK6 _ _ _ _ _ h1 (fun K6_ post_ hq_ => by
        rintro _ rfl
        exact hq_)
theorem d_wj_X9_uses_54 {K6 : Int32 → Int32 → Int32 → Int32 → mS → Prop} {post : Int32 → mS → Prop} {x1 : Int32} {x3 : Int32} {x4 : Int32} {x5 : Int32} {u : mS} {goal : Prop} (h : wj_X9_uses_54 K6 post x1 x3 x4 x5 u) (hK6 : ∀ (b0_ : Int32) (b1_ : Int32) (b2_ : Int32) (b3_ : Int32) (b4_ : mS), K6 b0_ b1_ b2_ b3_ b4_ → (∀ (K6_ : Int32 → Int32 → Int32 → Int32 → mS → Prop) (post_ : Int32 → mS → Prop), K6_ b0_ b1_ b2_ b3_ b4_ → wj_X9_uses_54 K6_ post_ x1 x3 x4 x5 u) → goal) (hp : ∀ (b0_ : Int32) (b1_ : mS), post b0_ b1_ → (∀ (K6_ : Int32 → Int32 → Int32 → Int32 → mS → Prop) (post_ : Int32 → mS → Prop), post_ b0_ b1_ → wj_X9_uses_54 K6_ post_ x1 x3 x4 x5 u) → goal) : goal := by
  exact d_wj_X9_uses_56 h (fun b0_ b1_ b2_ b3_ b4_ g_ r_ => hK6 _ _ _ _ _ g_ (fun K6_ post_ hq_ => r_ _ _ hq_)) (fun b0_ b1_ g_ r_ => hp _ _ g_ (fun K6_ post_ hq_ => r_ _ _ hq_))
theorem d_wj_X9_uses_6 {K6 : Int32 → Int32 → Int32 → Int32 → mS → Prop} {post : Int32 → mS → Prop} {x1 : Int32} {x3 : Int32} {x4 : Int32} {x5 : Int32} {u : mS} {goal : Prop} (h : wj_X9_uses_6 K6 post x1 x3 x4 x5 u) (hK6 : ∀ (b0_ : Int32) (b1_ : Int32) (b2_ : Int32) (b3_ : Int32) (b4_ : mS), K6 b0_ b1_ b2_ b3_ b4_ → (∀ (K6_ : Int32 → Int32 → Int32 → Int32 → mS → Prop) (post_ : Int32 → mS → Prop), K6_ b0_ b1_ b2_ b3_ b4_ → wj_X9_uses_6 K6_ post_ x1 x3 x4 x5 u) → goal) (hp : ∀ (b0_ : Int32) (b1_ : mS), post b0_ b1_ → (∀ (K6_ : Int32 → Int32 → Int32 → Int32 → mS → Prop) (post_ : Int32 → mS → Prop), post_ b0_ b1_ → wj_X9_uses_6 K6_ post_ x1 x3 x4 x5 u) → goal) : goal := by
  refine el_p h (fun c1 h2 => ?_) (fun c1 h2 => ?_)
  · exact hp _ _ h2 (fun K6_ post_ hq_ => by
            refine ⟨fun _ => ?_, fun q_ => absurd c1 q_⟩
            exact hq_)
  · refine d_wp_X9_kind_4 h2 (fun w5 w6 h3 r4 => ?_)
    refine el_n h3 (fun c7 h8 => ?_) (fun c7 h8 => ?_)
    · exact d_wj_X9_uses_54 h8 (fun b0_ b1_ b2_ b3_ b4_ g_ r_ => hK6 _ _ _ _ _ g_ (fun K6_ post_ hq_ => by
              refine ⟨fun q_ => absurd q_ c1, fun _ => ?_⟩
              refine r4 _ ?_
              refine ⟨fun _ => ?_, fun q_ => absurd q_ c7⟩
              exact r_ _ _ hq_)) (fun b0_ b1_ g_ r_ => hp _ _ g_ (fun K6_ post_ hq_ => by
              refine ⟨fun q_ => absurd q_ c1, fun _ => ?_⟩
              refine r4 _ ?_
              refine ⟨fun _ => ?_, fun q_ => absurd q_ c7⟩
              exact r_ _ _ hq_))
    · have v10 := h8.1
      have h9 := h8.2
      have h11 := h9 _ rfl
      have v13 := h11.1
      have h12 := h11.2
      have h14 := h12 _ rfl
      refine d_wp_X9_variable h14 (fun w17 w18 h15 r16 => ?_)
      refine el_p h15 (fun c19 h20 => ?_) (fun c19 h20 => ?_)
      · exact d_wj_X9_uses_54 h20 (fun b0_ b1_ b2_ b3_ b4_ g_ r_ => hK6 _ _ _ _ _ g_ (fun K6_ post_ hq_ => by
                refine ⟨fun q_ => absurd q_ c1, fun _ => ?_⟩
                refine r4 _ ?_
                refine ⟨fun q_ => absurd c7 q_, fun _ => ?_⟩
                refine ⟨v10, ?_⟩
                rintro _ rfl
                refine ⟨v13, ?_⟩
                rintro _ rfl
                refine r16 _ ?_
                refine ⟨fun _ => ?_, fun q_ => absurd c19 q_⟩
                exact r_ _ _ hq_)) (fun b0_ b1_ g_ r_ => hp _ _ g_ (fun K6_ post_ hq_ => by
                refine ⟨fun q_ => absurd q_ c1, fun _ => ?_⟩
                refine r4 _ ?_
                refine ⟨fun q_ => absurd c7 q_, fun _ => ?_⟩
                refine ⟨v10, ?_⟩
                rintro _ rfl
                refine ⟨v13, ?_⟩
                rintro _ rfl
                refine r16 _ ?_
                refine ⟨fun _ => ?_, fun q_ => absurd c19 q_⟩
                exact r_ _ _ hq_))
      · have h21 := h20 _ rfl
        exact d_wj_X9_uses_56 h21 (fun b0_ b1_ b2_ b3_ b4_ g_ r_ => hK6 _ _ _ _ _ g_ (fun K6_ post_ hq_ => by
                refine ⟨fun q_ => absurd q_ c1, fun _ => ?_⟩
                refine r4 _ ?_
                refine ⟨fun q_ => absurd c7 q_, fun _ => ?_⟩
                refine ⟨v10, ?_⟩
                rintro _ rfl
                refine ⟨v13, ?_⟩
                rintro _ rfl
                refine r16 _ ?_
                refine ⟨fun q_ => absurd q_ c19, fun _ => ?_⟩
                rintro _ rfl
                exact r_ _ _ hq_)) (fun b0_ b1_ g_ r_ => hp _ _ g_ (fun K6_ post_ hq_ => by
                refine ⟨fun q_ => absurd q_ c1, fun _ => ?_⟩
                refine r4 _ ?_
                refine ⟨fun q_ => absurd c7 q_, fun _ => ?_⟩
                refine ⟨v10, ?_⟩
                rintro _ rfl
                refine ⟨v13, ?_⟩
                rintro _ rfl
                refine r16 _ ?_
                refine ⟨fun q_ => absurd q_ c19, fun _ => ?_⟩
                rintro _ rfl
                exact r_ _ _ hq_))
theorem dl_wj_X9_uses_6 {post : Int32 → mS → Prop} {goal : Prop} : ∀ (n_ : Nat) (x1 : Int32) (x3 : Int32) (x4 : Int32) (x5 : Int32) (u : mS), mL5 (fun K_ => wj_X9_uses_6 K_ post) n_ x1 x3 x4 x5 u → (∀ (b0_ : Int32) (b1_ : mS), post b0_ b1_ → (∀ (post_ : Int32 → mS → Prop), post_ b0_ b1_ → ∃ m_, mL5 (fun K_ => wj_X9_uses_6 K_ post_) m_ x1 x3 x4 x5 u) → goal) → goal
  | 0, _, _, _, _, _, h, _ => h.elim
  | n_ + 1, x1, x3, x4, x5, u, h, hp => d_wj_X9_uses_6 h (fun b0_ b1_ b2_ b3_ b4_ g_ r_ => dl_wj_X9_uses_6 n_ b0_ b1_ b2_ b3_ b4_ g_ (fun b0_ b1_ g2_ r2_ => hp b0_ b1_ g2_ (fun post_ hq_ => (r2_ post_ hq_).elim (fun m_ hm_ => ⟨m_ + 1, r_ _ _ hm_⟩)))) (fun b0_ b1_ g_ r_ => hp b0_ b1_ g_ (fun post_ hq_ => ⟨1, r_ _ _ hq_⟩))
theorem d_wp_X9_uses {x1 : Int32} {x2 : Int32} {x3 : Int32} {u : mS} {post : Int32 → mS → Prop} {goal : Prop} (h : wp_X9_uses x1 x2 x3 u post) (hp : ∀ (b0_ : Int32) (b1_ : mS), post b0_ b1_ → (∀ (post_ : Int32 → mS → Prop), post_ b0_ b1_ → wp_X9_uses x1 x2 x3 u post_) → goal) : goal := by
  obtain ⟨n1, h2⟩ := h
  exact dl_wj_X9_uses_6 n1 _ _ _ _ _ h2 (fun b0_ b1_ g_ r_ => hp _ _ g_ (fun post_ hq_ => r_ _ hq_))
theorem d_wj_X9_isTemplate_97 {K24 : Int32 → Int32 → Int32 → Int32 → Int32 → mS → Prop} {post : Int32 → mS → Prop} {x1 : Int32} {x2 : Int32} {x3 : Int32} {x4 : Int32} {x5 : Int32} {u : mS} {goal : Prop} (h : wj_X9_isTemplate_97 K24 post x1 x2 x3 x4 x5 u) (hK24 : ∀ (b0_ : Int32) (b1_ : Int32) (b2_ : Int32) (b3_ : Int32) (b4_ : Int32) (b5_ : mS), K24 b0_ b1_ b2_ b3_ b4_ b5_ → (∀ (K24_ : Int32 → Int32 → Int32 → Int32 → Int32 → mS → Prop) (post_ : Int32 → mS → Prop), K24_ b0_ b1_ b2_ b3_ b4_ b5_ → wj_X9_isTemplate_97 K24_ post_ x1 x2 x3 x4 x5 u) → goal) (hp : ∀ (b0_ : Int32) (b1_ : mS), post b0_ b1_ → (∀ (K24_ : Int32 → Int32 → Int32 → Int32 → Int32 → mS → Prop) (post_ : Int32 → mS → Prop), post_ b0_ b1_ → wj_X9_isTemplate_97 K24_ post_ x1 x2 x3 x4 x5 u) → goal) : goal := by
  have h1 := h _ rfl
  exact hK24 _ _ _ _ _ _ h1 (fun K24_ post_ hq_ => by
        rintro _ rfl
        exact hq_)
theorem d_wj_X9_isTemplate_66 {K24 : Int32 → Int32 → Int32 → Int32 → Int32 → mS → Prop} {post : Int32 → mS → Prop} {x1 : Int32} {x2 : Int32} {x3 : Int32} {x4 : Int32} {x5 : Int32} {z0 : Int32} {u : mS} {goal : Prop} (h : wj_X9_isTemplate_66 K24 post x1 x2 x3 x4 x5 z0 u) (hK24 : ∀ (b0_ : Int32) (b1_ : Int32) (b2_ : Int32) (b3_ : Int32) (b4_ : Int32) (b5_ : mS), K24 b0_ b1_ b2_ b3_ b4_ b5_ → (∀ (K24_ : Int32 → Int32 → Int32 → Int32 → Int32 → mS → Prop) (post_ : Int32 → mS → Prop), K24_ b0_ b1_ b2_ b3_ b4_ b5_ → wj_X9_isTemplate_66 K24_ post_ x1 x2 x3 x4 x5 z0 u) → goal) (hp : ∀ (b0_ : Int32) (b1_ : mS), post b0_ b1_ → (∀ (K24_ : Int32 → Int32 → Int32 → Int32 → Int32 → mS → Prop) (post_ : Int32 → mS → Prop), post_ b0_ b1_ → wj_X9_isTemplate_66 K24_ post_ x1 x2 x3 x4 x5 z0 u) → goal) : goal := by
  refine el_p h (fun c1 h2 => ?_) (fun c1 h2 => ?_)
  · exact d_wj_X9_isTemplate_97 h2 (fun b0_ b1_ b2_ b3_ b4_ b5_ g_ r_ => hK24 _ _ _ _ _ _ g_ (fun K24_ post_ hq_ => by
            refine ⟨fun _ => ?_, fun q_ => absurd c1 q_⟩
            exact r_ _ _ hq_)) (fun b0_ b1_ g_ r_ => hp _ _ g_ (fun K24_ post_ hq_ => by
            refine ⟨fun _ => ?_, fun q_ => absurd c1 q_⟩
            exact r_ _ _ hq_))
  · refine d_wp_X9_heldBy h2 (fun w5 w6 h3 r4 => ?_)
    have h7 := h3 _ rfl
    refine d_wp_X9_heldBy h7 (fun w10 w11 h8 r9 => ?_)
    refine el_p h8 (fun c12 h13 => ?_) (fun c12 h13 => ?_)
    · exact d_wj_X9_isTemplate_97 h13 (fun b0_ b1_ b2_ b3_ b4_ b5_ g_ r_ => hK24 _ _ _ _ _ _ g_ (fun K24_ post_ hq_ => by
              refine ⟨fun q_ => absurd q_ c1, fun _ => ?_⟩
              refine r4 _ ?_
              rintro _ rfl
              refine r9 _ ?_
              refine ⟨fun _ => ?_, fun q_ => absurd c12 q_⟩
              exact r_ _ _ hq_)) (fun b0_ b1_ g_ r_ => hp _ _ g_ (fun K24_ post_ hq_ => by
              refine ⟨fun q_ => absurd q_ c1, fun _ => ?_⟩
              refine r4 _ ?_
              rintro _ rfl
              refine r9 _ ?_
              refine ⟨fun _ => ?_, fun q_ => absurd c12 q_⟩
              exact r_ _ _ hq_))
    · exact hp _ _ h13 (fun K24_ post_ hq_ => by
              refine ⟨fun q_ => absurd q_ c1, fun _ => ?_⟩
              refine r4 _ ?_
              rintro _ rfl
              refine r9 _ ?_
              refine ⟨fun q_ => absurd q_ c12, fun _ => ?_⟩
              exact hq_)
theorem d_wj_X9_isTemplate_185 {K106 : Int32 → Int32 → Int32 → mS → Prop} {post : Int32 → mS → Prop} {x1 : Int32} {x3 : Int32} {x5 : Int32} {u : mS} {goal : Prop} (h : wj_X9_isTemplate_185 K106 post x1 x3 x5 u) (hK106 : ∀ (b0_ : Int32) (b1_ : Int32) (b2_ : Int32) (b3_ : mS), K106 b0_ b1_ b2_ b3_ → (∀ (K106_ : Int32 → Int32 → Int32 → mS → Prop) (post_ : Int32 → mS → Prop), K106_ b0_ b1_ b2_ b3_ → wj_X9_isTemplate_185 K106_ post_ x1 x3 x5 u) → goal) (hp : ∀ (b0_ : Int32) (b1_ : mS), post b0_ b1_ → (∀ (K106_ : Int32 → Int32 → Int32 → mS → Prop) (post_ : Int32 → mS → Prop), post_ b0_ b1_ → wj_X9_isTemplate_185 K106_ post_ x1 x3 x5 u) → goal) : goal := by
  have h1 := h _ rfl
  exact hK106 _ _ _ _ h1 (fun K106_ post_ hq_ => by
        rintro _ rfl
        exact hq_)
theorem d_wj_X9_isTemplate_149 {K106 : Int32 → Int32 → Int32 → mS → Prop} {post : Int32 → mS → Prop} {x1 : Int32} {x3 : Int32} {x5 : Int32} {z0 : Int32} {u : mS} {goal : Prop} (h : wj_X9_isTemplate_149 K106 post x1 x3 x5 z0 u) (hK106 : ∀ (b0_ : Int32) (b1_ : Int32) (b2_ : Int32) (b3_ : mS), K106 b0_ b1_ b2_ b3_ → (∀ (K106_ : Int32 → Int32 → Int32 → mS → Prop) (post_ : Int32 → mS → Prop), K106_ b0_ b1_ b2_ b3_ → wj_X9_isTemplate_149 K106_ post_ x1 x3 x5 z0 u) → goal) (hp : ∀ (b0_ : Int32) (b1_ : mS), post b0_ b1_ → (∀ (K106_ : Int32 → Int32 → Int32 → mS → Prop) (post_ : Int32 → mS → Prop), post_ b0_ b1_ → wj_X9_isTemplate_149 K106_ post_ x1 x3 x5 z0 u) → goal) : goal := by
  refine el_p h (fun c1 h2 => ?_) (fun c1 h2 => ?_)
  · exact d_wj_X9_isTemplate_185 h2 (fun b0_ b1_ b2_ b3_ g_ r_ => hK106 _ _ _ _ g_ (fun K106_ post_ hq_ => by
            refine ⟨fun _ => ?_, fun q_ => absurd c1 q_⟩
            exact r_ _ _ hq_)) (fun b0_ b1_ g_ r_ => hp _ _ g_ (fun K106_ post_ hq_ => by
            refine ⟨fun _ => ?_, fun q_ => absurd c1 q_⟩
            exact r_ _ _ hq_))
  · refine d_wp_X9_kind_4 h2 (fun w5 w6 h3 r4 => ?_)
    refine el_n h3 (fun c7 h8 => ?_) (fun c7 h8 => ?_)
    · exact d_wj_X9_isTemplate_185 h8 (fun b0_ b1_ b2_ b3_ g_ r_ => hK106 _ _ _ _ g_ (fun K106_ post_ hq_ => by
              refine ⟨fun q_ => absurd q_ c1, fun _ => ?_⟩
              refine r4 _ ?_
              refine ⟨fun _ => ?_, fun q_ => absurd q_ c7⟩
              exact r_ _ _ hq_)) (fun b0_ b1_ g_ r_ => hp _ _ g_ (fun K106_ post_ hq_ => by
              refine ⟨fun q_ => absurd q_ c1, fun _ => ?_⟩
              refine r4 _ ?_
              refine ⟨fun _ => ?_, fun q_ => absurd q_ c7⟩
              exact r_ _ _ hq_))
    · refine d_wp_X9_uses h8 (fun w11 w12 h9 r10 => ?_)
      refine el_n h9 (fun c13 h14 => ?_) (fun c13 h14 => ?_)
      · exact d_wj_X9_isTemplate_185 h14 (fun b0_ b1_ b2_ b3_ g_ r_ => hK106 _ _ _ _ g_ (fun K106_ post_ hq_ => by
                refine ⟨fun q_ => absurd q_ c1, fun _ => ?_⟩
                refine r4 _ ?_
                refine ⟨fun q_ => absurd c7 q_, fun _ => ?_⟩
                refine r10 _ ?_
                refine ⟨fun _ => ?_, fun q_ => absurd q_ c13⟩
                exact r_ _ _ hq_)) (fun b0_ b1_ g_ r_ => hp _ _ g_ (fun K106_ post_ hq_ => by
                refine ⟨fun q_ => absurd q_ c1, fun _ => ?_⟩
                refine r4 _ ?_
                refine ⟨fun q_ => absurd c7 q_, fun _ => ?_⟩
                refine r10 _ ?_
                refine ⟨fun _ => ?_, fun q_ => absurd q_ c13⟩
                exact r_ _ _ hq_))
      · exact hp _ _ h14 (fun K106_ post_ hq_ => by
                refine ⟨fun q_ => absurd q_ c1, fun _ => ?_⟩
                refine r4 _ ?_
                refine ⟨fun q_ => absurd c7 q_, fun _ => ?_⟩
                refine r10 _ ?_
                refine ⟨fun q_ => absurd c13 q_, fun _ => ?_⟩
                exact hq_)
theorem d_wj_X9_isTemplate_136 {K106 : Int32 → Int32 → Int32 → mS → Prop} {post : Int32 → mS → Prop} {x1 : Int32} {x3 : Int32} {x5 : Int32} {u : mS} {goal : Prop} (h : wj_X9_isTemplate_136 K106 post x1 x3 x5 u) (hK106 : ∀ (b0_ : Int32) (b1_ : Int32) (b2_ : Int32) (b3_ : mS), K106 b0_ b1_ b2_ b3_ → (∀ (K106_ : Int32 → Int32 → Int32 → mS → Prop) (post_ : Int32 → mS → Prop), K106_ b0_ b1_ b2_ b3_ → wj_X9_isTemplate_136 K106_ post_ x1 x3 x5 u) → goal) (hp : ∀ (b0_ : Int32) (b1_ : mS), post b0_ b1_ → (∀ (K106_ : Int32 → Int32 → Int32 → mS → Prop) (post_ : Int32 → mS → Prop), post_ b0_ b1_ → wj_X9_isTemplate_136 K106_ post_ x1 x3 x5 u) → goal) : goal := by
  exact d_wj_X9_isTemplate_149 h (fun b0_ b1_ b2_ b3_ g_ r_ => hK106 _ _ _ _ g_ (fun K106_ post_ hq_ => r_ _ _ hq_)) (fun b0_ b1_ g_ r_ => hp _ _ g_ (fun K106_ post_ hq_ => r_ _ _ hq_))
theorem d_wj_X9_isTemplate_106 {K106 : Int32 → Int32 → Int32 → mS → Prop} {post : Int32 → mS → Prop} {x1 : Int32} {x3 : Int32} {x5 : Int32} {u : mS} {goal : Prop} (h : wj_X9_isTemplate_106 K106 post x1 x3 x5 u) (hK106 : ∀ (b0_ : Int32) (b1_ : Int32) (b2_ : Int32) (b3_ : mS), K106 b0_ b1_ b2_ b3_ → (∀ (K106_ : Int32 → Int32 → Int32 → mS → Prop) (post_ : Int32 → mS → Prop), K106_ b0_ b1_ b2_ b3_ → wj_X9_isTemplate_106 K106_ post_ x1 x3 x5 u) → goal) (hp : ∀ (b0_ : Int32) (b1_ : mS), post b0_ b1_ → (∀ (K106_ : Int32 → Int32 → Int32 → mS → Prop) (post_ : Int32 → mS → Prop), post_ b0_ b1_ → wj_X9_isTemplate_106 K106_ post_ x1 x3 x5 u) → goal) : goal := by
  refine el_p h (fun c1 h2 => ?_) (fun c1 h2 => ?_)
  · exact hp _ _ h2 (fun K106_ post_ hq_ => by
            refine ⟨fun _ => ?_, fun q_ => absurd c1 q_⟩
            exact hq_)
  · refine d_wp_X9_kind_4 h2 (fun w5 w6 h3 r4 => ?_)
    refine el_p h3 (fun c7 h8 => ?_) (fun c7 h8 => ?_)
    · exact d_wj_X9_isTemplate_136 h8 (fun b0_ b1_ b2_ b3_ g_ r_ => hK106 _ _ _ _ g_ (fun K106_ post_ hq_ => by
              refine ⟨fun q_ => absurd q_ c1, fun _ => ?_⟩
              refine r4 _ ?_
              refine ⟨fun _ => ?_, fun q_ => absurd c7 q_⟩
              exact r_ _ _ hq_)) (fun b0_ b1_ g_ r_ => hp _ _ g_ (fun K106_ post_ hq_ => by
              refine ⟨fun q_ => absurd q_ c1, fun _ => ?_⟩
              refine r4 _ ?_
              refine ⟨fun _ => ?_, fun q_ => absurd c7 q_⟩
              exact r_ _ _ hq_))
    · refine el_n h8 (fun c9 h10 => ?_) (fun c9 h10 => ?_)
      · refine d_wp_X9_end_4 h10 (fun w13 w14 h11 r12 => ?_)
        exact d_wj_X9_isTemplate_149 h11 (fun b0_ b1_ b2_ b3_ g_ r_ => hK106 _ _ _ _ g_ (fun K106_ post_ hq_ => by
                refine ⟨fun q_ => absurd q_ c1, fun _ => ?_⟩
                refine r4 _ ?_
                refine ⟨fun q_ => absurd q_ c7, fun _ => ?_⟩
                refine ⟨fun _ => ?_, fun q_ => absurd q_ c9⟩
                refine r12 _ ?_
                exact r_ _ _ hq_)) (fun b0_ b1_ g_ r_ => hp _ _ g_ (fun K106_ post_ hq_ => by
                refine ⟨fun q_ => absurd q_ c1, fun _ => ?_⟩
                refine r4 _ ?_
                refine ⟨fun q_ => absurd q_ c7, fun _ => ?_⟩
                refine ⟨fun _ => ?_, fun q_ => absurd q_ c9⟩
                refine r12 _ ?_
                exact r_ _ _ hq_))
      · exact d_wj_X9_isTemplate_136 h10 (fun b0_ b1_ b2_ b3_ g_ r_ => hK106 _ _ _ _ g_ (fun K106_ post_ hq_ => by
                refine ⟨fun q_ => absurd q_ c1, fun _ => ?_⟩
                refine r4 _ ?_
                refine ⟨fun q_ => absurd q_ c7, fun _ => ?_⟩
                refine ⟨fun q_ => absurd c9 q_, fun _ => ?_⟩
                exact r_ _ _ hq_)) (fun b0_ b1_ g_ r_ => hp _ _ g_ (fun K106_ post_ hq_ => by
                refine ⟨fun q_ => absurd q_ c1, fun _ => ?_⟩
                refine r4 _ ?_
                refine ⟨fun q_ => absurd q_ c7, fun _ => ?_⟩
                refine ⟨fun q_ => absurd c9 q_, fun _ => ?_⟩
                exact r_ _ _ hq_))
theorem dl_wj_X9_isTemplate_106 {post : Int32 → mS → Prop} {goal : Prop} : ∀ (n_ : Nat) (x1 : Int32) (x3 : Int32) (x5 : Int32) (u : mS), mL4 (fun K_ => wj_X9_isTemplate_106 K_ post) n_ x1 x3 x5 u → (∀ (b0_ : Int32) (b1_ : mS), post b0_ b1_ → (∀ (post_ : Int32 → mS → Prop), post_ b0_ b1_ → ∃ m_, mL4 (fun K_ => wj_X9_isTemplate_106 K_ post_) m_ x1 x3 x5 u) → goal) → goal
  | 0, _, _, _, _, h, _ => h.elim
  | n_ + 1, x1, x3, x5, u, h, hp => d_wj_X9_isTemplate_106 h (fun b0_ b1_ b2_ b3_ g_ r_ => dl_wj_X9_isTemplate_106 n_ b0_ b1_ b2_ b3_ g_ (fun b0_ b1_ g2_ r2_ => hp b0_ b1_ g2_ (fun post_ hq_ => (r2_ post_ hq_).elim (fun m_ hm_ => ⟨m_ + 1, r_ _ _ hm_⟩)))) (fun b0_ b1_ g_ r_ => hp b0_ b1_ g_ (fun post_ hq_ => ⟨1, r_ _ _ hq_⟩))
theorem d_wj_X9_isTemplate_24 {K24 : Int32 → Int32 → Int32 → Int32 → Int32 → mS → Prop} {post : Int32 → mS → Prop} {x1 : Int32} {x2 : Int32} {x3 : Int32} {x4 : Int32} {x5 : Int32} {u : mS} {goal : Prop} (h : wj_X9_isTemplate_24 K24 post x1 x2 x3 x4 x5 u) (hK24 : ∀ (b0_ : Int32) (b1_ : Int32) (b2_ : Int32) (b3_ : Int32) (b4_ : Int32) (b5_ : mS), K24 b0_ b1_ b2_ b3_ b4_ b5_ → (∀ (K24_ : Int32 → Int32 → Int32 → Int32 → Int32 → mS → Prop) (post_ : Int32 → mS → Prop), K24_ b0_ b1_ b2_ b3_ b4_ b5_ → wj_X9_isTemplate_24 K24_ post_ x1 x2 x3 x4 x5 u) → goal) (hp : ∀ (b0_ : Int32) (b1_ : mS), post b0_ b1_ → (∀ (K24_ : Int32 → Int32 → Int32 → Int32 → Int32 → mS → Prop) (post_ : Int32 → mS → Prop), post_ b0_ b1_ → wj_X9_isTemplate_24 K24_ post_ x1 x2 x3 x4 x5 u) → goal) : goal := by
  refine el_p h (fun c1 h2 => ?_) (fun c1 h2 => ?_)
  · obtain ⟨n3, h4⟩ := h2
    exact dl_wj_X9_isTemplate_106 n3 _ _ _ _ h4 (fun b0_ b1_ g_ r_ => hp _ _ g_ (fun K24_ post_ hq_ => by
            refine ⟨fun _ => ?_, fun q_ => absurd c1 q_⟩
            exact r_ _ hq_))
  · refine d_wp_X9_kind_4 h2 (fun w7 w8 h5 r6 => ?_)
    refine el_n h5 (fun c9 h10 => ?_) (fun c9 h10 => ?_)
    · exact d_wj_X9_isTemplate_66 h10 (fun b0_ b1_ b2_ b3_ b4_ b5_ g_ r_ => hK24 _ _ _ _ _ _ g_ (fun K24_ post_ hq_ => by
              refine ⟨fun q_ => absurd q_ c1, fun _ => ?_⟩
              refine r6 _ ?_
              refine ⟨fun _ => ?_, fun q_ => absurd q_ c9⟩
              exact r_ _ _ hq_)) (fun b0_ b1_ g_ r_ => hp _ _ g_ (fun K24_ post_ hq_ => by
              refine ⟨fun q_ => absurd q_ c1, fun _ => ?_⟩
              refine r6 _ ?_
              refine ⟨fun _ => ?_, fun q_ => absurd q_ c9⟩
              exact r_ _ _ hq_))
    · have v12 := h10.1
      have h11 := h10.2
      have h13 := h11 _ rfl
      have v15 := h13.1
      have h14 := h13.2
      have h16 := h14 _ rfl
      refine d_wp_X9_variable h16 (fun w19 w20 h17 r18 => ?_)
      exact d_wj_X9_isTemplate_66 h17 (fun b0_ b1_ b2_ b3_ b4_ b5_ g_ r_ => hK24 _ _ _ _ _ _ g_ (fun K24_ post_ hq_ => by
              refine ⟨fun q_ => absurd q_ c1, fun _ => ?_⟩
              refine r6 _ ?_
              refine ⟨fun q_ => absurd c9 q_, fun _ => ?_⟩
              refine ⟨v12, ?_⟩
              rintro _ rfl
              refine ⟨v15, ?_⟩
              rintro _ rfl
              refine r18 _ ?_
              exact r_ _ _ hq_)) (fun b0_ b1_ g_ r_ => hp _ _ g_ (fun K24_ post_ hq_ => by
              refine ⟨fun q_ => absurd q_ c1, fun _ => ?_⟩
              refine r6 _ ?_
              refine ⟨fun q_ => absurd c9 q_, fun _ => ?_⟩
              refine ⟨v12, ?_⟩
              rintro _ rfl
              refine ⟨v15, ?_⟩
              rintro _ rfl
              refine r18 _ ?_
              exact r_ _ _ hq_))
theorem dl_wj_X9_isTemplate_24 {post : Int32 → mS → Prop} {goal : Prop} : ∀ (n_ : Nat) (x1 : Int32) (x2 : Int32) (x3 : Int32) (x4 : Int32) (x5 : Int32) (u : mS), mL6 (fun K_ => wj_X9_isTemplate_24 K_ post) n_ x1 x2 x3 x4 x5 u → (∀ (b0_ : Int32) (b1_ : mS), post b0_ b1_ → (∀ (post_ : Int32 → mS → Prop), post_ b0_ b1_ → ∃ m_, mL6 (fun K_ => wj_X9_isTemplate_24 K_ post_) m_ x1 x2 x3 x4 x5 u) → goal) → goal
  | 0, _, _, _, _, _, _, h, _ => h.elim
  | n_ + 1, x1, x2, x3, x4, x5, u, h, hp => d_wj_X9_isTemplate_24 h (fun b0_ b1_ b2_ b3_ b4_ b5_ g_ r_ => dl_wj_X9_isTemplate_24 n_ b0_ b1_ b2_ b3_ b4_ b5_ g_ (fun b0_ b1_ g2_ r2_ => hp b0_ b1_ g2_ (fun post_ hq_ => (r2_ post_ hq_).elim (fun m_ hm_ => ⟨m_ + 1, r_ _ _ hm_⟩)))) (fun b0_ b1_ g_ r_ => hp b0_ b1_ g_ (fun post_ hq_ => ⟨1, r_ _ _ hq_⟩))
theorem d_wp_X9_isTemplate {x1 : Int32} {x2 : Int32} {u : mS} {post : Int32 → mS → Prop} {goal : Prop} (h : wp_X9_isTemplate x1 x2 u post) (hp : ∀ (b0_ : Int32) (b1_ : mS), post b0_ b1_ → (∀ (post_ : Int32 → mS → Prop), post_ b0_ b1_ → wp_X9_isTemplate x1 x2 u post_) → goal) : goal := by
  refine d_wp_X9_end_4 h (fun w3 w4 h1 r2 => ?_)
  refine d_wp_X9_end_4 h1 (fun w7 w8 h5 r6 => ?_)
  have h9 := h5 _ rfl
  obtain ⟨n10, h11⟩ := h9
  exact dl_wj_X9_isTemplate_24 n10 _ _ _ _ _ _ h11 (fun b0_ b1_ g_ r_ => hp _ _ g_ (fun post_ hq_ => by
        refine r2 _ ?_
        refine r6 _ ?_
        rintro _ rfl
        exact r_ _ hq_))
theorem d_wj_X9_areRules_2 {K2 : Int32 → Int32 → mS → Prop} {post : Int32 → mS → Prop} {x2 : Int32} {x3 : Int32} {u : mS} {goal : Prop} (h : wj_X9_areRules_2 K2 post x2 x3 u) (hK2 : ∀ (b0_ : Int32) (b1_ : Int32) (b2_ : mS), K2 b0_ b1_ b2_ → (∀ (K2_ : Int32 → Int32 → mS → Prop) (post_ : Int32 → mS → Prop), K2_ b0_ b1_ b2_ → wj_X9_areRules_2 K2_ post_ x2 x3 u) → goal) (hp : ∀ (b0_ : Int32) (b1_ : mS), post b0_ b1_ → (∀ (K2_ : Int32 → Int32 → mS → Prop) (post_ : Int32 → mS → Prop), post_ b0_ b1_ → wj_X9_areRules_2 K2_ post_ x2 x3 u) → goal) : goal := by
  refine el_p h (fun c1 h2 => ?_) (fun c1 h2 => ?_)
  · exact hp _ _ h2 (fun K2_ post_ hq_ => by
            refine ⟨fun _ => ?_, fun q_ => absurd c1 q_⟩
            exact hq_)
  · refine d_wp_X9_kind_4 h2 (fun w5 w6 h3 r4 => ?_)
    refine el_p h3 (fun c7 h8 => ?_) (fun c7 h8 => ?_)
    · exact hp _ _ h8 (fun K2_ post_ hq_ => by
              refine ⟨fun q_ => absurd q_ c1, fun _ => ?_⟩
              refine r4 _ ?_
              refine ⟨fun _ => ?_, fun q_ => absurd c7 q_⟩
              exact hq_)
    · refine d_wp_X9_isPlain_4 h8 (fun w11 w12 h9 r10 => ?_)
      refine el_p h9 (fun c13 h14 => ?_) (fun c13 h14 => ?_)
      · exact hp _ _ h14 (fun K2_ post_ hq_ => by
                refine ⟨fun q_ => absurd q_ c1, fun _ => ?_⟩
                refine r4 _ ?_
                refine ⟨fun q_ => absurd q_ c7, fun _ => ?_⟩
                refine r10 _ ?_
                refine ⟨fun _ => ?_, fun q_ => absurd c13 q_⟩
                exact hq_)
      · have h15 := h14 _ rfl
        refine d_wp_X9_isPattern h15 (fun w18 w19 h16 r17 => ?_)
        refine el_p h16 (fun c20 h21 => ?_) (fun c20 h21 => ?_)
        · exact hp _ _ h21 (fun K2_ post_ hq_ => by
                  refine ⟨fun q_ => absurd q_ c1, fun _ => ?_⟩
                  refine r4 _ ?_
                  refine ⟨fun q_ => absurd q_ c7, fun _ => ?_⟩
                  refine r10 _ ?_
                  refine ⟨fun q_ => absurd q_ c13, fun _ => ?_⟩
                  rintro _ rfl
                  refine r17 _ ?_
                  refine ⟨fun _ => ?_, fun q_ => absurd c20 q_⟩
                  exact hq_)
        · have h22 := h21 _ rfl
          have h23 := h22 _ rfl
          refine d_wp_X9_end_4 h23 (fun w26 w27 h24 r25 => ?_)
          refine d_wp_X9_isTemplate h24 (fun w30 w31 h28 r29 => ?_)
          refine el_n h28 (fun c32 h33 => ?_) (fun c32 h33 => ?_)
          · refine d_wp_X9_end_4 h33 (fun w36 w37 h34 r35 => ?_)
            exact hK2 _ _ _ h34 (fun K2_ post_ hq_ => by
                    refine ⟨fun q_ => absurd q_ c1, fun _ => ?_⟩
                    refine r4 _ ?_
                    refine ⟨fun q_ => absurd q_ c7, fun _ => ?_⟩
                    refine r10 _ ?_
                    refine ⟨fun q_ => absurd q_ c13, fun _ => ?_⟩
                    rintro _ rfl
                    refine r17 _ ?_
                    refine ⟨fun q_ => absurd q_ c20, fun _ => ?_⟩
                    rintro _ rfl
                    rintro _ rfl
                    refine r25 _ ?_
                    refine r29 _ ?_
                    refine ⟨fun _ => ?_, fun q_ => absurd q_ c32⟩
                    refine r35 _ ?_
                    exact hq_)
          · exact hp _ _ h33 (fun K2_ post_ hq_ => by
                    refine ⟨fun q_ => absurd q_ c1, fun _ => ?_⟩
                    refine r4 _ ?_
                    refine ⟨fun q_ => absurd q_ c7, fun _ => ?_⟩
                    refine r10 _ ?_
                    refine ⟨fun q_ => absurd q_ c13, fun _ => ?_⟩
                    rintro _ rfl
                    refine r17 _ ?_
                    refine ⟨fun q_ => absurd q_ c20, fun _ => ?_⟩
                    rintro _ rfl
                    rintro _ rfl
                    refine r25 _ ?_
                    refine r29 _ ?_
                    refine ⟨fun q_ => absurd c32 q_, fun _ => ?_⟩
                    exact hq_)
theorem dl_wj_X9_areRules_2 {post : Int32 → mS → Prop} {goal : Prop} : ∀ (n_ : Nat) (x2 : Int32) (x3 : Int32) (u : mS), mL3 (fun K_ => wj_X9_areRules_2 K_ post) n_ x2 x3 u → (∀ (b0_ : Int32) (b1_ : mS), post b0_ b1_ → (∀ (post_ : Int32 → mS → Prop), post_ b0_ b1_ → ∃ m_, mL3 (fun K_ => wj_X9_areRules_2 K_ post_) m_ x2 x3 u) → goal) → goal
  | 0, _, _, _, h, _ => h.elim
  | n_ + 1, x2, x3, u, h, hp => d_wj_X9_areRules_2 h (fun b0_ b1_ b2_ g_ r_ => dl_wj_X9_areRules_2 n_ b0_ b1_ b2_ g_ (fun b0_ b1_ g2_ r2_ => hp b0_ b1_ g2_ (fun post_ hq_ => (r2_ post_ hq_).elim (fun m_ hm_ => ⟨m_ + 1, r_ _ _ hm_⟩)))) (fun b0_ b1_ g_ r_ => hp b0_ b1_ g_ (fun post_ hq_ => ⟨1, r_ _ _ hq_⟩))
theorem d_wp_X9_areRules {x1 : Int32} {x2 : Int32} {u : mS} {post : Int32 → mS → Prop} {goal : Prop} (h : wp_X9_areRules x1 x2 u post) (hp : ∀ (b0_ : Int32) (b1_ : mS), post b0_ b1_ → (∀ (post_ : Int32 → mS → Prop), post_ b0_ b1_ → wp_X9_areRules x1 x2 u post_) → goal) : goal := by
  obtain ⟨n1, h2⟩ := h
  exact dl_wj_X9_areRules_2 n1 _ _ _ h2 (fun b0_ b1_ g_ r_ => hp _ _ g_ (fun post_ hq_ => r_ _ hq_))
theorem d_wp_X9_what_2 {x1 : Int32} {u : mS} {post : Int32 → mS → Prop} {goal : Prop} (h : wp_X9_what_2 x1 u post) (hp : ∀ (b0_ : Int32) (b1_ : mS), post b0_ b1_ → (∀ (post_ : Int32 → mS → Prop), post_ b0_ b1_ → wp_X9_what_2 x1 u post_) → goal) : goal := by
  have v2 := h.1
  have h1 := h.2
  have h3 := h1 _ rfl
  have h4 := h3 _ rfl
  exact hp _ _ h4 (fun post_ hq_ => by
        refine ⟨v2, ?_⟩
        rintro _ rfl
        rintro _ rfl
        exact hq_)
theorem d_wp_X9_core {x0 : Int32} {u : mS} {post : Int32 → mS → Prop} {goal : Prop} (h : wp_X9_core x0 u post) (hp : ∀ (b0_ : Int32) (b1_ : mS), post b0_ b1_ → (∀ (post_ : Int32 → mS → Prop), post_ b0_ b1_ → wp_X9_core x0 u post_) → goal) : goal := by
  refine el_n h (fun c1 h2 => ?_) (fun c1 h2 => ?_)
  · refine el_n h2 (fun c3 h4 => ?_) (fun c3 h4 => ?_)
    · refine el_n h4 (fun c5 h6 => ?_) (fun c5 h6 => ?_)
      · refine el_n h6 (fun c7 h8 => ?_) (fun c7 h8 => ?_)
        · exact hp _ _ h8 (fun post_ hq_ => by
                  refine ⟨fun _ => ?_, fun q_ => absurd q_ c1⟩
                  refine ⟨fun _ => ?_, fun q_ => absurd q_ c3⟩
                  refine ⟨fun _ => ?_, fun q_ => absurd q_ c5⟩
                  refine ⟨fun _ => ?_, fun q_ => absurd q_ c7⟩
                  exact hq_)
        · exact hp _ _ h8 (fun post_ hq_ => by
                  refine ⟨fun _ => ?_, fun q_ => absurd q_ c1⟩
                  refine ⟨fun _ => ?_, fun q_ => absurd q_ c3⟩
                  refine ⟨fun _ => ?_, fun q_ => absurd q_ c5⟩
                  refine ⟨fun q_ => absurd c7 q_, fun _ => ?_⟩
                  exact hq_)
      · exact hp _ _ h6 (fun post_ hq_ => by
                refine ⟨fun _ => ?_, fun q_ => absurd q_ c1⟩
                refine ⟨fun _ => ?_, fun q_ => absurd q_ c3⟩
                refine ⟨fun q_ => absurd c5 q_, fun _ => ?_⟩
                exact hq_)
    · exact hp _ _ h4 (fun post_ hq_ => by
              refine ⟨fun _ => ?_, fun q_ => absurd q_ c1⟩
              refine ⟨fun q_ => absurd c3 q_, fun _ => ?_⟩
              exact hq_)
  · exact hp _ _ h2 (fun post_ hq_ => by
            refine ⟨fun q_ => absurd c1 q_, fun _ => ?_⟩
            exact hq_)
theorem d_wj_X9_rules_64 {post : Int32 → mS → Prop} {u : mS} {goal : Prop} (h : wj_X9_rules_64 post u) (hp : ∀ (b0_ : Int32) (b1_ : mS), post b0_ b1_ → (∀ (post_ : Int32 → mS → Prop), post_ b0_ b1_ → wj_X9_rules_64 post_ u) → goal) : goal := by
  exact hp _ _ h (fun post_ hq_ => hq_)
theorem d_wj_X9_rules_127 {post : Int32 → mS → Prop} {u : mS} {goal : Prop} (h : wj_X9_rules_127 post u) (hp : ∀ (b0_ : Int32) (b1_ : mS), post b0_ b1_ → (∀ (post_ : Int32 → mS → Prop), post_ b0_ b1_ → wj_X9_rules_127 post_ u) → goal) : goal := by
  exact hp _ _ h (fun post_ hq_ => hq_)
theorem d_wj_X9_rules_193 {post : Int32 → mS → Prop} {x3 : Int32} {x4 : Int32} {z0 : Int32} {u : mS} {goal : Prop} (h : wj_X9_rules_193 post x3 x4 z0 u) (hp : ∀ (b0_ : Int32) (b1_ : mS), post b0_ b1_ → (∀ (post_ : Int32 → mS → Prop), post_ b0_ b1_ → wj_X9_rules_193 post_ x3 x4 z0 u) → goal) : goal := by
  have h1 := h _ rfl
  have v3 := h1.1
  have h2 := h1.2
  have h4 := h2 _ rfl
  have h5 := h4 _ rfl
  have h6 := h5 _ rfl
  have h7 := h6 _ rfl
  refine d_wp_X9_keep h7 (fun w10 w11 h8 r9 => ?_)
  have v13 := h8.1
  have h12 := h8.2
  have h14 := h12 _ rfl
  have h15 := h14 _ rfl
  exact hp _ _ h15 (fun post_ hq_ => by
        rintro _ rfl
        refine ⟨v3, ?_⟩
        rintro _ rfl
        rintro _ rfl
        rintro _ rfl
        rintro _ rfl
        refine r9 _ ?_
        refine ⟨v13, ?_⟩
        rintro _ rfl
        rintro _ rfl
        exact hq_)
theorem d_wj_X9_rules_160 {post : Int32 → mS → Prop} {x3 : Int32} {x4 : Int32} {u : mS} {goal : Prop} (h : wj_X9_rules_160 post x3 x4 u) (hp : ∀ (b0_ : Int32) (b1_ : mS), post b0_ b1_ → (∀ (post_ : Int32 → mS → Prop), post_ b0_ b1_ → wj_X9_rules_160 post_ x3 x4 u) → goal) : goal := by
  refine el_n h (fun c1 h2 => ?_) (fun c1 h2 => ?_)
  · have h3 := h2 _ rfl
    refine el_n h3 (fun c4 h5 => ?_) (fun c4 h5 => ?_)
    · have h6 := h5 _ rfl
      exact d_wj_X9_rules_193 h6 (fun b0_ b1_ g_ r_ => hp _ _ g_ (fun post_ hq_ => by
              refine ⟨fun _ => ?_, fun q_ => absurd q_ c1⟩
              rintro _ rfl
              refine ⟨fun _ => ?_, fun q_ => absurd q_ c4⟩
              rintro _ rfl
              exact r_ _ hq_))
    · have h7 := h5 _ rfl
      have h8 := h7 _ rfl
      exact d_wj_X9_rules_193 h8 (fun b0_ b1_ g_ r_ => hp _ _ g_ (fun post_ hq_ => by
              refine ⟨fun _ => ?_, fun q_ => absurd q_ c1⟩
              rintro _ rfl
              refine ⟨fun q_ => absurd c4 q_, fun _ => ?_⟩
              rintro _ rfl
              rintro _ rfl
              exact r_ _ hq_))
  · exact hp _ _ h2 (fun post_ hq_ => by
            refine ⟨fun q_ => absurd c1 q_, fun _ => ?_⟩
            exact hq_)
theorem d_wj_X9_rules_134 {K134 : Int32 → Int32 → mS → Prop} {post : Int32 → mS → Prop} {x3 : Int32} {x4 : Int32} {u : mS} {goal : Prop} (h : wj_X9_rules_134 K134 post x3 x4 u) (hK134 : ∀ (b0_ : Int32) (b1_ : Int32) (b2_ : mS), K134 b0_ b1_ b2_ → (∀ (K134_ : Int32 → Int32 → mS → Prop) (post_ : Int32 → mS → Prop), K134_ b0_ b1_ b2_ → wj_X9_rules_134 K134_ post_ x3 x4 u) → goal) (hp : ∀ (b0_ : Int32) (b1_ : mS), post b0_ b1_ → (∀ (K134_ : Int32 → Int32 → mS → Prop) (post_ : Int32 → mS → Prop), post_ b0_ b1_ → wj_X9_rules_134 K134_ post_ x3 x4 u) → goal) : goal := by
  have h1 := h _ rfl
  refine el_p h1 (fun c2 h3 => ?_) (fun c2 h3 => ?_)
  · exact d_wj_X9_rules_160 h3 (fun b0_ b1_ g_ r_ => hp _ _ g_ (fun K134_ post_ hq_ => by
            rintro _ rfl
            refine ⟨fun _ => ?_, fun q_ => absurd c2 q_⟩
            exact r_ _ hq_))
  · have v5 := h3.1
    have h4 := h3.2
    have h6 := h4 _ rfl
    refine el_p h6 (fun c7 h8 => ?_) (fun c7 h8 => ?_)
    · exact d_wj_X9_rules_160 h8 (fun b0_ b1_ g_ r_ => hp _ _ g_ (fun K134_ post_ hq_ => by
              rintro _ rfl
              refine ⟨fun q_ => absurd q_ c2, fun _ => ?_⟩
              refine ⟨v5, ?_⟩
              rintro _ rfl
              refine ⟨fun _ => ?_, fun q_ => absurd c7 q_⟩
              exact r_ _ hq_))
    · have h9 := h8 _ rfl
      exact hK134 _ _ _ h9 (fun K134_ post_ hq_ => by
              rintro _ rfl
              refine ⟨fun q_ => absurd q_ c2, fun _ => ?_⟩
              refine ⟨v5, ?_⟩
              rintro _ rfl
              refine ⟨fun q_ => absurd q_ c7, fun _ => ?_⟩
              rintro _ rfl
              exact hq_)
theorem dl_wj_X9_rules_134 {post : Int32 → mS → Prop} {goal : Prop} : ∀ (n_ : Nat) (x3 : Int32) (x4 : Int32) (u : mS), mL3 (fun K_ => wj_X9_rules_134 K_ post) n_ x3 x4 u → (∀ (b0_ : Int32) (b1_ : mS), post b0_ b1_ → (∀ (post_ : Int32 → mS → Prop), post_ b0_ b1_ → ∃ m_, mL3 (fun K_ => wj_X9_rules_134 K_ post_) m_ x3 x4 u) → goal) → goal
  | 0, _, _, _, h, _ => h.elim
  | n_ + 1, x3, x4, u, h, hp => d_wj_X9_rules_134 h (fun b0_ b1_ b2_ g_ r_ => dl_wj_X9_rules_134 n_ b0_ b1_ b2_ g_ (fun b0_ b1_ g2_ r2_ => hp b0_ b1_ g2_ (fun post_ hq_ => (r2_ post_ hq_).elim (fun m_ hm_ => ⟨m_ + 1, r_ _ _ hm_⟩)))) (fun b0_ b1_ g_ r_ => hp b0_ b1_ g_ (fun post_ hq_ => ⟨1, r_ _ _ hq_⟩))
theorem d_wp_X9_rules {u : mS} {post : Int32 → mS → Prop} {goal : Prop} (h : wp_X9_rules u post) (hp : ∀ (b0_ : Int32) (b1_ : mS), post b0_ b1_ → (∀ (post_ : Int32 → mS → Prop), post_ b0_ b1_ → wp_X9_rules u post_) → goal) : goal := by
  refine d_wp_X9_read h (fun w3 w4 h1 r2 => ?_)
  have h5 := h1 _ rfl
  refine el_p h5 (fun c6 h7 => ?_) (fun c6 h7 => ?_)
  · have h8 := h7 _ rfl
    refine d_wp_X9_kind_2 h8 (fun w11 w12 h9 r10 => ?_)
    refine el_n h9 (fun c13 h14 => ?_) (fun c13 h14 => ?_)
    · exact d_wj_X9_rules_64 h14 (fun b0_ b1_ g_ r_ => hp _ _ g_ (fun post_ hq_ => by
              refine r2 _ ?_
              rintro _ rfl
              refine ⟨fun _ => ?_, fun q_ => absurd c6 q_⟩
              rintro _ rfl
              refine r10 _ ?_
              refine ⟨fun _ => ?_, fun q_ => absurd q_ c13⟩
              exact r_ _ hq_))
    · have h15 := h14 _ rfl
      have h16 := h15 _ rfl
      refine d_wp_X9_kind_2 h16 (fun w19 w20 h17 r18 => ?_)
      refine el_n h17 (fun c21 h22 => ?_) (fun c21 h22 => ?_)
      · exact d_wj_X9_rules_64 h22 (fun b0_ b1_ g_ r_ => hp _ _ g_ (fun post_ hq_ => by
                refine r2 _ ?_
                rintro _ rfl
                refine ⟨fun _ => ?_, fun q_ => absurd c6 q_⟩
                rintro _ rfl
                refine r10 _ ?_
                refine ⟨fun q_ => absurd c13 q_, fun _ => ?_⟩
                rintro _ rfl
                rintro _ rfl
                refine r18 _ ?_
                refine ⟨fun _ => ?_, fun q_ => absurd q_ c21⟩
                exact r_ _ hq_))
      · have h23 := h22 _ rfl
        refine d_wp_X9_dots_2 h23 (fun w26 w27 h24 r25 => ?_)
        refine el_p h24 (fun c28 h29 => ?_) (fun c28 h29 => ?_)
        · have h30 := h29 _ rfl
          have h31 := h30 _ rfl
          refine d_wp_X9_keep h31 (fun w34 w35 h32 r33 => ?_)
          refine d_wp_X9_areRules h32 (fun w38 w39 h36 r37 => ?_)
          refine el_n h36 (fun c40 h41 => ?_) (fun c40 h41 => ?_)
          · have h42 := h41 _ rfl
            have h43 := h42 _ rfl
            refine d_wp_X9_what_2 h43 (fun w46 w47 h44 r45 => ?_)
            refine d_wp_X9_core h44 (fun w50 w51 h48 r49 => ?_)
            refine el_p h48 (fun c52 h53 => ?_) (fun c52 h53 => ?_)
            · exact d_wj_X9_rules_127 h53 (fun b0_ b1_ g_ r_ => hp _ _ g_ (fun post_ hq_ => by
                      refine r2 _ ?_
                      rintro _ rfl
                      refine ⟨fun _ => ?_, fun q_ => absurd c6 q_⟩
                      rintro _ rfl
                      refine r10 _ ?_
                      refine ⟨fun q_ => absurd c13 q_, fun _ => ?_⟩
                      rintro _ rfl
                      rintro _ rfl
                      refine r18 _ ?_
                      refine ⟨fun q_ => absurd c21 q_, fun _ => ?_⟩
                      rintro _ rfl
                      refine r25 _ ?_
                      refine ⟨fun _ => ?_, fun q_ => absurd c28 q_⟩
                      rintro _ rfl
                      rintro _ rfl
                      refine r33 _ ?_
                      refine r37 _ ?_
                      refine ⟨fun _ => ?_, fun q_ => absurd q_ c40⟩
                      rintro _ rfl
                      rintro _ rfl
                      refine r45 _ ?_
                      refine r49 _ ?_
                      refine ⟨fun _ => ?_, fun q_ => absurd c52 q_⟩
                      exact r_ _ hq_))
            · refine el_p h53 (fun c54 h55 => ?_) (fun c54 h55 => ?_)
              · obtain ⟨n56, h57⟩ := h55
                exact dl_wj_X9_rules_134 n56 _ _ _ h57 (fun b0_ b1_ g_ r_ => hp _ _ g_ (fun post_ hq_ => by
                        refine r2 _ ?_
                        rintro _ rfl
                        refine ⟨fun _ => ?_, fun q_ => absurd c6 q_⟩
                        rintro _ rfl
                        refine r10 _ ?_
                        refine ⟨fun q_ => absurd c13 q_, fun _ => ?_⟩
                        rintro _ rfl
                        rintro _ rfl
                        refine r18 _ ?_
                        refine ⟨fun q_ => absurd c21 q_, fun _ => ?_⟩
                        rintro _ rfl
                        refine r25 _ ?_
                        refine ⟨fun _ => ?_, fun q_ => absurd c28 q_⟩
                        rintro _ rfl
                        rintro _ rfl
                        refine r33 _ ?_
                        refine r37 _ ?_
                        refine ⟨fun _ => ?_, fun q_ => absurd q_ c40⟩
                        rintro _ rfl
                        rintro _ rfl
                        refine r45 _ ?_
                        refine r49 _ ?_
                        refine ⟨fun q_ => absurd q_ c52, fun _ => ?_⟩
                        refine ⟨fun _ => ?_, fun q_ => absurd c54 q_⟩
                        exact r_ _ hq_))
              · exact d_wj_X9_rules_127 h55 (fun b0_ b1_ g_ r_ => hp _ _ g_ (fun post_ hq_ => by
                        refine r2 _ ?_
                        rintro _ rfl
                        refine ⟨fun _ => ?_, fun q_ => absurd c6 q_⟩
                        rintro _ rfl
                        refine r10 _ ?_
                        refine ⟨fun q_ => absurd c13 q_, fun _ => ?_⟩
                        rintro _ rfl
                        rintro _ rfl
                        refine r18 _ ?_
                        refine ⟨fun q_ => absurd c21 q_, fun _ => ?_⟩
                        rintro _ rfl
                        refine r25 _ ?_
                        refine ⟨fun _ => ?_, fun q_ => absurd c28 q_⟩
                        rintro _ rfl
                        rintro _ rfl
                        refine r33 _ ?_
                        refine r37 _ ?_
                        refine ⟨fun _ => ?_, fun q_ => absurd q_ c40⟩
                        rintro _ rfl
                        rintro _ rfl
                        refine r45 _ ?_
                        refine r49 _ ?_
                        refine ⟨fun q_ => absurd q_ c52, fun _ => ?_⟩
                        refine ⟨fun q_ => absurd q_ c54, fun _ => ?_⟩
                        exact r_ _ hq_))
          · exact hp _ _ h41 (fun post_ hq_ => by
                    refine r2 _ ?_
                    rintro _ rfl
                    refine ⟨fun _ => ?_, fun q_ => absurd c6 q_⟩
                    rintro _ rfl
                    refine r10 _ ?_
                    refine ⟨fun q_ => absurd c13 q_, fun _ => ?_⟩
                    rintro _ rfl
                    rintro _ rfl
                    refine r18 _ ?_
                    refine ⟨fun q_ => absurd c21 q_, fun _ => ?_⟩
                    rintro _ rfl
                    refine r25 _ ?_
                    refine ⟨fun _ => ?_, fun q_ => absurd c28 q_⟩
                    rintro _ rfl
                    rintro _ rfl
                    refine r33 _ ?_
                    refine r37 _ ?_
                    refine ⟨fun q_ => absurd c40 q_, fun _ => ?_⟩
                    exact hq_)
        · exact d_wj_X9_rules_64 h29 (fun b0_ b1_ g_ r_ => hp _ _ g_ (fun post_ hq_ => by
                  refine r2 _ ?_
                  rintro _ rfl
                  refine ⟨fun _ => ?_, fun q_ => absurd c6 q_⟩
                  rintro _ rfl
                  refine r10 _ ?_
                  refine ⟨fun q_ => absurd c13 q_, fun _ => ?_⟩
                  rintro _ rfl
                  rintro _ rfl
                  refine r18 _ ?_
                  refine ⟨fun q_ => absurd c21 q_, fun _ => ?_⟩
                  rintro _ rfl
                  refine r25 _ ?_
                  refine ⟨fun q_ => absurd q_ c28, fun _ => ?_⟩
                  exact r_ _ hq_))
  · have h58 := h7 _ rfl
    exact hp _ _ h58 (fun post_ hq_ => by
            refine r2 _ ?_
            rintro _ rfl
            refine ⟨fun q_ => absurd q_ c6, fun _ => ?_⟩
            rintro _ rfl
            exact hq_)
theorem d_wj_X9_fails_16 {post : mS → Prop} {z0 : Int32} {u : mS} {goal : Prop} (h : wj_X9_fails_16 post z0 u) (hp : ∀ (b0_ : mS), post b0_ → (∀ (post_ : mS → Prop), post_ b0_ → wj_X9_fails_16 post_ z0 u) → goal) : goal := by
  have h1 := h _ rfl
  exact hp _ h1 (fun post_ hq_ => by
        rintro _ rfl
        exact hq_)
theorem d_wp_X9_fails {x1 : Int32} {u : mS} {post : mS → Prop} {goal : Prop} (h : wp_X9_fails x1 u post) (hp : ∀ (b0_ : mS), post b0_ → (∀ (post_ : mS → Prop), post_ b0_ → wp_X9_fails x1 u post_) → goal) : goal := by
  have h1 := h _ rfl
  refine el_n h1 (fun c2 h3 => ?_) (fun c2 h3 => ?_)
  · have h4 := h3 _ rfl
    exact d_wj_X9_fails_16 h4 (fun b0_ g_ r_ => hp _ g_ (fun post_ hq_ => by
            rintro _ rfl
            refine ⟨fun _ => ?_, fun q_ => absurd q_ c2⟩
            rintro _ rfl
            exact r_ _ hq_))
  · exact d_wj_X9_fails_16 h3 (fun b0_ g_ r_ => hp _ g_ (fun post_ hq_ => by
            rintro _ rfl
            refine ⟨fun q_ => absurd c2 q_, fun _ => ?_⟩
            exact r_ _ hq_))
theorem d_wp_X9_bind {x1 : Int32} {x2 : Int32} {x3 : Int32} {x4 : Int32} {x5 : Int32} {u : mS} {post : mS → Prop} {goal : Prop} (h : wp_X9_bind x1 x2 x3 x4 x5 u post) (hp : ∀ (b0_ : mS), post b0_ → (∀ (post_ : mS → Prop), post_ b0_ → wp_X9_bind x1 x2 x3 x4 x5 u post_) → goal) : goal := by
  have h1 := h _ rfl
  refine el_n h1 (fun c2 h3 => ?_) (fun c2 h3 => ?_)
  · have h4 := h3 _ rfl
    have v6 := h4.1
    have h5 := h4.2
    have h7 := h5 _ rfl
    have h8 := h7 _ rfl
    have v10 := h8.1
    have h9 := h8.2
    have h11 := h9 _ rfl
    have h12 := h11 _ rfl
    have v14 := h12.1
    have h13 := h12.2
    have h15 := h13 _ rfl
    have h16 := h15 _ rfl
    have v18 := h16.1
    have h17 := h16.2
    have h19 := h17 _ rfl
    have h20 := h19 _ rfl
    have v22 := h20.1
    have h21 := h20.2
    have h23 := h21 _ rfl
    have h24 := h23 _ rfl
    have h25 := h24 _ rfl
    have h26 := h25 _ rfl
    exact hp _ h26 (fun post_ hq_ => by
            rintro _ rfl
            refine ⟨fun _ => ?_, fun q_ => absurd q_ c2⟩
            rintro _ rfl
            refine ⟨v6, ?_⟩
            rintro _ rfl
            rintro _ rfl
            refine ⟨v10, ?_⟩
            rintro _ rfl
            rintro _ rfl
            refine ⟨v14, ?_⟩
            rintro _ rfl
            rintro _ rfl
            refine ⟨v18, ?_⟩
            rintro _ rfl
            rintro _ rfl
            refine ⟨v22, ?_⟩
            rintro _ rfl
            rintro _ rfl
            rintro _ rfl
            rintro _ rfl
            exact hq_)
  · refine d_wp_X9_fails h3 (fun w29 h27 r28 => ?_)
    exact hp _ h27 (fun post_ hq_ => by
            rintro _ rfl
            refine ⟨fun q_ => absurd c2 q_, fun _ => ?_⟩
            refine r28 _ ?_
            exact hq_)
theorem d_wj_X9_beginning_90 {K90 : Int32 → mS → Prop} {post : mS → Prop} {x1 : Int32} {u : mS} {goal : Prop} (h : wj_X9_beginning_90 K90 post x1 u) (hK90 : ∀ (b0_ : Int32) (b1_ : mS), K90 b0_ b1_ → (∀ (K90_ : Int32 → mS → Prop) (post_ : mS → Prop), K90_ b0_ b1_ → wj_X9_beginning_90 K90_ post_ x1 u) → goal) (hp : ∀ (b0_ : mS), post b0_ → (∀ (K90_ : Int32 → mS → Prop) (post_ : mS → Prop), post_ b0_ → wj_X9_beginning_90 K90_ post_ x1 u) → goal) : goal := by
  have h1 := h _ rfl
  refine el_p h1 (fun c2 h3 => ?_) (fun c2 h3 => ?_)
  · have h4 := h3 _ rfl
    have h5 := h4 _ rfl
    exact hp _ h5 (fun K90_ post_ hq_ => by
            rintro _ rfl
            refine ⟨fun _ => ?_, fun q_ => absurd c2 q_⟩
            rintro _ rfl
            rintro _ rfl
            exact hq_)
  · have v7 := h3.1
    have h6 := h3.2
    have h8 := h6 _ rfl
    have h9 := h8 _ rfl
    have v11 := h9.1
    have h10 := h9.2
    have h12 := h10 _ rfl
    refine d_wp_X9_bind h12 (fun w15 h13 r14 => ?_)
    have h16 := h13 _ rfl
    exact hK90 _ _ h16 (fun K90_ post_ hq_ => by
            rintro _ rfl
            refine ⟨fun q_ => absurd q_ c2, fun _ => ?_⟩
            refine ⟨v7, ?_⟩
            rintro _ rfl
            rintro _ rfl
            refine ⟨v11, ?_⟩
            rintro _ rfl
            refine r14 _ ?_
            rintro _ rfl
            exact hq_)
theorem dl_wj_X9_beginning_90 {post : mS → Prop} {goal : Prop} : ∀ (n_ : Nat) (x1 : Int32) (u : mS), mL2 (fun K_ => wj_X9_beginning_90 K_ post) n_ x1 u → (∀ (b0_ : mS), post b0_ → (∀ (post_ : mS → Prop), post_ b0_ → ∃ m_, mL2 (fun K_ => wj_X9_beginning_90 K_ post_) m_ x1 u) → goal) → goal
  | 0, _, _, h, _ => h.elim
  | n_ + 1, x1, u, h, hp => d_wj_X9_beginning_90 h (fun b0_ b1_ g_ r_ => dl_wj_X9_beginning_90 n_ b0_ b1_ g_ (fun b0_ g2_ r2_ => hp b0_ g2_ (fun post_ hq_ => (r2_ post_ hq_).elim (fun m_ hm_ => ⟨m_ + 1, r_ _ _ hm_⟩)))) (fun b0_ g_ r_ => hp b0_ g_ (fun post_ hq_ => ⟨1, r_ _ _ hq_⟩))
theorem d_wp_X9_beginning {u : mS} {post : mS → Prop} {goal : Prop} (h : wp_X9_beginning u post) (hp : ∀ (b0_ : mS), post b0_ → (∀ (post_ : mS → Prop), post_ b0_ → wp_X9_beginning u post_) → goal) : goal := by
  have h1 := h _ rfl
  refine d_wp_X9_bind h1 (fun w4 h2 r3 => ?_)
  refine d_wp_X9_bind h2 (fun w7 h5 r6 => ?_)
  refine d_wp_X9_bind h5 (fun w10 h8 r9 => ?_)
  refine d_wp_X9_bind h8 (fun w13 h11 r12 => ?_)
  refine d_wp_X9_bind h11 (fun w16 h14 r15 => ?_)
  refine d_wp_X9_bind h14 (fun w19 h17 r18 => ?_)
  refine d_wp_X9_bind h17 (fun w22 h20 r21 => ?_)
  refine d_wp_X9_bind h20 (fun w25 h23 r24 => ?_)
  obtain ⟨n26, h27⟩ := h23
  exact dl_wj_X9_beginning_90 n26 _ _ h27 (fun b0_ g_ r_ => hp _ g_ (fun post_ hq_ => by
        rintro _ rfl
        refine r3 _ ?_
        refine r6 _ ?_
        refine r9 _ ?_
        refine r12 _ ?_
        refine r15 _ ?_
        refine r18 _ ?_
        refine r21 _ ?_
        refine r24 _ ?_
        exact r_ _ hq_))
theorem d_wp_X9_put {x1 : Int32} {u : mS} {post : mS → Prop} {goal : Prop} (h : wp_X9_put x1 u post) (hp : ∀ (b0_ : mS), post b0_ → (∀ (post_ : mS → Prop), post_ b0_ → wp_X9_put x1 u post_) → goal) : goal := by
  have h1 := h _ rfl
  refine el_p h1 (fun c2 h3 => ?_) (fun c2 h3 => ?_)
  · have h4 := h3 _ rfl
    refine el_n h4 (fun c5 h6 => ?_) (fun c5 h6 => ?_)
    · have h7 := h6 _ rfl
      have v9 := h7.1
      have h8 := h7.2
      have h10 := h8 _ rfl
      have h11 := h10 _ rfl
      have h12 := h11 _ rfl
      have h13 := h12 _ rfl
      exact hp _ h13 (fun post_ hq_ => by
              rintro _ rfl
              refine ⟨fun _ => ?_, fun q_ => absurd c2 q_⟩
              rintro _ rfl
              refine ⟨fun _ => ?_, fun q_ => absurd q_ c5⟩
              rintro _ rfl
              refine ⟨v9, ?_⟩
              rintro _ rfl
              rintro _ rfl
              rintro _ rfl
              rintro _ rfl
              exact hq_)
    · refine d_wp_X9_fails h6 (fun w16 h14 r15 => ?_)
      exact hp _ h14 (fun post_ hq_ => by
              rintro _ rfl
              refine ⟨fun _ => ?_, fun q_ => absurd c2 q_⟩
              rintro _ rfl
              refine ⟨fun q_ => absurd c5 q_, fun _ => ?_⟩
              refine r15 _ ?_
              exact hq_)
  · exact hp _ h3 (fun post_ hq_ => by
            rintro _ rfl
            refine ⟨fun q_ => absurd q_ c2, fun _ => ?_⟩
            exact hq_)
theorem d_wj_X9_space_13 {post : mS → Prop} {u : mS} {goal : Prop} (h : wj_X9_space_13 post u) (hp : ∀ (b0_ : mS), post b0_ → (∀ (post_ : mS → Prop), post_ b0_ → wj_X9_space_13 post_ u) → goal) : goal := by
  have h1 := h _ rfl
  exact hp _ h1 (fun post_ hq_ => by
        rintro _ rfl
        exact hq_)
theorem d_wp_X9_space {u : mS} {post : mS → Prop} {goal : Prop} (h : wp_X9_space u post) (hp : ∀ (b0_ : mS), post b0_ → (∀ (post_ : mS → Prop), post_ b0_ → wp_X9_space u post_) → goal) : goal := by
  have h1 := h _ rfl
  refine el_p h1 (fun c2 h3 => ?_) (fun c2 h3 => ?_)
  · exact d_wj_X9_space_13 h3 (fun b0_ g_ r_ => hp _ g_ (fun post_ hq_ => by
            rintro _ rfl
            refine ⟨fun _ => ?_, fun q_ => absurd c2 q_⟩
            exact r_ _ hq_))
  · refine d_wp_X9_put h3 (fun w6 h4 r5 => ?_)
    exact d_wj_X9_space_13 h4 (fun b0_ g_ r_ => hp _ g_ (fun post_ hq_ => by
            rintro _ rfl
            refine ⟨fun q_ => absurd q_ c2, fun _ => ?_⟩
            refine r5 _ ?_
            exact r_ _ hq_))
theorem d_wj_X9_putName_54 {post : mS → Prop} {x1 : Int32} {u : mS} {goal : Prop} (h : wj_X9_putName_54 post x1 u) (hp : ∀ (b0_ : mS), post b0_ → (∀ (post_ : mS → Prop), post_ b0_ → wj_X9_putName_54 post_ x1 u) → goal) : goal := by
  have h1 := h _ rfl
  have h2 := h1 _ rfl
  refine d_wp_X9_put h2 (fun w5 h3 r4 => ?_)
  exact hp _ h3 (fun post_ hq_ => by
        rintro _ rfl
        rintro _ rfl
        refine r4 _ ?_
        exact hq_)
theorem d_wj_X9_putName_34 {post : mS → Prop} {x1 : Int32} {u : mS} {goal : Prop} (h : wj_X9_putName_34 post x1 u) (hp : ∀ (b0_ : mS), post b0_ → (∀ (post_ : mS → Prop), post_ b0_ → wj_X9_putName_34 post_ x1 u) → goal) : goal := by
  refine el_p h (fun c1 h2 => ?_) (fun c1 h2 => ?_)
  · exact d_wj_X9_putName_54 h2 (fun b0_ g_ r_ => hp _ g_ (fun post_ hq_ => by
            refine ⟨fun _ => ?_, fun q_ => absurd c1 q_⟩
            exact r_ _ hq_))
  · have h3 := h2 _ rfl
    have h4 := h3 _ rfl
    have h5 := h4 _ rfl
    refine d_wp_X9_put h5 (fun w8 h6 r7 => ?_)
    exact d_wj_X9_putName_54 h6 (fun b0_ g_ r_ => hp _ g_ (fun post_ hq_ => by
            refine ⟨fun q_ => absurd q_ c1, fun _ => ?_⟩
            rintro _ rfl
            rintro _ rfl
            rintro _ rfl
            refine r7 _ ?_
            exact r_ _ hq_))
theorem d_wp_X9_putName {x1 : Int32} {u : mS} {post : mS → Prop} {goal : Prop} (h : wp_X9_putName x1 u post) (hp : ∀ (b0_ : mS), post b0_ → (∀ (post_ : mS → Prop), post_ b0_ → wp_X9_putName x1 u post_) → goal) : goal := by
  refine el_p h (fun c1 h2 => ?_) (fun c1 h2 => ?_)
  · refine el_p h2 (fun c3 h4 => ?_) (fun c3 h4 => ?_)
    · exact d_wj_X9_putName_34 h4 (fun b0_ g_ r_ => hp _ g_ (fun post_ hq_ => by
              refine ⟨fun _ => ?_, fun q_ => absurd c1 q_⟩
              refine ⟨fun _ => ?_, fun q_ => absurd c3 q_⟩
              exact r_ _ hq_))
    · have h5 := h4 _ rfl
      have h6 := h5 _ rfl
      refine d_wp_X9_put h6 (fun w9 h7 r8 => ?_)
      exact d_wj_X9_putName_34 h7 (fun b0_ g_ r_ => hp _ g_ (fun post_ hq_ => by
              refine ⟨fun _ => ?_, fun q_ => absurd c1 q_⟩
              refine ⟨fun q_ => absurd q_ c3, fun _ => ?_⟩
              rintro _ rfl
              rintro _ rfl
              refine r8 _ ?_
              exact r_ _ hq_))
  · have h10 := h2 _ rfl
    refine d_wp_X9_put h10 (fun w13 h11 r12 => ?_)
    exact hp _ h11 (fun post_ hq_ => by
            refine ⟨fun q_ => absurd q_ c1, fun _ => ?_⟩
            rintro _ rfl
            refine r12 _ ?_
            exact hq_)
theorem d_wp_X9_putClose {u : mS} {post : mS → Prop} {goal : Prop} (h : wp_X9_putClose u post) (hp : ∀ (b0_ : mS), post b0_ → (∀ (post_ : mS → Prop), post_ b0_ → wp_X9_putClose u post_) → goal) : goal := by
  refine d_wp_X9_put h (fun w3 h1 r2 => ?_)
  have h4 := h1 _ rfl
  exact hp _ h4 (fun post_ hq_ => by
        refine r2 _ ?_
        rintro _ rfl
        exact hq_)
theorem d_wp_X9_putOpen {u : mS} {post : mS → Prop} {goal : Prop} (h : wp_X9_putOpen u post) (hp : ∀ (b0_ : mS), post b0_ → (∀ (post_ : mS → Prop), post_ b0_ → wp_X9_putOpen u post_) → goal) : goal := by
  refine d_wp_X9_space h (fun w3 h1 r2 => ?_)
  refine d_wp_X9_put h1 (fun w6 h4 r5 => ?_)
  have h7 := h4 _ rfl
  exact hp _ h7 (fun post_ hq_ => by
        refine r2 _ ?_
        refine r5 _ ?_
        rintro _ rfl
        exact hq_)
theorem d_wj_X9_putNumber_17 {post : mS → Prop} {x1 : Int32} {u : mS} {goal : Prop} (h : wj_X9_putNumber_17 post x1 u) (hp : ∀ (b0_ : mS), post b0_ → (∀ (post_ : mS → Prop), post_ b0_ → wj_X9_putNumber_17 post_ x1 u) → goal) : goal := by
  have h1 := h _ rfl
  have h2 := h1 _ rfl
  refine d_wp_X9_put h2 (fun w5 h3 r4 => ?_)
  exact hp _ h3 (fun post_ hq_ => by
        rintro _ rfl
        rintro _ rfl
        refine r4 _ ?_
        exact hq_)
theorem d_wp_X9_putNumber {x1 : Int32} {u : mS} {post : mS → Prop} {goal : Prop} (h : wp_X9_putNumber x1 u post) (hp : ∀ (b0_ : mS), post b0_ → (∀ (post_ : mS → Prop), post_ b0_ → wp_X9_putNumber x1 u post_) → goal) : goal := by
  refine el_p h (fun c1 h2 => ?_) (fun c1 h2 => ?_)
  · exact d_wj_X9_putNumber_17 h2 (fun b0_ g_ r_ => hp _ g_ (fun post_ hq_ => by
            refine ⟨fun _ => ?_, fun q_ => absurd c1 q_⟩
            exact r_ _ hq_))
  · have h3 := h2 _ rfl
    have h4 := h3 _ rfl
    refine d_wp_X9_put h4 (fun w7 h5 r6 => ?_)
    exact d_wj_X9_putNumber_17 h5 (fun b0_ g_ r_ => hp _ g_ (fun post_ hq_ => by
            refine ⟨fun q_ => absurd q_ c1, fun _ => ?_⟩
            rintro _ rfl
            rintro _ rfl
            refine r6 _ ?_
            exact r_ _ hq_))
theorem d_wj_X9_putToken_82 {post : mS → Prop} {x2 : Int32} {u : mS} {goal : Prop} (h : wj_X9_putToken_82 post x2 u) (hp : ∀ (b0_ : mS), post b0_ → (∀ (post_ : mS → Prop), post_ b0_ → wj_X9_putToken_82 post_ x2 u) → goal) : goal := by
  refine el_n h (fun c1 h2 => ?_) (fun c1 h2 => ?_)
  · exact hp _ h2 (fun post_ hq_ => by
            refine ⟨fun _ => ?_, fun q_ => absurd q_ c1⟩
            exact hq_)
  · refine d_wp_X9_put h2 (fun w5 h3 r4 => ?_)
    refine d_wp_X9_put h3 (fun w8 h6 r7 => ?_)
    exact hp _ h6 (fun post_ hq_ => by
            refine ⟨fun q_ => absurd c1 q_, fun _ => ?_⟩
            refine r4 _ ?_
            refine r7 _ ?_
            exact hq_)
theorem d_wj_X9_putToken_71 {post : mS → Prop} {x2 : Int32} {u : mS} {goal : Prop} (h : wj_X9_putToken_71 post x2 u) (hp : ∀ (b0_ : mS), post b0_ → (∀ (post_ : mS → Prop), post_ b0_ → wj_X9_putToken_71 post_ x2 u) → goal) : goal := by
  refine el_n h (fun c1 h2 => ?_) (fun c1 h2 => ?_)
  · exact d_wj_X9_putToken_82 h2 (fun b0_ g_ r_ => hp _ g_ (fun post_ hq_ => by
            refine ⟨fun _ => ?_, fun q_ => absurd q_ c1⟩
            exact r_ _ hq_))
  · refine d_wp_X9_put h2 (fun w5 h3 r4 => ?_)
    exact d_wj_X9_putToken_82 h3 (fun b0_ g_ r_ => hp _ g_ (fun post_ hq_ => by
            refine ⟨fun q_ => absurd c1 q_, fun _ => ?_⟩
            refine r4 _ ?_
            exact r_ _ hq_))
theorem d_wj_X9_putToken_54 {post : mS → Prop} {x1 : Int32} {x2 : Int32} {u : mS} {goal : Prop} (h : wj_X9_putToken_54 post x1 x2 u) (hp : ∀ (b0_ : mS), post b0_ → (∀ (post_ : mS → Prop), post_ b0_ → wj_X9_putToken_54 post_ x1 x2 u) → goal) : goal := by
  refine el_n h (fun c1 h2 => ?_) (fun c1 h2 => ?_)
  · exact d_wj_X9_putToken_71 h2 (fun b0_ g_ r_ => hp _ g_ (fun post_ hq_ => by
            refine ⟨fun _ => ?_, fun q_ => absurd q_ c1⟩
            exact r_ _ hq_))
  · refine d_wp_X9_what_2 h2 (fun w5 w6 h3 r4 => ?_)
    refine d_wp_X9_putNumber h3 (fun w9 h7 r8 => ?_)
    exact d_wj_X9_putToken_71 h7 (fun b0_ g_ r_ => hp _ g_ (fun post_ hq_ => by
            refine ⟨fun q_ => absurd c1 q_, fun _ => ?_⟩
            refine r4 _ ?_
            refine r8 _ ?_
            exact r_ _ hq_))
theorem d_wp_X9_putToken {x1 : Int32} {u : mS} {post : mS → Prop} {goal : Prop} (h : wp_X9_putToken x1 u post) (hp : ∀ (b0_ : mS), post b0_ → (∀ (post_ : mS → Prop), post_ b0_ → wp_X9_putToken x1 u post_) → goal) : goal := by
  refine d_wp_X9_kind_2 h (fun w3 w4 h1 r2 => ?_)
  refine el_n h1 (fun c5 h6 => ?_) (fun c5 h6 => ?_)
  · refine el_n h6 (fun c7 h8 => ?_) (fun c7 h8 => ?_)
    · refine d_wp_X9_space h8 (fun w11 h9 r10 => ?_)
      refine el_n h9 (fun c12 h13 => ?_) (fun c12 h13 => ?_)
      · exact d_wj_X9_putToken_54 h13 (fun b0_ g_ r_ => hp _ g_ (fun post_ hq_ => by
                refine r2 _ ?_
                refine ⟨fun _ => ?_, fun q_ => absurd q_ c5⟩
                refine ⟨fun _ => ?_, fun q_ => absurd q_ c7⟩
                refine r10 _ ?_
                refine ⟨fun _ => ?_, fun q_ => absurd q_ c12⟩
                exact r_ _ hq_))
      · refine d_wp_X9_what_2 h13 (fun w16 w17 h14 r15 => ?_)
        refine d_wp_X9_putName h14 (fun w20 h18 r19 => ?_)
        exact d_wj_X9_putToken_54 h18 (fun b0_ g_ r_ => hp _ g_ (fun post_ hq_ => by
                refine r2 _ ?_
                refine ⟨fun _ => ?_, fun q_ => absurd q_ c5⟩
                refine ⟨fun _ => ?_, fun q_ => absurd q_ c7⟩
                refine r10 _ ?_
                refine ⟨fun q_ => absurd c12 q_, fun _ => ?_⟩
                refine r15 _ ?_
                refine r19 _ ?_
                exact r_ _ hq_))
    · refine d_wp_X9_putClose h8 (fun w23 h21 r22 => ?_)
      exact hp _ h21 (fun post_ hq_ => by
              refine r2 _ ?_
              refine ⟨fun _ => ?_, fun q_ => absurd q_ c5⟩
              refine ⟨fun q_ => absurd c7 q_, fun _ => ?_⟩
              refine r22 _ ?_
              exact hq_)
  · refine d_wp_X9_putOpen h6 (fun w26 h24 r25 => ?_)
    exact hp _ h24 (fun post_ hq_ => by
            refine r2 _ ?_
            refine ⟨fun q_ => absurd c5 q_, fun _ => ?_⟩
            refine r25 _ ?_
            exact hq_)
theorem d_wj_X9_means_124 {K5 : Int32 → Int32 → Int32 → Int32 → mS → Prop} {K48 : Int32 → Int32 → Int32 → Int32 → Int32 → mS → Prop} {post : Int32 → mS → Prop} {x1 : Int32} {x2 : Int32} {x4 : Int32} {x6 : Int32} {z0 : Int32} {u : mS} {goal : Prop} (h : wj_X9_means_124 K5 K48 post x1 x2 x4 x6 z0 u) (hK5 : ∀ (b0_ : Int32) (b1_ : Int32) (b2_ : Int32) (b3_ : Int32) (b4_ : mS), K5 b0_ b1_ b2_ b3_ b4_ → (∀ (K5_ : Int32 → Int32 → Int32 → Int32 → mS → Prop) (K48_ : Int32 → Int32 → Int32 → Int32 → Int32 → mS → Prop) (post_ : Int32 → mS → Prop), K5_ b0_ b1_ b2_ b3_ b4_ → wj_X9_means_124 K5_ K48_ post_ x1 x2 x4 x6 z0 u) → goal) (hK48 : ∀ (b0_ : Int32) (b1_ : Int32) (b2_ : Int32) (b3_ : Int32) (b4_ : Int32) (b5_ : mS), K48 b0_ b1_ b2_ b3_ b4_ b5_ → (∀ (K5_ : Int32 → Int32 → Int32 → Int32 → mS → Prop) (K48_ : Int32 → Int32 → Int32 → Int32 → Int32 → mS → Prop) (post_ : Int32 → mS → Prop), K48_ b0_ b1_ b2_ b3_ b4_ b5_ → wj_X9_means_124 K5_ K48_ post_ x1 x2 x4 x6 z0 u) → goal) (hp : ∀ (b0_ : Int32) (b1_ : mS), post b0_ b1_ → (∀ (K5_ : Int32 → Int32 → Int32 → Int32 → mS → Prop) (K48_ : Int32 → Int32 → Int32 → Int32 → Int32 → mS → Prop) (post_ : Int32 → mS → Prop), post_ b0_ b1_ → wj_X9_means_124 K5_ K48_ post_ x1 x2 x4 x6 z0 u) → goal) : goal := by
  have h1 := h _ rfl
  exact hK48 _ _ _ _ _ _ h1 (fun K5_ K48_ post_ hq_ => by
        rintro _ rfl
        exact hq_)
theorem d_wj_X9_means_119 {K5 : Int32 → Int32 → Int32 → Int32 → mS → Prop} {K48 : Int32 → Int32 → Int32 → Int32 → Int32 → mS → Prop} {post : Int32 → mS → Prop} {x1 : Int32} {x2 : Int32} {x4 : Int32} {x6 : Int32} {u : mS} {goal : Prop} (h : wj_X9_means_119 K5 K48 post x1 x2 x4 x6 u) (hK5 : ∀ (b0_ : Int32) (b1_ : Int32) (b2_ : Int32) (b3_ : Int32) (b4_ : mS), K5 b0_ b1_ b2_ b3_ b4_ → (∀ (K5_ : Int32 → Int32 → Int32 → Int32 → mS → Prop) (K48_ : Int32 → Int32 → Int32 → Int32 → Int32 → mS → Prop) (post_ : Int32 → mS → Prop), K5_ b0_ b1_ b2_ b3_ b4_ → wj_X9_means_119 K5_ K48_ post_ x1 x2 x4 x6 u) → goal) (hK48 : ∀ (b0_ : Int32) (b1_ : Int32) (b2_ : Int32) (b3_ : Int32) (b4_ : Int32) (b5_ : mS), K48 b0_ b1_ b2_ b3_ b4_ b5_ → (∀ (K5_ : Int32 → Int32 → Int32 → Int32 → mS → Prop) (K48_ : Int32 → Int32 → Int32 → Int32 → Int32 → mS → Prop) (post_ : Int32 → mS → Prop), K48_ b0_ b1_ b2_ b3_ b4_ b5_ → wj_X9_means_119 K5_ K48_ post_ x1 x2 x4 x6 u) → goal) (hp : ∀ (b0_ : Int32) (b1_ : mS), post b0_ b1_ → (∀ (K5_ : Int32 → Int32 → Int32 → Int32 → mS → Prop) (K48_ : Int32 → Int32 → Int32 → Int32 → Int32 → mS → Prop) (post_ : Int32 → mS → Prop), post_ b0_ b1_ → wj_X9_means_119 K5_ K48_ post_ x1 x2 x4 x6 u) → goal) : goal := by
  exact d_wj_X9_means_124 h (fun b0_ b1_ b2_ b3_ b4_ g_ r_ => hK5 _ _ _ _ _ g_ (fun K5_ K48_ post_ hq_ => r_ _ _ _ hq_)) (fun b0_ b1_ b2_ b3_ b4_ b5_ g_ r_ => hK48 _ _ _ _ _ _ g_ (fun K5_ K48_ post_ hq_ => r_ _ _ _ hq_)) (fun b0_ b1_ g_ r_ => hp _ _ g_ (fun K5_ K48_ post_ hq_ => r_ _ _ _ hq_))
theorem d_wj_X9_means_123 {K5 : Int32 → Int32 → Int32 → Int32 → mS → Prop} {K48 : Int32 → Int32 → Int32 → Int32 → Int32 → mS → Prop} {post : Int32 → mS → Prop} {x1 : Int32} {x2 : Int32} {x4 : Int32} {x6 : Int32} {u : mS} {goal : Prop} (h : wj_X9_means_123 K5 K48 post x1 x2 x4 x6 u) (hK5 : ∀ (b0_ : Int32) (b1_ : Int32) (b2_ : Int32) (b3_ : Int32) (b4_ : mS), K5 b0_ b1_ b2_ b3_ b4_ → (∀ (K5_ : Int32 → Int32 → Int32 → Int32 → mS → Prop) (K48_ : Int32 → Int32 → Int32 → Int32 → Int32 → mS → Prop) (post_ : Int32 → mS → Prop), K5_ b0_ b1_ b2_ b3_ b4_ → wj_X9_means_123 K5_ K48_ post_ x1 x2 x4 x6 u) → goal) (hK48 : ∀ (b0_ : Int32) (b1_ : Int32) (b2_ : Int32) (b3_ : Int32) (b4_ : Int32) (b5_ : mS), K48 b0_ b1_ b2_ b3_ b4_ b5_ → (∀ (K5_ : Int32 → Int32 → Int32 → Int32 → mS → Prop) (K48_ : Int32 → Int32 → Int32 → Int32 → Int32 → mS → Prop) (post_ : Int32 → mS → Prop), K48_ b0_ b1_ b2_ b3_ b4_ b5_ → wj_X9_means_123 K5_ K48_ post_ x1 x2 x4 x6 u) → goal) (hp : ∀ (b0_ : Int32) (b1_ : mS), post b0_ b1_ → (∀ (K5_ : Int32 → Int32 → Int32 → Int32 → mS → Prop) (K48_ : Int32 → Int32 → Int32 → Int32 → Int32 → mS → Prop) (post_ : Int32 → mS → Prop), post_ b0_ b1_ → wj_X9_means_123 K5_ K48_ post_ x1 x2 x4 x6 u) → goal) : goal := by
  exact d_wj_X9_means_124 h (fun b0_ b1_ b2_ b3_ b4_ g_ r_ => hK5 _ _ _ _ _ g_ (fun K5_ K48_ post_ hq_ => r_ _ _ _ hq_)) (fun b0_ b1_ b2_ b3_ b4_ b5_ g_ r_ => hK48 _ _ _ _ _ _ g_ (fun K5_ K48_ post_ hq_ => r_ _ _ _ hq_)) (fun b0_ b1_ g_ r_ => hp _ _ g_ (fun K5_ K48_ post_ hq_ => r_ _ _ _ hq_))
theorem d_wj_X9_means_87 {K5 : Int32 → Int32 → Int32 → Int32 → mS → Prop} {K48 : Int32 → Int32 → Int32 → Int32 → Int32 → mS → Prop} {post : Int32 → mS → Prop} {x1 : Int32} {x2 : Int32} {x4 : Int32} {x5 : Int32} {x6 : Int32} {z0 : Int32} {u : mS} {goal : Prop} (h : wj_X9_means_87 K5 K48 post x1 x2 x4 x5 x6 z0 u) (hK5 : ∀ (b0_ : Int32) (b1_ : Int32) (b2_ : Int32) (b3_ : Int32) (b4_ : mS), K5 b0_ b1_ b2_ b3_ b4_ → (∀ (K5_ : Int32 → Int32 → Int32 → Int32 → mS → Prop) (K48_ : Int32 → Int32 → Int32 → Int32 → Int32 → mS → Prop) (post_ : Int32 → mS → Prop), K5_ b0_ b1_ b2_ b3_ b4_ → wj_X9_means_87 K5_ K48_ post_ x1 x2 x4 x5 x6 z0 u) → goal) (hK48 : ∀ (b0_ : Int32) (b1_ : Int32) (b2_ : Int32) (b3_ : Int32) (b4_ : Int32) (b5_ : mS), K48 b0_ b1_ b2_ b3_ b4_ b5_ → (∀ (K5_ : Int32 → Int32 → Int32 → Int32 → mS → Prop) (K48_ : Int32 → Int32 → Int32 → Int32 → Int32 → mS → Prop) (post_ : Int32 → mS → Prop), K48_ b0_ b1_ b2_ b3_ b4_ b5_ → wj_X9_means_87 K5_ K48_ post_ x1 x2 x4 x5 x6 z0 u) → goal) (hp : ∀ (b0_ : Int32) (b1_ : mS), post b0_ b1_ → (∀ (K5_ : Int32 → Int32 → Int32 → Int32 → mS → Prop) (K48_ : Int32 → Int32 → Int32 → Int32 → Int32 → mS → Prop) (post_ : Int32 → mS → Prop), post_ b0_ b1_ → wj_X9_means_87 K5_ K48_ post_ x1 x2 x4 x5 x6 z0 u) → goal) : goal := by
  refine el_p h (fun c1 h2 => ?_) (fun c1 h2 => ?_)
  · exact d_wj_X9_means_123 h2 (fun b0_ b1_ b2_ b3_ b4_ g_ r_ => hK5 _ _ _ _ _ g_ (fun K5_ K48_ post_ hq_ => by
            refine ⟨fun _ => ?_, fun q_ => absurd c1 q_⟩
            exact r_ _ _ _ hq_)) (fun b0_ b1_ b2_ b3_ b4_ b5_ g_ r_ => hK48 _ _ _ _ _ _ g_ (fun K5_ K48_ post_ hq_ => by
            refine ⟨fun _ => ?_, fun q_ => absurd c1 q_⟩
            exact r_ _ _ _ hq_)) (fun b0_ b1_ g_ r_ => hp _ _ g_ (fun K5_ K48_ post_ hq_ => by
            refine ⟨fun _ => ?_, fun q_ => absurd c1 q_⟩
            exact r_ _ _ _ hq_))
  · refine el_p h2 (fun c3 h4 => ?_) (fun c3 h4 => ?_)
    · exact d_wj_X9_means_119 h4 (fun b0_ b1_ b2_ b3_ b4_ g_ r_ => hK5 _ _ _ _ _ g_ (fun K5_ K48_ post_ hq_ => by
              refine ⟨fun q_ => absurd q_ c1, fun _ => ?_⟩
              refine ⟨fun _ => ?_, fun q_ => absurd c3 q_⟩
              exact r_ _ _ _ hq_)) (fun b0_ b1_ b2_ b3_ b4_ b5_ g_ r_ => hK48 _ _ _ _ _ _ g_ (fun K5_ K48_ post_ hq_ => by
              refine ⟨fun q_ => absurd q_ c1, fun _ => ?_⟩
              refine ⟨fun _ => ?_, fun q_ => absurd c3 q_⟩
              exact r_ _ _ _ hq_)) (fun b0_ b1_ g_ r_ => hp _ _ g_ (fun K5_ K48_ post_ hq_ => by
              refine ⟨fun q_ => absurd q_ c1, fun _ => ?_⟩
              refine ⟨fun _ => ?_, fun q_ => absurd c3 q_⟩
              exact r_ _ _ _ hq_))
    · have v6 := h4.1
      have h5 := h4.2
      have h7 := h5 _ rfl
      have v9 := h7.1
      have h8 := h7.2
      have h10 := h8 _ rfl
      have h11 := h10 _ rfl
      have h12 := h11 _ rfl
      refine el_n h12 (fun c13 h14 => ?_) (fun c13 h14 => ?_)
      · exact d_wj_X9_means_123 h14 (fun b0_ b1_ b2_ b3_ b4_ g_ r_ => hK5 _ _ _ _ _ g_ (fun K5_ K48_ post_ hq_ => by
                refine ⟨fun q_ => absurd q_ c1, fun _ => ?_⟩
                refine ⟨fun q_ => absurd q_ c3, fun _ => ?_⟩
                refine ⟨v6, ?_⟩
                rintro _ rfl
                refine ⟨v9, ?_⟩
                rintro _ rfl
                rintro _ rfl
                rintro _ rfl
                refine ⟨fun _ => ?_, fun q_ => absurd q_ c13⟩
                exact r_ _ _ _ hq_)) (fun b0_ b1_ b2_ b3_ b4_ b5_ g_ r_ => hK48 _ _ _ _ _ _ g_ (fun K5_ K48_ post_ hq_ => by
                refine ⟨fun q_ => absurd q_ c1, fun _ => ?_⟩
                refine ⟨fun q_ => absurd q_ c3, fun _ => ?_⟩
                refine ⟨v6, ?_⟩
                rintro _ rfl
                refine ⟨v9, ?_⟩
                rintro _ rfl
                rintro _ rfl
                rintro _ rfl
                refine ⟨fun _ => ?_, fun q_ => absurd q_ c13⟩
                exact r_ _ _ _ hq_)) (fun b0_ b1_ g_ r_ => hp _ _ g_ (fun K5_ K48_ post_ hq_ => by
                refine ⟨fun q_ => absurd q_ c1, fun _ => ?_⟩
                refine ⟨fun q_ => absurd q_ c3, fun _ => ?_⟩
                refine ⟨v6, ?_⟩
                rintro _ rfl
                refine ⟨v9, ?_⟩
                rintro _ rfl
                rintro _ rfl
                rintro _ rfl
                refine ⟨fun _ => ?_, fun q_ => absurd q_ c13⟩
                exact r_ _ _ _ hq_))
      · exact d_wj_X9_means_119 h14 (fun b0_ b1_ b2_ b3_ b4_ g_ r_ => hK5 _ _ _ _ _ g_ (fun K5_ K48_ post_ hq_ => by
                refine ⟨fun q_ => absurd q_ c1, fun _ => ?_⟩
                refine ⟨fun q_ => absurd q_ c3, fun _ => ?_⟩
                refine ⟨v6, ?_⟩
                rintro _ rfl
                refine ⟨v9, ?_⟩
                rintro _ rfl
                rintro _ rfl
                rintro _ rfl
                refine ⟨fun q_ => absurd c13 q_, fun _ => ?_⟩
                exact r_ _ _ _ hq_)) (fun b0_ b1_ b2_ b3_ b4_ b5_ g_ r_ => hK48 _ _ _ _ _ _ g_ (fun K5_ K48_ post_ hq_ => by
                refine ⟨fun q_ => absurd q_ c1, fun _ => ?_⟩
                refine ⟨fun q_ => absurd q_ c3, fun _ => ?_⟩
                refine ⟨v6, ?_⟩
                rintro _ rfl
                refine ⟨v9, ?_⟩
                rintro _ rfl
                rintro _ rfl
                rintro _ rfl
                refine ⟨fun q_ => absurd c13 q_, fun _ => ?_⟩
                exact r_ _ _ _ hq_)) (fun b0_ b1_ g_ r_ => hp _ _ g_ (fun K5_ K48_ post_ hq_ => by
                refine ⟨fun q_ => absurd q_ c1, fun _ => ?_⟩
                refine ⟨fun q_ => absurd q_ c3, fun _ => ?_⟩
                refine ⟨v6, ?_⟩
                rintro _ rfl
                refine ⟨v9, ?_⟩
                rintro _ rfl
                rintro _ rfl
                rintro _ rfl
                refine ⟨fun q_ => absurd c13 q_, fun _ => ?_⟩
                exact r_ _ _ _ hq_))
theorem d_wj_X9_means_86 {K5 : Int32 → Int32 → Int32 → Int32 → mS → Prop} {K48 : Int32 → Int32 → Int32 → Int32 → Int32 → mS → Prop} {post : Int32 → mS → Prop} {x1 : Int32} {x2 : Int32} {x4 : Int32} {x5 : Int32} {x6 : Int32} {u : mS} {goal : Prop} (h : wj_X9_means_86 K5 K48 post x1 x2 x4 x5 x6 u) (hK5 : ∀ (b0_ : Int32) (b1_ : Int32) (b2_ : Int32) (b3_ : Int32) (b4_ : mS), K5 b0_ b1_ b2_ b3_ b4_ → (∀ (K5_ : Int32 → Int32 → Int32 → Int32 → mS → Prop) (K48_ : Int32 → Int32 → Int32 → Int32 → Int32 → mS → Prop) (post_ : Int32 → mS → Prop), K5_ b0_ b1_ b2_ b3_ b4_ → wj_X9_means_86 K5_ K48_ post_ x1 x2 x4 x5 x6 u) → goal) (hK48 : ∀ (b0_ : Int32) (b1_ : Int32) (b2_ : Int32) (b3_ : Int32) (b4_ : Int32) (b5_ : mS), K48 b0_ b1_ b2_ b3_ b4_ b5_ → (∀ (K5_ : Int32 → Int32 → Int32 → Int32 → mS → Prop) (K48_ : Int32 → Int32 → Int32 → Int32 → Int32 → mS → Prop) (post_ : Int32 → mS → Prop), K48_ b0_ b1_ b2_ b3_ b4_ b5_ → wj_X9_means_86 K5_ K48_ post_ x1 x2 x4 x5 x6 u) → goal) (hp : ∀ (b0_ : Int32) (b1_ : mS), post b0_ b1_ → (∀ (K5_ : Int32 → Int32 → Int32 → Int32 → mS → Prop) (K48_ : Int32 → Int32 → Int32 → Int32 → Int32 → mS → Prop) (post_ : Int32 → mS → Prop), post_ b0_ b1_ → wj_X9_means_86 K5_ K48_ post_ x1 x2 x4 x5 x6 u) → goal) : goal := by
  exact d_wj_X9_means_87 h (fun b0_ b1_ b2_ b3_ b4_ g_ r_ => hK5 _ _ _ _ _ g_ (fun K5_ K48_ post_ hq_ => r_ _ _ _ hq_)) (fun b0_ b1_ b2_ b3_ b4_ b5_ g_ r_ => hK48 _ _ _ _ _ _ g_ (fun K5_ K48_ post_ hq_ => r_ _ _ _ hq_)) (fun b0_ b1_ g_ r_ => hp _ _ g_ (fun K5_ K48_ post_ hq_ => r_ _ _ _ hq_))
theorem d_wj_X9_means_143 {K5 : Int32 → Int32 → Int32 → Int32 → mS → Prop} {post : Int32 → mS → Prop} {x1 : Int32} {x2 : Int32} {x3 : Int32} {x4 : Int32} {u : mS} {goal : Prop} (h : wj_X9_means_143 K5 post x1 x2 x3 x4 u) (hK5 : ∀ (b0_ : Int32) (b1_ : Int32) (b2_ : Int32) (b3_ : Int32) (b4_ : mS), K5 b0_ b1_ b2_ b3_ b4_ → (∀ (K5_ : Int32 → Int32 → Int32 → Int32 → mS → Prop) (post_ : Int32 → mS → Prop), K5_ b0_ b1_ b2_ b3_ b4_ → wj_X9_means_143 K5_ post_ x1 x2 x3 x4 u) → goal) (hp : ∀ (b0_ : Int32) (b1_ : mS), post b0_ b1_ → (∀ (K5_ : Int32 → Int32 → Int32 → Int32 → mS → Prop) (post_ : Int32 → mS → Prop), post_ b0_ b1_ → wj_X9_means_143 K5_ post_ x1 x2 x3 x4 u) → goal) : goal := by
  have h1 := h _ rfl
  exact hK5 _ _ _ _ _ h1 (fun K5_ post_ hq_ => by
        rintro _ rfl
        exact hq_)
theorem d_wj_X9_means_48 {K48 : Int32 → Int32 → Int32 → Int32 → Int32 → mS → Prop} {K5 : Int32 → Int32 → Int32 → Int32 → mS → Prop} {post : Int32 → mS → Prop} {x1 : Int32} {x2 : Int32} {x4 : Int32} {x5 : Int32} {x6 : Int32} {u : mS} {goal : Prop} (h : wj_X9_means_48 K48 K5 post x1 x2 x4 x5 x6 u) (hK48 : ∀ (b0_ : Int32) (b1_ : Int32) (b2_ : Int32) (b3_ : Int32) (b4_ : Int32) (b5_ : mS), K48 b0_ b1_ b2_ b3_ b4_ b5_ → (∀ (K48_ : Int32 → Int32 → Int32 → Int32 → Int32 → mS → Prop) (K5_ : Int32 → Int32 → Int32 → Int32 → mS → Prop) (post_ : Int32 → mS → Prop), K48_ b0_ b1_ b2_ b3_ b4_ b5_ → wj_X9_means_48 K48_ K5_ post_ x1 x2 x4 x5 x6 u) → goal) (hK5 : ∀ (b0_ : Int32) (b1_ : Int32) (b2_ : Int32) (b3_ : Int32) (b4_ : mS), K5 b0_ b1_ b2_ b3_ b4_ → (∀ (K48_ : Int32 → Int32 → Int32 → Int32 → Int32 → mS → Prop) (K5_ : Int32 → Int32 → Int32 → Int32 → mS → Prop) (post_ : Int32 → mS → Prop), K5_ b0_ b1_ b2_ b3_ b4_ → wj_X9_means_48 K48_ K5_ post_ x1 x2 x4 x5 x6 u) → goal) (hp : ∀ (b0_ : Int32) (b1_ : mS), post b0_ b1_ → (∀ (K48_ : Int32 → Int32 → Int32 → Int32 → Int32 → mS → Prop) (K5_ : Int32 → Int32 → Int32 → Int32 → mS → Prop) (post_ : Int32 → mS → Prop), post_ b0_ b1_ → wj_X9_means_48 K48_ K5_ post_ x1 x2 x4 x5 x6 u) → goal) : goal := by
  have h1 := h _ rfl
  refine el_p h1 (fun c2 h3 => ?_) (fun c2 h3 => ?_)
  · refine el_p h3 (fun c4 h5 => ?_) (fun c4 h5 => ?_)
    · exact d_wj_X9_means_143 h5 (fun b0_ b1_ b2_ b3_ b4_ g_ r_ => hK5 _ _ _ _ _ g_ (fun K48_ K5_ post_ hq_ => by
              rintro _ rfl
              refine ⟨fun _ => ?_, fun q_ => absurd c2 q_⟩
              refine ⟨fun _ => ?_, fun q_ => absurd c4 q_⟩
              exact r_ _ _ hq_)) (fun b0_ b1_ g_ r_ => hp _ _ g_ (fun K48_ K5_ post_ hq_ => by
              rintro _ rfl
              refine ⟨fun _ => ?_, fun q_ => absurd c2 q_⟩
              refine ⟨fun _ => ?_, fun q_ => absurd c4 q_⟩
              exact r_ _ _ hq_))
    · exact hp _ _ h5 (fun K48_ K5_ post_ hq_ => by
              rintro _ rfl
              refine ⟨fun _ => ?_, fun q_ => absurd c2 q_⟩
              refine ⟨fun q_ => absurd q_ c4, fun _ => ?_⟩
              exact hq_)
  · have v7 := h3.1
    have h6 := h3.2
    have h8 := h6 _ rfl
    refine el_n h8 (fun c9 h10 => ?_) (fun c9 h10 => ?_)
    · exact d_wj_X9_means_86 h10 (fun b0_ b1_ b2_ b3_ b4_ g_ r_ => hK5 _ _ _ _ _ g_ (fun K48_ K5_ post_ hq_ => by
              rintro _ rfl
              refine ⟨fun q_ => absurd q_ c2, fun _ => ?_⟩
              refine ⟨v7, ?_⟩
              rintro _ rfl
              refine ⟨fun _ => ?_, fun q_ => absurd q_ c9⟩
              exact r_ _ _ _ hq_)) (fun b0_ b1_ b2_ b3_ b4_ b5_ g_ r_ => hK48 _ _ _ _ _ _ g_ (fun K48_ K5_ post_ hq_ => by
              rintro _ rfl
              refine ⟨fun q_ => absurd q_ c2, fun _ => ?_⟩
              refine ⟨v7, ?_⟩
              rintro _ rfl
              refine ⟨fun _ => ?_, fun q_ => absurd q_ c9⟩
              exact r_ _ _ _ hq_)) (fun b0_ b1_ g_ r_ => hp _ _ g_ (fun K48_ K5_ post_ hq_ => by
              rintro _ rfl
              refine ⟨fun q_ => absurd q_ c2, fun _ => ?_⟩
              refine ⟨v7, ?_⟩
              rintro _ rfl
              refine ⟨fun _ => ?_, fun q_ => absurd q_ c9⟩
              exact r_ _ _ _ hq_))
    · have v12 := h10.1
      have h11 := h10.2
      have h13 := h11 _ rfl
      have h14 := h13 _ rfl
      have h15 := h14 _ rfl
      refine el_n h15 (fun c16 h17 => ?_) (fun c16 h17 => ?_)
      · exact d_wj_X9_means_86 h17 (fun b0_ b1_ b2_ b3_ b4_ g_ r_ => hK5 _ _ _ _ _ g_ (fun K48_ K5_ post_ hq_ => by
                rintro _ rfl
                refine ⟨fun q_ => absurd q_ c2, fun _ => ?_⟩
                refine ⟨v7, ?_⟩
                rintro _ rfl
                refine ⟨fun q_ => absurd c9 q_, fun _ => ?_⟩
                refine ⟨v12, ?_⟩
                rintro _ rfl
                rintro _ rfl
                rintro _ rfl
                refine ⟨fun _ => ?_, fun q_ => absurd q_ c16⟩
                exact r_ _ _ _ hq_)) (fun b0_ b1_ b2_ b3_ b4_ b5_ g_ r_ => hK48 _ _ _ _ _ _ g_ (fun K48_ K5_ post_ hq_ => by
                rintro _ rfl
                refine ⟨fun q_ => absurd q_ c2, fun _ => ?_⟩
                refine ⟨v7, ?_⟩
                rintro _ rfl
                refine ⟨fun q_ => absurd c9 q_, fun _ => ?_⟩
                refine ⟨v12, ?_⟩
                rintro _ rfl
                rintro _ rfl
                rintro _ rfl
                refine ⟨fun _ => ?_, fun q_ => absurd q_ c16⟩
                exact r_ _ _ _ hq_)) (fun b0_ b1_ g_ r_ => hp _ _ g_ (fun K48_ K5_ post_ hq_ => by
                rintro _ rfl
                refine ⟨fun q_ => absurd q_ c2, fun _ => ?_⟩
                refine ⟨v7, ?_⟩
                rintro _ rfl
                refine ⟨fun q_ => absurd c9 q_, fun _ => ?_⟩
                refine ⟨v12, ?_⟩
                rintro _ rfl
                rintro _ rfl
                rintro _ rfl
                refine ⟨fun _ => ?_, fun q_ => absurd q_ c16⟩
                exact r_ _ _ _ hq_))
      · exact d_wj_X9_means_87 h17 (fun b0_ b1_ b2_ b3_ b4_ g_ r_ => hK5 _ _ _ _ _ g_ (fun K48_ K5_ post_ hq_ => by
                rintro _ rfl
                refine ⟨fun q_ => absurd q_ c2, fun _ => ?_⟩
                refine ⟨v7, ?_⟩
                rintro _ rfl
                refine ⟨fun q_ => absurd c9 q_, fun _ => ?_⟩
                refine ⟨v12, ?_⟩
                rintro _ rfl
                rintro _ rfl
                rintro _ rfl
                refine ⟨fun q_ => absurd c16 q_, fun _ => ?_⟩
                exact r_ _ _ _ hq_)) (fun b0_ b1_ b2_ b3_ b4_ b5_ g_ r_ => hK48 _ _ _ _ _ _ g_ (fun K48_ K5_ post_ hq_ => by
                rintro _ rfl
                refine ⟨fun q_ => absurd q_ c2, fun _ => ?_⟩
                refine ⟨v7, ?_⟩
                rintro _ rfl
                refine ⟨fun q_ => absurd c9 q_, fun _ => ?_⟩
                refine ⟨v12, ?_⟩
                rintro _ rfl
                rintro _ rfl
                rintro _ rfl
                refine ⟨fun q_ => absurd c16 q_, fun _ => ?_⟩
                exact r_ _ _ _ hq_)) (fun b0_ b1_ g_ r_ => hp _ _ g_ (fun K48_ K5_ post_ hq_ => by
                rintro _ rfl
                refine ⟨fun q_ => absurd q_ c2, fun _ => ?_⟩
                refine ⟨v7, ?_⟩
                rintro _ rfl
                refine ⟨fun q_ => absurd c9 q_, fun _ => ?_⟩
                refine ⟨v12, ?_⟩
                rintro _ rfl
                rintro _ rfl
                rintro _ rfl
                refine ⟨fun q_ => absurd c16 q_, fun _ => ?_⟩
                exact r_ _ _ _ hq_))
theorem dl_wj_X9_means_48 {K5 : Int32 → Int32 → Int32 → Int32 → mS → Prop} {post : Int32 → mS → Prop} {goal : Prop} : ∀ (n_ : Nat) (x1 : Int32) (x2 : Int32) (x4 : Int32) (x5 : Int32) (x6 : Int32) (u : mS), mL6 (fun K_ => wj_X9_means_48 K_ K5 post) n_ x1 x2 x4 x5 x6 u → (∀ (b0_ : Int32) (b1_ : Int32) (b2_ : Int32) (b3_ : Int32) (b4_ : mS), K5 b0_ b1_ b2_ b3_ b4_ → (∀ (K5_ : Int32 → Int32 → Int32 → Int32 → mS → Prop) (post_ : Int32 → mS → Prop), K5_ b0_ b1_ b2_ b3_ b4_ → ∃ m_, mL6 (fun K_ => wj_X9_means_48 K_ K5_ post_) m_ x1 x2 x4 x5 x6 u) → goal) → (∀ (b0_ : Int32) (b1_ : mS), post b0_ b1_ → (∀ (K5_ : Int32 → Int32 → Int32 → Int32 → mS → Prop) (post_ : Int32 → mS → Prop), post_ b0_ b1_ → ∃ m_, mL6 (fun K_ => wj_X9_means_48 K_ K5_ post_) m_ x1 x2 x4 x5 x6 u) → goal) → goal
  | 0, _, _, _, _, _, _, h, _, _ => h.elim
  | n_ + 1, x1, x2, x4, x5, x6, u, h, hK5, hp => d_wj_X9_means_48 h (fun b0_ b1_ b2_ b3_ b4_ b5_ g_ r_ => dl_wj_X9_means_48 n_ b0_ b1_ b2_ b3_ b4_ b5_ g_ (fun b0_ b1_ b2_ b3_ b4_ g2_ r2_ => hK5 b0_ b1_ b2_ b3_ b4_ g2_ (fun K5_ post_ hq_ => (r2_ K5_ post_ hq_).elim (fun m_ hm_ => ⟨m_ + 1, r_ _ _ _ hm_⟩))) (fun b0_ b1_ g2_ r2_ => hp b0_ b1_ g2_ (fun K5_ post_ hq_ => (r2_ K5_ post_ hq_).elim (fun m_ hm_ => ⟨m_ + 1, r_ _ _ _ hm_⟩)))) (fun b0_ b1_ b2_ b3_ b4_ g_ r_ => hK5 b0_ b1_ b2_ b3_ b4_ g_ (fun K5_ post_ hq_ => ⟨1, r_ _ _ _ hq_⟩)) (fun b0_ b1_ g_ r_ => hp b0_ b1_ g_ (fun K5_ post_ hq_ => ⟨1, r_ _ _ _ hq_⟩))
theorem d_wj_X9_means_5 {K5 : Int32 → Int32 → Int32 → Int32 → mS → Prop} {post : Int32 → mS → Prop} {x1 : Int32} {x2 : Int32} {x3 : Int32} {x4 : Int32} {u : mS} {goal : Prop} (h : wj_X9_means_5 K5 post x1 x2 x3 x4 u) (hK5 : ∀ (b0_ : Int32) (b1_ : Int32) (b2_ : Int32) (b3_ : Int32) (b4_ : mS), K5 b0_ b1_ b2_ b3_ b4_ → (∀ (K5_ : Int32 → Int32 → Int32 → Int32 → mS → Prop) (post_ : Int32 → mS → Prop), K5_ b0_ b1_ b2_ b3_ b4_ → wj_X9_means_5 K5_ post_ x1 x2 x3 x4 u) → goal) (hp : ∀ (b0_ : Int32) (b1_ : mS), post b0_ b1_ → (∀ (K5_ : Int32 → Int32 → Int32 → Int32 → mS → Prop) (post_ : Int32 → mS → Prop), post_ b0_ b1_ → wj_X9_means_5 K5_ post_ x1 x2 x3 x4 u) → goal) : goal := by
  have h1 := h _ rfl
  refine el_p h1 (fun c2 h3 => ?_) (fun c2 h3 => ?_)
  · exact hp _ _ h3 (fun K5_ post_ hq_ => by
            rintro _ rfl
            refine ⟨fun _ => ?_, fun q_ => absurd c2 q_⟩
            exact hq_)
  · have v5 := h3.1
    have h4 := h3.2
    have h6 := h4 _ rfl
    refine el_n h6 (fun c7 h8 => ?_) (fun c7 h8 => ?_)
    · exact d_wj_X9_means_143 h8 (fun b0_ b1_ b2_ b3_ b4_ g_ r_ => hK5 _ _ _ _ _ g_ (fun K5_ post_ hq_ => by
              rintro _ rfl
              refine ⟨fun q_ => absurd q_ c2, fun _ => ?_⟩
              refine ⟨v5, ?_⟩
              rintro _ rfl
              refine ⟨fun _ => ?_, fun q_ => absurd q_ c7⟩
              exact r_ _ _ hq_)) (fun b0_ b1_ g_ r_ => hp _ _ g_ (fun K5_ post_ hq_ => by
              rintro _ rfl
              refine ⟨fun q_ => absurd q_ c2, fun _ => ?_⟩
              refine ⟨v5, ?_⟩
              rintro _ rfl
              refine ⟨fun _ => ?_, fun q_ => absurd q_ c7⟩
              exact r_ _ _ hq_))
    · have v10 := h8.1
      have h9 := h8.2
      have h11 := h9 _ rfl
      have h12 := h11 _ rfl
      have h13 := h12 _ rfl
      refine el_p h13 (fun c14 h15 => ?_) (fun c14 h15 => ?_)
      · obtain ⟨n16, h17⟩ := h15
        exact dl_wj_X9_means_48 n16 _ _ _ _ _ _ h17 (fun b0_ b1_ b2_ b3_ b4_ g_ r_ => hK5 _ _ _ _ _ g_ (fun K5_ post_ hq_ => by
                rintro _ rfl
                refine ⟨fun q_ => absurd q_ c2, fun _ => ?_⟩
                refine ⟨v5, ?_⟩
                rintro _ rfl
                refine ⟨fun q_ => absurd c7 q_, fun _ => ?_⟩
                refine ⟨v10, ?_⟩
                rintro _ rfl
                rintro _ rfl
                rintro _ rfl
                refine ⟨fun _ => ?_, fun q_ => absurd c14 q_⟩
                exact r_ _ _ hq_)) (fun b0_ b1_ g_ r_ => hp _ _ g_ (fun K5_ post_ hq_ => by
                rintro _ rfl
                refine ⟨fun q_ => absurd q_ c2, fun _ => ?_⟩
                refine ⟨v5, ?_⟩
                rintro _ rfl
                refine ⟨fun q_ => absurd c7 q_, fun _ => ?_⟩
                refine ⟨v10, ?_⟩
                rintro _ rfl
                rintro _ rfl
                rintro _ rfl
                refine ⟨fun _ => ?_, fun q_ => absurd c14 q_⟩
                exact r_ _ _ hq_))
      · exact d_wj_X9_means_143 h15 (fun b0_ b1_ b2_ b3_ b4_ g_ r_ => hK5 _ _ _ _ _ g_ (fun K5_ post_ hq_ => by
                rintro _ rfl
                refine ⟨fun q_ => absurd q_ c2, fun _ => ?_⟩
                refine ⟨v5, ?_⟩
                rintro _ rfl
                refine ⟨fun q_ => absurd c7 q_, fun _ => ?_⟩
                refine ⟨v10, ?_⟩
                rintro _ rfl
                rintro _ rfl
                rintro _ rfl
                refine ⟨fun q_ => absurd q_ c14, fun _ => ?_⟩
                exact r_ _ _ hq_)) (fun b0_ b1_ g_ r_ => hp _ _ g_ (fun K5_ post_ hq_ => by
                rintro _ rfl
                refine ⟨fun q_ => absurd q_ c2, fun _ => ?_⟩
                refine ⟨v5, ?_⟩
                rintro _ rfl
                refine ⟨fun q_ => absurd c7 q_, fun _ => ?_⟩
                refine ⟨v10, ?_⟩
                rintro _ rfl
                rintro _ rfl
                rintro _ rfl
                refine ⟨fun q_ => absurd q_ c14, fun _ => ?_⟩
                exact r_ _ _ hq_))
theorem dl_wj_X9_means_5 {post : Int32 → mS → Prop} {goal : Prop} : ∀ (n_ : Nat) (x1 : Int32) (x2 : Int32) (x3 : Int32) (x4 : Int32) (u : mS), mL5 (fun K_ => wj_X9_means_5 K_ post) n_ x1 x2 x3 x4 u → (∀ (b0_ : Int32) (b1_ : mS), post b0_ b1_ → (∀ (post_ : Int32 → mS → Prop), post_ b0_ b1_ → ∃ m_, mL5 (fun K_ => wj_X9_means_5 K_ post_) m_ x1 x2 x3 x4 u) → goal) → goal
  | 0, _, _, _, _, _, h, _ => h.elim
  | n_ + 1, x1, x2, x3, x4, u, h, hp => d_wj_X9_means_5 h (fun b0_ b1_ b2_ b3_ b4_ g_ r_ => dl_wj_X9_means_5 n_ b0_ b1_ b2_ b3_ b4_ g_ (fun b0_ b1_ g2_ r2_ => hp b0_ b1_ g2_ (fun post_ hq_ => (r2_ post_ hq_).elim (fun m_ hm_ => ⟨m_ + 1, r_ _ _ hm_⟩)))) (fun b0_ b1_ g_ r_ => hp b0_ b1_ g_ (fun post_ hq_ => ⟨1, r_ _ _ hq_⟩))
theorem d_wp_X9_means {x1 : Int32} {x2 : Int32} {u : mS} {post : Int32 → mS → Prop} {goal : Prop} (h : wp_X9_means x1 x2 u post) (hp : ∀ (b0_ : Int32) (b1_ : mS), post b0_ b1_ → (∀ (post_ : Int32 → mS → Prop), post_ b0_ b1_ → wp_X9_means x1 x2 u post_) → goal) : goal := by
  obtain ⟨n1, h2⟩ := h
  exact dl_wj_X9_means_5 n1 _ _ _ _ _ h2 (fun b0_ b1_ g_ r_ => hp _ _ g_ (fun post_ hq_ => r_ _ hq_))
theorem d_wp_X9_putVariable {x1 : Int32} {u : mS} {post : mS → Prop} {goal : Prop} (h : wp_X9_putVariable x1 u post) (hp : ∀ (b0_ : mS), post b0_ → (∀ (post_ : mS → Prop), post_ b0_ → wp_X9_putVariable x1 u post_) → goal) : goal := by
  refine d_wp_X9_space h (fun w3 h1 r2 => ?_)
  refine d_wp_X9_put h1 (fun w6 h4 r5 => ?_)
  refine d_wp_X9_putNumber h4 (fun w9 h7 r8 => ?_)
  exact hp _ h7 (fun post_ hq_ => by
        refine r2 _ ?_
        refine r5 _ ?_
        refine r8 _ ?_
        exact hq_)
theorem d_wj_X9_word_106 {post : mS → Prop} {u : mS} {goal : Prop} (h : wj_X9_word_106 post u) (hp : ∀ (b0_ : mS), post b0_ → (∀ (post_ : mS → Prop), post_ b0_ → wj_X9_word_106 post_ u) → goal) : goal := by
  have h1 := h _ rfl
  have h2 := h1 _ rfl
  have h3 := h2 _ rfl
  exact hp _ h3 (fun post_ hq_ => by
        rintro _ rfl
        rintro _ rfl
        rintro _ rfl
        exact hq_)
theorem d_wj_X9_word_40 {post : mS → Prop} {z0 : Int32} {u : mS} {goal : Prop} (h : wj_X9_word_40 post z0 u) (hp : ∀ (b0_ : mS), post b0_ → (∀ (post_ : mS → Prop), post_ b0_ → wj_X9_word_40 post_ z0 u) → goal) : goal := by
  refine d_wp_X9_fails h (fun w3 h1 r2 => ?_)
  exact d_wj_X9_word_106 h1 (fun b0_ g_ r_ => hp _ g_ (fun post_ hq_ => by
        refine r2 _ ?_
        exact r_ _ hq_))
theorem d_wp_X9_word {u : mS} {post : mS → Prop} {goal : Prop} (h : wp_X9_word u post) (hp : ∀ (b0_ : mS), post b0_ → (∀ (post_ : mS → Prop), post_ b0_ → wp_X9_word u post_) → goal) : goal := by
  have h1 := h _ rfl
  refine d_wp_X9_what_2 h1 (fun w4 w5 h2 r3 => ?_)
  have h6 := h2 _ rfl
  have v8 := h6.1
  have h7 := h6.2
  have h9 := h7 _ rfl
  refine d_wp_X9_means h9 (fun w12 w13 h10 r11 => ?_)
  refine el_p h10 (fun c14 h15 => ?_) (fun c14 h15 => ?_)
  · have v17 := h15.1
    have h16 := h15.2
    have h18 := h16 _ rfl
    refine el_n h18 (fun c19 h20 => ?_) (fun c19 h20 => ?_)
    · have v22 := h20.1
      have h21 := h20.2
      have h23 := h21 _ rfl
      refine el_n h23 (fun c24 h25 => ?_) (fun c24 h25 => ?_)
      · refine d_wp_X9_fails h25 (fun w28 h26 r27 => ?_)
        exact d_wj_X9_word_106 h26 (fun b0_ g_ r_ => hp _ g_ (fun post_ hq_ => by
                rintro _ rfl
                refine r3 _ ?_
                rintro _ rfl
                refine ⟨v8, ?_⟩
                rintro _ rfl
                refine r11 _ ?_
                refine ⟨fun _ => ?_, fun q_ => absurd c14 q_⟩
                refine ⟨v17, ?_⟩
                rintro _ rfl
                refine ⟨fun _ => ?_, fun q_ => absurd q_ c19⟩
                refine ⟨v22, ?_⟩
                rintro _ rfl
                refine ⟨fun _ => ?_, fun q_ => absurd q_ c24⟩
                refine r27 _ ?_
                exact r_ _ hq_))
      · have v30 := h25.1
        have h29 := h25.2
        have h31 := h29 _ rfl
        refine d_wp_X9_putVariable h31 (fun w34 h32 r33 => ?_)
        exact d_wj_X9_word_106 h32 (fun b0_ g_ r_ => hp _ g_ (fun post_ hq_ => by
                rintro _ rfl
                refine r3 _ ?_
                rintro _ rfl
                refine ⟨v8, ?_⟩
                rintro _ rfl
                refine r11 _ ?_
                refine ⟨fun _ => ?_, fun q_ => absurd c14 q_⟩
                refine ⟨v17, ?_⟩
                rintro _ rfl
                refine ⟨fun _ => ?_, fun q_ => absurd q_ c19⟩
                refine ⟨v22, ?_⟩
                rintro _ rfl
                refine ⟨fun q_ => absurd c24 q_, fun _ => ?_⟩
                refine ⟨v30, ?_⟩
                rintro _ rfl
                refine r33 _ ?_
                exact r_ _ hq_))
    · refine d_wp_X9_space h20 (fun w37 h35 r36 => ?_)
      have h38 := h35 _ rfl
      refine d_wp_X9_what_2 h38 (fun w41 w42 h39 r40 => ?_)
      refine d_wp_X9_putName h39 (fun w45 h43 r44 => ?_)
      exact d_wj_X9_word_106 h43 (fun b0_ g_ r_ => hp _ g_ (fun post_ hq_ => by
              rintro _ rfl
              refine r3 _ ?_
              rintro _ rfl
              refine ⟨v8, ?_⟩
              rintro _ rfl
              refine r11 _ ?_
              refine ⟨fun _ => ?_, fun q_ => absurd c14 q_⟩
              refine ⟨v17, ?_⟩
              rintro _ rfl
              refine ⟨fun q_ => absurd c19 q_, fun _ => ?_⟩
              refine r36 _ ?_
              rintro _ rfl
              refine r40 _ ?_
              refine r44 _ ?_
              exact r_ _ hq_))
  · refine el_n h15 (fun c46 h47 => ?_) (fun c46 h47 => ?_)
    · exact d_wj_X9_word_40 h47 (fun b0_ g_ r_ => hp _ g_ (fun post_ hq_ => by
              rintro _ rfl
              refine r3 _ ?_
              rintro _ rfl
              refine ⟨v8, ?_⟩
              rintro _ rfl
              refine r11 _ ?_
              refine ⟨fun q_ => absurd q_ c14, fun _ => ?_⟩
              refine ⟨fun _ => ?_, fun q_ => absurd q_ c46⟩
              exact r_ _ hq_))
    · exact d_wj_X9_word_40 h47 (fun b0_ g_ r_ => hp _ g_ (fun post_ hq_ => by
              rintro _ rfl
              refine r3 _ ?_
              rintro _ rfl
              refine ⟨v8, ?_⟩
              rintro _ rfl
              refine r11 _ ?_
              refine ⟨fun q_ => absurd q_ c14, fun _ => ?_⟩
              refine ⟨fun q_ => absurd c46 q_, fun _ => ?_⟩
              exact r_ _ hq_))
theorem d_wj_X9_count_2_61 {K6 : Int32 → Int32 → mS → Prop} {post : Int32 → mS → Prop} {x2 : Int32} {z0 : Int32} {u : mS} {goal : Prop} (h : wj_X9_count_2_61 K6 post x2 z0 u) (hK6 : ∀ (b0_ : Int32) (b1_ : Int32) (b2_ : mS), K6 b0_ b1_ b2_ → (∀ (K6_ : Int32 → Int32 → mS → Prop) (post_ : Int32 → mS → Prop), K6_ b0_ b1_ b2_ → wj_X9_count_2_61 K6_ post_ x2 z0 u) → goal) (hp : ∀ (b0_ : Int32) (b1_ : mS), post b0_ b1_ → (∀ (K6_ : Int32 → Int32 → mS → Prop) (post_ : Int32 → mS → Prop), post_ b0_ b1_ → wj_X9_count_2_61 K6_ post_ x2 z0 u) → goal) : goal := by
  exact hK6 _ _ _ h (fun K6_ post_ hq_ => hq_)
theorem d_wj_X9_count_2_44 {K6 : Int32 → Int32 → mS → Prop} {post : Int32 → mS → Prop} {x3 : Int32} {x4 : Int32} {z0 : Int32} {u : mS} {goal : Prop} (h : wj_X9_count_2_44 K6 post x3 x4 z0 u) (hK6 : ∀ (b0_ : Int32) (b1_ : Int32) (b2_ : mS), K6 b0_ b1_ b2_ → (∀ (K6_ : Int32 → Int32 → mS → Prop) (post_ : Int32 → mS → Prop), K6_ b0_ b1_ b2_ → wj_X9_count_2_44 K6_ post_ x3 x4 z0 u) → goal) (hp : ∀ (b0_ : Int32) (b1_ : mS), post b0_ b1_ → (∀ (K6_ : Int32 → Int32 → mS → Prop) (post_ : Int32 → mS → Prop), post_ b0_ b1_ → wj_X9_count_2_44 K6_ post_ x3 x4 z0 u) → goal) : goal := by
  refine el_p h (fun c1 h2 => ?_) (fun c1 h2 => ?_)
  · refine d_wp_X9_end_2 h2 (fun w5 w6 h3 r4 => ?_)
    exact d_wj_X9_count_2_61 h3 (fun b0_ b1_ b2_ g_ r_ => hK6 _ _ _ g_ (fun K6_ post_ hq_ => by
            refine ⟨fun _ => ?_, fun q_ => absurd c1 q_⟩
            refine r4 _ ?_
            exact r_ _ _ hq_)) (fun b0_ b1_ g_ r_ => hp _ _ g_ (fun K6_ post_ hq_ => by
            refine ⟨fun _ => ?_, fun q_ => absurd c1 q_⟩
            refine r4 _ ?_
            exact r_ _ _ hq_))
  · have h7 := h2 _ rfl
    exact d_wj_X9_count_2_61 h7 (fun b0_ b1_ b2_ g_ r_ => hK6 _ _ _ g_ (fun K6_ post_ hq_ => by
            refine ⟨fun q_ => absurd q_ c1, fun _ => ?_⟩
            rintro _ rfl
            exact r_ _ _ hq_)) (fun b0_ b1_ g_ r_ => hp _ _ g_ (fun K6_ post_ hq_ => by
            refine ⟨fun q_ => absurd q_ c1, fun _ => ?_⟩
            rintro _ rfl
            exact r_ _ _ hq_))
theorem d_wj_X9_count_2_30 {K6 : Int32 → Int32 → mS → Prop} {post : Int32 → mS → Prop} {x2 : Int32} {x3 : Int32} {z0 : Int32} {u : mS} {goal : Prop} (h : wj_X9_count_2_30 K6 post x2 x3 z0 u) (hK6 : ∀ (b0_ : Int32) (b1_ : Int32) (b2_ : mS), K6 b0_ b1_ b2_ → (∀ (K6_ : Int32 → Int32 → mS → Prop) (post_ : Int32 → mS → Prop), K6_ b0_ b1_ b2_ → wj_X9_count_2_30 K6_ post_ x2 x3 z0 u) → goal) (hp : ∀ (b0_ : Int32) (b1_ : mS), post b0_ b1_ → (∀ (K6_ : Int32 → Int32 → mS → Prop) (post_ : Int32 → mS → Prop), post_ b0_ b1_ → wj_X9_count_2_30 K6_ post_ x2 x3 z0 u) → goal) : goal := by
  refine el_p h (fun c1 h2 => ?_) (fun c1 h2 => ?_)
  · have h3 := h2 _ rfl
    exact d_wj_X9_count_2_44 h3 (fun b0_ b1_ b2_ g_ r_ => hK6 _ _ _ g_ (fun K6_ post_ hq_ => by
            refine ⟨fun _ => ?_, fun q_ => absurd c1 q_⟩
            rintro _ rfl
            exact r_ _ _ hq_)) (fun b0_ b1_ g_ r_ => hp _ _ g_ (fun K6_ post_ hq_ => by
            refine ⟨fun _ => ?_, fun q_ => absurd c1 q_⟩
            rintro _ rfl
            exact r_ _ _ hq_))
  · exact d_wj_X9_count_2_44 h2 (fun b0_ b1_ b2_ g_ r_ => hK6 _ _ _ g_ (fun K6_ post_ hq_ => by
            refine ⟨fun q_ => absurd q_ c1, fun _ => ?_⟩
            exact r_ _ _ hq_)) (fun b0_ b1_ g_ r_ => hp _ _ g_ (fun K6_ post_ hq_ => by
            refine ⟨fun q_ => absurd q_ c1, fun _ => ?_⟩
            exact r_ _ _ hq_))
theorem d_wj_X9_count_2_6 {K6 : Int32 → Int32 → mS → Prop} {post : Int32 → mS → Prop} {x2 : Int32} {x3 : Int32} {u : mS} {goal : Prop} (h : wj_X9_count_2_6 K6 post x2 x3 u) (hK6 : ∀ (b0_ : Int32) (b1_ : Int32) (b2_ : mS), K6 b0_ b1_ b2_ → (∀ (K6_ : Int32 → Int32 → mS → Prop) (post_ : Int32 → mS → Prop), K6_ b0_ b1_ b2_ → wj_X9_count_2_6 K6_ post_ x2 x3 u) → goal) (hp : ∀ (b0_ : Int32) (b1_ : mS), post b0_ b1_ → (∀ (K6_ : Int32 → Int32 → mS → Prop) (post_ : Int32 → mS → Prop), post_ b0_ b1_ → wj_X9_count_2_6 K6_ post_ x2 x3 u) → goal) : goal := by
  refine d_wp_X9_kind_2 h (fun w3 w4 h1 r2 => ?_)
  refine el_p h1 (fun c5 h6 => ?_) (fun c5 h6 => ?_)
  · exact hp _ _ h6 (fun K6_ post_ hq_ => by
            refine r2 _ ?_
            refine ⟨fun _ => ?_, fun q_ => absurd c5 q_⟩
            exact hq_)
  · refine d_wp_X9_kind_2 h6 (fun w9 w10 h7 r8 => ?_)
    refine el_n h7 (fun c11 h12 => ?_) (fun c11 h12 => ?_)
    · exact d_wj_X9_count_2_30 h12 (fun b0_ b1_ b2_ g_ r_ => hK6 _ _ _ g_ (fun K6_ post_ hq_ => by
              refine r2 _ ?_
              refine ⟨fun q_ => absurd q_ c5, fun _ => ?_⟩
              refine r8 _ ?_
              refine ⟨fun _ => ?_, fun q_ => absurd q_ c11⟩
              exact r_ _ _ hq_)) (fun b0_ b1_ g_ r_ => hp _ _ g_ (fun K6_ post_ hq_ => by
              refine r2 _ ?_
              refine ⟨fun q_ => absurd q_ c5, fun _ => ?_⟩
              refine r8 _ ?_
              refine ⟨fun _ => ?_, fun q_ => absurd q_ c11⟩
              exact r_ _ _ hq_))
    · exact d_wj_X9_count_2_30 h12 (fun b0_ b1_ b2_ g_ r_ => hK6 _ _ _ g_ (fun K6_ post_ hq_ => by
              refine r2 _ ?_
              refine ⟨fun q_ => absurd q_ c5, fun _ => ?_⟩
              refine r8 _ ?_
              refine ⟨fun q_ => absurd c11 q_, fun _ => ?_⟩
              exact r_ _ _ hq_)) (fun b0_ b1_ g_ r_ => hp _ _ g_ (fun K6_ post_ hq_ => by
              refine r2 _ ?_
              refine ⟨fun q_ => absurd q_ c5, fun _ => ?_⟩
              refine r8 _ ?_
              refine ⟨fun q_ => absurd c11 q_, fun _ => ?_⟩
              exact r_ _ _ hq_))
theorem dl_wj_X9_count_2_6 {post : Int32 → mS → Prop} {goal : Prop} : ∀ (n_ : Nat) (x2 : Int32) (x3 : Int32) (u : mS), mL3 (fun K_ => wj_X9_count_2_6 K_ post) n_ x2 x3 u → (∀ (b0_ : Int32) (b1_ : mS), post b0_ b1_ → (∀ (post_ : Int32 → mS → Prop), post_ b0_ b1_ → ∃ m_, mL3 (fun K_ => wj_X9_count_2_6 K_ post_) m_ x2 x3 u) → goal) → goal
  | 0, _, _, _, h, _ => h.elim
  | n_ + 1, x2, x3, u, h, hp => d_wj_X9_count_2_6 h (fun b0_ b1_ b2_ g_ r_ => dl_wj_X9_count_2_6 n_ b0_ b1_ b2_ g_ (fun b0_ b1_ g2_ r2_ => hp b0_ b1_ g2_ (fun post_ hq_ => (r2_ post_ hq_).elim (fun m_ hm_ => ⟨m_ + 1, r_ _ _ hm_⟩)))) (fun b0_ b1_ g_ r_ => hp b0_ b1_ g_ (fun post_ hq_ => ⟨1, r_ _ _ hq_⟩))
theorem d_wp_X9_count_2 {x1 : Int32} {u : mS} {post : Int32 → mS → Prop} {goal : Prop} (h : wp_X9_count_2 x1 u post) (hp : ∀ (b0_ : Int32) (b1_ : mS), post b0_ b1_ → (∀ (post_ : Int32 → mS → Prop), post_ b0_ b1_ → wp_X9_count_2 x1 u post_) → goal) : goal := by
  have h1 := h _ rfl
  obtain ⟨n2, h3⟩ := h1
  exact dl_wj_X9_count_2_6 n2 _ _ _ h3 (fun b0_ b1_ g_ r_ => hp _ _ g_ (fun post_ hq_ => by
        rintro _ rfl
        exact r_ _ hq_))
theorem d_wp_X9_isPlain_2 {x1 : Int32} {x2 : Int32} {u : mS} {post : Int32 → mS → Prop} {goal : Prop} (h : wp_X9_isPlain_2 x1 x2 u post) (hp : ∀ (b0_ : Int32) (b1_ : mS), post b0_ b1_ → (∀ (post_ : Int32 → mS → Prop), post_ b0_ b1_ → wp_X9_isPlain_2 x1 x2 u post_) → goal) : goal := by
  refine d_wp_X9_kind_2 h (fun w3 w4 h1 r2 => ?_)
  refine el_n h1 (fun c5 h6 => ?_) (fun c5 h6 => ?_)
  · exact hp _ _ h6 (fun post_ hq_ => by
            refine r2 _ ?_
            refine ⟨fun _ => ?_, fun q_ => absurd q_ c5⟩
            exact hq_)
  · refine d_wp_X9_count_2 h6 (fun w9 w10 h7 r8 => ?_)
    refine el_n h7 (fun c11 h12 => ?_) (fun c11 h12 => ?_)
    · exact hp _ _ h12 (fun post_ hq_ => by
              refine r2 _ ?_
              refine ⟨fun q_ => absurd c5 q_, fun _ => ?_⟩
              refine r8 _ ?_
              refine ⟨fun _ => ?_, fun q_ => absurd q_ c11⟩
              exact hq_)
    · refine d_wp_X9_dots_2 h12 (fun w15 w16 h13 r14 => ?_)
      refine el_n h13 (fun c17 h18 => ?_) (fun c17 h18 => ?_)
      · exact hp _ _ h18 (fun post_ hq_ => by
                refine r2 _ ?_
                refine ⟨fun q_ => absurd c5 q_, fun _ => ?_⟩
                refine r8 _ ?_
                refine ⟨fun q_ => absurd c11 q_, fun _ => ?_⟩
                refine r14 _ ?_
                refine ⟨fun _ => ?_, fun q_ => absurd q_ c17⟩
                exact hq_)
      · exact hp _ _ h18 (fun post_ hq_ => by
                refine r2 _ ?_
                refine ⟨fun q_ => absurd c5 q_, fun _ => ?_⟩
                refine r8 _ ?_
                refine ⟨fun q_ => absurd c11 q_, fun _ => ?_⟩
                refine r14 _ ?_
                refine ⟨fun q_ => absurd c17 q_, fun _ => ?_⟩
                exact hq_)
theorem d_wp_X9_scope {u : mS} {post : Int32 → mS → Prop} {goal : Prop} (h : wp_X9_scope u post) (hp : ∀ (b0_ : Int32) (b1_ : mS), post b0_ b1_ → (∀ (post_ : Int32 → mS → Prop), post_ b0_ b1_ → wp_X9_scope u post_) → goal) : goal := by
  have h1 := h _ rfl
  refine el_n h1 (fun c2 h3 => ?_) (fun c2 h3 => ?_)
  · have h4 := h3 _ rfl
    have h5 := h4 _ rfl
    have h6 := h5 _ rfl
    have h7 := h6 _ rfl
    have h8 := h7 _ rfl
    have h9 := h8 _ rfl
    exact hp _ _ h9 (fun post_ hq_ => by
            rintro _ rfl
            refine ⟨fun _ => ?_, fun q_ => absurd q_ c2⟩
            rintro _ rfl
            rintro _ rfl
            rintro _ rfl
            rintro _ rfl
            rintro _ rfl
            rintro _ rfl
            exact hq_)
  · refine d_wp_X9_fails h3 (fun w12 h10 r11 => ?_)
    exact hp _ _ h10 (fun post_ hq_ => by
            rintro _ rfl
            refine ⟨fun q_ => absurd c2 q_, fun _ => ?_⟩
            refine r11 _ ?_
            exact hq_)
theorem d_wj_X9_give_47 {K3 : Int32 → Int32 → Int32 → mS → Prop} {post : mS → Prop} {x2 : Int32} {x3 : Int32} {x4 : Int32} {z0 : Int32} {z1 : Int32} {u : mS} {goal : Prop} (h : wj_X9_give_47 K3 post x2 x3 x4 z0 z1 u) (hK3 : ∀ (b0_ : Int32) (b1_ : Int32) (b2_ : Int32) (b3_ : mS), K3 b0_ b1_ b2_ b3_ → (∀ (K3_ : Int32 → Int32 → Int32 → mS → Prop) (post_ : mS → Prop), K3_ b0_ b1_ b2_ b3_ → wj_X9_give_47 K3_ post_ x2 x3 x4 z0 z1 u) → goal) (hp : ∀ (b0_ : mS), post b0_ → (∀ (K3_ : Int32 → Int32 → Int32 → mS → Prop) (post_ : mS → Prop), post_ b0_ → wj_X9_give_47 K3_ post_ x2 x3 x4 z0 z1 u) → goal) : goal := by
  have v2 := h.1
  have h1 := h.2
  have h3 := h1 _ rfl
  have h4 := h3 _ rfl
  exact hK3 _ _ _ _ h4 (fun K3_ post_ hq_ => by
        refine ⟨v2, ?_⟩
        rintro _ rfl
        rintro _ rfl
        exact hq_)
theorem d_wj_X9_give_3 {K3 : Int32 → Int32 → Int32 → mS → Prop} {post : mS → Prop} {x2 : Int32} {x3 : Int32} {x4 : Int32} {u : mS} {goal : Prop} (h : wj_X9_give_3 K3 post x2 x3 x4 u) (hK3 : ∀ (b0_ : Int32) (b1_ : Int32) (b2_ : Int32) (b3_ : mS), K3 b0_ b1_ b2_ b3_ → (∀ (K3_ : Int32 → Int32 → Int32 → mS → Prop) (post_ : mS → Prop), K3_ b0_ b1_ b2_ b3_ → wj_X9_give_3 K3_ post_ x2 x3 x4 u) → goal) (hp : ∀ (b0_ : mS), post b0_ → (∀ (K3_ : Int32 → Int32 → Int32 → mS → Prop) (post_ : mS → Prop), post_ b0_ → wj_X9_give_3 K3_ post_ x2 x3 x4 u) → goal) : goal := by
  refine el_p h (fun c1 h2 => ?_) (fun c1 h2 => ?_)
  · exact hp _ h2 (fun K3_ post_ hq_ => by
            refine ⟨fun _ => ?_, fun q_ => absurd c1 q_⟩
            exact hq_)
  · refine d_wp_X9_kind_2 h2 (fun w5 w6 h3 r4 => ?_)
    refine el_n h3 (fun c7 h8 => ?_) (fun c7 h8 => ?_)
    · have v10 := h8.1
      have h9 := h8.2
      have h11 := h9 _ rfl
      exact d_wj_X9_give_47 h11 (fun b0_ b1_ b2_ b3_ g_ r_ => hK3 _ _ _ _ g_ (fun K3_ post_ hq_ => by
              refine ⟨fun q_ => absurd q_ c1, fun _ => ?_⟩
              refine r4 _ ?_
              refine ⟨fun _ => ?_, fun q_ => absurd q_ c7⟩
              refine ⟨v10, ?_⟩
              rintro _ rfl
              exact r_ _ _ hq_)) (fun b0_ g_ r_ => hp _ g_ (fun K3_ post_ hq_ => by
              refine ⟨fun q_ => absurd q_ c1, fun _ => ?_⟩
              refine r4 _ ?_
              refine ⟨fun _ => ?_, fun q_ => absurd q_ c7⟩
              refine ⟨v10, ?_⟩
              rintro _ rfl
              exact r_ _ _ hq_))
    · have v13 := h8.1
      have h12 := h8.2
      have h14 := h12 _ rfl
      have h15 := h14 _ rfl
      exact d_wj_X9_give_47 h15 (fun b0_ b1_ b2_ b3_ g_ r_ => hK3 _ _ _ _ g_ (fun K3_ post_ hq_ => by
              refine ⟨fun q_ => absurd q_ c1, fun _ => ?_⟩
              refine r4 _ ?_
              refine ⟨fun q_ => absurd c7 q_, fun _ => ?_⟩
              refine ⟨v13, ?_⟩
              rintro _ rfl
              rintro _ rfl
              exact r_ _ _ hq_)) (fun b0_ g_ r_ => hp _ g_ (fun K3_ post_ hq_ => by
              refine ⟨fun q_ => absurd q_ c1, fun _ => ?_⟩
              refine r4 _ ?_
              refine ⟨fun q_ => absurd c7 q_, fun _ => ?_⟩
              refine ⟨v13, ?_⟩
              rintro _ rfl
              rintro _ rfl
              exact r_ _ _ hq_))
theorem dl_wj_X9_give_3 {post : mS → Prop} {goal : Prop} : ∀ (n_ : Nat) (x2 : Int32) (x3 : Int32) (x4 : Int32) (u : mS), mL4 (fun K_ => wj_X9_give_3 K_ post) n_ x2 x3 x4 u → (∀ (b0_ : mS), post b0_ → (∀ (post_ : mS → Prop), post_ b0_ → ∃ m_, mL4 (fun K_ => wj_X9_give_3 K_ post_) m_ x2 x3 x4 u) → goal) → goal
  | 0, _, _, _, _, h, _ => h.elim
  | n_ + 1, x2, x3, x4, u, h, hp => d_wj_X9_give_3 h (fun b0_ b1_ b2_ b3_ g_ r_ => dl_wj_X9_give_3 n_ b0_ b1_ b2_ b3_ g_ (fun b0_ g2_ r2_ => hp b0_ g2_ (fun post_ hq_ => (r2_ post_ hq_).elim (fun m_ hm_ => ⟨m_ + 1, r_ _ _ hm_⟩)))) (fun b0_ g_ r_ => hp b0_ g_ (fun post_ hq_ => ⟨1, r_ _ _ hq_⟩))
theorem d_wp_X9_give {x1 : Int32} {x2 : Int32} {x3 : Int32} {u : mS} {post : mS → Prop} {goal : Prop} (h : wp_X9_give x1 x2 x3 u post) (hp : ∀ (b0_ : mS), post b0_ → (∀ (post_ : mS → Prop), post_ b0_ → wp_X9_give x1 x2 x3 u post_) → goal) : goal := by
  obtain ⟨n1, h2⟩ := h
  exact dl_wj_X9_give_3 n1 _ _ _ _ h2 (fun b0_ g_ r_ => hp _ g_ (fun post_ hq_ => r_ _ hq_))
theorem d_wj_X9_local_140 {post : mS → Prop} {u : mS} {goal : Prop} (h : wj_X9_local_140 post u) (hp : ∀ (b0_ : mS), post b0_ → (∀ (post_ : mS → Prop), post_ b0_ → wj_X9_local_140 post_ u) → goal) : goal := by
  refine d_wp_X9_fails h (fun w3 h1 r2 => ?_)
  exact hp _ h1 (fun post_ hq_ => by
        refine r2 _ ?_
        exact hq_)
theorem d_wj_X9_local_123 {post : mS → Prop} {x1 : Int32} {x2 : Int32} {x3 : Int32} {x4 : Int32} {x5 : Int32} {z0 : Int32} {u : mS} {goal : Prop} (h : wj_X9_local_123 post x1 x2 x3 x4 x5 z0 u) (hp : ∀ (b0_ : mS), post b0_ → (∀ (post_ : mS → Prop), post_ b0_ → wj_X9_local_123 post_ x1 x2 x3 x4 x5 z0 u) → goal) : goal := by
  refine el_p h (fun c1 h2 => ?_) (fun c1 h2 => ?_)
  · exact d_wj_X9_local_140 h2 (fun b0_ g_ r_ => hp _ g_ (fun post_ hq_ => by
            refine ⟨fun _ => ?_, fun q_ => absurd c1 q_⟩
            exact r_ _ hq_))
  · refine d_wp_X9_areRules h2 (fun w5 w6 h3 r4 => ?_)
    refine el_n h3 (fun c7 h8 => ?_) (fun c7 h8 => ?_)
    · refine d_wp_X9_scope h8 (fun w11 w12 h9 r10 => ?_)
      have h13 := h9 _ rfl
      refine el_p h13 (fun c14 h15 => ?_) (fun c14 h15 => ?_)
      · have h16 := h15 _ rfl
        have h17 := h16 _ rfl
        refine d_wp_X9_give h17 (fun w20 h18 r19 => ?_)
        refine d_wp_X9_give h18 (fun w23 h21 r22 => ?_)
        have h24 := h21 _ rfl
        refine d_wp_X9_what_2 h24 (fun w27 w28 h25 r26 => ?_)
        have h29 := h25 _ rfl
        have v31 := h29.1
        have h30 := h29.2
        have h32 := h30 _ rfl
        refine d_wp_X9_bind h32 (fun w35 h33 r34 => ?_)
        have h36 := h33 _ rfl
        have h37 := h36 _ rfl
        have v39 := h37.1
        have h38 := h37.2
        have h40 := h38 _ rfl
        have h41 := h40 _ rfl
        have h42 := h41 _ rfl
        have h43 := h42 _ rfl
        have h44 := h43 _ rfl
        exact hp _ h44 (fun post_ hq_ => by
                refine ⟨fun q_ => absurd q_ c1, fun _ => ?_⟩
                refine r4 _ ?_
                refine ⟨fun _ => ?_, fun q_ => absurd q_ c7⟩
                refine r10 _ ?_
                rintro _ rfl
                refine ⟨fun _ => ?_, fun q_ => absurd c14 q_⟩
                rintro _ rfl
                rintro _ rfl
                refine r19 _ ?_
                refine r22 _ ?_
                rintro _ rfl
                refine r26 _ ?_
                rintro _ rfl
                refine ⟨v31, ?_⟩
                rintro _ rfl
                refine r34 _ ?_
                rintro _ rfl
                rintro _ rfl
                refine ⟨v39, ?_⟩
                rintro _ rfl
                rintro _ rfl
                rintro _ rfl
                rintro _ rfl
                rintro _ rfl
                exact hq_)
      · exact hp _ h15 (fun post_ hq_ => by
                refine ⟨fun q_ => absurd q_ c1, fun _ => ?_⟩
                refine r4 _ ?_
                refine ⟨fun _ => ?_, fun q_ => absurd q_ c7⟩
                refine r10 _ ?_
                rintro _ rfl
                refine ⟨fun q_ => absurd q_ c14, fun _ => ?_⟩
                exact hq_)
    · exact d_wj_X9_local_140 h8 (fun b0_ g_ r_ => hp _ g_ (fun post_ hq_ => by
              refine ⟨fun q_ => absurd q_ c1, fun _ => ?_⟩
              refine r4 _ ?_
              refine ⟨fun q_ => absurd c7 q_, fun _ => ?_⟩
              exact r_ _ hq_))
theorem d_wj_X9_local_93 {post : mS → Prop} {x1 : Int32} {x2 : Int32} {x3 : Int32} {z0 : Int32} {u : mS} {goal : Prop} (h : wj_X9_local_93 post x1 x2 x3 z0 u) (hp : ∀ (b0_ : mS), post b0_ → (∀ (post_ : mS → Prop), post_ b0_ → wj_X9_local_93 post_ x1 x2 x3 z0 u) → goal) : goal := by
  have h1 := h _ rfl
  refine el_p h1 (fun c2 h3 => ?_) (fun c2 h3 => ?_)
  · exact d_wj_X9_local_123 h3 (fun b0_ g_ r_ => hp _ g_ (fun post_ hq_ => by
            rintro _ rfl
            refine ⟨fun _ => ?_, fun q_ => absurd c2 q_⟩
            exact r_ _ hq_))
  · have h4 := h3 _ rfl
    have h5 := h4 _ rfl
    refine d_wp_X9_keep h5 (fun w8 w9 h6 r7 => ?_)
    exact d_wj_X9_local_123 h6 (fun b0_ g_ r_ => hp _ g_ (fun post_ hq_ => by
            rintro _ rfl
            refine ⟨fun q_ => absurd q_ c2, fun _ => ?_⟩
            rintro _ rfl
            rintro _ rfl
            refine r7 _ ?_
            exact r_ _ hq_))
theorem d_wj_X9_local_76 {post : mS → Prop} {x1 : Int32} {x2 : Int32} {z0 : Int32} {u : mS} {goal : Prop} (h : wj_X9_local_76 post x1 x2 z0 u) (hp : ∀ (b0_ : mS), post b0_ → (∀ (post_ : mS → Prop), post_ b0_ → wj_X9_local_76 post_ x1 x2 z0 u) → goal) : goal := by
  refine el_p h (fun c1 h2 => ?_) (fun c1 h2 => ?_)
  · exact d_wj_X9_local_93 h2 (fun b0_ g_ r_ => hp _ g_ (fun post_ hq_ => by
            refine ⟨fun _ => ?_, fun q_ => absurd c1 q_⟩
            exact r_ _ hq_))
  · refine d_wp_X9_end_2 h2 (fun w5 w6 h3 r4 => ?_)
    exact d_wj_X9_local_93 h3 (fun b0_ g_ r_ => hp _ g_ (fun post_ hq_ => by
            refine ⟨fun q_ => absurd q_ c1, fun _ => ?_⟩
            refine r4 _ ?_
            exact r_ _ hq_))
theorem d_wj_X9_local_75 {post : mS → Prop} {x1 : Int32} {x2 : Int32} {u : mS} {goal : Prop} (h : wj_X9_local_75 post x1 x2 u) (hp : ∀ (b0_ : mS), post b0_ → (∀ (post_ : mS → Prop), post_ b0_ → wj_X9_local_75 post_ x1 x2 u) → goal) : goal := by
  exact d_wj_X9_local_76 h (fun b0_ g_ r_ => hp _ g_ (fun post_ hq_ => r_ _ hq_))
theorem d_wp_X9_local {u : mS} {post : mS → Prop} {goal : Prop} (h : wp_X9_local u post) (hp : ∀ (b0_ : mS), post b0_ → (∀ (post_ : mS → Prop), post_ b0_ → wp_X9_local u post_) → goal) : goal := by
  have h1 := h _ rfl
  refine d_wp_X9_end_2 h1 (fun w4 w5 h2 r3 => ?_)
  have h6 := h2 _ rfl
  have h7 := h6 _ rfl
  have h8 := h7 _ rfl
  refine d_wp_X9_isPlain_2 h8 (fun w11 w12 h9 r10 => ?_)
  refine el_p h9 (fun c13 h14 => ?_) (fun c13 h14 => ?_)
  · exact d_wj_X9_local_75 h14 (fun b0_ g_ r_ => hp _ g_ (fun post_ hq_ => by
            rintro _ rfl
            refine r3 _ ?_
            rintro _ rfl
            rintro _ rfl
            rintro _ rfl
            refine r10 _ ?_
            refine ⟨fun _ => ?_, fun q_ => absurd c13 q_⟩
            exact r_ _ hq_))
  · refine d_wp_X9_kind_2 h14 (fun w17 w18 h15 r16 => ?_)
    refine el_n h15 (fun c19 h20 => ?_) (fun c19 h20 => ?_)
    · exact d_wj_X9_local_75 h20 (fun b0_ g_ r_ => hp _ g_ (fun post_ hq_ => by
              rintro _ rfl
              refine r3 _ ?_
              rintro _ rfl
              rintro _ rfl
              rintro _ rfl
              refine r10 _ ?_
              refine ⟨fun q_ => absurd q_ c13, fun _ => ?_⟩
              refine r16 _ ?_
              refine ⟨fun _ => ?_, fun q_ => absurd q_ c19⟩
              exact r_ _ hq_))
    · have h21 := h20 _ rfl
      refine d_wp_X9_kind_2 h21 (fun w24 w25 h22 r23 => ?_)
      refine el_n h22 (fun c26 h27 => ?_) (fun c26 h27 => ?_)
      · exact d_wj_X9_local_75 h27 (fun b0_ g_ r_ => hp _ g_ (fun post_ hq_ => by
                rintro _ rfl
                refine r3 _ ?_
                rintro _ rfl
                rintro _ rfl
                rintro _ rfl
                refine r10 _ ?_
                refine ⟨fun q_ => absurd q_ c13, fun _ => ?_⟩
                refine r16 _ ?_
                refine ⟨fun q_ => absurd c19 q_, fun _ => ?_⟩
                rintro _ rfl
                refine r23 _ ?_
                refine ⟨fun _ => ?_, fun q_ => absurd q_ c26⟩
                exact r_ _ hq_))
      · refine d_wp_X9_dots_2 h27 (fun w30 w31 h28 r29 => ?_)
        refine el_n h28 (fun c32 h33 => ?_) (fun c32 h33 => ?_)
        · exact d_wj_X9_local_75 h33 (fun b0_ g_ r_ => hp _ g_ (fun post_ hq_ => by
                  rintro _ rfl
                  refine r3 _ ?_
                  rintro _ rfl
                  rintro _ rfl
                  rintro _ rfl
                  refine r10 _ ?_
                  refine ⟨fun q_ => absurd q_ c13, fun _ => ?_⟩
                  refine r16 _ ?_
                  refine ⟨fun q_ => absurd c19 q_, fun _ => ?_⟩
                  rintro _ rfl
                  refine r23 _ ?_
                  refine ⟨fun q_ => absurd c26 q_, fun _ => ?_⟩
                  refine r29 _ ?_
                  refine ⟨fun _ => ?_, fun q_ => absurd q_ c32⟩
                  exact r_ _ hq_))
        · exact d_wj_X9_local_76 h33 (fun b0_ g_ r_ => hp _ g_ (fun post_ hq_ => by
                  rintro _ rfl
                  refine r3 _ ?_
                  rintro _ rfl
                  rintro _ rfl
                  rintro _ rfl
                  refine r10 _ ?_
                  refine ⟨fun q_ => absurd q_ c13, fun _ => ?_⟩
                  refine r16 _ ?_
                  refine ⟨fun q_ => absurd c19 q_, fun _ => ?_⟩
                  rintro _ rfl
                  refine r23 _ ?_
                  refine ⟨fun q_ => absurd c26 q_, fun _ => ?_⟩
                  refine r29 _ ?_
                  refine ⟨fun q_ => absurd c32 q_, fun _ => ?_⟩
                  exact r_ _ hq_))
theorem d_wj_X9_function_106 {K75 : Int32 → Int32 → Int32 → Int32 → Int32 → mS → Prop} {post : mS → Prop} {x1 : Int32} {x2 : Int32} {x4 : Int32} {x5 : Int32} {z0 : Int32} {u : mS} {goal : Prop} (h : wj_X9_function_106 K75 post x1 x2 x4 x5 z0 u) (hK75 : ∀ (b0_ : Int32) (b1_ : Int32) (b2_ : Int32) (b3_ : Int32) (b4_ : Int32) (b5_ : mS), K75 b0_ b1_ b2_ b3_ b4_ b5_ → (∀ (K75_ : Int32 → Int32 → Int32 → Int32 → Int32 → mS → Prop) (post_ : mS → Prop), K75_ b0_ b1_ b2_ b3_ b4_ b5_ → wj_X9_function_106 K75_ post_ x1 x2 x4 x5 z0 u) → goal) (hp : ∀ (b0_ : mS), post b0_ → (∀ (K75_ : Int32 → Int32 → Int32 → Int32 → Int32 → mS → Prop) (post_ : mS → Prop), post_ b0_ → wj_X9_function_106 K75_ post_ x1 x2 x4 x5 z0 u) → goal) : goal := by
  have h1 := h _ rfl
  exact hK75 _ _ _ _ _ _ h1 (fun K75_ post_ hq_ => by
        rintro _ rfl
        exact hq_)
theorem d_wj_X9_function_105 {K75 : Int32 → Int32 → Int32 → Int32 → Int32 → mS → Prop} {post : mS → Prop} {x1 : Int32} {x2 : Int32} {x4 : Int32} {x5 : Int32} {u : mS} {goal : Prop} (h : wj_X9_function_105 K75 post x1 x2 x4 x5 u) (hK75 : ∀ (b0_ : Int32) (b1_ : Int32) (b2_ : Int32) (b3_ : Int32) (b4_ : Int32) (b5_ : mS), K75 b0_ b1_ b2_ b3_ b4_ b5_ → (∀ (K75_ : Int32 → Int32 → Int32 → Int32 → Int32 → mS → Prop) (post_ : mS → Prop), K75_ b0_ b1_ b2_ b3_ b4_ b5_ → wj_X9_function_105 K75_ post_ x1 x2 x4 x5 u) → goal) (hp : ∀ (b0_ : mS), post b0_ → (∀ (K75_ : Int32 → Int32 → Int32 → Int32 → Int32 → mS → Prop) (post_ : mS → Prop), post_ b0_ → wj_X9_function_105 K75_ post_ x1 x2 x4 x5 u) → goal) : goal := by
  exact d_wj_X9_function_106 h (fun b0_ b1_ b2_ b3_ b4_ b5_ g_ r_ => hK75 _ _ _ _ _ _ g_ (fun K75_ post_ hq_ => r_ _ _ hq_)) (fun b0_ g_ r_ => hp _ g_ (fun K75_ post_ hq_ => r_ _ _ hq_))
theorem d_wj_X9_function_223 {K156 : Int32 → Int32 → Int32 → Int32 → mS → Prop} {K177 : Int32 → Int32 → Int32 → Int32 → Int32 → mS → Prop} {post : mS → Prop} {x2 : Int32} {x4 : Int32} {x6 : Int32} {x7 : Int32} {x8 : Int32} {u : mS} {goal : Prop} (h : wj_X9_function_223 K156 K177 post x2 x4 x6 x7 x8 u) (hK156 : ∀ (b0_ : Int32) (b1_ : Int32) (b2_ : Int32) (b3_ : Int32) (b4_ : mS), K156 b0_ b1_ b2_ b3_ b4_ → (∀ (K156_ : Int32 → Int32 → Int32 → Int32 → mS → Prop) (K177_ : Int32 → Int32 → Int32 → Int32 → Int32 → mS → Prop) (post_ : mS → Prop), K156_ b0_ b1_ b2_ b3_ b4_ → wj_X9_function_223 K156_ K177_ post_ x2 x4 x6 x7 x8 u) → goal) (hK177 : ∀ (b0_ : Int32) (b1_ : Int32) (b2_ : Int32) (b3_ : Int32) (b4_ : Int32) (b5_ : mS), K177 b0_ b1_ b2_ b3_ b4_ b5_ → (∀ (K156_ : Int32 → Int32 → Int32 → Int32 → mS → Prop) (K177_ : Int32 → Int32 → Int32 → Int32 → Int32 → mS → Prop) (post_ : mS → Prop), K177_ b0_ b1_ b2_ b3_ b4_ b5_ → wj_X9_function_223 K156_ K177_ post_ x2 x4 x6 x7 x8 u) → goal) (hp : ∀ (b0_ : mS), post b0_ → (∀ (K156_ : Int32 → Int32 → Int32 → Int32 → mS → Prop) (K177_ : Int32 → Int32 → Int32 → Int32 → Int32 → mS → Prop) (post_ : mS → Prop), post_ b0_ → wj_X9_function_223 K156_ K177_ post_ x2 x4 x6 x7 x8 u) → goal) : goal := by
  have h1 := h _ rfl
  exact hK177 _ _ _ _ _ _ h1 (fun K156_ K177_ post_ hq_ => by
        rintro _ rfl
        exact hq_)
theorem d_wj_X9_function_283 {K156 : Int32 → Int32 → Int32 → Int32 → mS → Prop} {post : mS → Prop} {x2 : Int32} {x4 : Int32} {x6 : Int32} {x7 : Int32} {z0 : Int32} {u : mS} {goal : Prop} (h : wj_X9_function_283 K156 post x2 x4 x6 x7 z0 u) (hK156 : ∀ (b0_ : Int32) (b1_ : Int32) (b2_ : Int32) (b3_ : Int32) (b4_ : mS), K156 b0_ b1_ b2_ b3_ b4_ → (∀ (K156_ : Int32 → Int32 → Int32 → Int32 → mS → Prop) (post_ : mS → Prop), K156_ b0_ b1_ b2_ b3_ b4_ → wj_X9_function_283 K156_ post_ x2 x4 x6 x7 z0 u) → goal) (hp : ∀ (b0_ : mS), post b0_ → (∀ (K156_ : Int32 → Int32 → Int32 → Int32 → mS → Prop) (post_ : mS → Prop), post_ b0_ → wj_X9_function_283 K156_ post_ x2 x4 x6 x7 z0 u) → goal) : goal := by
  have h1 := h _ rfl
  have h2 := h1 _ rfl
  exact hK156 _ _ _ _ _ h2 (fun K156_ post_ hq_ => by
        rintro _ rfl
        rintro _ rfl
        exact hq_)
theorem d_wj_X9_function_262 {K156 : Int32 → Int32 → Int32 → Int32 → mS → Prop} {post : mS → Prop} {x2 : Int32} {x4 : Int32} {x6 : Int32} {x7 : Int32} {u : mS} {goal : Prop} (h : wj_X9_function_262 K156 post x2 x4 x6 x7 u) (hK156 : ∀ (b0_ : Int32) (b1_ : Int32) (b2_ : Int32) (b3_ : Int32) (b4_ : mS), K156 b0_ b1_ b2_ b3_ b4_ → (∀ (K156_ : Int32 → Int32 → Int32 → Int32 → mS → Prop) (post_ : mS → Prop), K156_ b0_ b1_ b2_ b3_ b4_ → wj_X9_function_262 K156_ post_ x2 x4 x6 x7 u) → goal) (hp : ∀ (b0_ : mS), post b0_ → (∀ (K156_ : Int32 → Int32 → Int32 → Int32 → mS → Prop) (post_ : mS → Prop), post_ b0_ → wj_X9_function_262 K156_ post_ x2 x4 x6 x7 u) → goal) : goal := by
  have h1 := h _ rfl
  refine el_n h1 (fun c2 h3 => ?_) (fun c2 h3 => ?_)
  · have h4 := h3 _ rfl
    exact d_wj_X9_function_283 h4 (fun b0_ b1_ b2_ b3_ b4_ g_ r_ => hK156 _ _ _ _ _ g_ (fun K156_ post_ hq_ => by
            rintro _ rfl
            refine ⟨fun _ => ?_, fun q_ => absurd q_ c2⟩
            rintro _ rfl
            exact r_ _ _ hq_)) (fun b0_ g_ r_ => hp _ g_ (fun K156_ post_ hq_ => by
            rintro _ rfl
            refine ⟨fun _ => ?_, fun q_ => absurd q_ c2⟩
            rintro _ rfl
            exact r_ _ _ hq_))
  · have h5 := h3 _ rfl
    have h6 := h5 _ rfl
    exact d_wj_X9_function_283 h6 (fun b0_ b1_ b2_ b3_ b4_ g_ r_ => hK156 _ _ _ _ _ g_ (fun K156_ post_ hq_ => by
            rintro _ rfl
            refine ⟨fun q_ => absurd c2 q_, fun _ => ?_⟩
            rintro _ rfl
            rintro _ rfl
            exact r_ _ _ hq_)) (fun b0_ g_ r_ => hp _ g_ (fun K156_ post_ hq_ => by
            rintro _ rfl
            refine ⟨fun q_ => absurd c2 q_, fun _ => ?_⟩
            rintro _ rfl
            rintro _ rfl
            exact r_ _ _ hq_))
theorem d_wj_X9_function_177 {K177 : Int32 → Int32 → Int32 → Int32 → Int32 → mS → Prop} {K156 : Int32 → Int32 → Int32 → Int32 → mS → Prop} {post : mS → Prop} {x2 : Int32} {x4 : Int32} {x6 : Int32} {x7 : Int32} {x8 : Int32} {u : mS} {goal : Prop} (h : wj_X9_function_177 K177 K156 post x2 x4 x6 x7 x8 u) (hK177 : ∀ (b0_ : Int32) (b1_ : Int32) (b2_ : Int32) (b3_ : Int32) (b4_ : Int32) (b5_ : mS), K177 b0_ b1_ b2_ b3_ b4_ b5_ → (∀ (K177_ : Int32 → Int32 → Int32 → Int32 → Int32 → mS → Prop) (K156_ : Int32 → Int32 → Int32 → Int32 → mS → Prop) (post_ : mS → Prop), K177_ b0_ b1_ b2_ b3_ b4_ b5_ → wj_X9_function_177 K177_ K156_ post_ x2 x4 x6 x7 x8 u) → goal) (hK156 : ∀ (b0_ : Int32) (b1_ : Int32) (b2_ : Int32) (b3_ : Int32) (b4_ : mS), K156 b0_ b1_ b2_ b3_ b4_ → (∀ (K177_ : Int32 → Int32 → Int32 → Int32 → Int32 → mS → Prop) (K156_ : Int32 → Int32 → Int32 → Int32 → mS → Prop) (post_ : mS → Prop), K156_ b0_ b1_ b2_ b3_ b4_ → wj_X9_function_177 K177_ K156_ post_ x2 x4 x6 x7 x8 u) → goal) (hp : ∀ (b0_ : mS), post b0_ → (∀ (K177_ : Int32 → Int32 → Int32 → Int32 → Int32 → mS → Prop) (K156_ : Int32 → Int32 → Int32 → Int32 → mS → Prop) (post_ : mS → Prop), post_ b0_ → wj_X9_function_177 K177_ K156_ post_ x2 x4 x6 x7 x8 u) → goal) : goal := by
  refine el_p h (fun c1 h2 => ?_) (fun c1 h2 => ?_)
  · have h3 := h2 _ rfl
    refine el_n h3 (fun c4 h5 => ?_) (fun c4 h5 => ?_)
    · exact d_wj_X9_function_262 h5 (fun b0_ b1_ b2_ b3_ b4_ g_ r_ => hK156 _ _ _ _ _ g_ (fun K177_ K156_ post_ hq_ => by
              refine ⟨fun _ => ?_, fun q_ => absurd c1 q_⟩
              rintro _ rfl
              refine ⟨fun _ => ?_, fun q_ => absurd q_ c4⟩
              exact r_ _ _ hq_)) (fun b0_ g_ r_ => hp _ g_ (fun K177_ K156_ post_ hq_ => by
              refine ⟨fun _ => ?_, fun q_ => absurd c1 q_⟩
              rintro _ rfl
              refine ⟨fun _ => ?_, fun q_ => absurd q_ c4⟩
              exact r_ _ _ hq_))
    · refine d_wp_X9_what_2 h5 (fun w8 w9 h6 r7 => ?_)
      have v11 := h6.1
      have h10 := h6.2
      have h12 := h10 _ rfl
      have h13 := h12 _ rfl
      refine d_wp_X9_bind h13 (fun w16 h14 r15 => ?_)
      exact d_wj_X9_function_262 h14 (fun b0_ b1_ b2_ b3_ b4_ g_ r_ => hK156 _ _ _ _ _ g_ (fun K177_ K156_ post_ hq_ => by
              refine ⟨fun _ => ?_, fun q_ => absurd c1 q_⟩
              rintro _ rfl
              refine ⟨fun q_ => absurd c4 q_, fun _ => ?_⟩
              refine r7 _ ?_
              refine ⟨v11, ?_⟩
              rintro _ rfl
              rintro _ rfl
              refine r15 _ ?_
              exact r_ _ _ hq_)) (fun b0_ g_ r_ => hp _ g_ (fun K177_ K156_ post_ hq_ => by
              refine ⟨fun _ => ?_, fun q_ => absurd c1 q_⟩
              rintro _ rfl
              refine ⟨fun q_ => absurd c4 q_, fun _ => ?_⟩
              refine r7 _ ?_
              refine ⟨v11, ?_⟩
              rintro _ rfl
              rintro _ rfl
              refine r15 _ ?_
              exact r_ _ _ hq_))
  · have v18 := h2.1
    have h17 := h2.2
    have h19 := h17 _ rfl
    have v21 := h19.1
    have h20 := h19.2
    have h22 := h20 _ rfl
    refine el_n h22 (fun c23 h24 => ?_) (fun c23 h24 => ?_)
    · exact d_wj_X9_function_223 h24 (fun b0_ b1_ b2_ b3_ b4_ g_ r_ => hK156 _ _ _ _ _ g_ (fun K177_ K156_ post_ hq_ => by
              refine ⟨fun q_ => absurd q_ c1, fun _ => ?_⟩
              refine ⟨v18, ?_⟩
              rintro _ rfl
              refine ⟨v21, ?_⟩
              rintro _ rfl
              refine ⟨fun _ => ?_, fun q_ => absurd q_ c23⟩
              exact r_ _ _ _ hq_)) (fun b0_ b1_ b2_ b3_ b4_ b5_ g_ r_ => hK177 _ _ _ _ _ _ g_ (fun K177_ K156_ post_ hq_ => by
              refine ⟨fun q_ => absurd q_ c1, fun _ => ?_⟩
              refine ⟨v18, ?_⟩
              rintro _ rfl
              refine ⟨v21, ?_⟩
              rintro _ rfl
              refine ⟨fun _ => ?_, fun q_ => absurd q_ c23⟩
              exact r_ _ _ _ hq_)) (fun b0_ g_ r_ => hp _ g_ (fun K177_ K156_ post_ hq_ => by
              refine ⟨fun q_ => absurd q_ c1, fun _ => ?_⟩
              refine ⟨v18, ?_⟩
              rintro _ rfl
              refine ⟨v21, ?_⟩
              rintro _ rfl
              refine ⟨fun _ => ?_, fun q_ => absurd q_ c23⟩
              exact r_ _ _ _ hq_))
    · have v26 := h24.1
      have h25 := h24.2
      have h27 := h25 _ rfl
      have v29 := h27.1
      have h28 := h27.2
      have h30 := h28 _ rfl
      refine el_n h30 (fun c31 h32 => ?_) (fun c31 h32 => ?_)
      · exact d_wj_X9_function_223 h32 (fun b0_ b1_ b2_ b3_ b4_ g_ r_ => hK156 _ _ _ _ _ g_ (fun K177_ K156_ post_ hq_ => by
                refine ⟨fun q_ => absurd q_ c1, fun _ => ?_⟩
                refine ⟨v18, ?_⟩
                rintro _ rfl
                refine ⟨v21, ?_⟩
                rintro _ rfl
                refine ⟨fun q_ => absurd c23 q_, fun _ => ?_⟩
                refine ⟨v26, ?_⟩
                rintro _ rfl
                refine ⟨v29, ?_⟩
                rintro _ rfl
                refine ⟨fun _ => ?_, fun q_ => absurd q_ c31⟩
                exact r_ _ _ _ hq_)) (fun b0_ b1_ b2_ b3_ b4_ b5_ g_ r_ => hK177 _ _ _ _ _ _ g_ (fun K177_ K156_ post_ hq_ => by
                refine ⟨fun q_ => absurd q_ c1, fun _ => ?_⟩
                refine ⟨v18, ?_⟩
                rintro _ rfl
                refine ⟨v21, ?_⟩
                rintro _ rfl
                refine ⟨fun q_ => absurd c23 q_, fun _ => ?_⟩
                refine ⟨v26, ?_⟩
                rintro _ rfl
                refine ⟨v29, ?_⟩
                rintro _ rfl
                refine ⟨fun _ => ?_, fun q_ => absurd q_ c31⟩
                exact r_ _ _ _ hq_)) (fun b0_ g_ r_ => hp _ g_ (fun K177_ K156_ post_ hq_ => by
                refine ⟨fun q_ => absurd q_ c1, fun _ => ?_⟩
                refine ⟨v18, ?_⟩
                rintro _ rfl
                refine ⟨v21, ?_⟩
                rintro _ rfl
                refine ⟨fun q_ => absurd c23 q_, fun _ => ?_⟩
                refine ⟨v26, ?_⟩
                rintro _ rfl
                refine ⟨v29, ?_⟩
                rintro _ rfl
                refine ⟨fun _ => ?_, fun q_ => absurd q_ c31⟩
                exact r_ _ _ _ hq_))
      · refine d_wp_X9_fails h32 (fun w35 h33 r34 => ?_)
        exact d_wj_X9_function_223 h33 (fun b0_ b1_ b2_ b3_ b4_ g_ r_ => hK156 _ _ _ _ _ g_ (fun K177_ K156_ post_ hq_ => by
                refine ⟨fun q_ => absurd q_ c1, fun _ => ?_⟩
                refine ⟨v18, ?_⟩
                rintro _ rfl
                refine ⟨v21, ?_⟩
                rintro _ rfl
                refine ⟨fun q_ => absurd c23 q_, fun _ => ?_⟩
                refine ⟨v26, ?_⟩
                rintro _ rfl
                refine ⟨v29, ?_⟩
                rintro _ rfl
                refine ⟨fun q_ => absurd c31 q_, fun _ => ?_⟩
                refine r34 _ ?_
                exact r_ _ _ _ hq_)) (fun b0_ b1_ b2_ b3_ b4_ b5_ g_ r_ => hK177 _ _ _ _ _ _ g_ (fun K177_ K156_ post_ hq_ => by
                refine ⟨fun q_ => absurd q_ c1, fun _ => ?_⟩
                refine ⟨v18, ?_⟩
                rintro _ rfl
                refine ⟨v21, ?_⟩
                rintro _ rfl
                refine ⟨fun q_ => absurd c23 q_, fun _ => ?_⟩
                refine ⟨v26, ?_⟩
                rintro _ rfl
                refine ⟨v29, ?_⟩
                rintro _ rfl
                refine ⟨fun q_ => absurd c31 q_, fun _ => ?_⟩
                refine r34 _ ?_
                exact r_ _ _ _ hq_)) (fun b0_ g_ r_ => hp _ g_ (fun K177_ K156_ post_ hq_ => by
                refine ⟨fun q_ => absurd q_ c1, fun _ => ?_⟩
                refine ⟨v18, ?_⟩
                rintro _ rfl
                refine ⟨v21, ?_⟩
                rintro _ rfl
                refine ⟨fun q_ => absurd c23 q_, fun _ => ?_⟩
                refine ⟨v26, ?_⟩
                rintro _ rfl
                refine ⟨v29, ?_⟩
                rintro _ rfl
                refine ⟨fun q_ => absurd c31 q_, fun _ => ?_⟩
                refine r34 _ ?_
                exact r_ _ _ _ hq_))
theorem dl_wj_X9_function_177 {K156 : Int32 → Int32 → Int32 → Int32 → mS → Prop} {post : mS → Prop} {goal : Prop} : ∀ (n_ : Nat) (x2 : Int32) (x4 : Int32) (x6 : Int32) (x7 : Int32) (x8 : Int32) (u : mS), mL6 (fun K_ => wj_X9_function_177 K_ K156 post) n_ x2 x4 x6 x7 x8 u → (∀ (b0_ : Int32) (b1_ : Int32) (b2_ : Int32) (b3_ : Int32) (b4_ : mS), K156 b0_ b1_ b2_ b3_ b4_ → (∀ (K156_ : Int32 → Int32 → Int32 → Int32 → mS → Prop) (post_ : mS → Prop), K156_ b0_ b1_ b2_ b3_ b4_ → ∃ m_, mL6 (fun K_ => wj_X9_function_177 K_ K156_ post_) m_ x2 x4 x6 x7 x8 u) → goal) → (∀ (b0_ : mS), post b0_ → (∀ (K156_ : Int32 → Int32 → Int32 → Int32 → mS → Prop) (post_ : mS → Prop), post_ b0_ → ∃ m_, mL6 (fun K_ => wj_X9_function_177 K_ K156_ post_) m_ x2 x4 x6 x7 x8 u) → goal) → goal
  | 0, _, _, _, _, _, _, h, _, _ => h.elim
  | n_ + 1, x2, x4, x6, x7, x8, u, h, hK156, hp => d_wj_X9_function_177 h (fun b0_ b1_ b2_ b3_ b4_ b5_ g_ r_ => dl_wj_X9_function_177 n_ b0_ b1_ b2_ b3_ b4_ b5_ g_ (fun b0_ b1_ b2_ b3_ b4_ g2_ r2_ => hK156 b0_ b1_ b2_ b3_ b4_ g2_ (fun K156_ post_ hq_ => (r2_ K156_ post_ hq_).elim (fun m_ hm_ => ⟨m_ + 1, r_ _ _ _ hm_⟩))) (fun b0_ g2_ r2_ => hp b0_ g2_ (fun K156_ post_ hq_ => (r2_ K156_ post_ hq_).elim (fun m_ hm_ => ⟨m_ + 1, r_ _ _ _ hm_⟩)))) (fun b0_ b1_ b2_ b3_ b4_ g_ r_ => hK156 b0_ b1_ b2_ b3_ b4_ g_ (fun K156_ post_ hq_ => ⟨1, r_ _ _ _ hq_⟩)) (fun b0_ g_ r_ => hp b0_ g_ (fun K156_ post_ hq_ => ⟨1, r_ _ _ _ hq_⟩))
theorem d_wj_X9_function_333 {K333 : Int32 → Int32 → mS → Prop} {post : mS → Prop} {x4 : Int32} {x7 : Int32} {u : mS} {goal : Prop} (h : wj_X9_function_333 K333 post x4 x7 u) (hK333 : ∀ (b0_ : Int32) (b1_ : Int32) (b2_ : mS), K333 b0_ b1_ b2_ → (∀ (K333_ : Int32 → Int32 → mS → Prop) (post_ : mS → Prop), K333_ b0_ b1_ b2_ → wj_X9_function_333 K333_ post_ x4 x7 u) → goal) (hp : ∀ (b0_ : mS), post b0_ → (∀ (K333_ : Int32 → Int32 → mS → Prop) (post_ : mS → Prop), post_ b0_ → wj_X9_function_333 K333_ post_ x4 x7 u) → goal) : goal := by
  have h1 := h _ rfl
  refine el_p h1 (fun c2 h3 => ?_) (fun c2 h3 => ?_)
  · refine d_wp_X9_putClose h3 (fun w6 h4 r5 => ?_)
    have h7 := h4 _ rfl
    have h8 := h7 _ rfl
    have h9 := h8 _ rfl
    have h10 := h9 _ rfl
    exact hp _ h10 (fun K333_ post_ hq_ => by
            rintro _ rfl
            refine ⟨fun _ => ?_, fun q_ => absurd c2 q_⟩
            refine r5 _ ?_
            rintro _ rfl
            rintro _ rfl
            rintro _ rfl
            rintro _ rfl
            exact hq_)
  · refine d_wp_X9_putVariable h3 (fun w13 h11 r12 => ?_)
    have h14 := h11 _ rfl
    exact hK333 _ _ _ h14 (fun K333_ post_ hq_ => by
            rintro _ rfl
            refine ⟨fun q_ => absurd q_ c2, fun _ => ?_⟩
            refine r12 _ ?_
            rintro _ rfl
            exact hq_)
theorem dl_wj_X9_function_333 {post : mS → Prop} {goal : Prop} : ∀ (n_ : Nat) (x4 : Int32) (x7 : Int32) (u : mS), mL3 (fun K_ => wj_X9_function_333 K_ post) n_ x4 x7 u → (∀ (b0_ : mS), post b0_ → (∀ (post_ : mS → Prop), post_ b0_ → ∃ m_, mL3 (fun K_ => wj_X9_function_333 K_ post_) m_ x4 x7 u) → goal) → goal
  | 0, _, _, _, h, _ => h.elim
  | n_ + 1, x4, x7, u, h, hp => d_wj_X9_function_333 h (fun b0_ b1_ b2_ g_ r_ => dl_wj_X9_function_333 n_ b0_ b1_ b2_ g_ (fun b0_ g2_ r2_ => hp b0_ g2_ (fun post_ hq_ => (r2_ post_ hq_).elim (fun m_ hm_ => ⟨m_ + 1, r_ _ _ hm_⟩)))) (fun b0_ g_ r_ => hp b0_ g_ (fun post_ hq_ => ⟨1, r_ _ _ hq_⟩))
theorem d_wj_X9_function_292 {post : mS → Prop} {x4 : Int32} {x6 : Int32} {u : mS} {goal : Prop} (h : wj_X9_function_292 post x4 x6 u) (hp : ∀ (b0_ : mS), post b0_ → (∀ (post_ : mS → Prop), post_ b0_ → wj_X9_function_292 post_ x4 x6 u) → goal) : goal := by
  have h1 := h _ rfl
  refine el_p h1 (fun c2 h3 => ?_) (fun c2 h3 => ?_)
  · refine d_wp_X9_putOpen h3 (fun w6 h4 r5 => ?_)
    refine d_wp_X9_space h4 (fun w9 h7 r8 => ?_)
    have h10 := h7 _ rfl
    have h11 := h10 _ rfl
    refine d_wp_X9_what_2 h11 (fun w14 w15 h12 r13 => ?_)
    refine d_wp_X9_putName h12 (fun w18 h16 r17 => ?_)
    refine d_wp_X9_putOpen h16 (fun w21 h19 r20 => ?_)
    obtain ⟨n22, h23⟩ := h19
    exact dl_wj_X9_function_333 n22 _ _ _ h23 (fun b0_ g_ r_ => hp _ g_ (fun post_ hq_ => by
            rintro _ rfl
            refine ⟨fun _ => ?_, fun q_ => absurd c2 q_⟩
            refine r5 _ ?_
            refine r8 _ ?_
            rintro _ rfl
            rintro _ rfl
            refine r13 _ ?_
            refine r17 _ ?_
            refine r20 _ ?_
            exact r_ _ hq_))
  · exact hp _ h3 (fun post_ hq_ => by
            rintro _ rfl
            refine ⟨fun q_ => absurd q_ c2, fun _ => ?_⟩
            exact hq_)
theorem d_wj_X9_function_156 {K156 : Int32 → Int32 → Int32 → Int32 → mS → Prop} {post : mS → Prop} {x2 : Int32} {x4 : Int32} {x6 : Int32} {x7 : Int32} {u : mS} {goal : Prop} (h : wj_X9_function_156 K156 post x2 x4 x6 x7 u) (hK156 : ∀ (b0_ : Int32) (b1_ : Int32) (b2_ : Int32) (b3_ : Int32) (b4_ : mS), K156 b0_ b1_ b2_ b3_ b4_ → (∀ (K156_ : Int32 → Int32 → Int32 → Int32 → mS → Prop) (post_ : mS → Prop), K156_ b0_ b1_ b2_ b3_ b4_ → wj_X9_function_156 K156_ post_ x2 x4 x6 x7 u) → goal) (hp : ∀ (b0_ : mS), post b0_ → (∀ (K156_ : Int32 → Int32 → Int32 → Int32 → mS → Prop) (post_ : mS → Prop), post_ b0_ → wj_X9_function_156 K156_ post_ x2 x4 x6 x7 u) → goal) : goal := by
  have h1 := h _ rfl
  refine el_p h1 (fun c2 h3 => ?_) (fun c2 h3 => ?_)
  · exact d_wj_X9_function_292 h3 (fun b0_ g_ r_ => hp _ g_ (fun K156_ post_ hq_ => by
            rintro _ rfl
            refine ⟨fun _ => ?_, fun q_ => absurd c2 q_⟩
            exact r_ _ hq_))
  · have h4 := h3 _ rfl
    refine el_n h4 (fun c5 h6 => ?_) (fun c5 h6 => ?_)
    · exact d_wj_X9_function_292 h6 (fun b0_ g_ r_ => hp _ g_ (fun K156_ post_ hq_ => by
              rintro _ rfl
              refine ⟨fun q_ => absurd q_ c2, fun _ => ?_⟩
              rintro _ rfl
              refine ⟨fun _ => ?_, fun q_ => absurd q_ c5⟩
              exact r_ _ hq_))
    · have h7 := h6 _ rfl
      obtain ⟨n8, h9⟩ := h7
      exact dl_wj_X9_function_177 n8 _ _ _ _ _ _ h9 (fun b0_ b1_ b2_ b3_ b4_ g_ r_ => hK156 _ _ _ _ _ g_ (fun K156_ post_ hq_ => by
              rintro _ rfl
              refine ⟨fun q_ => absurd q_ c2, fun _ => ?_⟩
              rintro _ rfl
              refine ⟨fun q_ => absurd c5 q_, fun _ => ?_⟩
              rintro _ rfl
              exact r_ _ _ hq_)) (fun b0_ g_ r_ => hp _ g_ (fun K156_ post_ hq_ => by
              rintro _ rfl
              refine ⟨fun q_ => absurd q_ c2, fun _ => ?_⟩
              rintro _ rfl
              refine ⟨fun q_ => absurd c5 q_, fun _ => ?_⟩
              rintro _ rfl
              exact r_ _ _ hq_))
theorem dl_wj_X9_function_156 {post : mS → Prop} {goal : Prop} : ∀ (n_ : Nat) (x2 : Int32) (x4 : Int32) (x6 : Int32) (x7 : Int32) (u : mS), mL5 (fun K_ => wj_X9_function_156 K_ post) n_ x2 x4 x6 x7 u → (∀ (b0_ : mS), post b0_ → (∀ (post_ : mS → Prop), post_ b0_ → ∃ m_, mL5 (fun K_ => wj_X9_function_156 K_ post_) m_ x2 x4 x6 x7 u) → goal) → goal
  | 0, _, _, _, _, _, h, _ => h.elim
  | n_ + 1, x2, x4, x6, x7, u, h, hp => d_wj_X9_function_156 h (fun b0_ b1_ b2_ b3_ b4_ g_ r_ => dl_wj_X9_function_156 n_ b0_ b1_ b2_ b3_ b4_ g_ (fun b0_ g2_ r2_ => hp b0_ g2_ (fun post_ hq_ => (r2_ post_ hq_).elim (fun m_ hm_ => ⟨m_ + 1, r_ _ _ hm_⟩)))) (fun b0_ g_ r_ => hp b0_ g_ (fun post_ hq_ => ⟨1, r_ _ _ hq_⟩))
theorem d_wj_X9_function_75 {K75 : Int32 → Int32 → Int32 → Int32 → Int32 → mS → Prop} {post : mS → Prop} {x1 : Int32} {x2 : Int32} {x3 : Int32} {x4 : Int32} {x5 : Int32} {u : mS} {goal : Prop} (h : wj_X9_function_75 K75 post x1 x2 x3 x4 x5 u) (hK75 : ∀ (b0_ : Int32) (b1_ : Int32) (b2_ : Int32) (b3_ : Int32) (b4_ : Int32) (b5_ : mS), K75 b0_ b1_ b2_ b3_ b4_ b5_ → (∀ (K75_ : Int32 → Int32 → Int32 → Int32 → Int32 → mS → Prop) (post_ : mS → Prop), K75_ b0_ b1_ b2_ b3_ b4_ b5_ → wj_X9_function_75 K75_ post_ x1 x2 x3 x4 x5 u) → goal) (hp : ∀ (b0_ : mS), post b0_ → (∀ (K75_ : Int32 → Int32 → Int32 → Int32 → Int32 → mS → Prop) (post_ : mS → Prop), post_ b0_ → wj_X9_function_75 K75_ post_ x1 x2 x3 x4 x5 u) → goal) : goal := by
  have h1 := h _ rfl
  refine el_p h1 (fun c2 h3 => ?_) (fun c2 h3 => ?_)
  · refine el_n h3 (fun c4 h5 => ?_) (fun c4 h5 => ?_)
    · refine d_wp_X9_scope h5 (fun w8 w9 h6 r7 => ?_)
      have h10 := h6 _ rfl
      refine el_p h10 (fun c11 h12 => ?_) (fun c11 h12 => ?_)
      · refine d_wp_X9_give h12 (fun w15 h13 r14 => ?_)
        have h16 := h13 _ rfl
        have h17 := h16 _ rfl
        obtain ⟨n18, h19⟩ := h17
        exact dl_wj_X9_function_156 n18 _ _ _ _ _ h19 (fun b0_ g_ r_ => hp _ g_ (fun K75_ post_ hq_ => by
                rintro _ rfl
                refine ⟨fun _ => ?_, fun q_ => absurd c2 q_⟩
                refine ⟨fun _ => ?_, fun q_ => absurd q_ c4⟩
                refine r7 _ ?_
                rintro _ rfl
                refine ⟨fun _ => ?_, fun q_ => absurd c11 q_⟩
                refine r14 _ ?_
                rintro _ rfl
                rintro _ rfl
                exact r_ _ hq_))
      · exact hp _ h12 (fun K75_ post_ hq_ => by
                rintro _ rfl
                refine ⟨fun _ => ?_, fun q_ => absurd c2 q_⟩
                refine ⟨fun _ => ?_, fun q_ => absurd q_ c4⟩
                refine r7 _ ?_
                rintro _ rfl
                refine ⟨fun q_ => absurd q_ c11, fun _ => ?_⟩
                exact hq_)
    · refine d_wp_X9_fails h5 (fun w22 h20 r21 => ?_)
      exact hp _ h20 (fun K75_ post_ hq_ => by
              rintro _ rfl
              refine ⟨fun _ => ?_, fun q_ => absurd c2 q_⟩
              refine ⟨fun q_ => absurd c4 q_, fun _ => ?_⟩
              refine r21 _ ?_
              exact hq_)
  · refine el_p h3 (fun c23 h24 => ?_) (fun c23 h24 => ?_)
    · exact d_wj_X9_function_105 h24 (fun b0_ b1_ b2_ b3_ b4_ b5_ g_ r_ => hK75 _ _ _ _ _ _ g_ (fun K75_ post_ hq_ => by
              rintro _ rfl
              refine ⟨fun q_ => absurd q_ c2, fun _ => ?_⟩
              refine ⟨fun _ => ?_, fun q_ => absurd c23 q_⟩
              exact r_ _ _ hq_)) (fun b0_ g_ r_ => hp _ g_ (fun K75_ post_ hq_ => by
              rintro _ rfl
              refine ⟨fun q_ => absurd q_ c2, fun _ => ?_⟩
              refine ⟨fun _ => ?_, fun q_ => absurd c23 q_⟩
              exact r_ _ _ hq_))
    · refine d_wp_X9_kind_2 h24 (fun w27 w28 h25 r26 => ?_)
      refine el_n h25 (fun c29 h30 => ?_) (fun c29 h30 => ?_)
      · exact d_wj_X9_function_105 h30 (fun b0_ b1_ b2_ b3_ b4_ b5_ g_ r_ => hK75 _ _ _ _ _ _ g_ (fun K75_ post_ hq_ => by
                rintro _ rfl
                refine ⟨fun q_ => absurd q_ c2, fun _ => ?_⟩
                refine ⟨fun q_ => absurd q_ c23, fun _ => ?_⟩
                refine r26 _ ?_
                refine ⟨fun _ => ?_, fun q_ => absurd q_ c29⟩
                exact r_ _ _ hq_)) (fun b0_ g_ r_ => hp _ g_ (fun K75_ post_ hq_ => by
                rintro _ rfl
                refine ⟨fun q_ => absurd q_ c2, fun _ => ?_⟩
                refine ⟨fun q_ => absurd q_ c23, fun _ => ?_⟩
                refine r26 _ ?_
                refine ⟨fun _ => ?_, fun q_ => absurd q_ c29⟩
                exact r_ _ _ hq_))
      · exact d_wj_X9_function_106 h30 (fun b0_ b1_ b2_ b3_ b4_ b5_ g_ r_ => hK75 _ _ _ _ _ _ g_ (fun K75_ post_ hq_ => by
                rintro _ rfl
                refine ⟨fun q_ => absurd q_ c2, fun _ => ?_⟩
                refine ⟨fun q_ => absurd q_ c23, fun _ => ?_⟩
                refine r26 _ ?_
                refine ⟨fun q_ => absurd c29 q_, fun _ => ?_⟩
                exact r_ _ _ hq_)) (fun b0_ g_ r_ => hp _ g_ (fun K75_ post_ hq_ => by
                rintro _ rfl
                refine ⟨fun q_ => absurd q_ c2, fun _ => ?_⟩
                refine ⟨fun q_ => absurd q_ c23, fun _ => ?_⟩
                refine r26 _ ?_
                refine ⟨fun q_ => absurd c29 q_, fun _ => ?_⟩
                exact r_ _ _ hq_))
theorem dl_wj_X9_function_75 {post : mS → Prop} {goal : Prop} : ∀ (n_ : Nat) (x1 : Int32) (x2 : Int32) (x3 : Int32) (x4 : Int32) (x5 : Int32) (u : mS), mL6 (fun K_ => wj_X9_function_75 K_ post) n_ x1 x2 x3 x4 x5 u → (∀ (b0_ : mS), post b0_ → (∀ (post_ : mS → Prop), post_ b0_ → ∃ m_, mL6 (fun K_ => wj_X9_function_75 K_ post_) m_ x1 x2 x3 x4 x5 u) → goal) → goal
  | 0, _, _, _, _, _, _, h, _ => h.elim
  | n_ + 1, x1, x2, x3, x4, x5, u, h, hp => d_wj_X9_function_75 h (fun b0_ b1_ b2_ b3_ b4_ b5_ g_ r_ => dl_wj_X9_function_75 n_ b0_ b1_ b2_ b3_ b4_ b5_ g_ (fun b0_ g2_ r2_ => hp b0_ g2_ (fun post_ hq_ => (r2_ post_ hq_).elim (fun m_ hm_ => ⟨m_ + 1, r_ _ _ hm_⟩)))) (fun b0_ g_ r_ => hp b0_ g_ (fun post_ hq_ => ⟨1, r_ _ _ hq_⟩))
theorem d_wj_X9_function_68 {post : mS → Prop} {x1 : Int32} {x2 : Int32} {x3 : Int32} {z0 : Int32} {u : mS} {goal : Prop} (h : wj_X9_function_68 post x1 x2 x3 z0 u) (hp : ∀ (b0_ : mS), post b0_ → (∀ (post_ : mS → Prop), post_ b0_ → wj_X9_function_68 post_ x1 x2 x3 z0 u) → goal) : goal := by
  have h1 := h _ rfl
  obtain ⟨n2, h3⟩ := h1
  exact dl_wj_X9_function_75 n2 _ _ _ _ _ _ h3 (fun b0_ g_ r_ => hp _ g_ (fun post_ hq_ => by
        rintro _ rfl
        exact r_ _ hq_))
theorem d_wj_X9_function_51 {post : mS → Prop} {x1 : Int32} {x2 : Int32} {z0 : Int32} {u : mS} {goal : Prop} (h : wj_X9_function_51 post x1 x2 z0 u) (hp : ∀ (b0_ : mS), post b0_ → (∀ (post_ : mS → Prop), post_ b0_ → wj_X9_function_51 post_ x1 x2 z0 u) → goal) : goal := by
  refine el_p h (fun c1 h2 => ?_) (fun c1 h2 => ?_)
  · exact d_wj_X9_function_68 h2 (fun b0_ g_ r_ => hp _ g_ (fun post_ hq_ => by
            refine ⟨fun _ => ?_, fun q_ => absurd c1 q_⟩
            exact r_ _ hq_))
  · refine d_wp_X9_end_2 h2 (fun w5 w6 h3 r4 => ?_)
    exact d_wj_X9_function_68 h3 (fun b0_ g_ r_ => hp _ g_ (fun post_ hq_ => by
            refine ⟨fun q_ => absurd q_ c1, fun _ => ?_⟩
            refine r4 _ ?_
            exact r_ _ hq_))
theorem d_wj_X9_function_50 {post : mS → Prop} {x1 : Int32} {x2 : Int32} {u : mS} {goal : Prop} (h : wj_X9_function_50 post x1 x2 u) (hp : ∀ (b0_ : mS), post b0_ → (∀ (post_ : mS → Prop), post_ b0_ → wj_X9_function_50 post_ x1 x2 u) → goal) : goal := by
  exact d_wj_X9_function_51 h (fun b0_ g_ r_ => hp _ g_ (fun post_ hq_ => r_ _ hq_))
theorem d_wp_X9_function {u : mS} {post : mS → Prop} {goal : Prop} (h : wp_X9_function u post) (hp : ∀ (b0_ : mS), post b0_ → (∀ (post_ : mS → Prop), post_ b0_ → wp_X9_function u post_) → goal) : goal := by
  have h1 := h _ rfl
  refine d_wp_X9_end_2 h1 (fun w4 w5 h2 r3 => ?_)
  have h6 := h2 _ rfl
  have h7 := h6 _ rfl
  have h8 := h7 _ rfl
  refine d_wp_X9_isPlain_2 h8 (fun w11 w12 h9 r10 => ?_)
  refine el_p h9 (fun c13 h14 => ?_) (fun c13 h14 => ?_)
  · exact d_wj_X9_function_50 h14 (fun b0_ g_ r_ => hp _ g_ (fun post_ hq_ => by
            rintro _ rfl
            refine r3 _ ?_
            rintro _ rfl
            rintro _ rfl
            rintro _ rfl
            refine r10 _ ?_
            refine ⟨fun _ => ?_, fun q_ => absurd c13 q_⟩
            exact r_ _ hq_))
  · refine d_wp_X9_kind_2 h14 (fun w17 w18 h15 r16 => ?_)
    refine el_n h15 (fun c19 h20 => ?_) (fun c19 h20 => ?_)
    · exact d_wj_X9_function_50 h20 (fun b0_ g_ r_ => hp _ g_ (fun post_ hq_ => by
              rintro _ rfl
              refine r3 _ ?_
              rintro _ rfl
              rintro _ rfl
              rintro _ rfl
              refine r10 _ ?_
              refine ⟨fun q_ => absurd q_ c13, fun _ => ?_⟩
              refine r16 _ ?_
              refine ⟨fun _ => ?_, fun q_ => absurd q_ c19⟩
              exact r_ _ hq_))
    · exact d_wj_X9_function_51 h20 (fun b0_ g_ r_ => hp _ g_ (fun post_ hq_ => by
              rintro _ rfl
              refine r3 _ ?_
              rintro _ rfl
              rintro _ rfl
              rintro _ rfl
              refine r10 _ ?_
              refine ⟨fun q_ => absurd q_ c13, fun _ => ?_⟩
              refine r16 _ ?_
              refine ⟨fun q_ => absurd c19 q_, fun _ => ?_⟩
              exact r_ _ hq_))
theorem d_wj_X9_form_148 {post : mS → Prop} {x2 : Int32} {u : mS} {goal : Prop} (h : wj_X9_form_148 post x2 u) (hp : ∀ (b0_ : mS), post b0_ → (∀ (post_ : mS → Prop), post_ b0_ → wj_X9_form_148 post_ x2 u) → goal) : goal := by
  have h1 := h _ rfl
  exact hp _ h1 (fun post_ hq_ => by
        rintro _ rfl
        exact hq_)
theorem d_wj_X9_form_125 {K125 : Int32 → Int32 → mS → Prop} {post : mS → Prop} {x2 : Int32} {x3 : Int32} {u : mS} {goal : Prop} (h : wj_X9_form_125 K125 post x2 x3 u) (hK125 : ∀ (b0_ : Int32) (b1_ : Int32) (b2_ : mS), K125 b0_ b1_ b2_ → (∀ (K125_ : Int32 → Int32 → mS → Prop) (post_ : mS → Prop), K125_ b0_ b1_ b2_ → wj_X9_form_125 K125_ post_ x2 x3 u) → goal) (hp : ∀ (b0_ : mS), post b0_ → (∀ (K125_ : Int32 → Int32 → mS → Prop) (post_ : mS → Prop), post_ b0_ → wj_X9_form_125 K125_ post_ x2 x3 u) → goal) : goal := by
  refine el_p h (fun c1 h2 => ?_) (fun c1 h2 => ?_)
  · exact d_wj_X9_form_148 h2 (fun b0_ g_ r_ => hp _ g_ (fun K125_ post_ hq_ => by
            refine ⟨fun _ => ?_, fun q_ => absurd c1 q_⟩
            exact r_ _ hq_))
  · have h3 := h2 _ rfl
    refine el_n h3 (fun c4 h5 => ?_) (fun c4 h5 => ?_)
    · exact d_wj_X9_form_148 h5 (fun b0_ g_ r_ => hp _ g_ (fun K125_ post_ hq_ => by
              refine ⟨fun q_ => absurd q_ c1, fun _ => ?_⟩
              rintro _ rfl
              refine ⟨fun _ => ?_, fun q_ => absurd q_ c4⟩
              exact r_ _ hq_))
    · refine d_wp_X9_putToken h5 (fun w8 h6 r7 => ?_)
      have h9 := h6 _ rfl
      exact hK125 _ _ _ h9 (fun K125_ post_ hq_ => by
              refine ⟨fun q_ => absurd q_ c1, fun _ => ?_⟩
              rintro _ rfl
              refine ⟨fun q_ => absurd c4 q_, fun _ => ?_⟩
              refine r7 _ ?_
              rintro _ rfl
              exact hq_)
theorem dl_wj_X9_form_125 {post : mS → Prop} {goal : Prop} : ∀ (n_ : Nat) (x2 : Int32) (x3 : Int32) (u : mS), mL3 (fun K_ => wj_X9_form_125 K_ post) n_ x2 x3 u → (∀ (b0_ : mS), post b0_ → (∀ (post_ : mS → Prop), post_ b0_ → ∃ m_, mL3 (fun K_ => wj_X9_form_125 K_ post_) m_ x2 x3 u) → goal) → goal
  | 0, _, _, _, h, _ => h.elim
  | n_ + 1, x2, x3, u, h, hp => d_wj_X9_form_125 h (fun b0_ b1_ b2_ g_ r_ => dl_wj_X9_form_125 n_ b0_ b1_ b2_ g_ (fun b0_ g2_ r2_ => hp b0_ g2_ (fun post_ hq_ => (r2_ post_ hq_).elim (fun m_ hm_ => ⟨m_ + 1, r_ _ _ hm_⟩)))) (fun b0_ g_ r_ => hp b0_ g_ (fun post_ hq_ => ⟨1, r_ _ _ hq_⟩))
theorem d_wj_X9_form_41 {post : mS → Prop} {x1 : Int32} {z0 : Int32} {z1 : Int32} {u : mS} {goal : Prop} (h : wj_X9_form_41 post x1 z0 z1 u) (hp : ∀ (b0_ : mS), post b0_ → (∀ (post_ : mS → Prop), post_ b0_ → wj_X9_form_41 post_ x1 z0 z1 u) → goal) : goal := by
  refine d_wp_X9_isPlain_2 h (fun w3 w4 h1 r2 => ?_)
  refine el_n h1 (fun c5 h6 => ?_) (fun c5 h6 => ?_)
  · refine el_n h6 (fun c7 h8 => ?_) (fun c7 h8 => ?_)
    · have h9 := h8 _ rfl
      refine d_wp_X9_end_2 h9 (fun w12 w13 h10 r11 => ?_)
      have h14 := h10 _ rfl
      obtain ⟨n15, h16⟩ := h14
      exact dl_wj_X9_form_125 n15 _ _ _ h16 (fun b0_ g_ r_ => hp _ g_ (fun post_ hq_ => by
              refine r2 _ ?_
              refine ⟨fun _ => ?_, fun q_ => absurd q_ c5⟩
              refine ⟨fun _ => ?_, fun q_ => absurd q_ c7⟩
              rintro _ rfl
              refine r11 _ ?_
              rintro _ rfl
              exact r_ _ hq_))
    · refine d_wp_X9_putOpen h8 (fun w19 h17 r18 => ?_)
      refine d_wp_X9_space h17 (fun w22 h20 r21 => ?_)
      have h23 := h20 _ rfl
      have h24 := h23 _ rfl
      refine d_wp_X9_what_2 h24 (fun w27 w28 h25 r26 => ?_)
      refine d_wp_X9_putName h25 (fun w31 h29 r30 => ?_)
      have h32 := h29 _ rfl
      have h33 := h32 _ rfl
      have h34 := h33 _ rfl
      have h35 := h34 _ rfl
      have h36 := h35 _ rfl
      have h37 := h36 _ rfl
      exact hp _ h37 (fun post_ hq_ => by
              refine r2 _ ?_
              refine ⟨fun _ => ?_, fun q_ => absurd q_ c5⟩
              refine ⟨fun q_ => absurd c7 q_, fun _ => ?_⟩
              refine r18 _ ?_
              refine r21 _ ?_
              rintro _ rfl
              rintro _ rfl
              refine r26 _ ?_
              refine r30 _ ?_
              rintro _ rfl
              rintro _ rfl
              rintro _ rfl
              rintro _ rfl
              rintro _ rfl
              rintro _ rfl
              exact hq_)
  · refine d_wp_X9_fails h6 (fun w40 h38 r39 => ?_)
    exact hp _ h38 (fun post_ hq_ => by
            refine r2 _ ?_
            refine ⟨fun q_ => absurd c5 q_, fun _ => ?_⟩
            refine r39 _ ?_
            exact hq_)
theorem d_wp_X9_form {x1 : Int32} {u : mS} {post : mS → Prop} {goal : Prop} (h : wp_X9_form x1 u post) (hp : ∀ (b0_ : mS), post b0_ → (∀ (post_ : mS → Prop), post_ b0_ → wp_X9_form x1 u post_) → goal) : goal := by
  refine el_n h (fun c1 h2 => ?_) (fun c1 h2 => ?_)
  · refine el_n h2 (fun c3 h4 => ?_) (fun c3 h4 => ?_)
    · have h5 := h4 _ rfl
      refine el_n h5 (fun c6 h7 => ?_) (fun c6 h7 => ?_)
      · exact d_wj_X9_form_41 h7 (fun b0_ g_ r_ => hp _ g_ (fun post_ hq_ => by
                refine ⟨fun _ => ?_, fun q_ => absurd q_ c1⟩
                refine ⟨fun _ => ?_, fun q_ => absurd q_ c3⟩
                rintro _ rfl
                refine ⟨fun _ => ?_, fun q_ => absurd q_ c6⟩
                exact r_ _ hq_))
      · exact d_wj_X9_form_41 h7 (fun b0_ g_ r_ => hp _ g_ (fun post_ hq_ => by
                refine ⟨fun _ => ?_, fun q_ => absurd q_ c1⟩
                refine ⟨fun _ => ?_, fun q_ => absurd q_ c3⟩
                rintro _ rfl
                refine ⟨fun q_ => absurd c6 q_, fun _ => ?_⟩
                exact r_ _ hq_))
    · refine d_wp_X9_local h4 (fun w10 h8 r9 => ?_)
      exact hp _ h8 (fun post_ hq_ => by
              refine ⟨fun _ => ?_, fun q_ => absurd q_ c1⟩
              refine ⟨fun q_ => absurd c3 q_, fun _ => ?_⟩
              refine r9 _ ?_
              exact hq_)
  · refine d_wp_X9_function h2 (fun w13 h11 r12 => ?_)
    exact hp _ h11 (fun post_ hq_ => by
            refine ⟨fun q_ => absurd c1 q_, fun _ => ?_⟩
            refine r12 _ ?_
            exact hq_)
theorem d_wj_X9_turn_2_3_37 {K3 : Int32 → Int32 → Int32 → mS → Prop} {post : mS → Prop} {x4 : Int32} {x5 : Int32} {x6 : Int32} {z0 : Int32} {z1 : Int32} {u : mS} {goal : Prop} (h : wj_X9_turn_2_3_37 K3 post x4 x5 x6 z0 z1 u) (hK3 : ∀ (b0_ : Int32) (b1_ : Int32) (b2_ : Int32) (b3_ : mS), K3 b0_ b1_ b2_ b3_ → (∀ (K3_ : Int32 → Int32 → Int32 → mS → Prop) (post_ : mS → Prop), K3_ b0_ b1_ b2_ b3_ → wj_X9_turn_2_3_37 K3_ post_ x4 x5 x6 z0 z1 u) → goal) (hp : ∀ (b0_ : mS), post b0_ → (∀ (K3_ : Int32 → Int32 → Int32 → mS → Prop) (post_ : mS → Prop), post_ b0_ → wj_X9_turn_2_3_37 K3_ post_ x4 x5 x6 z0 z1 u) → goal) : goal := by
  have v2 := h.1
  have h1 := h.2
  have h3 := h1 _ rfl
  have h4 := h3 _ rfl
  exact hK3 _ _ _ _ h4 (fun K3_ post_ hq_ => by
        refine ⟨v2, ?_⟩
        rintro _ rfl
        rintro _ rfl
        exact hq_)
theorem d_wj_X9_turn_2_3_3 {K3 : Int32 → Int32 → Int32 → mS → Prop} {post : mS → Prop} {x4 : Int32} {x5 : Int32} {x6 : Int32} {u : mS} {goal : Prop} (h : wj_X9_turn_2_3_3 K3 post x4 x5 x6 u) (hK3 : ∀ (b0_ : Int32) (b1_ : Int32) (b2_ : Int32) (b3_ : mS), K3 b0_ b1_ b2_ b3_ → (∀ (K3_ : Int32 → Int32 → Int32 → mS → Prop) (post_ : mS → Prop), K3_ b0_ b1_ b2_ b3_ → wj_X9_turn_2_3_3 K3_ post_ x4 x5 x6 u) → goal) (hp : ∀ (b0_ : mS), post b0_ → (∀ (K3_ : Int32 → Int32 → Int32 → mS → Prop) (post_ : mS → Prop), post_ b0_ → wj_X9_turn_2_3_3 K3_ post_ x4 x5 x6 u) → goal) : goal := by
  refine el_p h (fun c1 h2 => ?_) (fun c1 h2 => ?_)
  · exact hp _ h2 (fun K3_ post_ hq_ => by
            refine ⟨fun _ => ?_, fun q_ => absurd c1 q_⟩
            exact hq_)
  · refine d_wp_X9_kind_2 h2 (fun w5 w6 h3 r4 => ?_)
    refine el_n h3 (fun c7 h8 => ?_) (fun c7 h8 => ?_)
    · have v10 := h8.1
      have h9 := h8.2
      have h11 := h9 _ rfl
      exact d_wj_X9_turn_2_3_37 h11 (fun b0_ b1_ b2_ b3_ g_ r_ => hK3 _ _ _ _ g_ (fun K3_ post_ hq_ => by
              refine ⟨fun q_ => absurd q_ c1, fun _ => ?_⟩
              refine r4 _ ?_
              refine ⟨fun _ => ?_, fun q_ => absurd q_ c7⟩
              refine ⟨v10, ?_⟩
              rintro _ rfl
              exact r_ _ _ hq_)) (fun b0_ g_ r_ => hp _ g_ (fun K3_ post_ hq_ => by
              refine ⟨fun q_ => absurd q_ c1, fun _ => ?_⟩
              refine r4 _ ?_
              refine ⟨fun _ => ?_, fun q_ => absurd q_ c7⟩
              refine ⟨v10, ?_⟩
              rintro _ rfl
              exact r_ _ _ hq_))
    · have v13 := h8.1
      have h12 := h8.2
      have h14 := h12 _ rfl
      have h15 := h14 _ rfl
      exact d_wj_X9_turn_2_3_37 h15 (fun b0_ b1_ b2_ b3_ g_ r_ => hK3 _ _ _ _ g_ (fun K3_ post_ hq_ => by
              refine ⟨fun q_ => absurd q_ c1, fun _ => ?_⟩
              refine r4 _ ?_
              refine ⟨fun q_ => absurd c7 q_, fun _ => ?_⟩
              refine ⟨v13, ?_⟩
              rintro _ rfl
              rintro _ rfl
              exact r_ _ _ hq_)) (fun b0_ g_ r_ => hp _ g_ (fun K3_ post_ hq_ => by
              refine ⟨fun q_ => absurd q_ c1, fun _ => ?_⟩
              refine r4 _ ?_
              refine ⟨fun q_ => absurd c7 q_, fun _ => ?_⟩
              refine ⟨v13, ?_⟩
              rintro _ rfl
              rintro _ rfl
              exact r_ _ _ hq_))
theorem dl_wj_X9_turn_2_3_3 {post : mS → Prop} {goal : Prop} : ∀ (n_ : Nat) (x4 : Int32) (x5 : Int32) (x6 : Int32) (u : mS), mL4 (fun K_ => wj_X9_turn_2_3_3 K_ post) n_ x4 x5 x6 u → (∀ (b0_ : mS), post b0_ → (∀ (post_ : mS → Prop), post_ b0_ → ∃ m_, mL4 (fun K_ => wj_X9_turn_2_3_3 K_ post_) m_ x4 x5 x6 u) → goal) → goal
  | 0, _, _, _, _, h, _ => h.elim
  | n_ + 1, x4, x5, x6, u, h, hp => d_wj_X9_turn_2_3_3 h (fun b0_ b1_ b2_ b3_ g_ r_ => dl_wj_X9_turn_2_3_3 n_ b0_ b1_ b2_ b3_ g_ (fun b0_ g2_ r2_ => hp b0_ g2_ (fun post_ hq_ => (r2_ post_ hq_).elim (fun m_ hm_ => ⟨m_ + 1, r_ _ _ hm_⟩)))) (fun b0_ g_ r_ => hp b0_ g_ (fun post_ hq_ => ⟨1, r_ _ _ hq_⟩))
theorem d_wp_X9_turn_2_3 {x3 : Int32} {x4 : Int32} {x5 : Int32} {u : mS} {post : mS → Prop} {goal : Prop} (h : wp_X9_turn_2_3 x3 x4 x5 u post) (hp : ∀ (b0_ : mS), post b0_ → (∀ (post_ : mS → Prop), post_ b0_ → wp_X9_turn_2_3 x3 x4 x5 u post_) → goal) : goal := by
  obtain ⟨n1, h2⟩ := h
  exact dl_wj_X9_turn_2_3_3 n1 _ _ _ _ h2 (fun b0_ g_ r_ => hp _ g_ (fun post_ hq_ => r_ _ hq_))
theorem d_wj_X9_pairs_177 {K105 : Int32 → Int32 → Int32 → Int32 → Int32 → Int32 → Int32 → mS → Prop} {post : Int32 → mS → Prop} {x4 : Int32} {x5 : Int32} {x7 : Int32} {x8 : Int32} {x10 : Int32} {x11 : Int32} {z0 : Int32} {u : mS} {goal : Prop} (h : wj_X9_pairs_177 K105 post x4 x5 x7 x8 x10 x11 z0 u) (hK105 : ∀ (b0_ : Int32) (b1_ : Int32) (b2_ : Int32) (b3_ : Int32) (b4_ : Int32) (b5_ : Int32) (b6_ : Int32) (b7_ : mS), K105 b0_ b1_ b2_ b3_ b4_ b5_ b6_ b7_ → (∀ (K105_ : Int32 → Int32 → Int32 → Int32 → Int32 → Int32 → Int32 → mS → Prop) (post_ : Int32 → mS → Prop), K105_ b0_ b1_ b2_ b3_ b4_ b5_ b6_ b7_ → wj_X9_pairs_177 K105_ post_ x4 x5 x7 x8 x10 x11 z0 u) → goal) (hp : ∀ (b0_ : Int32) (b1_ : mS), post b0_ b1_ → (∀ (K105_ : Int32 → Int32 → Int32 → Int32 → Int32 → Int32 → Int32 → mS → Prop) (post_ : Int32 → mS → Prop), post_ b0_ b1_ → wj_X9_pairs_177 K105_ post_ x4 x5 x7 x8 x10 x11 z0 u) → goal) : goal := by
  have h1 := h _ rfl
  exact hK105 _ _ _ _ _ _ _ _ h1 (fun K105_ post_ hq_ => by
        rintro _ rfl
        exact hq_)
theorem d_wj_X9_pairs_143 {K105 : Int32 → Int32 → Int32 → Int32 → Int32 → Int32 → Int32 → mS → Prop} {post : Int32 → mS → Prop} {x4 : Int32} {x5 : Int32} {x7 : Int32} {x8 : Int32} {x9 : Int32} {x10 : Int32} {x11 : Int32} {u : mS} {goal : Prop} (h : wj_X9_pairs_143 K105 post x4 x5 x7 x8 x9 x10 x11 u) (hK105 : ∀ (b0_ : Int32) (b1_ : Int32) (b2_ : Int32) (b3_ : Int32) (b4_ : Int32) (b5_ : Int32) (b6_ : Int32) (b7_ : mS), K105 b0_ b1_ b2_ b3_ b4_ b5_ b6_ b7_ → (∀ (K105_ : Int32 → Int32 → Int32 → Int32 → Int32 → Int32 → Int32 → mS → Prop) (post_ : Int32 → mS → Prop), K105_ b0_ b1_ b2_ b3_ b4_ b5_ b6_ b7_ → wj_X9_pairs_143 K105_ post_ x4 x5 x7 x8 x9 x10 x11 u) → goal) (hp : ∀ (b0_ : Int32) (b1_ : mS), post b0_ b1_ → (∀ (K105_ : Int32 → Int32 → Int32 → Int32 → Int32 → Int32 → Int32 → mS → Prop) (post_ : Int32 → mS → Prop), post_ b0_ b1_ → wj_X9_pairs_143 K105_ post_ x4 x5 x7 x8 x9 x10 x11 u) → goal) : goal := by
  refine d_wp_X9_end_2 h (fun w3 w4 h1 r2 => ?_)
  have h5 := h1 _ rfl
  refine el_p h5 (fun c6 h7 => ?_) (fun c6 h7 => ?_)
  · exact d_wj_X9_pairs_177 h7 (fun b0_ b1_ b2_ b3_ b4_ b5_ b6_ b7_ g_ r_ => hK105 _ _ _ _ _ _ _ _ g_ (fun K105_ post_ hq_ => by
            refine r2 _ ?_
            rintro _ rfl
            refine ⟨fun _ => ?_, fun q_ => absurd c6 q_⟩
            exact r_ _ _ hq_)) (fun b0_ b1_ g_ r_ => hp _ _ g_ (fun K105_ post_ hq_ => by
            refine r2 _ ?_
            rintro _ rfl
            refine ⟨fun _ => ?_, fun q_ => absurd c6 q_⟩
            exact r_ _ _ hq_))
  · refine d_wp_X9_end_4 h7 (fun w10 w11 h8 r9 => ?_)
    exact d_wj_X9_pairs_177 h8 (fun b0_ b1_ b2_ b3_ b4_ b5_ b6_ b7_ g_ r_ => hK105 _ _ _ _ _ _ _ _ g_ (fun K105_ post_ hq_ => by
            refine r2 _ ?_
            rintro _ rfl
            refine ⟨fun q_ => absurd q_ c6, fun _ => ?_⟩
            refine r9 _ ?_
            exact r_ _ _ hq_)) (fun b0_ b1_ g_ r_ => hp _ _ g_ (fun K105_ post_ hq_ => by
            refine r2 _ ?_
            rintro _ rfl
            refine ⟨fun q_ => absurd q_ c6, fun _ => ?_⟩
            refine r9 _ ?_
            exact r_ _ _ hq_))
theorem d_wj_X9_pairs_122 {K105 : Int32 → Int32 → Int32 → Int32 → Int32 → Int32 → Int32 → mS → Prop} {post : Int32 → mS → Prop} {x4 : Int32} {x5 : Int32} {x7 : Int32} {x8 : Int32} {x9 : Int32} {x10 : Int32} {x11 : Int32} {u : mS} {goal : Prop} (h : wj_X9_pairs_122 K105 post x4 x5 x7 x8 x9 x10 x11 u) (hK105 : ∀ (b0_ : Int32) (b1_ : Int32) (b2_ : Int32) (b3_ : Int32) (b4_ : Int32) (b5_ : Int32) (b6_ : Int32) (b7_ : mS), K105 b0_ b1_ b2_ b3_ b4_ b5_ b6_ b7_ → (∀ (K105_ : Int32 → Int32 → Int32 → Int32 → Int32 → Int32 → Int32 → mS → Prop) (post_ : Int32 → mS → Prop), K105_ b0_ b1_ b2_ b3_ b4_ b5_ b6_ b7_ → wj_X9_pairs_122 K105_ post_ x4 x5 x7 x8 x9 x10 x11 u) → goal) (hp : ∀ (b0_ : Int32) (b1_ : mS), post b0_ b1_ → (∀ (K105_ : Int32 → Int32 → Int32 → Int32 → Int32 → Int32 → Int32 → mS → Prop) (post_ : Int32 → mS → Prop), post_ b0_ b1_ → wj_X9_pairs_122 K105_ post_ x4 x5 x7 x8 x9 x10 x11 u) → goal) : goal := by
  have v2 := h.1
  have h1 := h.2
  have h3 := h1 _ rfl
  have v5 := h3.1
  have h4 := h3.2
  have h6 := h4 _ rfl
  have h7 := h6 _ rfl
  exact d_wj_X9_pairs_143 h7 (fun b0_ b1_ b2_ b3_ b4_ b5_ b6_ b7_ g_ r_ => hK105 _ _ _ _ _ _ _ _ g_ (fun K105_ post_ hq_ => by
        refine ⟨v2, ?_⟩
        rintro _ rfl
        refine ⟨v5, ?_⟩
        rintro _ rfl
        rintro _ rfl
        exact r_ _ _ hq_)) (fun b0_ b1_ g_ r_ => hp _ _ g_ (fun K105_ post_ hq_ => by
        refine ⟨v2, ?_⟩
        rintro _ rfl
        refine ⟨v5, ?_⟩
        rintro _ rfl
        rintro _ rfl
        exact r_ _ _ hq_))
theorem d_wj_X9_pairs_105 {K105 : Int32 → Int32 → Int32 → Int32 → Int32 → Int32 → Int32 → mS → Prop} {post : Int32 → mS → Prop} {x4 : Int32} {x5 : Int32} {x7 : Int32} {x8 : Int32} {x9 : Int32} {x10 : Int32} {x11 : Int32} {u : mS} {goal : Prop} (h : wj_X9_pairs_105 K105 post x4 x5 x7 x8 x9 x10 x11 u) (hK105 : ∀ (b0_ : Int32) (b1_ : Int32) (b2_ : Int32) (b3_ : Int32) (b4_ : Int32) (b5_ : Int32) (b6_ : Int32) (b7_ : mS), K105 b0_ b1_ b2_ b3_ b4_ b5_ b6_ b7_ → (∀ (K105_ : Int32 → Int32 → Int32 → Int32 → Int32 → Int32 → Int32 → mS → Prop) (post_ : Int32 → mS → Prop), K105_ b0_ b1_ b2_ b3_ b4_ b5_ b6_ b7_ → wj_X9_pairs_105 K105_ post_ x4 x5 x7 x8 x9 x10 x11 u) → goal) (hp : ∀ (b0_ : Int32) (b1_ : mS), post b0_ b1_ → (∀ (K105_ : Int32 → Int32 → Int32 → Int32 → Int32 → Int32 → Int32 → mS → Prop) (post_ : Int32 → mS → Prop), post_ b0_ b1_ → wj_X9_pairs_105 K105_ post_ x4 x5 x7 x8 x9 x10 x11 u) → goal) : goal := by
  refine el_p h (fun c1 h2 => ?_) (fun c1 h2 => ?_)
  · exact hp _ _ h2 (fun K105_ post_ hq_ => by
            refine ⟨fun _ => ?_, fun q_ => absurd c1 q_⟩
            exact hq_)
  · refine el_p h2 (fun c3 h4 => ?_) (fun c3 h4 => ?_)
    · exact d_wj_X9_pairs_122 h4 (fun b0_ b1_ b2_ b3_ b4_ b5_ b6_ b7_ g_ r_ => hK105 _ _ _ _ _ _ _ _ g_ (fun K105_ post_ hq_ => by
              refine ⟨fun q_ => absurd q_ c1, fun _ => ?_⟩
              refine ⟨fun _ => ?_, fun q_ => absurd c3 q_⟩
              exact r_ _ _ hq_)) (fun b0_ b1_ g_ r_ => hp _ _ g_ (fun K105_ post_ hq_ => by
              refine ⟨fun q_ => absurd q_ c1, fun _ => ?_⟩
              refine ⟨fun _ => ?_, fun q_ => absurd c3 q_⟩
              exact r_ _ _ hq_))
    · refine el_n h4 (fun c5 h6 => ?_) (fun c5 h6 => ?_)
      · exact d_wj_X9_pairs_143 h6 (fun b0_ b1_ b2_ b3_ b4_ b5_ b6_ b7_ g_ r_ => hK105 _ _ _ _ _ _ _ _ g_ (fun K105_ post_ hq_ => by
                refine ⟨fun q_ => absurd q_ c1, fun _ => ?_⟩
                refine ⟨fun q_ => absurd q_ c3, fun _ => ?_⟩
                refine ⟨fun _ => ?_, fun q_ => absurd q_ c5⟩
                exact r_ _ _ hq_)) (fun b0_ b1_ g_ r_ => hp _ _ g_ (fun K105_ post_ hq_ => by
                refine ⟨fun q_ => absurd q_ c1, fun _ => ?_⟩
                refine ⟨fun q_ => absurd q_ c3, fun _ => ?_⟩
                refine ⟨fun _ => ?_, fun q_ => absurd q_ c5⟩
                exact r_ _ _ hq_))
      · exact d_wj_X9_pairs_122 h6 (fun b0_ b1_ b2_ b3_ b4_ b5_ b6_ b7_ g_ r_ => hK105 _ _ _ _ _ _ _ _ g_ (fun K105_ post_ hq_ => by
                refine ⟨fun q_ => absurd q_ c1, fun _ => ?_⟩
                refine ⟨fun q_ => absurd q_ c3, fun _ => ?_⟩
                refine ⟨fun q_ => absurd c5 q_, fun _ => ?_⟩
                exact r_ _ _ hq_)) (fun b0_ b1_ g_ r_ => hp _ _ g_ (fun K105_ post_ hq_ => by
                refine ⟨fun q_ => absurd q_ c1, fun _ => ?_⟩
                refine ⟨fun q_ => absurd q_ c3, fun _ => ?_⟩
                refine ⟨fun q_ => absurd c5 q_, fun _ => ?_⟩
                exact r_ _ _ hq_))
theorem dl_wj_X9_pairs_105 {post : Int32 → mS → Prop} {goal : Prop} : ∀ (n_ : Nat) (x4 : Int32) (x5 : Int32) (x7 : Int32) (x8 : Int32) (x9 : Int32) (x10 : Int32) (x11 : Int32) (u : mS), mL8 (fun K_ => wj_X9_pairs_105 K_ post) n_ x4 x5 x7 x8 x9 x10 x11 u → (∀ (b0_ : Int32) (b1_ : mS), post b0_ b1_ → (∀ (post_ : Int32 → mS → Prop), post_ b0_ b1_ → ∃ m_, mL8 (fun K_ => wj_X9_pairs_105 K_ post_) m_ x4 x5 x7 x8 x9 x10 x11 u) → goal) → goal
  | 0, _, _, _, _, _, _, _, _, h, _ => h.elim
  | n_ + 1, x4, x5, x7, x8, x9, x10, x11, u, h, hp => d_wj_X9_pairs_105 h (fun b0_ b1_ b2_ b3_ b4_ b5_ b6_ b7_ g_ r_ => dl_wj_X9_pairs_105 n_ b0_ b1_ b2_ b3_ b4_ b5_ b6_ b7_ g_ (fun b0_ b1_ g2_ r2_ => hp b0_ b1_ g2_ (fun post_ hq_ => (r2_ post_ hq_).elim (fun m_ hm_ => ⟨m_ + 1, r_ _ _ hm_⟩)))) (fun b0_ b1_ g_ r_ => hp b0_ b1_ g_ (fun post_ hq_ => ⟨1, r_ _ _ hq_⟩))
theorem d_wj_X9_pairs_89 {post : Int32 → mS → Prop} {x1 : Int32} {x2 : Int32} {x3 : Int32} {x4 : Int32} {x5 : Int32} {x7 : Int32} {u : mS} {goal : Prop} (h : wj_X9_pairs_89 post x1 x2 x3 x4 x5 x7 u) (hp : ∀ (b0_ : Int32) (b1_ : mS), post b0_ b1_ → (∀ (post_ : Int32 → mS → Prop), post_ b0_ b1_ → wj_X9_pairs_89 post_ x1 x2 x3 x4 x5 x7 u) → goal) : goal := by
  have h1 := h _ rfl
  have h2 := h1 _ rfl
  obtain ⟨n3, h4⟩ := h2
  exact dl_wj_X9_pairs_105 n3 _ _ _ _ _ _ _ _ h4 (fun b0_ b1_ g_ r_ => hp _ _ g_ (fun post_ hq_ => by
        rintro _ rfl
        rintro _ rfl
        exact r_ _ hq_))
theorem d_wj_X9_pairs_51 {post : Int32 → mS → Prop} {x1 : Int32} {x2 : Int32} {x3 : Int32} {x4 : Int32} {x5 : Int32} {z0 : Int32} {u : mS} {goal : Prop} (h : wj_X9_pairs_51 post x1 x2 x3 x4 x5 z0 u) (hp : ∀ (b0_ : Int32) (b1_ : mS), post b0_ b1_ → (∀ (post_ : Int32 → mS → Prop), post_ b0_ b1_ → wj_X9_pairs_51 post_ x1 x2 x3 x4 x5 z0 u) → goal) : goal := by
  refine d_wp_X9_count_2 h (fun w3 w4 h1 r2 => ?_)
  refine el_p h1 (fun c5 h6 => ?_) (fun c5 h6 => ?_)
  · refine el_p h6 (fun c7 h8 => ?_) (fun c7 h8 => ?_)
    · exact d_wj_X9_pairs_89 h8 (fun b0_ b1_ g_ r_ => hp _ _ g_ (fun post_ hq_ => by
              refine r2 _ ?_
              refine ⟨fun _ => ?_, fun q_ => absurd c5 q_⟩
              refine ⟨fun _ => ?_, fun q_ => absurd c7 q_⟩
              exact r_ _ hq_))
    · exact hp _ _ h8 (fun post_ hq_ => by
              refine r2 _ ?_
              refine ⟨fun _ => ?_, fun q_ => absurd c5 q_⟩
              refine ⟨fun q_ => absurd q_ c7, fun _ => ?_⟩
              exact hq_)
  · have h9 := h6 _ rfl
    refine el_p h9 (fun c10 h11 => ?_) (fun c10 h11 => ?_)
    · exact d_wj_X9_pairs_89 h11 (fun b0_ b1_ g_ r_ => hp _ _ g_ (fun post_ hq_ => by
              refine r2 _ ?_
              refine ⟨fun q_ => absurd q_ c5, fun _ => ?_⟩
              rintro _ rfl
              refine ⟨fun _ => ?_, fun q_ => absurd c10 q_⟩
              exact r_ _ hq_))
    · exact hp _ _ h11 (fun post_ hq_ => by
              refine r2 _ ?_
              refine ⟨fun q_ => absurd q_ c5, fun _ => ?_⟩
              rintro _ rfl
              refine ⟨fun q_ => absurd q_ c10, fun _ => ?_⟩
              exact hq_)
theorem d_wp_X9_pairs {x1 : Int32} {x2 : Int32} {x3 : Int32} {x4 : Int32} {u : mS} {post : Int32 → mS → Prop} {goal : Prop} (h : wp_X9_pairs x1 x2 x3 x4 u post) (hp : ∀ (b0_ : Int32) (b1_ : mS), post b0_ b1_ → (∀ (post_ : Int32 → mS → Prop), post_ b0_ b1_ → wp_X9_pairs x1 x2 x3 x4 u post_) → goal) : goal := by
  refine d_wp_X9_kind_2 h (fun w3 w4 h1 r2 => ?_)
  refine el_n h1 (fun c5 h6 => ?_) (fun c5 h6 => ?_)
  · exact hp _ _ h6 (fun post_ hq_ => by
            refine r2 _ ?_
            refine ⟨fun _ => ?_, fun q_ => absurd q_ c5⟩
            exact hq_)
  · refine d_wp_X9_dots_2 h6 (fun w9 w10 h7 r8 => ?_)
    refine el_p h7 (fun c11 h12 => ?_) (fun c11 h12 => ?_)
    · refine d_wp_X9_count_4 h12 (fun w15 w16 h13 r14 => ?_)
      refine d_wp_X9_dots_4 h13 (fun w19 w20 h17 r18 => ?_)
      refine el_p h17 (fun c21 h22 => ?_) (fun c21 h22 => ?_)
      · exact d_wj_X9_pairs_51 h22 (fun b0_ b1_ g_ r_ => hp _ _ g_ (fun post_ hq_ => by
                refine r2 _ ?_
                refine ⟨fun q_ => absurd c5 q_, fun _ => ?_⟩
                refine r8 _ ?_
                refine ⟨fun _ => ?_, fun q_ => absurd c11 q_⟩
                refine r14 _ ?_
                refine r18 _ ?_
                refine ⟨fun _ => ?_, fun q_ => absurd c21 q_⟩
                exact r_ _ hq_))
      · exact d_wj_X9_pairs_51 h22 (fun b0_ b1_ g_ r_ => hp _ _ g_ (fun post_ hq_ => by
                refine r2 _ ?_
                refine ⟨fun q_ => absurd c5 q_, fun _ => ?_⟩
                refine r8 _ ?_
                refine ⟨fun _ => ?_, fun q_ => absurd c11 q_⟩
                refine r14 _ ?_
                refine r18 _ ?_
                refine ⟨fun q_ => absurd q_ c21, fun _ => ?_⟩
                exact r_ _ hq_))
    · exact hp _ _ h12 (fun post_ hq_ => by
              refine r2 _ ?_
              refine ⟨fun q_ => absurd c5 q_, fun _ => ?_⟩
              refine r8 _ ?_
              refine ⟨fun q_ => absurd q_ c11, fun _ => ?_⟩
              exact hq_)
theorem d_wj_X9_matches_89 {K9 : Int32 → mS → Prop} {post : Int32 → mS → Prop} {x3 : Int32} {u : mS} {goal : Prop} (h : wj_X9_matches_89 K9 post x3 u) (hK9 : ∀ (b0_ : Int32) (b1_ : mS), K9 b0_ b1_ → (∀ (K9_ : Int32 → mS → Prop) (post_ : Int32 → mS → Prop), K9_ b0_ b1_ → wj_X9_matches_89 K9_ post_ x3 u) → goal) (hp : ∀ (b0_ : Int32) (b1_ : mS), post b0_ b1_ → (∀ (K9_ : Int32 → mS → Prop) (post_ : Int32 → mS → Prop), post_ b0_ b1_ → wj_X9_matches_89 K9_ post_ x3 u) → goal) : goal := by
  exact hK9 _ _ h (fun K9_ post_ hq_ => hq_)
theorem d_wj_X9_matches_72 {K9 : Int32 → mS → Prop} {post : Int32 → mS → Prop} {x3 : Int32} {x4 : Int32} {x5 : Int32} {x6 : Int32} {u : mS} {goal : Prop} (h : wj_X9_matches_72 K9 post x3 x4 x5 x6 u) (hK9 : ∀ (b0_ : Int32) (b1_ : mS), K9 b0_ b1_ → (∀ (K9_ : Int32 → mS → Prop) (post_ : Int32 → mS → Prop), K9_ b0_ b1_ → wj_X9_matches_72 K9_ post_ x3 x4 x5 x6 u) → goal) (hp : ∀ (b0_ : Int32) (b1_ : mS), post b0_ b1_ → (∀ (K9_ : Int32 → mS → Prop) (post_ : Int32 → mS → Prop), post_ b0_ b1_ → wj_X9_matches_72 K9_ post_ x3 x4 x5 x6 u) → goal) : goal := by
  refine el_n h (fun c1 h2 => ?_) (fun c1 h2 => ?_)
  · exact d_wj_X9_matches_89 h2 (fun b0_ b1_ g_ r_ => hK9 _ _ g_ (fun K9_ post_ hq_ => by
            refine ⟨fun _ => ?_, fun q_ => absurd q_ c1⟩
            exact r_ _ _ hq_)) (fun b0_ b1_ g_ r_ => hp _ _ g_ (fun K9_ post_ hq_ => by
            refine ⟨fun _ => ?_, fun q_ => absurd q_ c1⟩
            exact r_ _ _ hq_))
  · refine d_wp_X9_pairs h2 (fun w5 w6 h3 r4 => ?_)
    exact d_wj_X9_matches_89 h3 (fun b0_ b1_ g_ r_ => hK9 _ _ g_ (fun K9_ post_ hq_ => by
            refine ⟨fun q_ => absurd c1 q_, fun _ => ?_⟩
            refine r4 _ ?_
            exact r_ _ _ hq_)) (fun b0_ b1_ g_ r_ => hp _ _ g_ (fun K9_ post_ hq_ => by
            refine ⟨fun q_ => absurd c1 q_, fun _ => ?_⟩
            refine r4 _ ?_
            exact r_ _ _ hq_))
theorem d_wj_X9_matches_9 {K9 : Int32 → mS → Prop} {post : Int32 → mS → Prop} {x3 : Int32} {u : mS} {goal : Prop} (h : wj_X9_matches_9 K9 post x3 u) (hK9 : ∀ (b0_ : Int32) (b1_ : mS), K9 b0_ b1_ → (∀ (K9_ : Int32 → mS → Prop) (post_ : Int32 → mS → Prop), K9_ b0_ b1_ → wj_X9_matches_9 K9_ post_ x3 u) → goal) (hp : ∀ (b0_ : Int32) (b1_ : mS), post b0_ b1_ → (∀ (K9_ : Int32 → mS → Prop) (post_ : Int32 → mS → Prop), post_ b0_ b1_ → wj_X9_matches_9 K9_ post_ x3 u) → goal) : goal := by
  refine el_p h (fun c1 h2 => ?_) (fun c1 h2 => ?_)
  · refine el_n h2 (fun c3 h4 => ?_) (fun c3 h4 => ?_)
    · exact hp _ _ h4 (fun K9_ post_ hq_ => by
              refine ⟨fun _ => ?_, fun q_ => absurd c1 q_⟩
              refine ⟨fun _ => ?_, fun q_ => absurd q_ c3⟩
              exact hq_)
    · exact hp _ _ h4 (fun K9_ post_ hq_ => by
              refine ⟨fun _ => ?_, fun q_ => absurd c1 q_⟩
              refine ⟨fun q_ => absurd c3 q_, fun _ => ?_⟩
              exact hq_)
  · have h5 := h2 _ rfl
    have v7 := h5.1
    have h6 := h5.2
    have h8 := h6 _ rfl
    have h9 := h8 _ rfl
    have v11 := h9.1
    have h10 := h9.2
    have h12 := h10 _ rfl
    have h13 := h12 _ rfl
    refine d_wp_X9_kind_4 h13 (fun w16 w17 h14 r15 => ?_)
    refine el_n h14 (fun c18 h19 => ?_) (fun c18 h19 => ?_)
    · exact d_wj_X9_matches_72 h19 (fun b0_ b1_ g_ r_ => hK9 _ _ g_ (fun K9_ post_ hq_ => by
              refine ⟨fun q_ => absurd q_ c1, fun _ => ?_⟩
              rintro _ rfl
              refine ⟨v7, ?_⟩
              rintro _ rfl
              rintro _ rfl
              refine ⟨v11, ?_⟩
              rintro _ rfl
              rintro _ rfl
              refine r15 _ ?_
              refine ⟨fun _ => ?_, fun q_ => absurd q_ c18⟩
              exact r_ _ _ hq_)) (fun b0_ b1_ g_ r_ => hp _ _ g_ (fun K9_ post_ hq_ => by
              refine ⟨fun q_ => absurd q_ c1, fun _ => ?_⟩
              rintro _ rfl
              refine ⟨v7, ?_⟩
              rintro _ rfl
              rintro _ rfl
              refine ⟨v11, ?_⟩
              rintro _ rfl
              rintro _ rfl
              refine r15 _ ?_
              refine ⟨fun _ => ?_, fun q_ => absurd q_ c18⟩
              exact r_ _ _ hq_))
    · have v21 := h19.1
      have h20 := h19.2
      have h22 := h20 _ rfl
      have v24 := h22.1
      have h23 := h22.2
      have h25 := h23 _ rfl
      refine el_p h25 (fun c26 h27 => ?_) (fun c26 h27 => ?_)
      · exact d_wj_X9_matches_72 h27 (fun b0_ b1_ g_ r_ => hK9 _ _ g_ (fun K9_ post_ hq_ => by
                refine ⟨fun q_ => absurd q_ c1, fun _ => ?_⟩
                rintro _ rfl
                refine ⟨v7, ?_⟩
                rintro _ rfl
                rintro _ rfl
                refine ⟨v11, ?_⟩
                rintro _ rfl
                rintro _ rfl
                refine r15 _ ?_
                refine ⟨fun q_ => absurd c18 q_, fun _ => ?_⟩
                refine ⟨v21, ?_⟩
                rintro _ rfl
                refine ⟨v24, ?_⟩
                rintro _ rfl
                refine ⟨fun _ => ?_, fun q_ => absurd c26 q_⟩
                exact r_ _ _ hq_)) (fun b0_ b1_ g_ r_ => hp _ _ g_ (fun K9_ post_ hq_ => by
                refine ⟨fun q_ => absurd q_ c1, fun _ => ?_⟩
                rintro _ rfl
                refine ⟨v7, ?_⟩
                rintro _ rfl
                rintro _ rfl
                refine ⟨v11, ?_⟩
                rintro _ rfl
                rintro _ rfl
                refine r15 _ ?_
                refine ⟨fun q_ => absurd c18 q_, fun _ => ?_⟩
                refine ⟨v21, ?_⟩
                rintro _ rfl
                refine ⟨v24, ?_⟩
                rintro _ rfl
                refine ⟨fun _ => ?_, fun q_ => absurd c26 q_⟩
                exact r_ _ _ hq_))
      · exact hp _ _ h27 (fun K9_ post_ hq_ => by
                refine ⟨fun q_ => absurd q_ c1, fun _ => ?_⟩
                rintro _ rfl
                refine ⟨v7, ?_⟩
                rintro _ rfl
                rintro _ rfl
                refine ⟨v11, ?_⟩
                rintro _ rfl
                rintro _ rfl
                refine r15 _ ?_
                refine ⟨fun q_ => absurd c18 q_, fun _ => ?_⟩
                refine ⟨v21, ?_⟩
                rintro _ rfl
                refine ⟨v24, ?_⟩
                rintro _ rfl
                refine ⟨fun q_ => absurd q_ c26, fun _ => ?_⟩
                exact hq_)
theorem dl_wj_X9_matches_9 {post : Int32 → mS → Prop} {goal : Prop} : ∀ (n_ : Nat) (x3 : Int32) (u : mS), mL2 (fun K_ => wj_X9_matches_9 K_ post) n_ x3 u → (∀ (b0_ : Int32) (b1_ : mS), post b0_ b1_ → (∀ (post_ : Int32 → mS → Prop), post_ b0_ b1_ → ∃ m_, mL2 (fun K_ => wj_X9_matches_9 K_ post_) m_ x3 u) → goal) → goal
  | 0, _, _, h, _ => h.elim
  | n_ + 1, x3, u, h, hp => d_wj_X9_matches_9 h (fun b0_ b1_ g_ r_ => dl_wj_X9_matches_9 n_ b0_ b1_ g_ (fun b0_ b1_ g2_ r2_ => hp b0_ b1_ g2_ (fun post_ hq_ => (r2_ post_ hq_).elim (fun m_ hm_ => ⟨m_ + 1, r_ _ _ hm_⟩)))) (fun b0_ b1_ g_ r_ => hp b0_ b1_ g_ (fun post_ hq_ => ⟨1, r_ _ _ hq_⟩))
theorem d_wp_X9_matches {x1 : Int32} {x2 : Int32} {u : mS} {post : Int32 → mS → Prop} {goal : Prop} (h : wp_X9_matches x1 x2 u post) (hp : ∀ (b0_ : Int32) (b1_ : mS), post b0_ b1_ → (∀ (post_ : Int32 → mS → Prop), post_ b0_ b1_ → wp_X9_matches x1 x2 u post_) → goal) : goal := by
  refine d_wp_X9_pairs h (fun w3 w4 h1 r2 => ?_)
  obtain ⟨n5, h6⟩ := h1
  exact dl_wj_X9_matches_9 n5 _ _ h6 (fun b0_ b1_ g_ r_ => hp _ _ g_ (fun post_ hq_ => by
        refine r2 _ ?_
        exact r_ _ hq_))
theorem d_wp_X9_isHeld {x1 : Int32} {u : mS} {post : Int32 → mS → Prop} {goal : Prop} (h : wp_X9_isHeld x1 u post) (hp : ∀ (b0_ : Int32) (b1_ : mS), post b0_ b1_ → (∀ (post_ : Int32 → mS → Prop), post_ b0_ b1_ → wp_X9_isHeld x1 u post_) → goal) : goal := by
  have h1 := h _ rfl
  refine el_p h1 (fun c2 h3 => ?_) (fun c2 h3 => ?_)
  · exact hp _ _ h3 (fun post_ hq_ => by
            rintro _ rfl
            refine ⟨fun _ => ?_, fun q_ => absurd c2 q_⟩
            exact hq_)
  · have h4 := h3 _ rfl
    have h5 := h4 _ rfl
    have v7 := h5.1
    have h6 := h5.2
    have h8 := h6 _ rfl
    refine el_n h8 (fun c9 h10 => ?_) (fun c9 h10 => ?_)
    · exact hp _ _ h10 (fun post_ hq_ => by
              rintro _ rfl
              refine ⟨fun q_ => absurd q_ c2, fun _ => ?_⟩
              rintro _ rfl
              rintro _ rfl
              refine ⟨v7, ?_⟩
              rintro _ rfl
              refine ⟨fun _ => ?_, fun q_ => absurd q_ c9⟩
              exact hq_)
    · exact hp _ _ h10 (fun post_ hq_ => by
              rintro _ rfl
              refine ⟨fun q_ => absurd q_ c2, fun _ => ?_⟩
              rintro _ rfl
              rintro _ rfl
              refine ⟨v7, ?_⟩
              rintro _ rfl
              refine ⟨fun q_ => absurd c9 q_, fun _ => ?_⟩
              exact hq_)
theorem d_wj_X9_walk_168 {K9 : Int32 → Int32 → Int32 → Int32 → Int32 → mS → Prop} {post : Int32 → mS → Prop} {x3 : Int32} {x4 : Int32} {x7 : Int32} {x8 : Int32} {x9 : Int32} {u : mS} {goal : Prop} (h : wj_X9_walk_168 K9 post x3 x4 x7 x8 x9 u) (hK9 : ∀ (b0_ : Int32) (b1_ : Int32) (b2_ : Int32) (b3_ : Int32) (b4_ : Int32) (b5_ : mS), K9 b0_ b1_ b2_ b3_ b4_ b5_ → (∀ (K9_ : Int32 → Int32 → Int32 → Int32 → Int32 → mS → Prop) (post_ : Int32 → mS → Prop), K9_ b0_ b1_ b2_ b3_ b4_ b5_ → wj_X9_walk_168 K9_ post_ x3 x4 x7 x8 x9 u) → goal) (hp : ∀ (b0_ : Int32) (b1_ : mS), post b0_ b1_ → (∀ (K9_ : Int32 → Int32 → Int32 → Int32 → Int32 → mS → Prop) (post_ : Int32 → mS → Prop), post_ b0_ b1_ → wj_X9_walk_168 K9_ post_ x3 x4 x7 x8 x9 u) → goal) : goal := by
  exact hK9 _ _ _ _ _ _ h (fun K9_ post_ hq_ => hq_)
theorem d_wj_X9_walk_136 {K136 : Int32 → Int32 → Int32 → Int32 → Int32 → Int32 → mS → Prop} {K9 : Int32 → Int32 → Int32 → Int32 → Int32 → mS → Prop} {post : Int32 → mS → Prop} {x3 : Int32} {x4 : Int32} {x7 : Int32} {x8 : Int32} {x9 : Int32} {x12 : Int32} {u : mS} {goal : Prop} (h : wj_X9_walk_136 K136 K9 post x3 x4 x7 x8 x9 x12 u) (hK136 : ∀ (b0_ : Int32) (b1_ : Int32) (b2_ : Int32) (b3_ : Int32) (b4_ : Int32) (b5_ : Int32) (b6_ : mS), K136 b0_ b1_ b2_ b3_ b4_ b5_ b6_ → (∀ (K136_ : Int32 → Int32 → Int32 → Int32 → Int32 → Int32 → mS → Prop) (K9_ : Int32 → Int32 → Int32 → Int32 → Int32 → mS → Prop) (post_ : Int32 → mS → Prop), K136_ b0_ b1_ b2_ b3_ b4_ b5_ b6_ → wj_X9_walk_136 K136_ K9_ post_ x3 x4 x7 x8 x9 x12 u) → goal) (hK9 : ∀ (b0_ : Int32) (b1_ : Int32) (b2_ : Int32) (b3_ : Int32) (b4_ : Int32) (b5_ : mS), K9 b0_ b1_ b2_ b3_ b4_ b5_ → (∀ (K136_ : Int32 → Int32 → Int32 → Int32 → Int32 → Int32 → mS → Prop) (K9_ : Int32 → Int32 → Int32 → Int32 → Int32 → mS → Prop) (post_ : Int32 → mS → Prop), K9_ b0_ b1_ b2_ b3_ b4_ b5_ → wj_X9_walk_136 K136_ K9_ post_ x3 x4 x7 x8 x9 x12 u) → goal) (hp : ∀ (b0_ : Int32) (b1_ : mS), post b0_ b1_ → (∀ (K136_ : Int32 → Int32 → Int32 → Int32 → Int32 → Int32 → mS → Prop) (K9_ : Int32 → Int32 → Int32 → Int32 → Int32 → mS → Prop) (post_ : Int32 → mS → Prop), post_ b0_ b1_ → wj_X9_walk_136 K136_ K9_ post_ x3 x4 x7 x8 x9 x12 u) → goal) : goal := by
  have v2 := h.1
  have h1 := h.2
  have h3 := h1 _ rfl
  refine el_p h3 (fun c4 h5 => ?_) (fun c4 h5 => ?_)
  · have h6 := h5 _ rfl
    exact d_wj_X9_walk_168 h6 (fun b0_ b1_ b2_ b3_ b4_ b5_ g_ r_ => hK9 _ _ _ _ _ _ g_ (fun K136_ K9_ post_ hq_ => by
            refine ⟨v2, ?_⟩
            rintro _ rfl
            refine ⟨fun _ => ?_, fun q_ => absurd c4 q_⟩
            rintro _ rfl
            exact r_ _ _ hq_)) (fun b0_ b1_ g_ r_ => hp _ _ g_ (fun K136_ K9_ post_ hq_ => by
            refine ⟨v2, ?_⟩
            rintro _ rfl
            refine ⟨fun _ => ?_, fun q_ => absurd c4 q_⟩
            rintro _ rfl
            exact r_ _ _ hq_))
  · refine d_wp_X9_end_2 h5 (fun w9 w10 h7 r8 => ?_)
    have h11 := h7 _ rfl
    exact hK136 _ _ _ _ _ _ _ h11 (fun K136_ K9_ post_ hq_ => by
            refine ⟨v2, ?_⟩
            rintro _ rfl
            refine ⟨fun q_ => absurd q_ c4, fun _ => ?_⟩
            refine r8 _ ?_
            rintro _ rfl
            exact hq_)
theorem dl_wj_X9_walk_136 {K9 : Int32 → Int32 → Int32 → Int32 → Int32 → mS → Prop} {post : Int32 → mS → Prop} {goal : Prop} : ∀ (n_ : Nat) (x3 : Int32) (x4 : Int32) (x7 : Int32) (x8 : Int32) (x9 : Int32) (x12 : Int32) (u : mS), mL7 (fun K_ => wj_X9_walk_136 K_ K9 post) n_ x3 x4 x7 x8 x9 x12 u → (∀ (b0_ : Int32) (b1_ : Int32) (b2_ : Int32) (b3_ : Int32) (b4_ : Int32) (b5_ : mS), K9 b0_ b1_ b2_ b3_ b4_ b5_ → (∀ (K9_ : Int32 → Int32 → Int32 → Int32 → Int32 → mS → Prop) (post_ : Int32 → mS → Prop), K9_ b0_ b1_ b2_ b3_ b4_ b5_ → ∃ m_, mL7 (fun K_ => wj_X9_walk_136 K_ K9_ post_) m_ x3 x4 x7 x8 x9 x12 u) → goal) → (∀ (b0_ : Int32) (b1_ : mS), post b0_ b1_ → (∀ (K9_ : Int32 → Int32 → Int32 → Int32 → Int32 → mS → Prop) (post_ : Int32 → mS → Prop), post_ b0_ b1_ → ∃ m_, mL7 (fun K_ => wj_X9_walk_136 K_ K9_ post_) m_ x3 x4 x7 x8 x9 x12 u) → goal) → goal
  | 0, _, _, _, _, _, _, _, h, _, _ => h.elim
  | n_ + 1, x3, x4, x7, x8, x9, x12, u, h, hK9, hp => d_wj_X9_walk_136 h (fun b0_ b1_ b2_ b3_ b4_ b5_ b6_ g_ r_ => dl_wj_X9_walk_136 n_ b0_ b1_ b2_ b3_ b4_ b5_ b6_ g_ (fun b0_ b1_ b2_ b3_ b4_ b5_ g2_ r2_ => hK9 b0_ b1_ b2_ b3_ b4_ b5_ g2_ (fun K9_ post_ hq_ => (r2_ K9_ post_ hq_).elim (fun m_ hm_ => ⟨m_ + 1, r_ _ _ _ hm_⟩))) (fun b0_ b1_ g2_ r2_ => hp b0_ b1_ g2_ (fun K9_ post_ hq_ => (r2_ K9_ post_ hq_).elim (fun m_ hm_ => ⟨m_ + 1, r_ _ _ _ hm_⟩)))) (fun b0_ b1_ b2_ b3_ b4_ b5_ g_ r_ => hK9 b0_ b1_ b2_ b3_ b4_ b5_ g_ (fun K9_ post_ hq_ => ⟨1, r_ _ _ _ hq_⟩)) (fun b0_ b1_ g_ r_ => hp b0_ b1_ g_ (fun K9_ post_ hq_ => ⟨1, r_ _ _ _ hq_⟩))
theorem d_wj_X9_walk_93 {K93 : Int32 → Int32 → Int32 → Int32 → Int32 → Int32 → Int32 → mS → Prop} {K9 : Int32 → Int32 → Int32 → Int32 → Int32 → mS → Prop} {post : Int32 → mS → Prop} {x3 : Int32} {x4 : Int32} {x7 : Int32} {x8 : Int32} {x9 : Int32} {x10 : Int32} {x11 : Int32} {u : mS} {goal : Prop} (h : wj_X9_walk_93 K93 K9 post x3 x4 x7 x8 x9 x10 x11 u) (hK93 : ∀ (b0_ : Int32) (b1_ : Int32) (b2_ : Int32) (b3_ : Int32) (b4_ : Int32) (b5_ : Int32) (b6_ : Int32) (b7_ : mS), K93 b0_ b1_ b2_ b3_ b4_ b5_ b6_ b7_ → (∀ (K93_ : Int32 → Int32 → Int32 → Int32 → Int32 → Int32 → Int32 → mS → Prop) (K9_ : Int32 → Int32 → Int32 → Int32 → Int32 → mS → Prop) (post_ : Int32 → mS → Prop), K93_ b0_ b1_ b2_ b3_ b4_ b5_ b6_ b7_ → wj_X9_walk_93 K93_ K9_ post_ x3 x4 x7 x8 x9 x10 x11 u) → goal) (hK9 : ∀ (b0_ : Int32) (b1_ : Int32) (b2_ : Int32) (b3_ : Int32) (b4_ : Int32) (b5_ : mS), K9 b0_ b1_ b2_ b3_ b4_ b5_ → (∀ (K93_ : Int32 → Int32 → Int32 → Int32 → Int32 → Int32 → Int32 → mS → Prop) (K9_ : Int32 → Int32 → Int32 → Int32 → Int32 → mS → Prop) (post_ : Int32 → mS → Prop), K9_ b0_ b1_ b2_ b3_ b4_ b5_ → wj_X9_walk_93 K93_ K9_ post_ x3 x4 x7 x8 x9 x10 x11 u) → goal) (hp : ∀ (b0_ : Int32) (b1_ : mS), post b0_ b1_ → (∀ (K93_ : Int32 → Int32 → Int32 → Int32 → Int32 → Int32 → Int32 → mS → Prop) (K9_ : Int32 → Int32 → Int32 → Int32 → Int32 → mS → Prop) (post_ : Int32 → mS → Prop), post_ b0_ b1_ → wj_X9_walk_93 K93_ K9_ post_ x3 x4 x7 x8 x9 x10 x11 u) → goal) : goal := by
  refine d_wp_X9_kind_2 h (fun w3 w4 h1 r2 => ?_)
  refine el_p h1 (fun c5 h6 => ?_) (fun c5 h6 => ?_)
  · refine el_n h6 (fun c7 h8 => ?_) (fun c7 h8 => ?_)
    · obtain ⟨n9, h10⟩ := h8
      exact dl_wj_X9_walk_136 n9 _ _ _ _ _ _ _ h10 (fun b0_ b1_ b2_ b3_ b4_ b5_ g_ r_ => hK9 _ _ _ _ _ _ g_ (fun K93_ K9_ post_ hq_ => by
              refine r2 _ ?_
              refine ⟨fun _ => ?_, fun q_ => absurd c5 q_⟩
              refine ⟨fun _ => ?_, fun q_ => absurd q_ c7⟩
              exact r_ _ _ hq_)) (fun b0_ b1_ g_ r_ => hp _ _ g_ (fun K93_ K9_ post_ hq_ => by
              refine r2 _ ?_
              refine ⟨fun _ => ?_, fun q_ => absurd c5 q_⟩
              refine ⟨fun _ => ?_, fun q_ => absurd q_ c7⟩
              exact r_ _ _ hq_))
    · exact hp _ _ h8 (fun K93_ K9_ post_ hq_ => by
              refine r2 _ ?_
              refine ⟨fun _ => ?_, fun q_ => absurd c5 q_⟩
              refine ⟨fun q_ => absurd c7 q_, fun _ => ?_⟩
              exact hq_)
  · refine d_wp_X9_end_2 h6 (fun w13 w14 h11 r12 => ?_)
    have h15 := h11 _ rfl
    exact hK93 _ _ _ _ _ _ _ _ h15 (fun K93_ K9_ post_ hq_ => by
            refine r2 _ ?_
            refine ⟨fun q_ => absurd q_ c5, fun _ => ?_⟩
            refine r12 _ ?_
            rintro _ rfl
            exact hq_)
theorem dl_wj_X9_walk_93 {K9 : Int32 → Int32 → Int32 → Int32 → Int32 → mS → Prop} {post : Int32 → mS → Prop} {goal : Prop} : ∀ (n_ : Nat) (x3 : Int32) (x4 : Int32) (x7 : Int32) (x8 : Int32) (x9 : Int32) (x10 : Int32) (x11 : Int32) (u : mS), mL8 (fun K_ => wj_X9_walk_93 K_ K9 post) n_ x3 x4 x7 x8 x9 x10 x11 u → (∀ (b0_ : Int32) (b1_ : Int32) (b2_ : Int32) (b3_ : Int32) (b4_ : Int32) (b5_ : mS), K9 b0_ b1_ b2_ b3_ b4_ b5_ → (∀ (K9_ : Int32 → Int32 → Int32 → Int32 → Int32 → mS → Prop) (post_ : Int32 → mS → Prop), K9_ b0_ b1_ b2_ b3_ b4_ b5_ → ∃ m_, mL8 (fun K_ => wj_X9_walk_93 K_ K9_ post_) m_ x3 x4 x7 x8 x9 x10 x11 u) → goal) → (∀ (b0_ : Int32) (b1_ : mS), post b0_ b1_ → (∀ (K9_ : Int32 → Int32 → Int32 → Int32 → Int32 → mS → Prop) (post_ : Int32 → mS → Prop), post_ b0_ b1_ → ∃ m_, mL8 (fun K_ => wj_X9_walk_93 K_ K9_ post_) m_ x3 x4 x7 x8 x9 x10 x11 u) → goal) → goal
  | 0, _, _, _, _, _, _, _, _, h, _, _ => h.elim
  | n_ + 1, x3, x4, x7, x8, x9, x10, x11, u, h, hK9, hp => d_wj_X9_walk_93 h (fun b0_ b1_ b2_ b3_ b4_ b5_ b6_ b7_ g_ r_ => dl_wj_X9_walk_93 n_ b0_ b1_ b2_ b3_ b4_ b5_ b6_ b7_ g_ (fun b0_ b1_ b2_ b3_ b4_ b5_ g2_ r2_ => hK9 b0_ b1_ b2_ b3_ b4_ b5_ g2_ (fun K9_ post_ hq_ => (r2_ K9_ post_ hq_).elim (fun m_ hm_ => ⟨m_ + 1, r_ _ _ _ hm_⟩))) (fun b0_ b1_ g2_ r2_ => hp b0_ b1_ g2_ (fun K9_ post_ hq_ => (r2_ K9_ post_ hq_).elim (fun m_ hm_ => ⟨m_ + 1, r_ _ _ _ hm_⟩)))) (fun b0_ b1_ b2_ b3_ b4_ b5_ g_ r_ => hK9 b0_ b1_ b2_ b3_ b4_ b5_ g_ (fun K9_ post_ hq_ => ⟨1, r_ _ _ _ hq_⟩)) (fun b0_ b1_ g_ r_ => hp b0_ b1_ g_ (fun K9_ post_ hq_ => ⟨1, r_ _ _ _ hq_⟩))
theorem d_wj_X9_walk_27 {K27 : Int32 → Int32 → Int32 → Int32 → Int32 → mS → Prop} {K9 : Int32 → Int32 → Int32 → Int32 → Int32 → mS → Prop} {post : Int32 → mS → Prop} {x3 : Int32} {x4 : Int32} {x7 : Int32} {x8 : Int32} {x9 : Int32} {u : mS} {goal : Prop} (h : wj_X9_walk_27 K27 K9 post x3 x4 x7 x8 x9 u) (hK27 : ∀ (b0_ : Int32) (b1_ : Int32) (b2_ : Int32) (b3_ : Int32) (b4_ : Int32) (b5_ : mS), K27 b0_ b1_ b2_ b3_ b4_ b5_ → (∀ (K27_ : Int32 → Int32 → Int32 → Int32 → Int32 → mS → Prop) (K9_ : Int32 → Int32 → Int32 → Int32 → Int32 → mS → Prop) (post_ : Int32 → mS → Prop), K27_ b0_ b1_ b2_ b3_ b4_ b5_ → wj_X9_walk_27 K27_ K9_ post_ x3 x4 x7 x8 x9 u) → goal) (hK9 : ∀ (b0_ : Int32) (b1_ : Int32) (b2_ : Int32) (b3_ : Int32) (b4_ : Int32) (b5_ : mS), K9 b0_ b1_ b2_ b3_ b4_ b5_ → (∀ (K27_ : Int32 → Int32 → Int32 → Int32 → Int32 → mS → Prop) (K9_ : Int32 → Int32 → Int32 → Int32 → Int32 → mS → Prop) (post_ : Int32 → mS → Prop), K9_ b0_ b1_ b2_ b3_ b4_ b5_ → wj_X9_walk_27 K27_ K9_ post_ x3 x4 x7 x8 x9 u) → goal) (hp : ∀ (b0_ : Int32) (b1_ : mS), post b0_ b1_ → (∀ (K27_ : Int32 → Int32 → Int32 → Int32 → Int32 → mS → Prop) (K9_ : Int32 → Int32 → Int32 → Int32 → Int32 → mS → Prop) (post_ : Int32 → mS → Prop), post_ b0_ b1_ → wj_X9_walk_27 K27_ K9_ post_ x3 x4 x7 x8 x9 u) → goal) : goal := by
  refine d_wp_X9_end_4 h (fun w3 w4 h1 r2 => ?_)
  refine el_p h1 (fun c5 h6 => ?_) (fun c5 h6 => ?_)
  · refine d_wp_X9_end_4 h6 (fun w9 w10 h7 r8 => ?_)
    refine d_wp_X9_kind_4 h7 (fun w13 w14 h11 r12 => ?_)
    refine el_n h11 (fun c15 h16 => ?_) (fun c15 h16 => ?_)
    · exact d_wj_X9_walk_168 h16 (fun b0_ b1_ b2_ b3_ b4_ b5_ g_ r_ => hK9 _ _ _ _ _ _ g_ (fun K27_ K9_ post_ hq_ => by
              refine r2 _ ?_
              refine ⟨fun _ => ?_, fun q_ => absurd c5 q_⟩
              refine r8 _ ?_
              refine r12 _ ?_
              refine ⟨fun _ => ?_, fun q_ => absurd q_ c15⟩
              exact r_ _ _ hq_)) (fun b0_ b1_ g_ r_ => hp _ _ g_ (fun K27_ K9_ post_ hq_ => by
              refine r2 _ ?_
              refine ⟨fun _ => ?_, fun q_ => absurd c5 q_⟩
              refine r8 _ ?_
              refine r12 _ ?_
              refine ⟨fun _ => ?_, fun q_ => absurd q_ c15⟩
              exact r_ _ _ hq_))
    · obtain ⟨n17, h18⟩ := h16
      exact dl_wj_X9_walk_93 n17 _ _ _ _ _ _ _ _ h18 (fun b0_ b1_ b2_ b3_ b4_ b5_ g_ r_ => hK9 _ _ _ _ _ _ g_ (fun K27_ K9_ post_ hq_ => by
              refine r2 _ ?_
              refine ⟨fun _ => ?_, fun q_ => absurd c5 q_⟩
              refine r8 _ ?_
              refine r12 _ ?_
              refine ⟨fun q_ => absurd c15 q_, fun _ => ?_⟩
              exact r_ _ _ hq_)) (fun b0_ b1_ g_ r_ => hp _ _ g_ (fun K27_ K9_ post_ hq_ => by
              refine r2 _ ?_
              refine ⟨fun _ => ?_, fun q_ => absurd c5 q_⟩
              refine r8 _ ?_
              refine r12 _ ?_
              refine ⟨fun q_ => absurd c15 q_, fun _ => ?_⟩
              exact r_ _ _ hq_))
  · refine d_wp_X9_end_4 h6 (fun w21 w22 h19 r20 => ?_)
    refine d_wp_X9_end_2 h19 (fun w25 w26 h23 r24 => ?_)
    exact hK27 _ _ _ _ _ _ h23 (fun K27_ K9_ post_ hq_ => by
            refine r2 _ ?_
            refine ⟨fun q_ => absurd q_ c5, fun _ => ?_⟩
            refine r20 _ ?_
            refine r24 _ ?_
            exact hq_)
theorem dl_wj_X9_walk_27 {K9 : Int32 → Int32 → Int32 → Int32 → Int32 → mS → Prop} {post : Int32 → mS → Prop} {goal : Prop} : ∀ (n_ : Nat) (x3 : Int32) (x4 : Int32) (x7 : Int32) (x8 : Int32) (x9 : Int32) (u : mS), mL6 (fun K_ => wj_X9_walk_27 K_ K9 post) n_ x3 x4 x7 x8 x9 u → (∀ (b0_ : Int32) (b1_ : Int32) (b2_ : Int32) (b3_ : Int32) (b4_ : Int32) (b5_ : mS), K9 b0_ b1_ b2_ b3_ b4_ b5_ → (∀ (K9_ : Int32 → Int32 → Int32 → Int32 → Int32 → mS → Prop) (post_ : Int32 → mS → Prop), K9_ b0_ b1_ b2_ b3_ b4_ b5_ → ∃ m_, mL6 (fun K_ => wj_X9_walk_27 K_ K9_ post_) m_ x3 x4 x7 x8 x9 u) → goal) → (∀ (b0_ : Int32) (b1_ : mS), post b0_ b1_ → (∀ (K9_ : Int32 → Int32 → Int32 → Int32 → Int32 → mS → Prop) (post_ : Int32 → mS → Prop), post_ b0_ b1_ → ∃ m_, mL6 (fun K_ => wj_X9_walk_27 K_ K9_ post_) m_ x3 x4 x7 x8 x9 u) → goal) → goal
  | 0, _, _, _, _, _, _, h, _, _ => h.elim
  | n_ + 1, x3, x4, x7, x8, x9, u, h, hK9, hp => d_wj_X9_walk_27 h (fun b0_ b1_ b2_ b3_ b4_ b5_ g_ r_ => dl_wj_X9_walk_27 n_ b0_ b1_ b2_ b3_ b4_ b5_ g_ (fun b0_ b1_ b2_ b3_ b4_ b5_ g2_ r2_ => hK9 b0_ b1_ b2_ b3_ b4_ b5_ g2_ (fun K9_ post_ hq_ => (r2_ K9_ post_ hq_).elim (fun m_ hm_ => ⟨m_ + 1, r_ _ _ _ hm_⟩))) (fun b0_ b1_ g2_ r2_ => hp b0_ b1_ g2_ (fun K9_ post_ hq_ => (r2_ K9_ post_ hq_).elim (fun m_ hm_ => ⟨m_ + 1, r_ _ _ _ hm_⟩)))) (fun b0_ b1_ b2_ b3_ b4_ b5_ g_ r_ => hK9 b0_ b1_ b2_ b3_ b4_ b5_ g_ (fun K9_ post_ hq_ => ⟨1, r_ _ _ _ hq_⟩)) (fun b0_ b1_ g_ r_ => hp b0_ b1_ g_ (fun K9_ post_ hq_ => ⟨1, r_ _ _ _ hq_⟩))
theorem d_wj_X9_walk_9 {K9 : Int32 → Int32 → Int32 → Int32 → Int32 → mS → Prop} {post : Int32 → mS → Prop} {x3 : Int32} {x4 : Int32} {x5 : Int32} {x6 : Int32} {x7 : Int32} {u : mS} {goal : Prop} (h : wj_X9_walk_9 K9 post x3 x4 x5 x6 x7 u) (hK9 : ∀ (b0_ : Int32) (b1_ : Int32) (b2_ : Int32) (b3_ : Int32) (b4_ : Int32) (b5_ : mS), K9 b0_ b1_ b2_ b3_ b4_ b5_ → (∀ (K9_ : Int32 → Int32 → Int32 → Int32 → Int32 → mS → Prop) (post_ : Int32 → mS → Prop), K9_ b0_ b1_ b2_ b3_ b4_ b5_ → wj_X9_walk_9 K9_ post_ x3 x4 x5 x6 x7 u) → goal) (hp : ∀ (b0_ : Int32) (b1_ : mS), post b0_ b1_ → (∀ (K9_ : Int32 → Int32 → Int32 → Int32 → Int32 → mS → Prop) (post_ : Int32 → mS → Prop), post_ b0_ b1_ → wj_X9_walk_9 K9_ post_ x3 x4 x5 x6 x7 u) → goal) : goal := by
  refine el_p h (fun c1 h2 => ?_) (fun c1 h2 => ?_)
  · exact hp _ _ h2 (fun K9_ post_ hq_ => by
            refine ⟨fun _ => ?_, fun q_ => absurd c1 q_⟩
            exact hq_)
  · have h3 := h2 _ rfl
    have h4 := h3 _ rfl
    obtain ⟨n5, h6⟩ := h4
    exact dl_wj_X9_walk_27 n5 _ _ _ _ _ _ h6 (fun b0_ b1_ b2_ b3_ b4_ b5_ g_ r_ => hK9 _ _ _ _ _ _ g_ (fun K9_ post_ hq_ => by
            refine ⟨fun q_ => absurd q_ c1, fun _ => ?_⟩
            rintro _ rfl
            rintro _ rfl
            exact r_ _ _ hq_)) (fun b0_ b1_ g_ r_ => hp _ _ g_ (fun K9_ post_ hq_ => by
            refine ⟨fun q_ => absurd q_ c1, fun _ => ?_⟩
            rintro _ rfl
            rintro _ rfl
            exact r_ _ _ hq_))
theorem dl_wj_X9_walk_9 {post : Int32 → mS → Prop} {goal : Prop} : ∀ (n_ : Nat) (x3 : Int32) (x4 : Int32) (x5 : Int32) (x6 : Int32) (x7 : Int32) (u : mS), mL6 (fun K_ => wj_X9_walk_9 K_ post) n_ x3 x4 x5 x6 x7 u → (∀ (b0_ : Int32) (b1_ : mS), post b0_ b1_ → (∀ (post_ : Int32 → mS → Prop), post_ b0_ b1_ → ∃ m_, mL6 (fun K_ => wj_X9_walk_9 K_ post_) m_ x3 x4 x5 x6 x7 u) → goal) → goal
  | 0, _, _, _, _, _, _, h, _ => h.elim
  | n_ + 1, x3, x4, x5, x6, x7, u, h, hp => d_wj_X9_walk_9 h (fun b0_ b1_ b2_ b3_ b4_ b5_ g_ r_ => dl_wj_X9_walk_9 n_ b0_ b1_ b2_ b3_ b4_ b5_ g_ (fun b0_ b1_ g2_ r2_ => hp b0_ b1_ g2_ (fun post_ hq_ => (r2_ post_ hq_).elim (fun m_ hm_ => ⟨m_ + 1, r_ _ _ hm_⟩)))) (fun b0_ b1_ g_ r_ => hp b0_ b1_ g_ (fun post_ hq_ => ⟨1, r_ _ _ hq_⟩))
theorem d_wp_X9_walk {x1 : Int32} {x2 : Int32} {x3 : Int32} {x4 : Int32} {u : mS} {post : Int32 → mS → Prop} {goal : Prop} (h : wp_X9_walk x1 x2 x3 x4 u post) (hp : ∀ (b0_ : Int32) (b1_ : mS), post b0_ b1_ → (∀ (post_ : Int32 → mS → Prop), post_ b0_ b1_ → wp_X9_walk x1 x2 x3 x4 u post_) → goal) : goal := by
  obtain ⟨n1, h2⟩ := h
  exact dl_wj_X9_walk_9 n1 _ _ _ _ _ _ h2 (fun b0_ b1_ g_ r_ => hp _ _ g_ (fun post_ hq_ => r_ _ hq_))
theorem d_wj_X9_roundsOf_93 {K7 : Int32 → Int32 → Int32 → Int32 → Int32 → mS → Prop} {post : Int32 → mS → Prop} {x1 : Int32} {x2 : Int32} {x4 : Int32} {x5 : Int32} {x6 : Int32} {u : mS} {goal : Prop} (h : wj_X9_roundsOf_93 K7 post x1 x2 x4 x5 x6 u) (hK7 : ∀ (b0_ : Int32) (b1_ : Int32) (b2_ : Int32) (b3_ : Int32) (b4_ : Int32) (b5_ : mS), K7 b0_ b1_ b2_ b3_ b4_ b5_ → (∀ (K7_ : Int32 → Int32 → Int32 → Int32 → Int32 → mS → Prop) (post_ : Int32 → mS → Prop), K7_ b0_ b1_ b2_ b3_ b4_ b5_ → wj_X9_roundsOf_93 K7_ post_ x1 x2 x4 x5 x6 u) → goal) (hp : ∀ (b0_ : Int32) (b1_ : mS), post b0_ b1_ → (∀ (K7_ : Int32 → Int32 → Int32 → Int32 → Int32 → mS → Prop) (post_ : Int32 → mS → Prop), post_ b0_ b1_ → wj_X9_roundsOf_93 K7_ post_ x1 x2 x4 x5 x6 u) → goal) : goal := by
  have h1 := h _ rfl
  exact hK7 _ _ _ _ _ _ h1 (fun K7_ post_ hq_ => by
        rintro _ rfl
        exact hq_)
theorem d_wj_X9_roundsOf_91 {K7 : Int32 → Int32 → Int32 → Int32 → Int32 → mS → Prop} {post : Int32 → mS → Prop} {x1 : Int32} {x2 : Int32} {x4 : Int32} {x6 : Int32} {z0 : Int32} {u : mS} {goal : Prop} (h : wj_X9_roundsOf_91 K7 post x1 x2 x4 x6 z0 u) (hK7 : ∀ (b0_ : Int32) (b1_ : Int32) (b2_ : Int32) (b3_ : Int32) (b4_ : Int32) (b5_ : mS), K7 b0_ b1_ b2_ b3_ b4_ b5_ → (∀ (K7_ : Int32 → Int32 → Int32 → Int32 → Int32 → mS → Prop) (post_ : Int32 → mS → Prop), K7_ b0_ b1_ b2_ b3_ b4_ b5_ → wj_X9_roundsOf_91 K7_ post_ x1 x2 x4 x6 z0 u) → goal) (hp : ∀ (b0_ : Int32) (b1_ : mS), post b0_ b1_ → (∀ (K7_ : Int32 → Int32 → Int32 → Int32 → Int32 → mS → Prop) (post_ : Int32 → mS → Prop), post_ b0_ b1_ → wj_X9_roundsOf_91 K7_ post_ x1 x2 x4 x6 z0 u) → goal) : goal := by
  exact d_wj_X9_roundsOf_93 h (fun b0_ b1_ b2_ b3_ b4_ b5_ g_ r_ => hK7 _ _ _ _ _ _ g_ (fun K7_ post_ hq_ => r_ _ _ hq_)) (fun b0_ b1_ g_ r_ => hp _ _ g_ (fun K7_ post_ hq_ => r_ _ _ hq_))
theorem d_wj_X9_roundsOf_85 {K7 : Int32 → Int32 → Int32 → Int32 → Int32 → mS → Prop} {post : Int32 → mS → Prop} {x1 : Int32} {x2 : Int32} {x4 : Int32} {x6 : Int32} {x8 : Int32} {u : mS} {goal : Prop} (h : wj_X9_roundsOf_85 K7 post x1 x2 x4 x6 x8 u) (hK7 : ∀ (b0_ : Int32) (b1_ : Int32) (b2_ : Int32) (b3_ : Int32) (b4_ : Int32) (b5_ : mS), K7 b0_ b1_ b2_ b3_ b4_ b5_ → (∀ (K7_ : Int32 → Int32 → Int32 → Int32 → Int32 → mS → Prop) (post_ : Int32 → mS → Prop), K7_ b0_ b1_ b2_ b3_ b4_ b5_ → wj_X9_roundsOf_85 K7_ post_ x1 x2 x4 x6 x8 u) → goal) (hp : ∀ (b0_ : Int32) (b1_ : mS), post b0_ b1_ → (∀ (K7_ : Int32 → Int32 → Int32 → Int32 → Int32 → mS → Prop) (post_ : Int32 → mS → Prop), post_ b0_ b1_ → wj_X9_roundsOf_85 K7_ post_ x1 x2 x4 x6 x8 u) → goal) : goal := by
  exact d_wj_X9_roundsOf_91 h (fun b0_ b1_ b2_ b3_ b4_ b5_ g_ r_ => hK7 _ _ _ _ _ _ g_ (fun K7_ post_ hq_ => r_ _ _ hq_)) (fun b0_ b1_ g_ r_ => hp _ _ g_ (fun K7_ post_ hq_ => r_ _ _ hq_))
theorem d_wj_X9_roundsOf_50 {K7 : Int32 → Int32 → Int32 → Int32 → Int32 → mS → Prop} {post : Int32 → mS → Prop} {x1 : Int32} {x2 : Int32} {x4 : Int32} {x5 : Int32} {x6 : Int32} {z0 : Int32} {u : mS} {goal : Prop} (h : wj_X9_roundsOf_50 K7 post x1 x2 x4 x5 x6 z0 u) (hK7 : ∀ (b0_ : Int32) (b1_ : Int32) (b2_ : Int32) (b3_ : Int32) (b4_ : Int32) (b5_ : mS), K7 b0_ b1_ b2_ b3_ b4_ b5_ → (∀ (K7_ : Int32 → Int32 → Int32 → Int32 → Int32 → mS → Prop) (post_ : Int32 → mS → Prop), K7_ b0_ b1_ b2_ b3_ b4_ b5_ → wj_X9_roundsOf_50 K7_ post_ x1 x2 x4 x5 x6 z0 u) → goal) (hp : ∀ (b0_ : Int32) (b1_ : mS), post b0_ b1_ → (∀ (K7_ : Int32 → Int32 → Int32 → Int32 → Int32 → mS → Prop) (post_ : Int32 → mS → Prop), post_ b0_ b1_ → wj_X9_roundsOf_50 K7_ post_ x1 x2 x4 x5 x6 z0 u) → goal) : goal := by
  refine el_p h (fun c1 h2 => ?_) (fun c1 h2 => ?_)
  · exact d_wj_X9_roundsOf_93 h2 (fun b0_ b1_ b2_ b3_ b4_ b5_ g_ r_ => hK7 _ _ _ _ _ _ g_ (fun K7_ post_ hq_ => by
            refine ⟨fun _ => ?_, fun q_ => absurd c1 q_⟩
            exact r_ _ _ hq_)) (fun b0_ b1_ g_ r_ => hp _ _ g_ (fun K7_ post_ hq_ => by
            refine ⟨fun _ => ?_, fun q_ => absurd c1 q_⟩
            exact r_ _ _ hq_))
  · have h3 := h2 _ rfl
    refine d_wp_X9_walk h3 (fun w6 w7 h4 r5 => ?_)
    refine el_p h4 (fun c8 h9 => ?_) (fun c8 h9 => ?_)
    · exact d_wj_X9_roundsOf_85 h9 (fun b0_ b1_ b2_ b3_ b4_ b5_ g_ r_ => hK7 _ _ _ _ _ _ g_ (fun K7_ post_ hq_ => by
              refine ⟨fun q_ => absurd q_ c1, fun _ => ?_⟩
              rintro _ rfl
              refine r5 _ ?_
              refine ⟨fun _ => ?_, fun q_ => absurd c8 q_⟩
              exact r_ _ _ hq_)) (fun b0_ b1_ g_ r_ => hp _ _ g_ (fun K7_ post_ hq_ => by
              refine ⟨fun q_ => absurd q_ c1, fun _ => ?_⟩
              rintro _ rfl
              refine r5 _ ?_
              refine ⟨fun _ => ?_, fun q_ => absurd c8 q_⟩
              exact r_ _ _ hq_))
    · refine el_n h9 (fun c10 h11 => ?_) (fun c10 h11 => ?_)
      · exact d_wj_X9_roundsOf_91 h11 (fun b0_ b1_ b2_ b3_ b4_ b5_ g_ r_ => hK7 _ _ _ _ _ _ g_ (fun K7_ post_ hq_ => by
                refine ⟨fun q_ => absurd q_ c1, fun _ => ?_⟩
                rintro _ rfl
                refine r5 _ ?_
                refine ⟨fun q_ => absurd q_ c8, fun _ => ?_⟩
                refine ⟨fun _ => ?_, fun q_ => absurd q_ c10⟩
                exact r_ _ _ hq_)) (fun b0_ b1_ g_ r_ => hp _ _ g_ (fun K7_ post_ hq_ => by
                refine ⟨fun q_ => absurd q_ c1, fun _ => ?_⟩
                rintro _ rfl
                refine r5 _ ?_
                refine ⟨fun q_ => absurd q_ c8, fun _ => ?_⟩
                refine ⟨fun _ => ?_, fun q_ => absurd q_ c10⟩
                exact r_ _ _ hq_))
      · exact d_wj_X9_roundsOf_85 h11 (fun b0_ b1_ b2_ b3_ b4_ b5_ g_ r_ => hK7 _ _ _ _ _ _ g_ (fun K7_ post_ hq_ => by
                refine ⟨fun q_ => absurd q_ c1, fun _ => ?_⟩
                rintro _ rfl
                refine r5 _ ?_
                refine ⟨fun q_ => absurd q_ c8, fun _ => ?_⟩
                refine ⟨fun q_ => absurd c10 q_, fun _ => ?_⟩
                exact r_ _ _ hq_)) (fun b0_ b1_ g_ r_ => hp _ _ g_ (fun K7_ post_ hq_ => by
                refine ⟨fun q_ => absurd q_ c1, fun _ => ?_⟩
                rintro _ rfl
                refine r5 _ ?_
                refine ⟨fun q_ => absurd q_ c8, fun _ => ?_⟩
                refine ⟨fun q_ => absurd c10 q_, fun _ => ?_⟩
                exact r_ _ _ hq_))
theorem d_wj_X9_roundsOf_7 {K7 : Int32 → Int32 → Int32 → Int32 → Int32 → mS → Prop} {post : Int32 → mS → Prop} {x1 : Int32} {x2 : Int32} {x4 : Int32} {x5 : Int32} {x6 : Int32} {u : mS} {goal : Prop} (h : wj_X9_roundsOf_7 K7 post x1 x2 x4 x5 x6 u) (hK7 : ∀ (b0_ : Int32) (b1_ : Int32) (b2_ : Int32) (b3_ : Int32) (b4_ : Int32) (b5_ : mS), K7 b0_ b1_ b2_ b3_ b4_ b5_ → (∀ (K7_ : Int32 → Int32 → Int32 → Int32 → Int32 → mS → Prop) (post_ : Int32 → mS → Prop), K7_ b0_ b1_ b2_ b3_ b4_ b5_ → wj_X9_roundsOf_7 K7_ post_ x1 x2 x4 x5 x6 u) → goal) (hp : ∀ (b0_ : Int32) (b1_ : mS), post b0_ b1_ → (∀ (K7_ : Int32 → Int32 → Int32 → Int32 → Int32 → mS → Prop) (post_ : Int32 → mS → Prop), post_ b0_ b1_ → wj_X9_roundsOf_7 K7_ post_ x1 x2 x4 x5 x6 u) → goal) : goal := by
  refine el_p h (fun c1 h2 => ?_) (fun c1 h2 => ?_)
  · exact hp _ _ h2 (fun K7_ post_ hq_ => by
            refine ⟨fun _ => ?_, fun q_ => absurd c1 q_⟩
            exact hq_)
  · refine d_wp_X9_kind_4 h2 (fun w5 w6 h3 r4 => ?_)
    refine el_n h3 (fun c7 h8 => ?_) (fun c7 h8 => ?_)
    · exact d_wj_X9_roundsOf_50 h8 (fun b0_ b1_ b2_ b3_ b4_ b5_ g_ r_ => hK7 _ _ _ _ _ _ g_ (fun K7_ post_ hq_ => by
              refine ⟨fun q_ => absurd q_ c1, fun _ => ?_⟩
              refine r4 _ ?_
              refine ⟨fun _ => ?_, fun q_ => absurd q_ c7⟩
              exact r_ _ _ hq_)) (fun b0_ b1_ g_ r_ => hp _ _ g_ (fun K7_ post_ hq_ => by
              refine ⟨fun q_ => absurd q_ c1, fun _ => ?_⟩
              refine r4 _ ?_
              refine ⟨fun _ => ?_, fun q_ => absurd q_ c7⟩
              exact r_ _ _ hq_))
    · have v10 := h8.1
      have h9 := h8.2
      have h11 := h9 _ rfl
      have v13 := h11.1
      have h12 := h11.2
      have h14 := h12 _ rfl
      refine d_wp_X9_variable h14 (fun w17 w18 h15 r16 => ?_)
      exact d_wj_X9_roundsOf_50 h15 (fun b0_ b1_ b2_ b3_ b4_ b5_ g_ r_ => hK7 _ _ _ _ _ _ g_ (fun K7_ post_ hq_ => by
              refine ⟨fun q_ => absurd q_ c1, fun _ => ?_⟩
              refine r4 _ ?_
              refine ⟨fun q_ => absurd c7 q_, fun _ => ?_⟩
              refine ⟨v10, ?_⟩
              rintro _ rfl
              refine ⟨v13, ?_⟩
              rintro _ rfl
              refine r16 _ ?_
              exact r_ _ _ hq_)) (fun b0_ b1_ g_ r_ => hp _ _ g_ (fun K7_ post_ hq_ => by
              refine ⟨fun q_ => absurd q_ c1, fun _ => ?_⟩
              refine r4 _ ?_
              refine ⟨fun q_ => absurd c7 q_, fun _ => ?_⟩
              refine ⟨v10, ?_⟩
              rintro _ rfl
              refine ⟨v13, ?_⟩
              rintro _ rfl
              refine r16 _ ?_
              exact r_ _ _ hq_))
theorem dl_wj_X9_roundsOf_7 {post : Int32 → mS → Prop} {goal : Prop} : ∀ (n_ : Nat) (x1 : Int32) (x2 : Int32) (x4 : Int32) (x5 : Int32) (x6 : Int32) (u : mS), mL6 (fun K_ => wj_X9_roundsOf_7 K_ post) n_ x1 x2 x4 x5 x6 u → (∀ (b0_ : Int32) (b1_ : mS), post b0_ b1_ → (∀ (post_ : Int32 → mS → Prop), post_ b0_ b1_ → ∃ m_, mL6 (fun K_ => wj_X9_roundsOf_7 K_ post_) m_ x1 x2 x4 x5 x6 u) → goal) → goal
  | 0, _, _, _, _, _, _, h, _ => h.elim
  | n_ + 1, x1, x2, x4, x5, x6, u, h, hp => d_wj_X9_roundsOf_7 h (fun b0_ b1_ b2_ b3_ b4_ b5_ g_ r_ => dl_wj_X9_roundsOf_7 n_ b0_ b1_ b2_ b3_ b4_ b5_ g_ (fun b0_ b1_ g2_ r2_ => hp b0_ b1_ g2_ (fun post_ hq_ => (r2_ post_ hq_).elim (fun m_ hm_ => ⟨m_ + 1, r_ _ _ hm_⟩)))) (fun b0_ b1_ g_ r_ => hp b0_ b1_ g_ (fun post_ hq_ => ⟨1, r_ _ _ hq_⟩))
theorem d_wp_X9_roundsOf {x1 : Int32} {x2 : Int32} {x3 : Int32} {x4 : Int32} {u : mS} {post : Int32 → mS → Prop} {goal : Prop} (h : wp_X9_roundsOf x1 x2 x3 x4 u post) (hp : ∀ (b0_ : Int32) (b1_ : mS), post b0_ b1_ → (∀ (post_ : Int32 → mS → Prop), post_ b0_ b1_ → wp_X9_roundsOf x1 x2 x3 x4 u post_) → goal) : goal := by
  obtain ⟨n1, h2⟩ := h
  exact dl_wj_X9_roundsOf_7 n1 _ _ _ _ _ _ h2 (fun b0_ b1_ g_ r_ => hp _ _ g_ (fun post_ hq_ => r_ _ hq_))
theorem d_wj_X9_hold_31 {post : Int32 → mS → Prop} {x3 : Int32} {x4 : Int32} {x5 : Int32} {u : mS} {goal : Prop} (h : wj_X9_hold_31 post x3 x4 x5 u) (hp : ∀ (b0_ : Int32) (b1_ : mS), post b0_ b1_ → (∀ (post_ : Int32 → mS → Prop), post_ b0_ b1_ → wj_X9_hold_31 post_ x3 x4 x5 u) → goal) : goal := by
  refine el_p h (fun c1 h2 => ?_) (fun c1 h2 => ?_)
  · have h3 := h2 _ rfl
    have v5 := h3.1
    have h4 := h3.2
    have h6 := h4 _ rfl
    have h7 := h6 _ rfl
    have v9 := h7.1
    have h8 := h7.2
    have h10 := h8 _ rfl
    have h11 := h10 _ rfl
    have v13 := h11.1
    have h12 := h11.2
    have h14 := h12 _ rfl
    have h15 := h14 _ rfl
    have h16 := h15 _ rfl
    have h17 := h16 _ rfl
    exact hp _ _ h17 (fun post_ hq_ => by
            refine ⟨fun _ => ?_, fun q_ => absurd c1 q_⟩
            rintro _ rfl
            refine ⟨v5, ?_⟩
            rintro _ rfl
            rintro _ rfl
            refine ⟨v9, ?_⟩
            rintro _ rfl
            rintro _ rfl
            refine ⟨v13, ?_⟩
            rintro _ rfl
            rintro _ rfl
            rintro _ rfl
            rintro _ rfl
            exact hq_)
  · have h18 := h2 _ rfl
    exact hp _ _ h18 (fun post_ hq_ => by
            refine ⟨fun q_ => absurd q_ c1, fun _ => ?_⟩
            rintro _ rfl
            exact hq_)
theorem d_wp_X9_hold {x1 : Int32} {x2 : Int32} {x3 : Int32} {u : mS} {post : Int32 → mS → Prop} {goal : Prop} (h : wp_X9_hold x1 x2 x3 u post) (hp : ∀ (b0_ : Int32) (b1_ : mS), post b0_ b1_ → (∀ (post_ : Int32 → mS → Prop), post_ b0_ b1_ → wp_X9_hold x1 x2 x3 u post_) → goal) : goal := by
  refine d_wp_X9_end_4 h (fun w3 w4 h1 r2 => ?_)
  refine d_wp_X9_roundsOf h1 (fun w7 w8 h5 r6 => ?_)
  refine el_p h5 (fun c9 h10 => ?_) (fun c9 h10 => ?_)
  · exact d_wj_X9_hold_31 h10 (fun b0_ b1_ g_ r_ => hp _ _ g_ (fun post_ hq_ => by
            refine r2 _ ?_
            refine r6 _ ?_
            refine ⟨fun _ => ?_, fun q_ => absurd c9 q_⟩
            exact r_ _ hq_))
  · refine d_wp_X9_fails h10 (fun w13 h11 r12 => ?_)
    exact d_wj_X9_hold_31 h11 (fun b0_ b1_ g_ r_ => hp _ _ g_ (fun post_ hq_ => by
            refine r2 _ ?_
            refine r6 _ ?_
            refine ⟨fun q_ => absurd q_ c9, fun _ => ?_⟩
            refine r12 _ ?_
            exact r_ _ hq_))
theorem d_wp_X9_again {x1 : Int32} {u : mS} {post : Int32 → mS → Prop} {goal : Prop} (h : wp_X9_again x1 u post) (hp : ∀ (b0_ : Int32) (b1_ : mS), post b0_ b1_ → (∀ (post_ : Int32 → mS → Prop), post_ b0_ b1_ → wp_X9_again x1 u post_) → goal) : goal := by
  have h1 := h _ rfl
  have h2 := h1 _ rfl
  have v4 := h2.1
  have h3 := h2.2
  have h5 := h3 _ rfl
  have h6 := h5 _ rfl
  have v8 := h6.1
  have h7 := h6.2
  have h9 := h7 _ rfl
  have h10 := h9 _ rfl
  have h11 := h10 _ rfl
  have v13 := h11.1
  have h12 := h11.2
  have h14 := h12 _ rfl
  have h15 := h14 _ rfl
  have h16 := h15 _ rfl
  have v18 := h16.1
  have h17 := h16.2
  have h19 := h17 _ rfl
  refine el_p h19 (fun c20 h21 => ?_) (fun c20 h21 => ?_)
  · have h22 := h21 _ rfl
    have h23 := h22 _ rfl
    have h24 := h23 _ rfl
    have h25 := h24 _ rfl
    exact hp _ _ h25 (fun post_ hq_ => by
            rintro _ rfl
            rintro _ rfl
            refine ⟨v4, ?_⟩
            rintro _ rfl
            rintro _ rfl
            refine ⟨v8, ?_⟩
            rintro _ rfl
            rintro _ rfl
            rintro _ rfl
            refine ⟨v13, ?_⟩
            rintro _ rfl
            rintro _ rfl
            rintro _ rfl
            refine ⟨v18, ?_⟩
            rintro _ rfl
            refine ⟨fun _ => ?_, fun q_ => absurd c20 q_⟩
            rintro _ rfl
            rintro _ rfl
            rintro _ rfl
            rintro _ rfl
            exact hq_)
  · have h26 := h21 _ rfl
    have h27 := h26 _ rfl
    have v29 := h27.1
    have h28 := h27.2
    have h30 := h28 _ rfl
    exact hp _ _ h30 (fun post_ hq_ => by
            rintro _ rfl
            rintro _ rfl
            refine ⟨v4, ?_⟩
            rintro _ rfl
            rintro _ rfl
            refine ⟨v8, ?_⟩
            rintro _ rfl
            rintro _ rfl
            rintro _ rfl
            refine ⟨v13, ?_⟩
            rintro _ rfl
            rintro _ rfl
            rintro _ rfl
            refine ⟨v18, ?_⟩
            rintro _ rfl
            refine ⟨fun q_ => absurd q_ c20, fun _ => ?_⟩
            rintro _ rfl
            rintro _ rfl
            refine ⟨v29, ?_⟩
            rintro _ rfl
            exact hq_)
theorem d_wj_X9_add_26 {post : mS → Prop} {x1 : Int32} {x2 : Int32} {u : mS} {goal : Prop} (h : wj_X9_add_26 post x1 x2 u) (hp : ∀ (b0_ : mS), post b0_ → (∀ (post_ : mS → Prop), post_ b0_ → wj_X9_add_26 post_ x1 x2 u) → goal) : goal := by
  have h1 := h _ rfl
  refine el_p h1 (fun c2 h3 => ?_) (fun c2 h3 => ?_)
  · have h4 := h3 _ rfl
    have v6 := h4.1
    have h5 := h4.2
    have h7 := h5 _ rfl
    have h8 := h7 _ rfl
    have v10 := h8.1
    have h9 := h8.2
    have h11 := h9 _ rfl
    have h12 := h11 _ rfl
    have h13 := h12 _ rfl
    have h14 := h13 _ rfl
    exact hp _ h14 (fun post_ hq_ => by
            rintro _ rfl
            refine ⟨fun _ => ?_, fun q_ => absurd c2 q_⟩
            rintro _ rfl
            refine ⟨v6, ?_⟩
            rintro _ rfl
            rintro _ rfl
            refine ⟨v10, ?_⟩
            rintro _ rfl
            rintro _ rfl
            rintro _ rfl
            rintro _ rfl
            exact hq_)
  · refine d_wp_X9_fails h3 (fun w17 h15 r16 => ?_)
    exact hp _ h15 (fun post_ hq_ => by
            rintro _ rfl
            refine ⟨fun q_ => absurd q_ c2, fun _ => ?_⟩
            refine r16 _ ?_
            exact hq_)
theorem d_wp_X9_add {x1 : Int32} {x2 : Int32} {u : mS} {post : mS → Prop} {goal : Prop} (h : wp_X9_add x1 x2 u post) (hp : ∀ (b0_ : mS), post b0_ → (∀ (post_ : mS → Prop), post_ b0_ → wp_X9_add x1 x2 u post_) → goal) : goal := by
  have h1 := h _ rfl
  refine el_p h1 (fun c2 h3 => ?_) (fun c2 h3 => ?_)
  · exact d_wj_X9_add_26 h3 (fun b0_ g_ r_ => hp _ g_ (fun post_ hq_ => by
            rintro _ rfl
            refine ⟨fun _ => ?_, fun q_ => absurd c2 q_⟩
            exact r_ _ hq_))
  · refine el_p h3 (fun c4 h5 => ?_) (fun c4 h5 => ?_)
    · exact d_wj_X9_add_26 h5 (fun b0_ g_ r_ => hp _ g_ (fun post_ hq_ => by
              rintro _ rfl
              refine ⟨fun q_ => absurd q_ c2, fun _ => ?_⟩
              refine ⟨fun _ => ?_, fun q_ => absurd c4 q_⟩
              exact r_ _ hq_))
    · have h6 := h5 _ rfl
      have h7 := h6 _ rfl
      have h8 := h7 _ rfl
      exact d_wj_X9_add_26 h8 (fun b0_ g_ r_ => hp _ g_ (fun post_ hq_ => by
              rintro _ rfl
              refine ⟨fun q_ => absurd q_ c2, fun _ => ?_⟩
              refine ⟨fun q_ => absurd q_ c4, fun _ => ?_⟩
              rintro _ rfl
              rintro _ rfl
              rintro _ rfl
              exact r_ _ hq_))
theorem d_wj_X9_bring_11 {K11 : Int32 → Int32 → mS → Prop} {post : mS → Prop} {x2 : Int32} {x3 : Int32} {u : mS} {goal : Prop} (h : wj_X9_bring_11 K11 post x2 x3 u) (hK11 : ∀ (b0_ : Int32) (b1_ : Int32) (b2_ : mS), K11 b0_ b1_ b2_ → (∀ (K11_ : Int32 → Int32 → mS → Prop) (post_ : mS → Prop), K11_ b0_ b1_ b2_ → wj_X9_bring_11 K11_ post_ x2 x3 u) → goal) (hp : ∀ (b0_ : mS), post b0_ → (∀ (K11_ : Int32 → Int32 → mS → Prop) (post_ : mS → Prop), post_ b0_ → wj_X9_bring_11 K11_ post_ x2 x3 u) → goal) : goal := by
  refine el_p h (fun c1 h2 => ?_) (fun c1 h2 => ?_)
  · exact hp _ h2 (fun K11_ post_ hq_ => by
            refine ⟨fun _ => ?_, fun q_ => absurd c1 q_⟩
            exact hq_)
  · have h3 := h2 _ rfl
    refine el_n h3 (fun c4 h5 => ?_) (fun c4 h5 => ?_)
    · exact hp _ h5 (fun K11_ post_ hq_ => by
              refine ⟨fun q_ => absurd q_ c1, fun _ => ?_⟩
              rintro _ rfl
              refine ⟨fun _ => ?_, fun q_ => absurd q_ c4⟩
              exact hq_)
    · have v7 := h5.1
      have h6 := h5.2
      have h8 := h6 _ rfl
      have v10 := h8.1
      have h9 := h8.2
      have h11 := h9 _ rfl
      refine d_wp_X9_add h11 (fun w14 h12 r13 => ?_)
      have h15 := h12 _ rfl
      exact hK11 _ _ _ h15 (fun K11_ post_ hq_ => by
              refine ⟨fun q_ => absurd q_ c1, fun _ => ?_⟩
              rintro _ rfl
              refine ⟨fun q_ => absurd c4 q_, fun _ => ?_⟩
              refine ⟨v7, ?_⟩
              rintro _ rfl
              refine ⟨v10, ?_⟩
              rintro _ rfl
              refine r13 _ ?_
              rintro _ rfl
              exact hq_)
theorem dl_wj_X9_bring_11 {post : mS → Prop} {goal : Prop} : ∀ (n_ : Nat) (x2 : Int32) (x3 : Int32) (u : mS), mL3 (fun K_ => wj_X9_bring_11 K_ post) n_ x2 x3 u → (∀ (b0_ : mS), post b0_ → (∀ (post_ : mS → Prop), post_ b0_ → ∃ m_, mL3 (fun K_ => wj_X9_bring_11 K_ post_) m_ x2 x3 u) → goal) → goal
  | 0, _, _, _, h, _ => h.elim
  | n_ + 1, x2, x3, u, h, hp => d_wj_X9_bring_11 h (fun b0_ b1_ b2_ g_ r_ => dl_wj_X9_bring_11 n_ b0_ b1_ b2_ g_ (fun b0_ g2_ r2_ => hp b0_ g2_ (fun post_ hq_ => (r2_ post_ hq_).elim (fun m_ hm_ => ⟨m_ + 1, r_ _ _ hm_⟩)))) (fun b0_ g_ r_ => hp b0_ g_ (fun post_ hq_ => ⟨1, r_ _ _ hq_⟩))
theorem d_wp_X9_bring {x1 : Int32} {u : mS} {post : mS → Prop} {goal : Prop} (h : wp_X9_bring x1 u post) (hp : ∀ (b0_ : mS), post b0_ → (∀ (post_ : mS → Prop), post_ b0_ → wp_X9_bring x1 u post_) → goal) : goal := by
  refine d_wp_X9_end_2 h (fun w3 w4 h1 r2 => ?_)
  obtain ⟨n5, h6⟩ := h1
  exact dl_wj_X9_bring_11 n5 _ _ _ h6 (fun b0_ g_ r_ => hp _ g_ (fun post_ hq_ => by
        refine r2 _ ?_
        exact r_ _ hq_))
theorem d_wj_X9_fill_223 {K37 : Int32 → Int32 → Int32 → Int32 → mS → Prop} {post : mS → Prop} {x1 : Int32} {x2 : Int32} {x4 : Int32} {x5 : Int32} {u : mS} {goal : Prop} (h : wj_X9_fill_223 K37 post x1 x2 x4 x5 u) (hK37 : ∀ (b0_ : Int32) (b1_ : Int32) (b2_ : Int32) (b3_ : Int32) (b4_ : mS), K37 b0_ b1_ b2_ b3_ b4_ → (∀ (K37_ : Int32 → Int32 → Int32 → Int32 → mS → Prop) (post_ : mS → Prop), K37_ b0_ b1_ b2_ b3_ b4_ → wj_X9_fill_223 K37_ post_ x1 x2 x4 x5 u) → goal) (hp : ∀ (b0_ : mS), post b0_ → (∀ (K37_ : Int32 → Int32 → Int32 → Int32 → mS → Prop) (post_ : mS → Prop), post_ b0_ → wj_X9_fill_223 K37_ post_ x1 x2 x4 x5 u) → goal) : goal := by
  have h1 := h _ rfl
  exact hK37 _ _ _ _ _ h1 (fun K37_ post_ hq_ => by
        rintro _ rfl
        exact hq_)
theorem d_wj_X9_fill_181 {K37 : Int32 → Int32 → Int32 → Int32 → mS → Prop} {post : mS → Prop} {x1 : Int32} {x2 : Int32} {x4 : Int32} {x5 : Int32} {z0 : Int32} {u : mS} {goal : Prop} (h : wj_X9_fill_181 K37 post x1 x2 x4 x5 z0 u) (hK37 : ∀ (b0_ : Int32) (b1_ : Int32) (b2_ : Int32) (b3_ : Int32) (b4_ : mS), K37 b0_ b1_ b2_ b3_ b4_ → (∀ (K37_ : Int32 → Int32 → Int32 → Int32 → mS → Prop) (post_ : mS → Prop), K37_ b0_ b1_ b2_ b3_ b4_ → wj_X9_fill_181 K37_ post_ x1 x2 x4 x5 z0 u) → goal) (hp : ∀ (b0_ : mS), post b0_ → (∀ (K37_ : Int32 → Int32 → Int32 → Int32 → mS → Prop) (post_ : mS → Prop), post_ b0_ → wj_X9_fill_181 K37_ post_ x1 x2 x4 x5 z0 u) → goal) : goal := by
  refine el_p h (fun c1 h2 => ?_) (fun c1 h2 => ?_)
  · refine d_wp_X9_walk h2 (fun w5 w6 h3 r4 => ?_)
    refine d_wp_X9_bring h3 (fun w9 h7 r8 => ?_)
    exact d_wj_X9_fill_223 h7 (fun b0_ b1_ b2_ b3_ b4_ g_ r_ => hK37 _ _ _ _ _ g_ (fun K37_ post_ hq_ => by
            refine ⟨fun _ => ?_, fun q_ => absurd c1 q_⟩
            refine r4 _ ?_
            refine r8 _ ?_
            exact r_ _ _ hq_)) (fun b0_ g_ r_ => hp _ g_ (fun K37_ post_ hq_ => by
            refine ⟨fun _ => ?_, fun q_ => absurd c1 q_⟩
            refine r4 _ ?_
            refine r8 _ ?_
            exact r_ _ _ hq_))
  · have v11 := h2.1
    have h10 := h2.2
    have h12 := h10 _ rfl
    have v14 := h12.1
    have h13 := h12.2
    have h15 := h13 _ rfl
    refine d_wp_X9_add h15 (fun w18 h16 r17 => ?_)
    exact d_wj_X9_fill_223 h16 (fun b0_ b1_ b2_ b3_ b4_ g_ r_ => hK37 _ _ _ _ _ g_ (fun K37_ post_ hq_ => by
            refine ⟨fun q_ => absurd q_ c1, fun _ => ?_⟩
            refine ⟨v11, ?_⟩
            rintro _ rfl
            refine ⟨v14, ?_⟩
            rintro _ rfl
            refine r17 _ ?_
            exact r_ _ _ hq_)) (fun b0_ g_ r_ => hp _ g_ (fun K37_ post_ hq_ => by
            refine ⟨fun q_ => absurd q_ c1, fun _ => ?_⟩
            refine ⟨v11, ?_⟩
            rintro _ rfl
            refine ⟨v14, ?_⟩
            rintro _ rfl
            refine r17 _ ?_
            exact r_ _ _ hq_))
theorem d_wj_X9_fill_152 {K37 : Int32 → Int32 → Int32 → Int32 → mS → Prop} {post : mS → Prop} {x1 : Int32} {x2 : Int32} {x4 : Int32} {x5 : Int32} {x6 : Int32} {u : mS} {goal : Prop} (h : wj_X9_fill_152 K37 post x1 x2 x4 x5 x6 u) (hK37 : ∀ (b0_ : Int32) (b1_ : Int32) (b2_ : Int32) (b3_ : Int32) (b4_ : mS), K37 b0_ b1_ b2_ b3_ b4_ → (∀ (K37_ : Int32 → Int32 → Int32 → Int32 → mS → Prop) (post_ : mS → Prop), K37_ b0_ b1_ b2_ b3_ b4_ → wj_X9_fill_152 K37_ post_ x1 x2 x4 x5 x6 u) → goal) (hp : ∀ (b0_ : mS), post b0_ → (∀ (K37_ : Int32 → Int32 → Int32 → Int32 → mS → Prop) (post_ : mS → Prop), post_ b0_ → wj_X9_fill_152 K37_ post_ x1 x2 x4 x5 x6 u) → goal) : goal := by
  refine el_n h (fun c1 h2 => ?_) (fun c1 h2 => ?_)
  · exact d_wj_X9_fill_181 h2 (fun b0_ b1_ b2_ b3_ b4_ g_ r_ => hK37 _ _ _ _ _ g_ (fun K37_ post_ hq_ => by
            refine ⟨fun _ => ?_, fun q_ => absurd q_ c1⟩
            exact r_ _ _ hq_)) (fun b0_ g_ r_ => hp _ g_ (fun K37_ post_ hq_ => by
            refine ⟨fun _ => ?_, fun q_ => absurd q_ c1⟩
            exact r_ _ _ hq_))
  · have v4 := h2.1
    have h3 := h2.2
    have h5 := h3 _ rfl
    have v7 := h5.1
    have h6 := h5.2
    have h8 := h6 _ rfl
    refine d_wp_X9_variable h8 (fun w11 w12 h9 r10 => ?_)
    exact d_wj_X9_fill_181 h9 (fun b0_ b1_ b2_ b3_ b4_ g_ r_ => hK37 _ _ _ _ _ g_ (fun K37_ post_ hq_ => by
            refine ⟨fun q_ => absurd c1 q_, fun _ => ?_⟩
            refine ⟨v4, ?_⟩
            rintro _ rfl
            refine ⟨v7, ?_⟩
            rintro _ rfl
            refine r10 _ ?_
            exact r_ _ _ hq_)) (fun b0_ g_ r_ => hp _ g_ (fun K37_ post_ hq_ => by
            refine ⟨fun q_ => absurd c1 q_, fun _ => ?_⟩
            refine ⟨v4, ?_⟩
            rintro _ rfl
            refine ⟨v7, ?_⟩
            rintro _ rfl
            refine r10 _ ?_
            exact r_ _ _ hq_))
theorem d_wj_X9_fill_37 {K37 : Int32 → Int32 → Int32 → Int32 → mS → Prop} {post : mS → Prop} {x1 : Int32} {x2 : Int32} {x4 : Int32} {x5 : Int32} {u : mS} {goal : Prop} (h : wj_X9_fill_37 K37 post x1 x2 x4 x5 u) (hK37 : ∀ (b0_ : Int32) (b1_ : Int32) (b2_ : Int32) (b3_ : Int32) (b4_ : mS), K37 b0_ b1_ b2_ b3_ b4_ → (∀ (K37_ : Int32 → Int32 → Int32 → Int32 → mS → Prop) (post_ : mS → Prop), K37_ b0_ b1_ b2_ b3_ b4_ → wj_X9_fill_37 K37_ post_ x1 x2 x4 x5 u) → goal) (hp : ∀ (b0_ : mS), post b0_ → (∀ (K37_ : Int32 → Int32 → Int32 → Int32 → mS → Prop) (post_ : mS → Prop), post_ b0_ → wj_X9_fill_37 K37_ post_ x1 x2 x4 x5 u) → goal) : goal := by
  refine el_p h (fun c1 h2 => ?_) (fun c1 h2 => ?_)
  · exact hp _ h2 (fun K37_ post_ hq_ => by
            refine ⟨fun _ => ?_, fun q_ => absurd c1 q_⟩
            exact hq_)
  · have h3 := h2 _ rfl
    refine el_n h3 (fun c4 h5 => ?_) (fun c4 h5 => ?_)
    · exact hp _ h5 (fun K37_ post_ hq_ => by
              refine ⟨fun q_ => absurd q_ c1, fun _ => ?_⟩
              rintro _ rfl
              refine ⟨fun _ => ?_, fun q_ => absurd q_ c4⟩
              exact hq_)
    · refine d_wp_X9_kind_4 h5 (fun w8 w9 h6 r7 => ?_)
      refine el_n h6 (fun c10 h11 => ?_) (fun c10 h11 => ?_)
      · refine el_p h11 (fun c12 h13 => ?_) (fun c12 h13 => ?_)
        · exact d_wj_X9_fill_152 h13 (fun b0_ b1_ b2_ b3_ b4_ g_ r_ => hK37 _ _ _ _ _ g_ (fun K37_ post_ hq_ => by
                  refine ⟨fun q_ => absurd q_ c1, fun _ => ?_⟩
                  rintro _ rfl
                  refine ⟨fun q_ => absurd c4 q_, fun _ => ?_⟩
                  refine r7 _ ?_
                  refine ⟨fun _ => ?_, fun q_ => absurd q_ c10⟩
                  refine ⟨fun _ => ?_, fun q_ => absurd c12 q_⟩
                  exact r_ _ _ hq_)) (fun b0_ g_ r_ => hp _ g_ (fun K37_ post_ hq_ => by
                  refine ⟨fun q_ => absurd q_ c1, fun _ => ?_⟩
                  rintro _ rfl
                  refine ⟨fun q_ => absurd c4 q_, fun _ => ?_⟩
                  refine r7 _ ?_
                  refine ⟨fun _ => ?_, fun q_ => absurd q_ c10⟩
                  refine ⟨fun _ => ?_, fun q_ => absurd c12 q_⟩
                  exact r_ _ _ hq_))
        · refine d_wp_X9_isHeld h13 (fun w16 w17 h14 r15 => ?_)
          refine el_n h14 (fun c18 h19 => ?_) (fun c18 h19 => ?_)
          · exact d_wj_X9_fill_152 h19 (fun b0_ b1_ b2_ b3_ b4_ g_ r_ => hK37 _ _ _ _ _ g_ (fun K37_ post_ hq_ => by
                    refine ⟨fun q_ => absurd q_ c1, fun _ => ?_⟩
                    rintro _ rfl
                    refine ⟨fun q_ => absurd c4 q_, fun _ => ?_⟩
                    refine r7 _ ?_
                    refine ⟨fun _ => ?_, fun q_ => absurd q_ c10⟩
                    refine ⟨fun q_ => absurd q_ c12, fun _ => ?_⟩
                    refine r15 _ ?_
                    refine ⟨fun _ => ?_, fun q_ => absurd q_ c18⟩
                    exact r_ _ _ hq_)) (fun b0_ g_ r_ => hp _ g_ (fun K37_ post_ hq_ => by
                    refine ⟨fun q_ => absurd q_ c1, fun _ => ?_⟩
                    rintro _ rfl
                    refine ⟨fun q_ => absurd c4 q_, fun _ => ?_⟩
                    refine r7 _ ?_
                    refine ⟨fun _ => ?_, fun q_ => absurd q_ c10⟩
                    refine ⟨fun q_ => absurd q_ c12, fun _ => ?_⟩
                    refine r15 _ ?_
                    refine ⟨fun _ => ?_, fun q_ => absurd q_ c18⟩
                    exact r_ _ _ hq_))
          · refine d_wp_X9_end_4 h19 (fun w22 w23 h20 r21 => ?_)
            refine el_p h20 (fun c24 h25 => ?_) (fun c24 h25 => ?_)
            · exact d_wj_X9_fill_152 h25 (fun b0_ b1_ b2_ b3_ b4_ g_ r_ => hK37 _ _ _ _ _ g_ (fun K37_ post_ hq_ => by
                      refine ⟨fun q_ => absurd q_ c1, fun _ => ?_⟩
                      rintro _ rfl
                      refine ⟨fun q_ => absurd c4 q_, fun _ => ?_⟩
                      refine r7 _ ?_
                      refine ⟨fun _ => ?_, fun q_ => absurd q_ c10⟩
                      refine ⟨fun q_ => absurd q_ c12, fun _ => ?_⟩
                      refine r15 _ ?_
                      refine ⟨fun q_ => absurd c18 q_, fun _ => ?_⟩
                      refine r21 _ ?_
                      refine ⟨fun _ => ?_, fun q_ => absurd c24 q_⟩
                      exact r_ _ _ hq_)) (fun b0_ g_ r_ => hp _ g_ (fun K37_ post_ hq_ => by
                      refine ⟨fun q_ => absurd q_ c1, fun _ => ?_⟩
                      rintro _ rfl
                      refine ⟨fun q_ => absurd c4 q_, fun _ => ?_⟩
                      refine r7 _ ?_
                      refine ⟨fun _ => ?_, fun q_ => absurd q_ c10⟩
                      refine ⟨fun q_ => absurd q_ c12, fun _ => ?_⟩
                      refine r15 _ ?_
                      refine ⟨fun q_ => absurd c18 q_, fun _ => ?_⟩
                      refine r21 _ ?_
                      refine ⟨fun _ => ?_, fun q_ => absurd c24 q_⟩
                      exact r_ _ _ hq_))
            · refine d_wp_X9_end_4 h25 (fun w28 w29 h26 r27 => ?_)
              refine d_wp_X9_kind_4 h26 (fun w32 w33 h30 r31 => ?_)
              refine el_n h30 (fun c34 h35 => ?_) (fun c34 h35 => ?_)
              · exact d_wj_X9_fill_152 h35 (fun b0_ b1_ b2_ b3_ b4_ g_ r_ => hK37 _ _ _ _ _ g_ (fun K37_ post_ hq_ => by
                        refine ⟨fun q_ => absurd q_ c1, fun _ => ?_⟩
                        rintro _ rfl
                        refine ⟨fun q_ => absurd c4 q_, fun _ => ?_⟩
                        refine r7 _ ?_
                        refine ⟨fun _ => ?_, fun q_ => absurd q_ c10⟩
                        refine ⟨fun q_ => absurd q_ c12, fun _ => ?_⟩
                        refine r15 _ ?_
                        refine ⟨fun q_ => absurd c18 q_, fun _ => ?_⟩
                        refine r21 _ ?_
                        refine ⟨fun q_ => absurd q_ c24, fun _ => ?_⟩
                        refine r27 _ ?_
                        refine r31 _ ?_
                        refine ⟨fun _ => ?_, fun q_ => absurd q_ c34⟩
                        exact r_ _ _ hq_)) (fun b0_ g_ r_ => hp _ g_ (fun K37_ post_ hq_ => by
                        refine ⟨fun q_ => absurd q_ c1, fun _ => ?_⟩
                        rintro _ rfl
                        refine ⟨fun q_ => absurd c4 q_, fun _ => ?_⟩
                        refine r7 _ ?_
                        refine ⟨fun _ => ?_, fun q_ => absurd q_ c10⟩
                        refine ⟨fun q_ => absurd q_ c12, fun _ => ?_⟩
                        refine r15 _ ?_
                        refine ⟨fun q_ => absurd c18 q_, fun _ => ?_⟩
                        refine r21 _ ?_
                        refine ⟨fun q_ => absurd q_ c24, fun _ => ?_⟩
                        refine r27 _ ?_
                        refine r31 _ ?_
                        refine ⟨fun _ => ?_, fun q_ => absurd q_ c34⟩
                        exact r_ _ _ hq_))
              · refine d_wp_X9_hold h35 (fun w38 w39 h36 r37 => ?_)
                refine d_wp_X9_isHeld h36 (fun w42 w43 h40 r41 => ?_)
                refine el_n h40 (fun c44 h45 => ?_) (fun c44 h45 => ?_)
                · exact d_wj_X9_fill_152 h45 (fun b0_ b1_ b2_ b3_ b4_ g_ r_ => hK37 _ _ _ _ _ g_ (fun K37_ post_ hq_ => by
                          refine ⟨fun q_ => absurd q_ c1, fun _ => ?_⟩
                          rintro _ rfl
                          refine ⟨fun q_ => absurd c4 q_, fun _ => ?_⟩
                          refine r7 _ ?_
                          refine ⟨fun _ => ?_, fun q_ => absurd q_ c10⟩
                          refine ⟨fun q_ => absurd q_ c12, fun _ => ?_⟩
                          refine r15 _ ?_
                          refine ⟨fun q_ => absurd c18 q_, fun _ => ?_⟩
                          refine r21 _ ?_
                          refine ⟨fun q_ => absurd q_ c24, fun _ => ?_⟩
                          refine r27 _ ?_
                          refine r31 _ ?_
                          refine ⟨fun q_ => absurd c34 q_, fun _ => ?_⟩
                          refine r37 _ ?_
                          refine r41 _ ?_
                          refine ⟨fun _ => ?_, fun q_ => absurd q_ c44⟩
                          exact r_ _ _ hq_)) (fun b0_ g_ r_ => hp _ g_ (fun K37_ post_ hq_ => by
                          refine ⟨fun q_ => absurd q_ c1, fun _ => ?_⟩
                          rintro _ rfl
                          refine ⟨fun q_ => absurd c4 q_, fun _ => ?_⟩
                          refine r7 _ ?_
                          refine ⟨fun _ => ?_, fun q_ => absurd q_ c10⟩
                          refine ⟨fun q_ => absurd q_ c12, fun _ => ?_⟩
                          refine r15 _ ?_
                          refine ⟨fun q_ => absurd c18 q_, fun _ => ?_⟩
                          refine r21 _ ?_
                          refine ⟨fun q_ => absurd q_ c24, fun _ => ?_⟩
                          refine r27 _ ?_
                          refine r31 _ ?_
                          refine ⟨fun q_ => absurd c34 q_, fun _ => ?_⟩
                          refine r37 _ ?_
                          refine r41 _ ?_
                          refine ⟨fun _ => ?_, fun q_ => absurd q_ c44⟩
                          exact r_ _ _ hq_))
                · exact hK37 _ _ _ _ _ h45 (fun K37_ post_ hq_ => by
                          refine ⟨fun q_ => absurd q_ c1, fun _ => ?_⟩
                          rintro _ rfl
                          refine ⟨fun q_ => absurd c4 q_, fun _ => ?_⟩
                          refine r7 _ ?_
                          refine ⟨fun _ => ?_, fun q_ => absurd q_ c10⟩
                          refine ⟨fun q_ => absurd q_ c12, fun _ => ?_⟩
                          refine r15 _ ?_
                          refine ⟨fun q_ => absurd c18 q_, fun _ => ?_⟩
                          refine r21 _ ?_
                          refine ⟨fun q_ => absurd q_ c24, fun _ => ?_⟩
                          refine r27 _ ?_
                          refine r31 _ ?_
                          refine ⟨fun q_ => absurd c34 q_, fun _ => ?_⟩
                          refine r37 _ ?_
                          refine r41 _ ?_
                          refine ⟨fun q_ => absurd c44 q_, fun _ => ?_⟩
                          exact hq_)
      · refine d_wp_X9_again h11 (fun w48 w49 h46 r47 => ?_)
        exact hK37 _ _ _ _ _ h46 (fun K37_ post_ hq_ => by
                refine ⟨fun q_ => absurd q_ c1, fun _ => ?_⟩
                rintro _ rfl
                refine ⟨fun q_ => absurd c4 q_, fun _ => ?_⟩
                refine r7 _ ?_
                refine ⟨fun q_ => absurd c10 q_, fun _ => ?_⟩
                refine r47 _ ?_
                exact hq_)
theorem dl_wj_X9_fill_37 {post : mS → Prop} {goal : Prop} : ∀ (n_ : Nat) (x1 : Int32) (x2 : Int32) (x4 : Int32) (x5 : Int32) (u : mS), mL5 (fun K_ => wj_X9_fill_37 K_ post) n_ x1 x2 x4 x5 u → (∀ (b0_ : mS), post b0_ → (∀ (post_ : mS → Prop), post_ b0_ → ∃ m_, mL5 (fun K_ => wj_X9_fill_37 K_ post_) m_ x1 x2 x4 x5 u) → goal) → goal
  | 0, _, _, _, _, _, h, _ => h.elim
  | n_ + 1, x1, x2, x4, x5, u, h, hp => d_wj_X9_fill_37 h (fun b0_ b1_ b2_ b3_ b4_ g_ r_ => dl_wj_X9_fill_37 n_ b0_ b1_ b2_ b3_ b4_ g_ (fun b0_ g2_ r2_ => hp b0_ g2_ (fun post_ hq_ => (r2_ post_ hq_).elim (fun m_ hm_ => ⟨m_ + 1, r_ _ _ hm_⟩)))) (fun b0_ g_ r_ => hp b0_ g_ (fun post_ hq_ => ⟨1, r_ _ _ hq_⟩))
theorem d_wp_X9_fill {x1 : Int32} {x2 : Int32} {u : mS} {post : mS → Prop} {goal : Prop} (h : wp_X9_fill x1 x2 u post) (hp : ∀ (b0_ : mS), post b0_ → (∀ (post_ : mS → Prop), post_ b0_ → wp_X9_fill x1 x2 u post_) → goal) : goal := by
  refine d_wp_X9_end_4 h (fun w3 w4 h1 r2 => ?_)
  refine d_wp_X9_end_4 h1 (fun w7 w8 h5 r6 => ?_)
  have h9 := h5 _ rfl
  have h10 := h9 _ rfl
  have h11 := h10 _ rfl
  obtain ⟨n12, h13⟩ := h11
  exact dl_wj_X9_fill_37 n12 _ _ _ _ _ h13 (fun b0_ g_ r_ => hp _ g_ (fun post_ hq_ => by
        refine r2 _ ?_
        refine r6 _ ?_
        rintro _ rfl
        rintro _ rfl
        rintro _ rfl
        exact r_ _ hq_))
theorem d_wp_X9_kind_13 {x1 : Int32} {u : mS} {post : Int32 → mS → Prop} {goal : Prop} (h : wp_X9_kind_13 x1 u post) (hp : ∀ (b0_ : Int32) (b1_ : mS), post b0_ b1_ → (∀ (post_ : Int32 → mS → Prop), post_ b0_ b1_ → wp_X9_kind_13 x1 u post_) → goal) : goal := by
  have v2 := h.1
  have h1 := h.2
  have h3 := h1 _ rfl
  have h4 := h3 _ rfl
  exact hp _ _ h4 (fun post_ hq_ => by
        refine ⟨v2, ?_⟩
        rintro _ rfl
        rintro _ rfl
        exact hq_)
theorem d_wj_X9_turn_13_14_37 {K3 : Int32 → Int32 → Int32 → mS → Prop} {post : mS → Prop} {x4 : Int32} {x5 : Int32} {x6 : Int32} {z0 : Int32} {z1 : Int32} {u : mS} {goal : Prop} (h : wj_X9_turn_13_14_37 K3 post x4 x5 x6 z0 z1 u) (hK3 : ∀ (b0_ : Int32) (b1_ : Int32) (b2_ : Int32) (b3_ : mS), K3 b0_ b1_ b2_ b3_ → (∀ (K3_ : Int32 → Int32 → Int32 → mS → Prop) (post_ : mS → Prop), K3_ b0_ b1_ b2_ b3_ → wj_X9_turn_13_14_37 K3_ post_ x4 x5 x6 z0 z1 u) → goal) (hp : ∀ (b0_ : mS), post b0_ → (∀ (K3_ : Int32 → Int32 → Int32 → mS → Prop) (post_ : mS → Prop), post_ b0_ → wj_X9_turn_13_14_37 K3_ post_ x4 x5 x6 z0 z1 u) → goal) : goal := by
  have v2 := h.1
  have h1 := h.2
  have h3 := h1 _ rfl
  have h4 := h3 _ rfl
  exact hK3 _ _ _ _ h4 (fun K3_ post_ hq_ => by
        refine ⟨v2, ?_⟩
        rintro _ rfl
        rintro _ rfl
        exact hq_)
theorem d_wj_X9_turn_13_14_3 {K3 : Int32 → Int32 → Int32 → mS → Prop} {post : mS → Prop} {x4 : Int32} {x5 : Int32} {x6 : Int32} {u : mS} {goal : Prop} (h : wj_X9_turn_13_14_3 K3 post x4 x5 x6 u) (hK3 : ∀ (b0_ : Int32) (b1_ : Int32) (b2_ : Int32) (b3_ : mS), K3 b0_ b1_ b2_ b3_ → (∀ (K3_ : Int32 → Int32 → Int32 → mS → Prop) (post_ : mS → Prop), K3_ b0_ b1_ b2_ b3_ → wj_X9_turn_13_14_3 K3_ post_ x4 x5 x6 u) → goal) (hp : ∀ (b0_ : mS), post b0_ → (∀ (K3_ : Int32 → Int32 → Int32 → mS → Prop) (post_ : mS → Prop), post_ b0_ → wj_X9_turn_13_14_3 K3_ post_ x4 x5 x6 u) → goal) : goal := by
  refine el_p h (fun c1 h2 => ?_) (fun c1 h2 => ?_)
  · exact hp _ h2 (fun K3_ post_ hq_ => by
            refine ⟨fun _ => ?_, fun q_ => absurd c1 q_⟩
            exact hq_)
  · refine d_wp_X9_kind_13 h2 (fun w5 w6 h3 r4 => ?_)
    refine el_n h3 (fun c7 h8 => ?_) (fun c7 h8 => ?_)
    · have v10 := h8.1
      have h9 := h8.2
      have h11 := h9 _ rfl
      exact d_wj_X9_turn_13_14_37 h11 (fun b0_ b1_ b2_ b3_ g_ r_ => hK3 _ _ _ _ g_ (fun K3_ post_ hq_ => by
              refine ⟨fun q_ => absurd q_ c1, fun _ => ?_⟩
              refine r4 _ ?_
              refine ⟨fun _ => ?_, fun q_ => absurd q_ c7⟩
              refine ⟨v10, ?_⟩
              rintro _ rfl
              exact r_ _ _ hq_)) (fun b0_ g_ r_ => hp _ g_ (fun K3_ post_ hq_ => by
              refine ⟨fun q_ => absurd q_ c1, fun _ => ?_⟩
              refine r4 _ ?_
              refine ⟨fun _ => ?_, fun q_ => absurd q_ c7⟩
              refine ⟨v10, ?_⟩
              rintro _ rfl
              exact r_ _ _ hq_))
    · have v13 := h8.1
      have h12 := h8.2
      have h14 := h12 _ rfl
      have h15 := h14 _ rfl
      exact d_wj_X9_turn_13_14_37 h15 (fun b0_ b1_ b2_ b3_ g_ r_ => hK3 _ _ _ _ g_ (fun K3_ post_ hq_ => by
              refine ⟨fun q_ => absurd q_ c1, fun _ => ?_⟩
              refine r4 _ ?_
              refine ⟨fun q_ => absurd c7 q_, fun _ => ?_⟩
              refine ⟨v13, ?_⟩
              rintro _ rfl
              rintro _ rfl
              exact r_ _ _ hq_)) (fun b0_ g_ r_ => hp _ g_ (fun K3_ post_ hq_ => by
              refine ⟨fun q_ => absurd q_ c1, fun _ => ?_⟩
              refine r4 _ ?_
              refine ⟨fun q_ => absurd c7 q_, fun _ => ?_⟩
              refine ⟨v13, ?_⟩
              rintro _ rfl
              rintro _ rfl
              exact r_ _ _ hq_))
theorem dl_wj_X9_turn_13_14_3 {post : mS → Prop} {goal : Prop} : ∀ (n_ : Nat) (x4 : Int32) (x5 : Int32) (x6 : Int32) (u : mS), mL4 (fun K_ => wj_X9_turn_13_14_3 K_ post) n_ x4 x5 x6 u → (∀ (b0_ : mS), post b0_ → (∀ (post_ : mS → Prop), post_ b0_ → ∃ m_, mL4 (fun K_ => wj_X9_turn_13_14_3 K_ post_) m_ x4 x5 x6 u) → goal) → goal
  | 0, _, _, _, _, h, _ => h.elim
  | n_ + 1, x4, x5, x6, u, h, hp => d_wj_X9_turn_13_14_3 h (fun b0_ b1_ b2_ b3_ g_ r_ => dl_wj_X9_turn_13_14_3 n_ b0_ b1_ b2_ b3_ g_ (fun b0_ g2_ r2_ => hp b0_ g2_ (fun post_ hq_ => (r2_ post_ hq_).elim (fun m_ hm_ => ⟨m_ + 1, r_ _ _ hm_⟩)))) (fun b0_ g_ r_ => hp b0_ g_ (fun post_ hq_ => ⟨1, r_ _ _ hq_⟩))
theorem d_wp_X9_turn_13_14 {x3 : Int32} {x4 : Int32} {x5 : Int32} {u : mS} {post : mS → Prop} {goal : Prop} (h : wp_X9_turn_13_14 x3 x4 x5 u post) (hp : ∀ (b0_ : mS), post b0_ → (∀ (post_ : mS → Prop), post_ b0_ → wp_X9_turn_13_14 x3 x4 x5 u post_) → goal) : goal := by
  obtain ⟨n1, h2⟩ := h
  exact dl_wj_X9_turn_13_14_3 n1 _ _ _ _ h2 (fun b0_ g_ r_ => hp _ g_ (fun post_ hq_ => r_ _ hq_))
theorem d_wj_X9_use_182 {K182 : Int32 → mS → Prop} {post : mS → Prop} {x5 : Int32} {u : mS} {goal : Prop} (h : wj_X9_use_182 K182 post x5 u) (hK182 : ∀ (b0_ : Int32) (b1_ : mS), K182 b0_ b1_ → (∀ (K182_ : Int32 → mS → Prop) (post_ : mS → Prop), K182_ b0_ b1_ → wj_X9_use_182 K182_ post_ x5 u) → goal) (hp : ∀ (b0_ : mS), post b0_ → (∀ (K182_ : Int32 → mS → Prop) (post_ : mS → Prop), post_ b0_ → wj_X9_use_182 K182_ post_ x5 u) → goal) : goal := by
  have h1 := h _ rfl
  refine el_p h1 (fun c2 h3 => ?_) (fun c2 h3 => ?_)
  · exact hp _ h3 (fun K182_ post_ hq_ => by
            rintro _ rfl
            refine ⟨fun _ => ?_, fun q_ => absurd c2 q_⟩
            exact hq_)
  · have h4 := h3 _ rfl
    have h5 := h4 _ rfl
    have v7 := h5.1
    have h6 := h5.2
    have h8 := h6 _ rfl
    have v10 := h8.1
    have h9 := h8.2
    have h11 := h9 _ rfl
    have h12 := h11 _ rfl
    have h13 := h12 _ rfl
    have v15 := h13.1
    have h14 := h13.2
    have h16 := h14 _ rfl
    have v18 := h16.1
    have h17 := h16.2
    have h19 := h17 _ rfl
    have h20 := h19 _ rfl
    exact hK182 _ _ h20 (fun K182_ post_ hq_ => by
            rintro _ rfl
            refine ⟨fun q_ => absurd q_ c2, fun _ => ?_⟩
            rintro _ rfl
            rintro _ rfl
            refine ⟨v7, ?_⟩
            rintro _ rfl
            refine ⟨v10, ?_⟩
            rintro _ rfl
            rintro _ rfl
            rintro _ rfl
            refine ⟨v15, ?_⟩
            rintro _ rfl
            refine ⟨v18, ?_⟩
            rintro _ rfl
            rintro _ rfl
            exact hq_)
theorem dl_wj_X9_use_182 {post : mS → Prop} {goal : Prop} : ∀ (n_ : Nat) (x5 : Int32) (u : mS), mL2 (fun K_ => wj_X9_use_182 K_ post) n_ x5 u → (∀ (b0_ : mS), post b0_ → (∀ (post_ : mS → Prop), post_ b0_ → ∃ m_, mL2 (fun K_ => wj_X9_use_182 K_ post_) m_ x5 u) → goal) → goal
  | 0, _, _, h, _ => h.elim
  | n_ + 1, x5, u, h, hp => d_wj_X9_use_182 h (fun b0_ b1_ g_ r_ => dl_wj_X9_use_182 n_ b0_ b1_ g_ (fun b0_ g2_ r2_ => hp b0_ g2_ (fun post_ hq_ => (r2_ post_ hq_).elim (fun m_ hm_ => ⟨m_ + 1, r_ _ _ hm_⟩)))) (fun b0_ g_ r_ => hp b0_ g_ (fun post_ hq_ => ⟨1, r_ _ _ hq_⟩))
theorem d_wj_X9_use_114 {post : mS → Prop} {x1 : Int32} {x2 : Int32} {x3 : Int32} {x4 : Int32} {u : mS} {goal : Prop} (h : wj_X9_use_114 post x1 x2 x3 x4 u) (hp : ∀ (b0_ : mS), post b0_ → (∀ (post_ : mS → Prop), post_ b0_ → wj_X9_use_114 post_ x1 x2 x3 x4 u) → goal) : goal := by
  have v2 := h.1
  have h1 := h.2
  have h3 := h1 _ rfl
  refine el_p h3 (fun c4 h5 => ?_) (fun c4 h5 => ?_)
  · have h6 := h5 _ rfl
    have h7 := h6 _ rfl
    refine d_wp_X9_fill h7 (fun w10 h8 r9 => ?_)
    have h11 := h8 _ rfl
    refine el_p h11 (fun c12 h13 => ?_) (fun c12 h13 => ?_)
    · have h14 := h13 _ rfl
      refine d_wp_X9_turn_13_14 h14 (fun w17 h15 r16 => ?_)
      have h18 := h15 _ rfl
      have h19 := h18 _ rfl
      have h20 := h19 _ rfl
      obtain ⟨n21, h22⟩ := h20
      exact dl_wj_X9_use_182 n21 _ _ h22 (fun b0_ g_ r_ => hp _ g_ (fun post_ hq_ => by
              refine ⟨v2, ?_⟩
              rintro _ rfl
              refine ⟨fun _ => ?_, fun q_ => absurd c4 q_⟩
              rintro _ rfl
              rintro _ rfl
              refine r9 _ ?_
              rintro _ rfl
              refine ⟨fun _ => ?_, fun q_ => absurd c12 q_⟩
              rintro _ rfl
              refine r16 _ ?_
              rintro _ rfl
              rintro _ rfl
              rintro _ rfl
              exact r_ _ hq_))
    · exact hp _ h13 (fun post_ hq_ => by
              refine ⟨v2, ?_⟩
              rintro _ rfl
              refine ⟨fun _ => ?_, fun q_ => absurd c4 q_⟩
              rintro _ rfl
              rintro _ rfl
              refine r9 _ ?_
              rintro _ rfl
              refine ⟨fun q_ => absurd q_ c12, fun _ => ?_⟩
              exact hq_)
  · refine d_wp_X9_fails h5 (fun w25 h23 r24 => ?_)
    exact hp _ h23 (fun post_ hq_ => by
            refine ⟨v2, ?_⟩
            rintro _ rfl
            refine ⟨fun q_ => absurd q_ c4, fun _ => ?_⟩
            refine r24 _ ?_
            exact hq_)
theorem d_wj_X9_use_74 {K74 : Int32 → Int32 → Int32 → Int32 → mS → Prop} {post : mS → Prop} {x1 : Int32} {x2 : Int32} {x3 : Int32} {x4 : Int32} {u : mS} {goal : Prop} (h : wj_X9_use_74 K74 post x1 x2 x3 x4 u) (hK74 : ∀ (b0_ : Int32) (b1_ : Int32) (b2_ : Int32) (b3_ : Int32) (b4_ : mS), K74 b0_ b1_ b2_ b3_ b4_ → (∀ (K74_ : Int32 → Int32 → Int32 → Int32 → mS → Prop) (post_ : mS → Prop), K74_ b0_ b1_ b2_ b3_ b4_ → wj_X9_use_74 K74_ post_ x1 x2 x3 x4 u) → goal) (hp : ∀ (b0_ : mS), post b0_ → (∀ (K74_ : Int32 → Int32 → Int32 → Int32 → mS → Prop) (post_ : mS → Prop), post_ b0_ → wj_X9_use_74 K74_ post_ x1 x2 x3 x4 u) → goal) : goal := by
  have v2 := h.1
  have h1 := h.2
  have h3 := h1 _ rfl
  refine el_p h3 (fun c4 h5 => ?_) (fun c4 h5 => ?_)
  · exact d_wj_X9_use_114 h5 (fun b0_ g_ r_ => hp _ g_ (fun K74_ post_ hq_ => by
            refine ⟨v2, ?_⟩
            rintro _ rfl
            refine ⟨fun _ => ?_, fun q_ => absurd c4 q_⟩
            exact r_ _ hq_))
  · have h6 := h5 _ rfl
    have h7 := h6 _ rfl
    refine d_wp_X9_matches h7 (fun w10 w11 h8 r9 => ?_)
    refine el_n h8 (fun c12 h13 => ?_) (fun c12 h13 => ?_)
    · exact d_wj_X9_use_114 h13 (fun b0_ g_ r_ => hp _ g_ (fun K74_ post_ hq_ => by
              refine ⟨v2, ?_⟩
              rintro _ rfl
              refine ⟨fun q_ => absurd q_ c4, fun _ => ?_⟩
              rintro _ rfl
              rintro _ rfl
              refine r9 _ ?_
              refine ⟨fun _ => ?_, fun q_ => absurd q_ c12⟩
              exact r_ _ hq_))
    · refine d_wp_X9_end_4 h13 (fun w16 w17 h14 r15 => ?_)
      exact hK74 _ _ _ _ _ h14 (fun K74_ post_ hq_ => by
              refine ⟨v2, ?_⟩
              rintro _ rfl
              refine ⟨fun q_ => absurd q_ c4, fun _ => ?_⟩
              rintro _ rfl
              rintro _ rfl
              refine r9 _ ?_
              refine ⟨fun q_ => absurd c12 q_, fun _ => ?_⟩
              refine r15 _ ?_
              exact hq_)
theorem dl_wj_X9_use_74 {post : mS → Prop} {goal : Prop} : ∀ (n_ : Nat) (x1 : Int32) (x2 : Int32) (x3 : Int32) (x4 : Int32) (u : mS), mL5 (fun K_ => wj_X9_use_74 K_ post) n_ x1 x2 x3 x4 u → (∀ (b0_ : mS), post b0_ → (∀ (post_ : mS → Prop), post_ b0_ → ∃ m_, mL5 (fun K_ => wj_X9_use_74 K_ post_) m_ x1 x2 x3 x4 u) → goal) → goal
  | 0, _, _, _, _, _, h, _ => h.elim
  | n_ + 1, x1, x2, x3, x4, u, h, hp => d_wj_X9_use_74 h (fun b0_ b1_ b2_ b3_ b4_ g_ r_ => dl_wj_X9_use_74 n_ b0_ b1_ b2_ b3_ b4_ g_ (fun b0_ g2_ r2_ => hp b0_ g2_ (fun post_ hq_ => (r2_ post_ hq_).elim (fun m_ hm_ => ⟨m_ + 1, r_ _ _ hm_⟩)))) (fun b0_ g_ r_ => hp b0_ g_ (fun post_ hq_ => ⟨1, r_ _ _ hq_⟩))
theorem d_wp_X9_use {x1 : Int32} {u : mS} {post : mS → Prop} {goal : Prop} (h : wp_X9_use x1 u post) (hp : ∀ (b0_ : mS), post b0_ → (∀ (post_ : mS → Prop), post_ b0_ → wp_X9_use x1 u post_) → goal) : goal := by
  have h1 := h _ rfl
  refine el_n h1 (fun c2 h3 => ?_) (fun c2 h3 => ?_)
  · have h4 := h3 _ rfl
    have h5 := h4 _ rfl
    have h6 := h5 _ rfl
    refine d_wp_X9_scope h6 (fun w9 w10 h7 r8 => ?_)
    have h11 := h7 _ rfl
    refine el_p h11 (fun c12 h13 => ?_) (fun c12 h13 => ?_)
    · have h14 := h13 _ rfl
      refine d_wp_X9_end_2 h14 (fun w17 w18 h15 r16 => ?_)
      have h19 := h15 _ rfl
      refine d_wp_X9_turn_2_3 h19 (fun w22 h20 r21 => ?_)
      have v24 := h20.1
      have h23 := h20.2
      have h25 := h23 _ rfl
      obtain ⟨n26, h27⟩ := h25
      exact dl_wj_X9_use_74 n26 _ _ _ _ _ h27 (fun b0_ g_ r_ => hp _ g_ (fun post_ hq_ => by
              rintro _ rfl
              refine ⟨fun _ => ?_, fun q_ => absurd q_ c2⟩
              rintro _ rfl
              rintro _ rfl
              rintro _ rfl
              refine r8 _ ?_
              rintro _ rfl
              refine ⟨fun _ => ?_, fun q_ => absurd c12 q_⟩
              rintro _ rfl
              refine r16 _ ?_
              rintro _ rfl
              refine r21 _ ?_
              refine ⟨v24, ?_⟩
              rintro _ rfl
              exact r_ _ hq_))
    · exact hp _ h13 (fun post_ hq_ => by
              rintro _ rfl
              refine ⟨fun _ => ?_, fun q_ => absurd q_ c2⟩
              rintro _ rfl
              rintro _ rfl
              rintro _ rfl
              refine r8 _ ?_
              rintro _ rfl
              refine ⟨fun q_ => absurd q_ c12, fun _ => ?_⟩
              exact hq_)
  · refine d_wp_X9_fails h3 (fun w30 h28 r29 => ?_)
    exact hp _ h28 (fun post_ hq_ => by
            rintro _ rfl
            refine ⟨fun q_ => absurd c2 q_, fun _ => ?_⟩
            refine r29 _ ?_
            exact hq_)
theorem d_wj_X9_list_94 {post : mS → Prop} {z0 : Int32} {u : mS} {goal : Prop} (h : wj_X9_list_94 post z0 u) (hp : ∀ (b0_ : mS), post b0_ → (∀ (post_ : mS → Prop), post_ b0_ → wj_X9_list_94 post_ z0 u) → goal) : goal := by
  refine d_wp_X9_fails h (fun w3 h1 r2 => ?_)
  exact hp _ h1 (fun post_ hq_ => by
        refine r2 _ ?_
        exact hq_)
theorem d_wj_X9_list_150 {post : mS → Prop} {u : mS} {goal : Prop} (h : wj_X9_list_150 post u) (hp : ∀ (b0_ : mS), post b0_ → (∀ (post_ : mS → Prop), post_ b0_ → wj_X9_list_150 post_ u) → goal) : goal := by
  refine d_wp_X9_putOpen h (fun w3 h1 r2 => ?_)
  have h4 := h1 _ rfl
  have h5 := h4 _ rfl
  have h6 := h5 _ rfl
  have h7 := h6 _ rfl
  have h8 := h7 _ rfl
  have h9 := h8 _ rfl
  exact hp _ h9 (fun post_ hq_ => by
        refine r2 _ ?_
        rintro _ rfl
        rintro _ rfl
        rintro _ rfl
        rintro _ rfl
        rintro _ rfl
        rintro _ rfl
        exact hq_)
theorem d_wj_X9_list_127 {post : mS → Prop} {x1 : Int32} {x2 : Int32} {u : mS} {goal : Prop} (h : wj_X9_list_127 post x1 x2 u) (hp : ∀ (b0_ : mS), post b0_ → (∀ (post_ : mS → Prop), post_ b0_ → wj_X9_list_127 post_ x1 x2 u) → goal) : goal := by
  refine el_n h (fun c1 h2 => ?_) (fun c1 h2 => ?_)
  · exact d_wj_X9_list_150 h2 (fun b0_ g_ r_ => hp _ g_ (fun post_ hq_ => by
            refine ⟨fun _ => ?_, fun q_ => absurd q_ c1⟩
            exact r_ _ hq_))
  · have v4 := h2.1
    have h3 := h2.2
    have h5 := h3 _ rfl
    refine el_n h5 (fun c6 h7 => ?_) (fun c6 h7 => ?_)
    · exact d_wj_X9_list_150 h7 (fun b0_ g_ r_ => hp _ g_ (fun post_ hq_ => by
              refine ⟨fun q_ => absurd c1 q_, fun _ => ?_⟩
              refine ⟨v4, ?_⟩
              rintro _ rfl
              refine ⟨fun _ => ?_, fun q_ => absurd q_ c6⟩
              exact r_ _ hq_))
    · refine d_wp_X9_use h7 (fun w10 h8 r9 => ?_)
      exact hp _ h8 (fun post_ hq_ => by
              refine ⟨fun q_ => absurd c1 q_, fun _ => ?_⟩
              refine ⟨v4, ?_⟩
              rintro _ rfl
              refine ⟨fun q_ => absurd c6 q_, fun _ => ?_⟩
              refine r9 _ ?_
              exact hq_)
theorem d_wj_X9_list_78 {post : mS → Prop} {x1 : Int32} {z0 : Int32} {u : mS} {goal : Prop} (h : wj_X9_list_78 post x1 z0 u) (hp : ∀ (b0_ : mS), post b0_ → (∀ (post_ : mS → Prop), post_ b0_ → wj_X9_list_78 post_ x1 z0 u) → goal) : goal := by
  refine el_p h (fun c1 h2 => ?_) (fun c1 h2 => ?_)
  · refine el_n h2 (fun c3 h4 => ?_) (fun c3 h4 => ?_)
    · exact d_wj_X9_list_127 h4 (fun b0_ g_ r_ => hp _ g_ (fun post_ hq_ => by
              refine ⟨fun _ => ?_, fun q_ => absurd c1 q_⟩
              refine ⟨fun _ => ?_, fun q_ => absurd q_ c3⟩
              exact r_ _ hq_))
    · have v6 := h4.1
      have h5 := h4.2
      have h7 := h5 _ rfl
      refine el_n h7 (fun c8 h9 => ?_) (fun c8 h9 => ?_)
      · exact d_wj_X9_list_127 h9 (fun b0_ g_ r_ => hp _ g_ (fun post_ hq_ => by
                refine ⟨fun _ => ?_, fun q_ => absurd c1 q_⟩
                refine ⟨fun q_ => absurd c3 q_, fun _ => ?_⟩
                refine ⟨v6, ?_⟩
                rintro _ rfl
                refine ⟨fun _ => ?_, fun q_ => absurd q_ c8⟩
                exact r_ _ hq_))
      · have v11 := h9.1
        have h10 := h9.2
        have h12 := h10 _ rfl
        refine d_wp_X9_form h12 (fun w15 h13 r14 => ?_)
        exact hp _ h13 (fun post_ hq_ => by
                refine ⟨fun _ => ?_, fun q_ => absurd c1 q_⟩
                refine ⟨fun q_ => absurd c3 q_, fun _ => ?_⟩
                refine ⟨v6, ?_⟩
                rintro _ rfl
                refine ⟨fun q_ => absurd c8 q_, fun _ => ?_⟩
                refine ⟨v11, ?_⟩
                rintro _ rfl
                refine r14 _ ?_
                exact hq_)
  · refine el_n h2 (fun c16 h17 => ?_) (fun c16 h17 => ?_)
    · exact d_wj_X9_list_94 h17 (fun b0_ g_ r_ => hp _ g_ (fun post_ hq_ => by
              refine ⟨fun q_ => absurd q_ c1, fun _ => ?_⟩
              refine ⟨fun _ => ?_, fun q_ => absurd q_ c16⟩
              exact r_ _ hq_))
    · exact d_wj_X9_list_94 h17 (fun b0_ g_ r_ => hp _ g_ (fun post_ hq_ => by
              refine ⟨fun q_ => absurd q_ c1, fun _ => ?_⟩
              refine ⟨fun q_ => absurd c16 q_, fun _ => ?_⟩
              exact r_ _ hq_))
theorem d_wp_X9_list {u : mS} {post : mS → Prop} {goal : Prop} (h : wp_X9_list u post) (hp : ∀ (b0_ : mS), post b0_ → (∀ (post_ : mS → Prop), post_ b0_ → wp_X9_list u post_) → goal) : goal := by
  have h1 := h _ rfl
  refine el_p h1 (fun c2 h3 => ?_) (fun c2 h3 => ?_)
  · have h4 := h3 _ rfl
    have h5 := h4 _ rfl
    refine d_wp_X9_kind_2 h5 (fun w8 w9 h6 r7 => ?_)
    refine el_n h6 (fun c10 h11 => ?_) (fun c10 h11 => ?_)
    · refine el_n h11 (fun c12 h13 => ?_) (fun c12 h13 => ?_)
      · exact d_wj_X9_list_78 h13 (fun b0_ g_ r_ => hp _ g_ (fun post_ hq_ => by
                rintro _ rfl
                refine ⟨fun _ => ?_, fun q_ => absurd c2 q_⟩
                rintro _ rfl
                rintro _ rfl
                refine r7 _ ?_
                refine ⟨fun _ => ?_, fun q_ => absurd q_ c10⟩
                refine ⟨fun _ => ?_, fun q_ => absurd q_ c12⟩
                exact r_ _ hq_))
      · have h14 := h13 _ rfl
        have h15 := h14 _ rfl
        refine d_wp_X9_what_2 h15 (fun w18 w19 h16 r17 => ?_)
        have h20 := h16 _ rfl
        have h21 := h20 _ rfl
        have v23 := h21.1
        have h22 := h21.2
        have h24 := h22 _ rfl
        refine d_wp_X9_means h24 (fun w27 w28 h25 r26 => ?_)
        exact d_wj_X9_list_78 h25 (fun b0_ g_ r_ => hp _ g_ (fun post_ hq_ => by
                rintro _ rfl
                refine ⟨fun _ => ?_, fun q_ => absurd c2 q_⟩
                rintro _ rfl
                rintro _ rfl
                refine r7 _ ?_
                refine ⟨fun _ => ?_, fun q_ => absurd q_ c10⟩
                refine ⟨fun q_ => absurd c12 q_, fun _ => ?_⟩
                rintro _ rfl
                rintro _ rfl
                refine r17 _ ?_
                rintro _ rfl
                rintro _ rfl
                refine ⟨v23, ?_⟩
                rintro _ rfl
                refine r26 _ ?_
                exact r_ _ hq_))
    · refine d_wp_X9_fails h11 (fun w31 h29 r30 => ?_)
      exact hp _ h29 (fun post_ hq_ => by
              rintro _ rfl
              refine ⟨fun _ => ?_, fun q_ => absurd c2 q_⟩
              rintro _ rfl
              rintro _ rfl
              refine r7 _ ?_
              refine ⟨fun q_ => absurd c10 q_, fun _ => ?_⟩
              refine r30 _ ?_
              exact hq_)
  · refine d_wp_X9_fails h3 (fun w34 h32 r33 => ?_)
    exact hp _ h32 (fun post_ hq_ => by
            rintro _ rfl
            refine ⟨fun q_ => absurd q_ c2, fun _ => ?_⟩
            refine r33 _ ?_
            exact hq_)
theorem d_wj_X9_step_125 {post : mS → Prop} {u : mS} {goal : Prop} (h : wj_X9_step_125 post u) (hp : ∀ (b0_ : mS), post b0_ → (∀ (post_ : mS → Prop), post_ b0_ → wj_X9_step_125 post_ u) → goal) : goal := by
  have h1 := h _ rfl
  have h2 := h1 _ rfl
  have h3 := h2 _ rfl
  have h4 := h3 _ rfl
  have h5 := h4 _ rfl
  have h6 := h5 _ rfl
  exact hp _ h6 (fun post_ hq_ => by
        rintro _ rfl
        rintro _ rfl
        rintro _ rfl
        rintro _ rfl
        rintro _ rfl
        rintro _ rfl
        exact hq_)
theorem d_wj_X9_step_116 {post : mS → Prop} {x1 : Int32} {u : mS} {goal : Prop} (h : wj_X9_step_116 post x1 u) (hp : ∀ (b0_ : mS), post b0_ → (∀ (post_ : mS → Prop), post_ b0_ → wj_X9_step_116 post_ x1 u) → goal) : goal := by
  refine el_n h (fun c1 h2 => ?_) (fun c1 h2 => ?_)
  · exact d_wj_X9_step_125 h2 (fun b0_ g_ r_ => hp _ g_ (fun post_ hq_ => by
            refine ⟨fun _ => ?_, fun q_ => absurd q_ c1⟩
            exact r_ _ hq_))
  · refine d_wp_X9_putClose h2 (fun w5 h3 r4 => ?_)
    exact d_wj_X9_step_125 h3 (fun b0_ g_ r_ => hp _ g_ (fun post_ hq_ => by
            refine ⟨fun q_ => absurd c1 q_, fun _ => ?_⟩
            refine r4 _ ?_
            exact r_ _ hq_))
theorem d_wj_X9_step_47 {post : mS → Prop} {x1 : Int32} {u : mS} {goal : Prop} (h : wj_X9_step_47 post x1 u) (hp : ∀ (b0_ : mS), post b0_ → (∀ (post_ : mS → Prop), post_ b0_ → wj_X9_step_47 post_ x1 u) → goal) : goal := by
  have h1 := h _ rfl
  refine el_p h1 (fun c2 h3 => ?_) (fun c2 h3 => ?_)
  · refine el_n h3 (fun c4 h5 => ?_) (fun c4 h5 => ?_)
    · refine el_n h5 (fun c6 h7 => ?_) (fun c6 h7 => ?_)
      · refine el_n h7 (fun c8 h9 => ?_) (fun c8 h9 => ?_)
        · refine el_p h9 (fun c10 h11 => ?_) (fun c10 h11 => ?_)
          · exact d_wj_X9_step_116 h11 (fun b0_ g_ r_ => hp _ g_ (fun post_ hq_ => by
                    rintro _ rfl
                    refine ⟨fun _ => ?_, fun q_ => absurd c2 q_⟩
                    refine ⟨fun _ => ?_, fun q_ => absurd q_ c4⟩
                    refine ⟨fun _ => ?_, fun q_ => absurd q_ c6⟩
                    refine ⟨fun _ => ?_, fun q_ => absurd q_ c8⟩
                    refine ⟨fun _ => ?_, fun q_ => absurd c10 q_⟩
                    exact r_ _ hq_))
          · refine el_n h11 (fun c12 h13 => ?_) (fun c12 h13 => ?_)
            · refine d_wp_X9_fails h13 (fun w16 h14 r15 => ?_)
              exact hp _ h14 (fun post_ hq_ => by
                      rintro _ rfl
                      refine ⟨fun _ => ?_, fun q_ => absurd c2 q_⟩
                      refine ⟨fun _ => ?_, fun q_ => absurd q_ c4⟩
                      refine ⟨fun _ => ?_, fun q_ => absurd q_ c6⟩
                      refine ⟨fun _ => ?_, fun q_ => absurd q_ c8⟩
                      refine ⟨fun q_ => absurd q_ c10, fun _ => ?_⟩
                      refine ⟨fun _ => ?_, fun q_ => absurd q_ c12⟩
                      refine r15 _ ?_
                      exact hq_)
            · exact d_wj_X9_step_116 h13 (fun b0_ g_ r_ => hp _ g_ (fun post_ hq_ => by
                      rintro _ rfl
                      refine ⟨fun _ => ?_, fun q_ => absurd c2 q_⟩
                      refine ⟨fun _ => ?_, fun q_ => absurd q_ c4⟩
                      refine ⟨fun _ => ?_, fun q_ => absurd q_ c6⟩
                      refine ⟨fun _ => ?_, fun q_ => absurd q_ c8⟩
                      refine ⟨fun q_ => absurd q_ c10, fun _ => ?_⟩
                      refine ⟨fun q_ => absurd c12 q_, fun _ => ?_⟩
                      exact r_ _ hq_))
        · have h17 := h9 _ rfl
          refine d_wp_X9_putToken h17 (fun w20 h18 r19 => ?_)
          have h21 := h18 _ rfl
          have h22 := h21 _ rfl
          have h23 := h22 _ rfl
          exact hp _ h23 (fun post_ hq_ => by
                  rintro _ rfl
                  refine ⟨fun _ => ?_, fun q_ => absurd c2 q_⟩
                  refine ⟨fun _ => ?_, fun q_ => absurd q_ c4⟩
                  refine ⟨fun _ => ?_, fun q_ => absurd q_ c6⟩
                  refine ⟨fun q_ => absurd c8 q_, fun _ => ?_⟩
                  rintro _ rfl
                  refine r19 _ ?_
                  rintro _ rfl
                  rintro _ rfl
                  rintro _ rfl
                  exact hq_)
      · refine d_wp_X9_word h7 (fun w26 h24 r25 => ?_)
        exact hp _ h24 (fun post_ hq_ => by
                rintro _ rfl
                refine ⟨fun _ => ?_, fun q_ => absurd c2 q_⟩
                refine ⟨fun _ => ?_, fun q_ => absurd q_ c4⟩
                refine ⟨fun q_ => absurd c6 q_, fun _ => ?_⟩
                refine r25 _ ?_
                exact hq_)
    · refine d_wp_X9_list h5 (fun w29 h27 r28 => ?_)
      exact hp _ h27 (fun post_ hq_ => by
              rintro _ rfl
              refine ⟨fun _ => ?_, fun q_ => absurd c2 q_⟩
              refine ⟨fun q_ => absurd c4 q_, fun _ => ?_⟩
              refine r28 _ ?_
              exact hq_)
  · exact hp _ h3 (fun post_ hq_ => by
            rintro _ rfl
            refine ⟨fun q_ => absurd q_ c2, fun _ => ?_⟩
            exact hq_)
theorem d_wp_X9_step {u : mS} {post : mS → Prop} {goal : Prop} (h : wp_X9_step u post) (hp : ∀ (b0_ : mS), post b0_ → (∀ (post_ : mS → Prop), post_ b0_ → wp_X9_step u post_) → goal) : goal := by
  have h1 := h _ rfl
  refine d_wp_X9_kind_2 h1 (fun w4 w5 h2 r3 => ?_)
  have h6 := h2 _ rfl
  refine el_p h6 (fun c7 h8 => ?_) (fun c7 h8 => ?_)
  · exact d_wj_X9_step_47 h8 (fun b0_ g_ r_ => hp _ g_ (fun post_ hq_ => by
            rintro _ rfl
            refine r3 _ ?_
            rintro _ rfl
            refine ⟨fun _ => ?_, fun q_ => absurd c7 q_⟩
            exact r_ _ hq_))
  · refine el_p h8 (fun c9 h10 => ?_) (fun c9 h10 => ?_)
    · exact d_wj_X9_step_47 h10 (fun b0_ g_ r_ => hp _ g_ (fun post_ hq_ => by
              rintro _ rfl
              refine r3 _ ?_
              rintro _ rfl
              refine ⟨fun q_ => absurd q_ c7, fun _ => ?_⟩
              refine ⟨fun _ => ?_, fun q_ => absurd c9 q_⟩
              exact r_ _ hq_))
    · refine el_p h10 (fun c11 h12 => ?_) (fun c11 h12 => ?_)
      · exact d_wj_X9_step_47 h12 (fun b0_ g_ r_ => hp _ g_ (fun post_ hq_ => by
                rintro _ rfl
                refine r3 _ ?_
                rintro _ rfl
                refine ⟨fun q_ => absurd q_ c7, fun _ => ?_⟩
                refine ⟨fun q_ => absurd q_ c9, fun _ => ?_⟩
                refine ⟨fun _ => ?_, fun q_ => absurd c11 q_⟩
                exact r_ _ hq_))
      · refine el_p h12 (fun c13 h14 => ?_) (fun c13 h14 => ?_)
        · exact d_wj_X9_step_47 h14 (fun b0_ g_ r_ => hp _ g_ (fun post_ hq_ => by
                  rintro _ rfl
                  refine r3 _ ?_
                  rintro _ rfl
                  refine ⟨fun q_ => absurd q_ c7, fun _ => ?_⟩
                  refine ⟨fun q_ => absurd q_ c9, fun _ => ?_⟩
                  refine ⟨fun q_ => absurd q_ c11, fun _ => ?_⟩
                  refine ⟨fun _ => ?_, fun q_ => absurd c13 q_⟩
                  exact r_ _ hq_))
        · refine d_wp_X9_put h14 (fun w17 h15 r16 => ?_)
          have h18 := h15 _ rfl
          exact d_wj_X9_step_47 h18 (fun b0_ g_ r_ => hp _ g_ (fun post_ hq_ => by
                  rintro _ rfl
                  refine r3 _ ?_
                  rintro _ rfl
                  refine ⟨fun q_ => absurd q_ c7, fun _ => ?_⟩
                  refine ⟨fun q_ => absurd q_ c9, fun _ => ?_⟩
                  refine ⟨fun q_ => absurd q_ c11, fun _ => ?_⟩
                  refine ⟨fun q_ => absurd q_ c13, fun _ => ?_⟩
                  refine r16 _ ?_
                  rintro _ rfl
                  exact r_ _ hq_))
theorem d_wj_X9_expand_10 {post : Int32 → mS → Prop} {u : mS} {goal : Prop} (h : wj_X9_expand_10 post u) (hp : ∀ (b0_ : Int32) (b1_ : mS), post b0_ b1_ → (∀ (post_ : Int32 → mS → Prop), post_ b0_ b1_ → wj_X9_expand_10 post_ u) → goal) : goal := by
  exact hp _ _ h (fun post_ hq_ => hq_)
theorem d_wj_X9_expand_122 {post : Int32 → mS → Prop} {u : mS} {goal : Prop} (h : wj_X9_expand_122 post u) (hp : ∀ (b0_ : Int32) (b1_ : mS), post b0_ b1_ → (∀ (post_ : Int32 → mS → Prop), post_ b0_ b1_ → wj_X9_expand_122 post_ u) → goal) : goal := by
  have h1 := h _ rfl
  refine el_p h1 (fun c2 h3 => ?_) (fun c2 h3 => ?_)
  · have h4 := h3 _ rfl
    exact hp _ _ h4 (fun post_ hq_ => by
            rintro _ rfl
            refine ⟨fun _ => ?_, fun q_ => absurd c2 q_⟩
            rintro _ rfl
            exact hq_)
  · have h5 := h3 _ rfl
    have h6 := h5 _ rfl
    exact hp _ _ h6 (fun post_ hq_ => by
            rintro _ rfl
            refine ⟨fun q_ => absurd q_ c2, fun _ => ?_⟩
            rintro _ rfl
            rintro _ rfl
            exact hq_)
theorem d_wj_X9_expand_110 {post : Int32 → mS → Prop} {u : mS} {goal : Prop} (h : wj_X9_expand_110 post u) (hp : ∀ (b0_ : Int32) (b1_ : mS), post b0_ b1_ → (∀ (post_ : Int32 → mS → Prop), post_ b0_ b1_ → wj_X9_expand_110 post_ u) → goal) : goal := by
  have h1 := h _ rfl
  refine el_p h1 (fun c2 h3 => ?_) (fun c2 h3 => ?_)
  · exact d_wj_X9_expand_122 h3 (fun b0_ b1_ g_ r_ => hp _ _ g_ (fun post_ hq_ => by
            rintro _ rfl
            refine ⟨fun _ => ?_, fun q_ => absurd c2 q_⟩
            exact r_ _ hq_))
  · have h4 := h3 _ rfl
    exact d_wj_X9_expand_122 h4 (fun b0_ b1_ g_ r_ => hp _ _ g_ (fun post_ hq_ => by
            rintro _ rfl
            refine ⟨fun q_ => absurd q_ c2, fun _ => ?_⟩
            rintro _ rfl
            exact r_ _ hq_))
theorem d_wj_X9_expand_86 {K86 : mS → Prop} {post : Int32 → mS → Prop} {u : mS} {goal : Prop} (h : wj_X9_expand_86 K86 post u) (hK86 : ∀ (b0_ : mS), K86 b0_ → (∀ (K86_ : mS → Prop) (post_ : Int32 → mS → Prop), K86_ b0_ → wj_X9_expand_86 K86_ post_ u) → goal) (hp : ∀ (b0_ : Int32) (b1_ : mS), post b0_ b1_ → (∀ (K86_ : mS → Prop) (post_ : Int32 → mS → Prop), post_ b0_ b1_ → wj_X9_expand_86 K86_ post_ u) → goal) : goal := by
  have h1 := h _ rfl
  refine el_p h1 (fun c2 h3 => ?_) (fun c2 h3 => ?_)
  · exact d_wj_X9_expand_110 h3 (fun b0_ b1_ g_ r_ => hp _ _ g_ (fun K86_ post_ hq_ => by
            rintro _ rfl
            refine ⟨fun _ => ?_, fun q_ => absurd c2 q_⟩
            exact r_ _ hq_))
  · have h4 := h3 _ rfl
    refine el_n h4 (fun c5 h6 => ?_) (fun c5 h6 => ?_)
    · exact d_wj_X9_expand_110 h6 (fun b0_ b1_ g_ r_ => hp _ _ g_ (fun K86_ post_ hq_ => by
              rintro _ rfl
              refine ⟨fun q_ => absurd q_ c2, fun _ => ?_⟩
              rintro _ rfl
              refine ⟨fun _ => ?_, fun q_ => absurd q_ c5⟩
              exact r_ _ hq_))
    · refine d_wp_X9_step h6 (fun w9 h7 r8 => ?_)
      exact hK86 _ h7 (fun K86_ post_ hq_ => by
              rintro _ rfl
              refine ⟨fun q_ => absurd q_ c2, fun _ => ?_⟩
              rintro _ rfl
              refine ⟨fun q_ => absurd c5 q_, fun _ => ?_⟩
              refine r8 _ ?_
              exact hq_)
theorem dl_wj_X9_expand_86 {post : Int32 → mS → Prop} {goal : Prop} : ∀ (n_ : Nat) (u : mS), mL1 (fun K_ => wj_X9_expand_86 K_ post) n_ u → (∀ (b0_ : Int32) (b1_ : mS), post b0_ b1_ → (∀ (post_ : Int32 → mS → Prop), post_ b0_ b1_ → ∃ m_, mL1 (fun K_ => wj_X9_expand_86 K_ post_) m_ u) → goal) → goal
  | 0, _, h, _ => h.elim
  | n_ + 1, u, h, hp => d_wj_X9_expand_86 h (fun b0_ g_ r_ => dl_wj_X9_expand_86 n_ b0_ g_ (fun b0_ b1_ g2_ r2_ => hp b0_ b1_ g2_ (fun post_ hq_ => (r2_ post_ hq_).elim (fun m_ hm_ => ⟨m_ + 1, r_ _ _ hm_⟩)))) (fun b0_ b1_ g_ r_ => hp b0_ b1_ g_ (fun post_ hq_ => ⟨1, r_ _ _ hq_⟩))
theorem d_wj_X9_expand_64 {post : Int32 → mS → Prop} {x2 : Int32} {z0 : Int32} {u : mS} {goal : Prop} (h : wj_X9_expand_64 post x2 z0 u) (hp : ∀ (b0_ : Int32) (b1_ : mS), post b0_ b1_ → (∀ (post_ : Int32 → mS → Prop), post_ b0_ b1_ → wj_X9_expand_64 post_ x2 z0 u) → goal) : goal := by
  have h1 := h _ rfl
  have h2 := h1 _ rfl
  refine d_wp_X9_beginning h2 (fun w5 h3 r4 => ?_)
  refine el_p h3 (fun c6 h7 => ?_) (fun c6 h7 => ?_)
  · obtain ⟨n8, h9⟩ := h7
    exact dl_wj_X9_expand_86 n8 _ h9 (fun b0_ b1_ g_ r_ => hp _ _ g_ (fun post_ hq_ => by
            rintro _ rfl
            rintro _ rfl
            refine r4 _ ?_
            refine ⟨fun _ => ?_, fun q_ => absurd c6 q_⟩
            exact r_ _ hq_))
  · have h10 := h7 _ rfl
    exact hp _ _ h10 (fun post_ hq_ => by
            rintro _ rfl
            rintro _ rfl
            refine r4 _ ?_
            refine ⟨fun q_ => absurd q_ c6, fun _ => ?_⟩
            rintro _ rfl
            exact hq_)
theorem d_wp_X9_expand {x1 : Int32} {u : mS} {post : Int32 → mS → Prop} {goal : Prop} (h : wp_X9_expand x1 u post) (hp : ∀ (b0_ : Int32) (b1_ : mS), post b0_ b1_ → (∀ (post_ : Int32 → mS → Prop), post_ b0_ b1_ → wp_X9_expand x1 u post_) → goal) : goal := by
  refine el_p h (fun c1 h2 => ?_) (fun c1 h2 => ?_)
  · exact d_wj_X9_expand_10 h2 (fun b0_ b1_ g_ r_ => hp _ _ g_ (fun post_ hq_ => by
            refine ⟨fun _ => ?_, fun q_ => absurd c1 q_⟩
            exact r_ _ hq_))
  · refine el_p h2 (fun c3 h4 => ?_) (fun c3 h4 => ?_)
    · refine d_wp_X9_read h4 (fun w7 w8 h5 r6 => ?_)
      have h9 := h5 _ rfl
      have h10 := h9 _ rfl
      have h11 := h10 _ rfl
      have h12 := h11 _ rfl
      have h13 := h12 _ rfl
      have h14 := h13 _ rfl
      have h15 := h14 _ rfl
      refine el_p h15 (fun c16 h17 => ?_) (fun c16 h17 => ?_)
      · exact d_wj_X9_expand_64 h17 (fun b0_ b1_ g_ r_ => hp _ _ g_ (fun post_ hq_ => by
                refine ⟨fun q_ => absurd q_ c1, fun _ => ?_⟩
                refine ⟨fun _ => ?_, fun q_ => absurd c3 q_⟩
                refine r6 _ ?_
                rintro _ rfl
                rintro _ rfl
                rintro _ rfl
                rintro _ rfl
                rintro _ rfl
                rintro _ rfl
                rintro _ rfl
                refine ⟨fun _ => ?_, fun q_ => absurd c16 q_⟩
                exact r_ _ hq_))
      · exact d_wj_X9_expand_64 h17 (fun b0_ b1_ g_ r_ => hp _ _ g_ (fun post_ hq_ => by
                refine ⟨fun q_ => absurd q_ c1, fun _ => ?_⟩
                refine ⟨fun _ => ?_, fun q_ => absurd c3 q_⟩
                refine r6 _ ?_
                rintro _ rfl
                rintro _ rfl
                rintro _ rfl
                rintro _ rfl
                rintro _ rfl
                rintro _ rfl
                rintro _ rfl
                refine ⟨fun q_ => absurd q_ c16, fun _ => ?_⟩
                exact r_ _ hq_))
    · exact d_wj_X9_expand_10 h4 (fun b0_ b1_ g_ r_ => hp _ _ g_ (fun post_ hq_ => by
              refine ⟨fun q_ => absurd q_ c1, fun _ => ?_⟩
              refine ⟨fun q_ => absurd q_ c3, fun _ => ?_⟩
              exact r_ _ hq_))
