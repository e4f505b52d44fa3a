theorem d_wp_X5_wordAt {x1 : Int32} {u : mS} {post : Int32 → mS → Prop} {goal : Prop} (h : wp_X5_wordAt x1 u post) (hp : ∀ (b0_ : Int32) (b1_ : mS), post b0_ b1_ → (∀ (post_ : Int32 → mS → Prop), post_ b0_ b1_ → wp_X5_wordAt x1 u post_) → goal) : goal := by
  refine el_p h (fun c1 h2 => ?_) (fun c1 h2 => ?_)
  · exact hp _ _ h2 (fun post_ hq_ => by
            refine ⟨fun _ => ?_, fun q_ => absurd c1 q_⟩
            exact hq_)
  · have h3 := h2 _ rfl
    refine el_p h3 (fun c4 h5 => ?_) (fun c4 h5 => ?_)
    · exact hp _ _ h5 (fun post_ hq_ => by
              refine ⟨fun q_ => absurd q_ c1, fun _ => ?_⟩
              rintro _ rfl
              refine ⟨fun _ => ?_, fun q_ => absurd c4 q_⟩
              exact hq_)
    · refine el_p h5 (fun c6 h7 => ?_) (fun c6 h7 => ?_)
      · exact hp _ _ h7 (fun post_ hq_ => by
                refine ⟨fun q_ => absurd q_ c1, fun _ => ?_⟩
                rintro _ rfl
                refine ⟨fun q_ => absurd q_ c4, fun _ => ?_⟩
                refine ⟨fun _ => ?_, fun q_ => absurd c6 q_⟩
                exact hq_)
      · have v9 := h7.1
        have h8 := h7.2
        have h10 := h8 _ rfl
        exact hp _ _ h10 (fun post_ hq_ => by
                refine ⟨fun q_ => absurd q_ c1, fun _ => ?_⟩
                rintro _ rfl
                refine ⟨fun q_ => absurd q_ c4, fun _ => ?_⟩
                refine ⟨fun q_ => absurd q_ c6, fun _ => ?_⟩
                refine ⟨v9, ?_⟩
                rintro _ rfl
                exact hq_)
theorem d_wp_X8_isName {x0 : Int32} {u : mS} {post : Int32 → mS → Prop} {goal : Prop} (h : wp_X8_isName x0 u post) (hp : ∀ (b0_ : Int32) (b1_ : mS), post b0_ b1_ → (∀ (post_ : Int32 → mS → Prop), post_ b0_ b1_ → wp_X8_isName x0 u post_) → goal) : goal := by
  refine el_p h (fun c1 h2 => ?_) (fun c1 h2 => ?_)
  · exact hp _ _ h2 (fun post_ hq_ => by
            refine ⟨fun _ => ?_, fun q_ => absurd c1 q_⟩
            exact hq_)
  · exact hp _ _ h2 (fun post_ hq_ => by
            refine ⟨fun q_ => absurd q_ c1, fun _ => ?_⟩
            exact hq_)
theorem d_wp_X2_fail {x1 : Int32} {u : mS} {post : mS → Prop} {goal : Prop} (h : wp_X2_fail x1 u post) (hp : ∀ (b0_ : mS), post b0_ → (∀ (post_ : mS → Prop), post_ b0_ → wp_X2_fail x1 u post_) → goal) : goal := by
  have h1 := h _ rfl
  refine el_n h1 (fun c2 h3 => ?_) (fun c2 h3 => ?_)
  · exact hp _ h3 (fun post_ hq_ => by
            rintro _ rfl
            refine ⟨fun _ => ?_, fun q_ => absurd q_ c2⟩
            exact hq_)
  · have h4 := h3 _ rfl
    exact hp _ h4 (fun post_ hq_ => by
            rintro _ rfl
            refine ⟨fun q_ => absurd c2 q_, fun _ => ?_⟩
            rintro _ rfl
            exact hq_)
theorem d_wp_X5_marksAt {x1 : Int32} {u : mS} {post : Int32 → mS → Prop} {goal : Prop} (h : wp_X5_marksAt x1 u post) (hp : ∀ (b0_ : Int32) (b1_ : mS), post b0_ b1_ → (∀ (post_ : Int32 → mS → Prop), post_ b0_ b1_ → wp_X5_marksAt x1 u post_) → goal) : goal := by
  refine el_p h (fun c1 h2 => ?_) (fun c1 h2 => ?_)
  · exact hp _ _ h2 (fun post_ hq_ => by
            refine ⟨fun _ => ?_, fun q_ => absurd c1 q_⟩
            exact hq_)
  · have h3 := h2 _ rfl
    refine el_p h3 (fun c4 h5 => ?_) (fun c4 h5 => ?_)
    · exact hp _ _ h5 (fun post_ hq_ => by
              refine ⟨fun q_ => absurd q_ c1, fun _ => ?_⟩
              rintro _ rfl
              refine ⟨fun _ => ?_, fun q_ => absurd c4 q_⟩
              exact hq_)
    · refine el_p h5 (fun c6 h7 => ?_) (fun c6 h7 => ?_)
      · exact hp _ _ h7 (fun post_ hq_ => by
                refine ⟨fun q_ => absurd q_ c1, fun _ => ?_⟩
                rintro _ rfl
                refine ⟨fun q_ => absurd q_ c4, fun _ => ?_⟩
                refine ⟨fun _ => ?_, fun q_ => absurd c6 q_⟩
                exact hq_)
      · have v9 := h7.1
        have h8 := h7.2
        have h10 := h8 _ rfl
        exact hp _ _ h10 (fun post_ hq_ => by
                refine ⟨fun q_ => absurd q_ c1, fun _ => ?_⟩
                rintro _ rfl
                refine ⟨fun q_ => absurd q_ c4, fun _ => ?_⟩
                refine ⟨fun q_ => absurd q_ c6, fun _ => ?_⟩
                refine ⟨v9, ?_⟩
                rintro _ rfl
                exact hq_)
theorem d_wj_X5_after_40 {post : Int32 → mS → Prop} {x1 : Int32} {u : mS} {goal : Prop} (h : wj_X5_after_40 post x1 u) (hp : ∀ (b0_ : Int32) (b1_ : mS), post b0_ b1_ → (∀ (post_ : Int32 → mS → Prop), post_ b0_ b1_ → wj_X5_after_40 post_ x1 u) → goal) : goal := by
  have h1 := h _ rfl
  exact hp _ _ h1 (fun post_ hq_ => by
        rintro _ rfl
        exact hq_)
theorem d_wp_X5_after {x1 : Int32} {u : mS} {post : Int32 → mS → Prop} {goal : Prop} (h : wp_X5_after x1 u post) (hp : ∀ (b0_ : Int32) (b1_ : mS), post b0_ b1_ → (∀ (post_ : Int32 → mS → Prop), post_ b0_ b1_ → wp_X5_after x1 u post_) → goal) : goal := by
  refine el_p h (fun c1 h2 => ?_) (fun c1 h2 => ?_)
  · exact d_wj_X5_after_40 h2 (fun b0_ b1_ g_ r_ => hp _ _ g_ (fun post_ hq_ => by
            refine ⟨fun _ => ?_, fun q_ => absurd c1 q_⟩
            exact r_ _ hq_))
  · have h3 := h2 _ rfl
    refine el_p h3 (fun c4 h5 => ?_) (fun c4 h5 => ?_)
    · exact d_wj_X5_after_40 h5 (fun b0_ b1_ g_ r_ => hp _ _ g_ (fun post_ hq_ => by
              refine ⟨fun q_ => absurd q_ c1, fun _ => ?_⟩
              rintro _ rfl
              refine ⟨fun _ => ?_, fun q_ => absurd c4 q_⟩
              exact r_ _ hq_))
    · refine el_p h5 (fun c6 h7 => ?_) (fun c6 h7 => ?_)
      · exact d_wj_X5_after_40 h7 (fun b0_ b1_ g_ r_ => hp _ _ g_ (fun post_ hq_ => by
                refine ⟨fun q_ => absurd q_ c1, fun _ => ?_⟩
                rintro _ rfl
                refine ⟨fun q_ => absurd q_ c4, fun _ => ?_⟩
                refine ⟨fun _ => ?_, fun q_ => absurd c6 q_⟩
                exact r_ _ hq_))
      · have v9 := h7.1
        have h8 := h7.2
        have h10 := h8 _ rfl
        refine el_p h10 (fun c11 h12 => ?_) (fun c11 h12 => ?_)
        · exact d_wj_X5_after_40 h12 (fun b0_ b1_ g_ r_ => hp _ _ g_ (fun post_ hq_ => by
                  refine ⟨fun q_ => absurd q_ c1, fun _ => ?_⟩
                  rintro _ rfl
                  refine ⟨fun q_ => absurd q_ c4, fun _ => ?_⟩
                  refine ⟨fun q_ => absurd q_ c6, fun _ => ?_⟩
                  refine ⟨v9, ?_⟩
                  rintro _ rfl
                  refine ⟨fun _ => ?_, fun q_ => absurd c11 q_⟩
                  exact r_ _ hq_))
        · have v14 := h12.1
          have h13 := h12.2
          have h15 := h13 _ rfl
          have h16 := h15 _ rfl
          exact hp _ _ h16 (fun post_ hq_ => by
                  refine ⟨fun q_ => absurd q_ c1, fun _ => ?_⟩
                  rintro _ rfl
                  refine ⟨fun q_ => absurd q_ c4, fun _ => ?_⟩
                  refine ⟨fun q_ => absurd q_ c6, fun _ => ?_⟩
                  refine ⟨v9, ?_⟩
                  rintro _ rfl
                  refine ⟨fun q_ => absurd q_ c11, fun _ => ?_⟩
                  refine ⟨v14, ?_⟩
                  rintro _ rfl
                  rintro _ rfl
                  exact hq_)
theorem d_wj_X5_hasDots_81 {K14 : Int32 → Int32 → mS → Prop} {post : Int32 → mS → Prop} {x3 : Int32} {z0 : Int32} {z1 : Int32} {u : mS} {goal : Prop} (h : wj_X5_hasDots_81 K14 post x3 z0 z1 u) (hK14 : ∀ (b0_ : Int32) (b1_ : Int32) (b2_ : mS), K14 b0_ b1_ b2_ → (∀ (K14_ : Int32 → Int32 → mS → Prop) (post_ : Int32 → mS → Prop), K14_ b0_ b1_ b2_ → wj_X5_hasDots_81 K14_ post_ x3 z0 z1 u) → goal) (hp : ∀ (b0_ : Int32) (b1_ : mS), post b0_ b1_ → (∀ (K14_ : Int32 → Int32 → mS → Prop) (post_ : Int32 → mS → Prop), post_ b0_ b1_ → wj_X5_hasDots_81 K14_ post_ x3 z0 z1 u) → goal) : goal := by
  have h1 := h _ rfl
  have h2 := h1 _ rfl
  exact hK14 _ _ _ h2 (fun K14_ post_ hq_ => by
        rintro _ rfl
        rintro _ rfl
        exact hq_)
theorem d_wj_X5_hasDots_50 {K14 : Int32 → Int32 → mS → Prop} {post : Int32 → mS → Prop} {x2 : Int32} {x3 : Int32} {u : mS} {goal : Prop} (h : wj_X5_hasDots_50 K14 post x2 x3 u) (hK14 : ∀ (b0_ : Int32) (b1_ : Int32) (b2_ : mS), K14 b0_ b1_ b2_ → (∀ (K14_ : Int32 → Int32 → mS → Prop) (post_ : Int32 → mS → Prop), K14_ b0_ b1_ b2_ → wj_X5_hasDots_50 K14_ post_ x2 x3 u) → goal) (hp : ∀ (b0_ : Int32) (b1_ : mS), post b0_ b1_ → (∀ (K14_ : Int32 → Int32 → mS → Prop) (post_ : Int32 → mS → Prop), post_ b0_ b1_ → wj_X5_hasDots_50 K14_ post_ x2 x3 u) → goal) : goal := by
  have v2 := h.1
  have h1 := h.2
  have h3 := h1 _ rfl
  refine el_n h3 (fun c4 h5 => ?_) (fun c4 h5 => ?_)
  · have v7 := h5.1
    have h6 := h5.2
    have h8 := h6 _ rfl
    refine el_n h8 (fun c9 h10 => ?_) (fun c9 h10 => ?_)
    · exact d_wj_X5_hasDots_81 h10 (fun b0_ b1_ b2_ g_ r_ => hK14 _ _ _ g_ (fun K14_ post_ hq_ => by
              refine ⟨v2, ?_⟩
              rintro _ rfl
              refine ⟨fun _ => ?_, fun q_ => absurd q_ c4⟩
              refine ⟨v7, ?_⟩
              rintro _ rfl
              refine ⟨fun _ => ?_, fun q_ => absurd q_ c9⟩
              exact r_ _ _ hq_)) (fun b0_ b1_ g_ r_ => hp _ _ g_ (fun K14_ post_ hq_ => by
              refine ⟨v2, ?_⟩
              rintro _ rfl
              refine ⟨fun _ => ?_, fun q_ => absurd q_ c4⟩
              refine ⟨v7, ?_⟩
              rintro _ rfl
              refine ⟨fun _ => ?_, fun q_ => absurd q_ c9⟩
              exact r_ _ _ hq_))
    · exact d_wj_X5_hasDots_81 h10 (fun b0_ b1_ b2_ g_ r_ => hK14 _ _ _ g_ (fun K14_ post_ hq_ => by
              refine ⟨v2, ?_⟩
              rintro _ rfl
              refine ⟨fun _ => ?_, fun q_ => absurd q_ c4⟩
              refine ⟨v7, ?_⟩
              rintro _ rfl
              refine ⟨fun q_ => absurd c9 q_, fun _ => ?_⟩
              exact r_ _ _ hq_)) (fun b0_ b1_ g_ r_ => hp _ _ g_ (fun K14_ post_ hq_ => by
              refine ⟨v2, ?_⟩
              rintro _ rfl
              refine ⟨fun _ => ?_, fun q_ => absurd q_ c4⟩
              refine ⟨v7, ?_⟩
              rintro _ rfl
              refine ⟨fun q_ => absurd c9 q_, fun _ => ?_⟩
              exact r_ _ _ hq_))
  · exact d_wj_X5_hasDots_81 h5 (fun b0_ b1_ b2_ g_ r_ => hK14 _ _ _ g_ (fun K14_ post_ hq_ => by
            refine ⟨v2, ?_⟩
            rintro _ rfl
            refine ⟨fun q_ => absurd c4 q_, fun _ => ?_⟩
            exact r_ _ _ hq_)) (fun b0_ b1_ g_ r_ => hp _ _ g_ (fun K14_ post_ hq_ => by
            refine ⟨v2, ?_⟩
            rintro _ rfl
            refine ⟨fun q_ => absurd c4 q_, fun _ => ?_⟩
            exact r_ _ _ hq_))
theorem d_wj_X5_hasDots_14 {K14 : Int32 → Int32 → mS → Prop} {post : Int32 → mS → Prop} {x2 : Int32} {x3 : Int32} {u : mS} {goal : Prop} (h : wj_X5_hasDots_14 K14 post x2 x3 u) (hK14 : ∀ (b0_ : Int32) (b1_ : Int32) (b2_ : mS), K14 b0_ b1_ b2_ → (∀ (K14_ : Int32 → Int32 → mS → Prop) (post_ : Int32 → mS → Prop), K14_ b0_ b1_ b2_ → wj_X5_hasDots_14 K14_ post_ x2 x3 u) → goal) (hp : ∀ (b0_ : Int32) (b1_ : mS), post b0_ b1_ → (∀ (K14_ : Int32 → Int32 → mS → Prop) (post_ : Int32 → mS → Prop), post_ b0_ b1_ → wj_X5_hasDots_14 K14_ post_ x2 x3 u) → goal) : goal := by
  have h1 := h _ rfl
  refine el_p h1 (fun c2 h3 => ?_) (fun c2 h3 => ?_)
  · exact hp _ _ h3 (fun K14_ post_ hq_ => by
            rintro _ rfl
            refine ⟨fun _ => ?_, fun q_ => absurd c2 q_⟩
            exact hq_)
  · refine el_p h3 (fun c4 h5 => ?_) (fun c4 h5 => ?_)
    · exact hp _ _ h5 (fun K14_ post_ hq_ => by
              rintro _ rfl
              refine ⟨fun q_ => absurd q_ c2, fun _ => ?_⟩
              refine ⟨fun _ => ?_, fun q_ => absurd c4 q_⟩
              exact hq_)
    · refine el_p h5 (fun c6 h7 => ?_) (fun c6 h7 => ?_)
      · exact hp _ _ h7 (fun K14_ post_ hq_ => by
                rintro _ rfl
                refine ⟨fun q_ => absurd q_ c2, fun _ => ?_⟩
                refine ⟨fun q_ => absurd q_ c4, fun _ => ?_⟩
                refine ⟨fun _ => ?_, fun q_ => absurd c6 q_⟩
                exact hq_)
      · have v9 := h7.1
        have h8 := h7.2
        have h10 := h8 _ rfl
        refine el_n h10 (fun c11 h12 => ?_) (fun c11 h12 => ?_)
        · exact d_wj_X5_hasDots_50 h12 (fun b0_ b1_ b2_ g_ r_ => hK14 _ _ _ g_ (fun K14_ post_ hq_ => by
                  rintro _ rfl
                  refine ⟨fun q_ => absurd q_ c2, fun _ => ?_⟩
                  refine ⟨fun q_ => absurd q_ c4, fun _ => ?_⟩
                  refine ⟨fun q_ => absurd q_ c6, fun _ => ?_⟩
                  refine ⟨v9, ?_⟩
                  rintro _ rfl
                  refine ⟨fun _ => ?_, fun q_ => absurd q_ c11⟩
                  exact r_ _ _ hq_)) (fun b0_ b1_ g_ r_ => hp _ _ g_ (fun K14_ post_ hq_ => by
                  rintro _ rfl
                  refine ⟨fun q_ => absurd q_ c2, fun _ => ?_⟩
                  refine ⟨fun q_ => absurd q_ c4, fun _ => ?_⟩
                  refine ⟨fun q_ => absurd q_ c6, fun _ => ?_⟩
                  refine ⟨v9, ?_⟩
                  rintro _ rfl
                  refine ⟨fun _ => ?_, fun q_ => absurd q_ c11⟩
                  exact r_ _ _ hq_))
        · refine el_n h12 (fun c13 h14 => ?_) (fun c13 h14 => ?_)
          · exact d_wj_X5_hasDots_50 h14 (fun b0_ b1_ b2_ g_ r_ => hK14 _ _ _ g_ (fun K14_ post_ hq_ => by
                    rintro _ rfl
                    refine ⟨fun q_ => absurd q_ c2, fun _ => ?_⟩
                    refine ⟨fun q_ => absurd q_ c4, fun _ => ?_⟩
                    refine ⟨fun q_ => absurd q_ c6, fun _ => ?_⟩
                    refine ⟨v9, ?_⟩
                    rintro _ rfl
                    refine ⟨fun q_ => absurd c11 q_, fun _ => ?_⟩
                    refine ⟨fun _ => ?_, fun q_ => absurd q_ c13⟩
                    exact r_ _ _ hq_)) (fun b0_ b1_ g_ r_ => hp _ _ g_ (fun K14_ post_ hq_ => by
                    rintro _ rfl
                    refine ⟨fun q_ => absurd q_ c2, fun _ => ?_⟩
                    refine ⟨fun q_ => absurd q_ c4, fun _ => ?_⟩
                    refine ⟨fun q_ => absurd q_ c6, fun _ => ?_⟩
                    refine ⟨v9, ?_⟩
                    rintro _ rfl
                    refine ⟨fun q_ => absurd c11 q_, fun _ => ?_⟩
                    refine ⟨fun _ => ?_, fun q_ => absurd q_ c13⟩
                    exact r_ _ _ hq_))
          · exact hp _ _ h14 (fun K14_ post_ hq_ => by
                    rintro _ rfl
                    refine ⟨fun q_ => absurd q_ c2, fun _ => ?_⟩
                    refine ⟨fun q_ => absurd q_ c4, fun _ => ?_⟩
                    refine ⟨fun q_ => absurd q_ c6, fun _ => ?_⟩
                    refine ⟨v9, ?_⟩
                    rintro _ rfl
                    refine ⟨fun q_ => absurd c11 q_, fun _ => ?_⟩
                    refine ⟨fun q_ => absurd c13 q_, fun _ => ?_⟩
                    exact hq_)
theorem dl_wj_X5_hasDots_14 {post : Int32 → mS → Prop} {goal : Prop} : ∀ (n_ : Nat) (x2 : Int32) (x3 : Int32) (u : mS), mL3 (fun K_ => wj_X5_hasDots_14 K_ post) n_ x2 x3 u → (∀ (b0_ : Int32) (b1_ : mS), post b0_ b1_ → (∀ (post_ : Int32 → mS → Prop), post_ b0_ b1_ → ∃ m_, mL3 (fun K_ => wj_X5_hasDots_14 K_ post_) m_ x2 x3 u) → goal) → goal
  | 0, _, _, _, h, _ => h.elim
  | n_ + 1, x2, x3, u, h, hp => d_wj_X5_hasDots_14 h (fun b0_ b1_ b2_ g_ r_ => dl_wj_X5_hasDots_14 n_ b0_ b1_ b2_ g_ (fun b0_ b1_ g2_ r2_ => hp b0_ b1_ g2_ (fun post_ hq_ => (r2_ post_ hq_).elim (fun m_ hm_ => ⟨m_ + 1, r_ _ _ hm_⟩)))) (fun b0_ b1_ g_ r_ => hp b0_ b1_ g_ (fun post_ hq_ => ⟨1, r_ _ _ hq_⟩))
theorem d_wj_X5_hasDots_13 {post : Int32 → mS → Prop} {x2 : Int32} {z0 : Int32} {u : mS} {goal : Prop} (h : wj_X5_hasDots_13 post x2 z0 u) (hp : ∀ (b0_ : Int32) (b1_ : mS), post b0_ b1_ → (∀ (post_ : Int32 → mS → Prop), post_ b0_ b1_ → wj_X5_hasDots_13 post_ x2 z0 u) → goal) : goal := by
  obtain ⟨n1, h2⟩ := h
  exact dl_wj_X5_hasDots_14 n1 _ _ _ h2 (fun b0_ b1_ g_ r_ => hp _ _ g_ (fun post_ hq_ => r_ _ hq_))
theorem d_wp_X5_hasDots {x1 : Int32} {u : mS} {post : Int32 → mS → Prop} {goal : Prop} (h : wp_X5_hasDots x1 u post) (hp : ∀ (b0_ : Int32) (b1_ : mS), post b0_ b1_ → (∀ (post_ : Int32 → mS → Prop), post_ b0_ b1_ → wp_X5_hasDots x1 u post_) → goal) : goal := by
  refine el_p h (fun c1 h2 => ?_) (fun c1 h2 => ?_)
  · have h3 := h2 _ rfl
    exact d_wj_X5_hasDots_13 h3 (fun b0_ b1_ g_ r_ => hp _ _ g_ (fun post_ hq_ => by
            refine ⟨fun _ => ?_, fun q_ => absurd c1 q_⟩
            rintro _ rfl
            exact r_ _ hq_))
  · exact d_wj_X5_hasDots_13 h2 (fun b0_ b1_ g_ r_ => hp _ _ g_ (fun post_ hq_ => by
            refine ⟨fun q_ => absurd q_ c1, fun _ => ?_⟩
            exact r_ _ hq_))
theorem d_wj_X5_itemsFrom_85 {K15 : Int32 → Int32 → Int32 → mS → Prop} {post : Int32 → mS → Prop} {x2 : Int32} {x3 : Int32} {x4 : Int32} {u : mS} {goal : Prop} (h : wj_X5_itemsFrom_85 K15 post x2 x3 x4 u) (hK15 : ∀ (b0_ : Int32) (b1_ : Int32) (b2_ : Int32) (b3_ : mS), K15 b0_ b1_ b2_ b3_ → (∀ (K15_ : Int32 → Int32 → Int32 → mS → Prop) (post_ : Int32 → mS → Prop), K15_ b0_ b1_ b2_ b3_ → wj_X5_itemsFrom_85 K15_ post_ x2 x3 x4 u) → goal) (hp : ∀ (b0_ : Int32) (b1_ : mS), post b0_ b1_ → (∀ (K15_ : Int32 → Int32 → Int32 → mS → Prop) (post_ : Int32 → mS → Prop), post_ b0_ b1_ → wj_X5_itemsFrom_85 K15_ post_ x2 x3 x4 u) → goal) : goal := by
  have h1 := h _ rfl
  exact hK15 _ _ _ _ h1 (fun K15_ post_ hq_ => by
        rintro _ rfl
        exact hq_)
theorem d_wj_X5_itemsFrom_83 {K15 : Int32 → Int32 → Int32 → mS → Prop} {post : Int32 → mS → Prop} {x2 : Int32} {x4 : Int32} {z0 : Int32} {z1 : Int32} {u : mS} {goal : Prop} (h : wj_X5_itemsFrom_83 K15 post x2 x4 z0 z1 u) (hK15 : ∀ (b0_ : Int32) (b1_ : Int32) (b2_ : Int32) (b3_ : mS), K15 b0_ b1_ b2_ b3_ → (∀ (K15_ : Int32 → Int32 → Int32 → mS → Prop) (post_ : Int32 → mS → Prop), K15_ b0_ b1_ b2_ b3_ → wj_X5_itemsFrom_83 K15_ post_ x2 x4 z0 z1 u) → goal) (hp : ∀ (b0_ : Int32) (b1_ : mS), post b0_ b1_ → (∀ (K15_ : Int32 → Int32 → Int32 → mS → Prop) (post_ : Int32 → mS → Prop), post_ b0_ b1_ → wj_X5_itemsFrom_83 K15_ post_ x2 x4 z0 z1 u) → goal) : goal := by
  have h1 := h _ rfl
  exact d_wj_X5_itemsFrom_85 h1 (fun b0_ b1_ b2_ b3_ g_ r_ => hK15 _ _ _ _ g_ (fun K15_ post_ hq_ => by
        rintro _ rfl
        exact r_ _ _ hq_)) (fun b0_ b1_ g_ r_ => hp _ _ g_ (fun K15_ post_ hq_ => by
        rintro _ rfl
        exact r_ _ _ hq_))
theorem d_wj_X5_itemsFrom_64 {K15 : Int32 → Int32 → Int32 → mS → Prop} {post : Int32 → mS → Prop} {x3 : Int32} {x4 : Int32} {z0 : Int32} {z1 : Int32} {u : mS} {goal : Prop} (h : wj_X5_itemsFrom_64 K15 post x3 x4 z0 z1 u) (hK15 : ∀ (b0_ : Int32) (b1_ : Int32) (b2_ : Int32) (b3_ : mS), K15 b0_ b1_ b2_ b3_ → (∀ (K15_ : Int32 → Int32 → Int32 → mS → Prop) (post_ : Int32 → mS → Prop), K15_ b0_ b1_ b2_ b3_ → wj_X5_itemsFrom_64 K15_ post_ x3 x4 z0 z1 u) → goal) (hp : ∀ (b0_ : Int32) (b1_ : mS), post b0_ b1_ → (∀ (K15_ : Int32 → Int32 → Int32 → mS → Prop) (post_ : Int32 → mS → Prop), post_ b0_ b1_ → wj_X5_itemsFrom_64 K15_ post_ x3 x4 z0 z1 u) → goal) : goal := by
  have h1 := h _ rfl
  have v3 := h1.1
  have h2 := h1.2
  have h4 := h2 _ rfl
  refine el_n h4 (fun c5 h6 => ?_) (fun c5 h6 => ?_)
  · exact d_wj_X5_itemsFrom_83 h6 (fun b0_ b1_ b2_ b3_ g_ r_ => hK15 _ _ _ _ g_ (fun K15_ post_ hq_ => by
            rintro _ rfl
            refine ⟨v3, ?_⟩
            rintro _ rfl
            refine ⟨fun _ => ?_, fun q_ => absurd q_ c5⟩
            exact r_ _ _ hq_)) (fun b0_ b1_ g_ r_ => hp _ _ g_ (fun K15_ post_ hq_ => by
            rintro _ rfl
            refine ⟨v3, ?_⟩
            rintro _ rfl
            refine ⟨fun _ => ?_, fun q_ => absurd q_ c5⟩
            exact r_ _ _ hq_))
  · exact d_wj_X5_itemsFrom_83 h6 (fun b0_ b1_ b2_ b3_ g_ r_ => hK15 _ _ _ _ g_ (fun K15_ post_ hq_ => by
            rintro _ rfl
            refine ⟨v3, ?_⟩
            rintro _ rfl
            refine ⟨fun q_ => absurd c5 q_, fun _ => ?_⟩
            exact r_ _ _ hq_)) (fun b0_ b1_ g_ r_ => hp _ _ g_ (fun K15_ post_ hq_ => by
            rintro _ rfl
            refine ⟨v3, ?_⟩
            rintro _ rfl
            refine ⟨fun q_ => absurd c5 q_, fun _ => ?_⟩
            exact r_ _ _ hq_))
theorem d_wj_X5_itemsFrom_91 {post : Int32 → mS → Prop} {x2 : Int32} {u : mS} {goal : Prop} (h : wj_X5_itemsFrom_91 post x2 u) (hp : ∀ (b0_ : Int32) (b1_ : mS), post b0_ b1_ → (∀ (post_ : Int32 → mS → Prop), post_ b0_ b1_ → wj_X5_itemsFrom_91 post_ x2 u) → goal) : goal := by
  exact hp _ _ h (fun post_ hq_ => hq_)
theorem d_wj_X5_itemsFrom_15 {K15 : Int32 → Int32 → Int32 → mS → Prop} {post : Int32 → mS → Prop} {x2 : Int32} {x3 : Int32} {x4 : Int32} {u : mS} {goal : Prop} (h : wj_X5_itemsFrom_15 K15 post x2 x3 x4 u) (hK15 : ∀ (b0_ : Int32) (b1_ : Int32) (b2_ : Int32) (b3_ : mS), K15 b0_ b1_ b2_ b3_ → (∀ (K15_ : Int32 → Int32 → Int32 → mS → Prop) (post_ : Int32 → mS → Prop), K15_ b0_ b1_ b2_ b3_ → wj_X5_itemsFrom_15 K15_ post_ x2 x3 x4 u) → goal) (hp : ∀ (b0_ : Int32) (b1_ : mS), post b0_ b1_ → (∀ (K15_ : Int32 → Int32 → Int32 → mS → Prop) (post_ : Int32 → mS → Prop), post_ b0_ b1_ → wj_X5_itemsFrom_15 K15_ post_ x2 x3 x4 u) → goal) : goal := by
  have h1 := h _ rfl
  refine el_p h1 (fun c2 h3 => ?_) (fun c2 h3 => ?_)
  · exact d_wj_X5_itemsFrom_91 h3 (fun b0_ b1_ g_ r_ => hp _ _ g_ (fun K15_ post_ hq_ => by
            rintro _ rfl
            refine ⟨fun _ => ?_, fun q_ => absurd c2 q_⟩
            exact r_ _ hq_))
  · refine el_p h3 (fun c4 h5 => ?_) (fun c4 h5 => ?_)
    · exact d_wj_X5_itemsFrom_91 h5 (fun b0_ b1_ g_ r_ => hp _ _ g_ (fun K15_ post_ hq_ => by
              rintro _ rfl
              refine ⟨fun q_ => absurd q_ c2, fun _ => ?_⟩
              refine ⟨fun _ => ?_, fun q_ => absurd c4 q_⟩
              exact r_ _ hq_))
    · refine el_p h5 (fun c6 h7 => ?_) (fun c6 h7 => ?_)
      · exact d_wj_X5_itemsFrom_91 h7 (fun b0_ b1_ g_ r_ => hp _ _ g_ (fun K15_ post_ hq_ => by
                rintro _ rfl
                refine ⟨fun q_ => absurd q_ c2, fun _ => ?_⟩
                refine ⟨fun q_ => absurd q_ c4, fun _ => ?_⟩
                refine ⟨fun _ => ?_, fun q_ => absurd c6 q_⟩
                exact r_ _ hq_))
      · have v9 := h7.1
        have h8 := h7.2
        have h10 := h8 _ rfl
        refine el_n h10 (fun c11 h12 => ?_) (fun c11 h12 => ?_)
        · refine el_n h12 (fun c13 h14 => ?_) (fun c13 h14 => ?_)
          · exact d_wj_X5_itemsFrom_64 h14 (fun b0_ b1_ b2_ b3_ g_ r_ => hK15 _ _ _ _ g_ (fun K15_ post_ hq_ => by
                    rintro _ rfl
                    refine ⟨fun q_ => absurd q_ c2, fun _ => ?_⟩
                    refine ⟨fun q_ => absurd q_ c4, fun _ => ?_⟩
                    refine ⟨fun q_ => absurd q_ c6, fun _ => ?_⟩
                    refine ⟨v9, ?_⟩
                    rintro _ rfl
                    refine ⟨fun _ => ?_, fun q_ => absurd q_ c11⟩
                    refine ⟨fun _ => ?_, fun q_ => absurd q_ c13⟩
                    exact r_ _ _ hq_)) (fun b0_ b1_ g_ r_ => hp _ _ g_ (fun K15_ post_ hq_ => by
                    rintro _ rfl
                    refine ⟨fun q_ => absurd q_ c2, fun _ => ?_⟩
                    refine ⟨fun q_ => absurd q_ c4, fun _ => ?_⟩
                    refine ⟨fun q_ => absurd q_ c6, fun _ => ?_⟩
                    refine ⟨v9, ?_⟩
                    rintro _ rfl
                    refine ⟨fun _ => ?_, fun q_ => absurd q_ c11⟩
                    refine ⟨fun _ => ?_, fun q_ => absurd q_ c13⟩
                    exact r_ _ _ hq_))
          · exact d_wj_X5_itemsFrom_64 h14 (fun b0_ b1_ b2_ b3_ g_ r_ => hK15 _ _ _ _ g_ (fun K15_ post_ hq_ => by
                    rintro _ rfl
                    refine ⟨fun q_ => absurd q_ c2, fun _ => ?_⟩
                    refine ⟨fun q_ => absurd q_ c4, fun _ => ?_⟩
                    refine ⟨fun q_ => absurd q_ c6, fun _ => ?_⟩
                    refine ⟨v9, ?_⟩
                    rintro _ rfl
                    refine ⟨fun _ => ?_, fun q_ => absurd q_ c11⟩
                    refine ⟨fun q_ => absurd c13 q_, fun _ => ?_⟩
                    exact r_ _ _ hq_)) (fun b0_ b1_ g_ r_ => hp _ _ g_ (fun K15_ post_ hq_ => by
                    rintro _ rfl
                    refine ⟨fun q_ => absurd q_ c2, fun _ => ?_⟩
                    refine ⟨fun q_ => absurd q_ c4, fun _ => ?_⟩
                    refine ⟨fun q_ => absurd q_ c6, fun _ => ?_⟩
                    refine ⟨v9, ?_⟩
                    rintro _ rfl
                    refine ⟨fun _ => ?_, fun q_ => absurd q_ c11⟩
                    refine ⟨fun q_ => absurd c13 q_, fun _ => ?_⟩
                    exact r_ _ _ hq_))
        · have h15 := h12 _ rfl
          exact d_wj_X5_itemsFrom_85 h15 (fun b0_ b1_ b2_ b3_ g_ r_ => hK15 _ _ _ _ g_ (fun K15_ post_ hq_ => by
                  rintro _ rfl
                  refine ⟨fun q_ => absurd q_ c2, fun _ => ?_⟩
                  refine ⟨fun q_ => absurd q_ c4, fun _ => ?_⟩
                  refine ⟨fun q_ => absurd q_ c6, fun _ => ?_⟩
                  refine ⟨v9, ?_⟩
                  rintro _ rfl
                  refine ⟨fun q_ => absurd c11 q_, fun _ => ?_⟩
                  rintro _ rfl
                  exact r_ _ _ hq_)) (fun b0_ b1_ g_ r_ => hp _ _ g_ (fun K15_ post_ hq_ => by
                  rintro _ rfl
                  refine ⟨fun q_ => absurd q_ c2, fun _ => ?_⟩
                  refine ⟨fun q_ => absurd q_ c4, fun _ => ?_⟩
                  refine ⟨fun q_ => absurd q_ c6, fun _ => ?_⟩
                  refine ⟨v9, ?_⟩
                  rintro _ rfl
                  refine ⟨fun q_ => absurd c11 q_, fun _ => ?_⟩
                  rintro _ rfl
                  exact r_ _ _ hq_))
theorem dl_wj_X5_itemsFrom_15 {post : Int32 → mS → Prop} {goal : Prop} : ∀ (n_ : Nat) (x2 : Int32) (x3 : Int32) (x4 : Int32) (u : mS), mL4 (fun K_ => wj_X5_itemsFrom_15 K_ post) n_ x2 x3 x4 u → (∀ (b0_ : Int32) (b1_ : mS), post b0_ b1_ → (∀ (post_ : Int32 → mS → Prop), post_ b0_ b1_ → ∃ m_, mL4 (fun K_ => wj_X5_itemsFrom_15 K_ post_) m_ x2 x3 x4 u) → goal) → goal
  | 0, _, _, _, _, h, _ => h.elim
  | n_ + 1, x2, x3, x4, u, h, hp => d_wj_X5_itemsFrom_15 h (fun b0_ b1_ b2_ b3_ g_ r_ => dl_wj_X5_itemsFrom_15 n_ b0_ b1_ b2_ b3_ g_ (fun b0_ b1_ g2_ r2_ => hp b0_ b1_ g2_ (fun post_ hq_ => (r2_ post_ hq_).elim (fun m_ hm_ => ⟨m_ + 1, r_ _ _ hm_⟩)))) (fun b0_ b1_ g_ r_ => hp b0_ b1_ g_ (fun post_ hq_ => ⟨1, r_ _ _ hq_⟩))
theorem d_wj_X5_itemsFrom_13 {post : Int32 → mS → Prop} {x2 : Int32} {x3 : Int32} {z0 : Int32} {u : mS} {goal : Prop} (h : wj_X5_itemsFrom_13 post x2 x3 z0 u) (hp : ∀ (b0_ : Int32) (b1_ : mS), post b0_ b1_ → (∀ (post_ : Int32 → mS → Prop), post_ b0_ b1_ → wj_X5_itemsFrom_13 post_ x2 x3 z0 u) → goal) : goal := by
  obtain ⟨n1, h2⟩ := h
  exact dl_wj_X5_itemsFrom_15 n1 _ _ _ _ h2 (fun b0_ b1_ g_ r_ => hp _ _ g_ (fun post_ hq_ => r_ _ hq_))
theorem d_wp_X5_itemsFrom {x1 : Int32} {u : mS} {post : Int32 → mS → Prop} {goal : Prop} (h : wp_X5_itemsFrom x1 u post) (hp : ∀ (b0_ : Int32) (b1_ : mS), post b0_ b1_ → (∀ (post_ : Int32 → mS → Prop), post_ b0_ b1_ → wp_X5_itemsFrom x1 u post_) → goal) : goal := by
  refine el_p h (fun c1 h2 => ?_) (fun c1 h2 => ?_)
  · exact d_wj_X5_itemsFrom_13 h2 (fun b0_ b1_ g_ r_ => hp _ _ g_ (fun post_ hq_ => by
            refine ⟨fun _ => ?_, fun q_ => absurd c1 q_⟩
            exact r_ _ hq_))
  · exact d_wj_X5_itemsFrom_13 h2 (fun b0_ b1_ g_ r_ => hp _ _ g_ (fun post_ hq_ => by
            refine ⟨fun q_ => absurd q_ c1, fun _ => ?_⟩
            exact r_ _ hq_))
theorem d_wj_X5_plainLength_17 {post : Int32 → mS → Prop} {u : mS} {goal : Prop} (h : wj_X5_plainLength_17 post u) (hp : ∀ (b0_ : Int32) (b1_ : mS), post b0_ b1_ → (∀ (post_ : Int32 → mS → Prop), post_ b0_ b1_ → wj_X5_plainLength_17 post_ u) → goal) : goal := by
  exact hp _ _ h (fun post_ hq_ => hq_)
theorem d_wp_X5_plainLength {x1 : Int32} {u : mS} {post : Int32 → mS → Prop} {goal : Prop} (h : wp_X5_plainLength x1 u post) (hp : ∀ (b0_ : Int32) (b1_ : mS), post b0_ b1_ → (∀ (post_ : Int32 → mS → Prop), post_ b0_ b1_ → wp_X5_plainLength x1 u post_) → goal) : goal := by
  refine d_wp_X5_wordAt h (fun w3 w4 h1 r2 => ?_)
  refine el_n h1 (fun c5 h6 => ?_) (fun c5 h6 => ?_)
  · exact d_wj_X5_plainLength_17 h6 (fun b0_ b1_ g_ r_ => hp _ _ g_ (fun post_ hq_ => by
            refine r2 _ ?_
            refine ⟨fun _ => ?_, fun q_ => absurd q_ c5⟩
            exact r_ _ hq_))
  · refine d_wp_X5_hasDots h6 (fun w9 w10 h7 r8 => ?_)
    refine el_p h7 (fun c11 h12 => ?_) (fun c11 h12 => ?_)
    · have h13 := h12 _ rfl
      refine d_wp_X5_itemsFrom h13 (fun w16 w17 h14 r15 => ?_)
      exact hp _ _ h14 (fun post_ hq_ => by
              refine r2 _ ?_
              refine ⟨fun q_ => absurd c5 q_, fun _ => ?_⟩
              refine r8 _ ?_
              refine ⟨fun _ => ?_, fun q_ => absurd c11 q_⟩
              rintro _ rfl
              refine r15 _ ?_
              exact hq_)
    · exact d_wj_X5_plainLength_17 h12 (fun b0_ b1_ g_ r_ => hp _ _ g_ (fun post_ hq_ => by
              refine r2 _ ?_
              refine ⟨fun q_ => absurd c5 q_, fun _ => ?_⟩
              refine r8 _ ?_
              refine ⟨fun q_ => absurd q_ c11, fun _ => ?_⟩
              exact r_ _ hq_))
theorem d_wp_X0_newScope {u : mS} {post : Int32 → mS → Prop} {goal : Prop} (h : wp_X0_newScope u post) (hp : ∀ (b0_ : Int32) (b1_ : mS), post b0_ b1_ → (∀ (post_ : Int32 → mS → Prop), post_ b0_ b1_ → wp_X0_newScope u post_) → goal) : goal := by
  have h1 := h _ rfl
  refine el_p h1 (fun c2 h3 => ?_) (fun c2 h3 => ?_)
  · have h4 := h3 _ rfl
    have h5 := h4 _ rfl
    have h6 := h5 _ rfl
    have h7 := h6 _ rfl
    have h8 := h7 _ rfl
    exact hp _ _ h8 (fun post_ hq_ => by
            rintro _ rfl
            refine ⟨fun _ => ?_, fun q_ => absurd c2 q_⟩
            rintro _ rfl
            rintro _ rfl
            rintro _ rfl
            rintro _ rfl
            rintro _ rfl
            exact hq_)
  · refine d_wp_X2_fail h3 (fun w11 h9 r10 => ?_)
    exact hp _ _ h9 (fun post_ hq_ => by
            rintro _ rfl
            refine ⟨fun q_ => absurd q_ c2, fun _ => ?_⟩
            refine r10 _ ?_
            exact hq_)
theorem d_wj_X5_turnScope_66 {K17 : Int32 → Int32 → Int32 → mS → Prop} {post : mS → Prop} {x2 : Int32} {x3 : Int32} {x4 : Int32} {u : mS} {goal : Prop} (h : wj_X5_turnScope_66 K17 post x2 x3 x4 u) (hK17 : ∀ (b0_ : Int32) (b1_ : Int32) (b2_ : Int32) (b3_ : mS), K17 b0_ b1_ b2_ b3_ → (∀ (K17_ : Int32 → Int32 → Int32 → mS → Prop) (post_ : mS → Prop), K17_ b0_ b1_ b2_ b3_ → wj_X5_turnScope_66 K17_ post_ x2 x3 x4 u) → goal) (hp : ∀ (b0_ : mS), post b0_ → (∀ (K17_ : Int32 → Int32 → Int32 → mS → Prop) (post_ : mS → Prop), post_ b0_ → wj_X5_turnScope_66 K17_ post_ x2 x3 x4 u) → goal) : goal := by
  have h1 := h _ rfl
  exact hK17 _ _ _ _ h1 (fun K17_ post_ hq_ => by
        rintro _ rfl
        exact hq_)
theorem d_wj_X5_turnScope_17 {K17 : Int32 → Int32 → Int32 → mS → Prop} {post : mS → Prop} {x2 : Int32} {x3 : Int32} {x4 : Int32} {u : mS} {goal : Prop} (h : wj_X5_turnScope_17 K17 post x2 x3 x4 u) (hK17 : ∀ (b0_ : Int32) (b1_ : Int32) (b2_ : Int32) (b3_ : mS), K17 b0_ b1_ b2_ b3_ → (∀ (K17_ : Int32 → Int32 → Int32 → mS → Prop) (post_ : mS → Prop), K17_ b0_ b1_ b2_ b3_ → wj_X5_turnScope_17 K17_ post_ x2 x3 x4 u) → goal) (hp : ∀ (b0_ : mS), post b0_ → (∀ (K17_ : Int32 → Int32 → Int32 → mS → Prop) (post_ : mS → Prop), post_ b0_ → wj_X5_turnScope_17 K17_ post_ x2 x3 x4 u) → goal) : goal := by
  refine el_p h (fun c1 h2 => ?_) (fun c1 h2 => ?_)
  · exact hp _ h2 (fun K17_ post_ hq_ => by
            refine ⟨fun _ => ?_, fun q_ => absurd c1 q_⟩
            exact hq_)
  · have h3 := h2 _ rfl
    refine el_p h3 (fun c4 h5 => ?_) (fun c4 h5 => ?_)
    · exact hp _ h5 (fun K17_ post_ hq_ => by
              refine ⟨fun q_ => absurd q_ c1, fun _ => ?_⟩
              rintro _ rfl
              refine ⟨fun _ => ?_, fun q_ => absurd c4 q_⟩
              exact hq_)
    · refine el_p h5 (fun c6 h7 => ?_) (fun c6 h7 => ?_)
      · exact hp _ h7 (fun K17_ post_ hq_ => by
                refine ⟨fun q_ => absurd q_ c1, fun _ => ?_⟩
                rintro _ rfl
                refine ⟨fun q_ => absurd q_ c4, fun _ => ?_⟩
                refine ⟨fun _ => ?_, fun q_ => absurd c6 q_⟩
                exact hq_)
      · have v9 := h7.1
        have h8 := h7.2
        have h10 := h8 _ rfl
        refine d_wp_X8_isName h10 (fun w13 w14 h11 r12 => ?_)
        refine el_p h11 (fun c15 h16 => ?_) (fun c15 h16 => ?_)
        · exact d_wj_X5_turnScope_66 h16 (fun b0_ b1_ b2_ b3_ g_ r_ => hK17 _ _ _ _ g_ (fun K17_ post_ hq_ => by
                  refine ⟨fun q_ => absurd q_ c1, fun _ => ?_⟩
                  rintro _ rfl
                  refine ⟨fun q_ => absurd q_ c4, fun _ => ?_⟩
                  refine ⟨fun q_ => absurd q_ c6, fun _ => ?_⟩
                  refine ⟨v9, ?_⟩
                  rintro _ rfl
                  refine r12 _ ?_
                  refine ⟨fun _ => ?_, fun q_ => absurd c15 q_⟩
                  exact r_ _ _ hq_)) (fun b0_ g_ r_ => hp _ g_ (fun K17_ post_ hq_ => by
                  refine ⟨fun q_ => absurd q_ c1, fun _ => ?_⟩
                  rintro _ rfl
                  refine ⟨fun q_ => absurd q_ c4, fun _ => ?_⟩
                  refine ⟨fun q_ => absurd q_ c6, fun _ => ?_⟩
                  refine ⟨v9, ?_⟩
                  rintro _ rfl
                  refine r12 _ ?_
                  refine ⟨fun _ => ?_, fun q_ => absurd c15 q_⟩
                  exact r_ _ _ hq_))
        · have v18 := h16.1
          have h17 := h16.2
          have h19 := h17 _ rfl
          have h20 := h19 _ rfl
          have h21 := h20 _ rfl
          have v23 := h21.1
          have h22 := h21.2
          have h24 := h22 _ rfl
          exact d_wj_X5_turnScope_66 h24 (fun b0_ b1_ b2_ b3_ g_ r_ => hK17 _ _ _ _ g_ (fun K17_ post_ hq_ => by
                  refine ⟨fun q_ => absurd q_ c1, fun _ => ?_⟩
                  rintro _ rfl
                  refine ⟨fun q_ => absurd q_ c4, fun _ => ?_⟩
                  refine ⟨fun q_ => absurd q_ c6, fun _ => ?_⟩
                  refine ⟨v9, ?_⟩
                  rintro _ rfl
                  refine r12 _ ?_
                  refine ⟨fun q_ => absurd q_ c15, fun _ => ?_⟩
                  refine ⟨v18, ?_⟩
                  rintro _ rfl
                  rintro _ rfl
                  rintro _ rfl
                  refine ⟨v23, ?_⟩
                  rintro _ rfl
                  exact r_ _ _ hq_)) (fun b0_ g_ r_ => hp _ g_ (fun K17_ post_ hq_ => by
                  refine ⟨fun q_ => absurd q_ c1, fun _ => ?_⟩
                  rintro _ rfl
                  refine ⟨fun q_ => absurd q_ c4, fun _ => ?_⟩
                  refine ⟨fun q_ => absurd q_ c6, fun _ => ?_⟩
                  refine ⟨v9, ?_⟩
                  rintro _ rfl
                  refine r12 _ ?_
                  refine ⟨fun q_ => absurd q_ c15, fun _ => ?_⟩
                  refine ⟨v18, ?_⟩
                  rintro _ rfl
                  rintro _ rfl
                  rintro _ rfl
                  refine ⟨v23, ?_⟩
                  rintro _ rfl
                  exact r_ _ _ hq_))
theorem dl_wj_X5_turnScope_17 {post : mS → Prop} {goal : Prop} : ∀ (n_ : Nat) (x2 : Int32) (x3 : Int32) (x4 : Int32) (u : mS), mL4 (fun K_ => wj_X5_turnScope_17 K_ post) n_ x2 x3 x4 u → (∀ (b0_ : mS), post b0_ → (∀ (post_ : mS → Prop), post_ b0_ → ∃ m_, mL4 (fun K_ => wj_X5_turnScope_17 K_ post_) m_ x2 x3 x4 u) → goal) → goal
  | 0, _, _, _, _, h, _ => h.elim
  | n_ + 1, x2, x3, x4, u, h, hp => d_wj_X5_turnScope_17 h (fun b0_ b1_ b2_ b3_ g_ r_ => dl_wj_X5_turnScope_17 n_ b0_ b1_ b2_ b3_ g_ (fun b0_ g2_ r2_ => hp b0_ g2_ (fun post_ hq_ => (r2_ post_ hq_).elim (fun m_ hm_ => ⟨m_ + 1, r_ _ _ hm_⟩)))) (fun b0_ g_ r_ => hp b0_ g_ (fun post_ hq_ => ⟨1, r_ _ _ hq_⟩))
theorem d_wj_X5_turnScope_15 {post : mS → Prop} {x2 : Int32} {x3 : Int32} {z0 : Int32} {u : mS} {goal : Prop} (h : wj_X5_turnScope_15 post x2 x3 z0 u) (hp : ∀ (b0_ : mS), post b0_ → (∀ (post_ : mS → Prop), post_ b0_ → wj_X5_turnScope_15 post_ x2 x3 z0 u) → goal) : goal := by
  obtain ⟨n1, h2⟩ := h
  exact dl_wj_X5_turnScope_17 n1 _ _ _ _ h2 (fun b0_ g_ r_ => hp _ g_ (fun post_ hq_ => r_ _ hq_))
theorem d_wp_X5_turnScope {x1 : Int32} {x2 : Int32} {u : mS} {post : mS → Prop} {goal : Prop} (h : wp_X5_turnScope x1 x2 u post) (hp : ∀ (b0_ : mS), post b0_ → (∀ (post_ : mS → Prop), post_ b0_ → wp_X5_turnScope x1 x2 u post_) → goal) : goal := by
  refine d_wp_X5_after h (fun w3 w4 h1 r2 => ?_)
  refine el_p h1 (fun c5 h6 => ?_) (fun c5 h6 => ?_)
  · exact d_wj_X5_turnScope_15 h6 (fun b0_ g_ r_ => hp _ g_ (fun post_ hq_ => by
            refine r2 _ ?_
            refine ⟨fun _ => ?_, fun q_ => absurd c5 q_⟩
            exact r_ _ hq_))
  · exact d_wj_X5_turnScope_15 h6 (fun b0_ g_ r_ => hp _ g_ (fun post_ hq_ => by
            refine r2 _ ?_
            refine ⟨fun q_ => absurd q_ c5, fun _ => ?_⟩
            exact r_ _ hq_))
theorem d_wj_X5_findName_102 {K44 : Int32 → Int32 → Int32 → mS → Prop} {post : Int32 → mS → Prop} {x2 : Int32} {x3 : Int32} {x4 : Int32} {u : mS} {goal : Prop} (h : wj_X5_findName_102 K44 post x2 x3 x4 u) (hK44 : ∀ (b0_ : Int32) (b1_ : Int32) (b2_ : Int32) (b3_ : mS), K44 b0_ b1_ b2_ b3_ → (∀ (K44_ : Int32 → Int32 → Int32 → mS → Prop) (post_ : Int32 → mS → Prop), K44_ b0_ b1_ b2_ b3_ → wj_X5_findName_102 K44_ post_ x2 x3 x4 u) → goal) (hp : ∀ (b0_ : Int32) (b1_ : mS), post b0_ b1_ → (∀ (K44_ : Int32 → Int32 → Int32 → mS → Prop) (post_ : Int32 → mS → Prop), post_ b0_ b1_ → wj_X5_findName_102 K44_ post_ x2 x3 x4 u) → goal) : goal := by
  have h1 := h _ rfl
  exact hK44 _ _ _ _ h1 (fun K44_ post_ hq_ => by
        rintro _ rfl
        exact hq_)
theorem d_wj_X5_findName_44 {K44 : Int32 → Int32 → Int32 → mS → Prop} {post : Int32 → mS → Prop} {x2 : Int32} {x3 : Int32} {x4 : Int32} {u : mS} {goal : Prop} (h : wj_X5_findName_44 K44 post x2 x3 x4 u) (hK44 : ∀ (b0_ : Int32) (b1_ : Int32) (b2_ : Int32) (b3_ : mS), K44 b0_ b1_ b2_ b3_ → (∀ (K44_ : Int32 → Int32 → Int32 → mS → Prop) (post_ : Int32 → mS → Prop), K44_ b0_ b1_ b2_ b3_ → wj_X5_findName_44 K44_ post_ x2 x3 x4 u) → goal) (hp : ∀ (b0_ : Int32) (b1_ : mS), post b0_ b1_ → (∀ (K44_ : Int32 → Int32 → Int32 → mS → Prop) (post_ : Int32 → mS → Prop), post_ b0_ b1_ → wj_X5_findName_44 K44_ post_ x2 x3 x4 u) → goal) : goal := by
  refine el_p h (fun c1 h2 => ?_) (fun c1 h2 => ?_)
  · exact hp _ _ h2 (fun K44_ post_ hq_ => by
            refine ⟨fun _ => ?_, fun q_ => absurd c1 q_⟩
            exact hq_)
  · have h3 := h2 _ rfl
    refine el_p h3 (fun c4 h5 => ?_) (fun c4 h5 => ?_)
    · exact hp _ _ h5 (fun K44_ post_ hq_ => by
              refine ⟨fun q_ => absurd q_ c1, fun _ => ?_⟩
              rintro _ rfl
              refine ⟨fun _ => ?_, fun q_ => absurd c4 q_⟩
              exact hq_)
    · refine el_p h5 (fun c6 h7 => ?_) (fun c6 h7 => ?_)
      · exact hp _ _ h7 (fun K44_ post_ hq_ => by
                refine ⟨fun q_ => absurd q_ c1, fun _ => ?_⟩
                rintro _ rfl
                refine ⟨fun q_ => absurd q_ c4, fun _ => ?_⟩
                refine ⟨fun _ => ?_, fun q_ => absurd c6 q_⟩
                exact hq_)
      · have v9 := h7.1
        have h8 := h7.2
        have h10 := h8 _ rfl
        have v12 := h10.1
        have h11 := h10.2
        have h13 := h11 _ rfl
        refine el_n h13 (fun c14 h15 => ?_) (fun c14 h15 => ?_)
        · exact d_wj_X5_findName_102 h15 (fun b0_ b1_ b2_ b3_ g_ r_ => hK44 _ _ _ _ g_ (fun K44_ post_ hq_ => by
                  refine ⟨fun q_ => absurd q_ c1, fun _ => ?_⟩
                  rintro _ rfl
                  refine ⟨fun q_ => absurd q_ c4, fun _ => ?_⟩
                  refine ⟨fun q_ => absurd q_ c6, fun _ => ?_⟩
                  refine ⟨v9, ?_⟩
                  rintro _ rfl
                  refine ⟨v12, ?_⟩
                  rintro _ rfl
                  refine ⟨fun _ => ?_, fun q_ => absurd q_ c14⟩
                  exact r_ _ _ hq_)) (fun b0_ b1_ g_ r_ => hp _ _ g_ (fun K44_ post_ hq_ => by
                  refine ⟨fun q_ => absurd q_ c1, fun _ => ?_⟩
                  rintro _ rfl
                  refine ⟨fun q_ => absurd q_ c4, fun _ => ?_⟩
                  refine ⟨fun q_ => absurd q_ c6, fun _ => ?_⟩
                  refine ⟨v9, ?_⟩
                  rintro _ rfl
                  refine ⟨v12, ?_⟩
                  rintro _ rfl
                  refine ⟨fun _ => ?_, fun q_ => absurd q_ c14⟩
                  exact r_ _ _ hq_))
        · have v17 := h15.1
          have h16 := h15.2
          have h18 := h16 _ rfl
          have v20 := h18.1
          have h19 := h18.2
          have h21 := h19 _ rfl
          refine el_n h21 (fun c22 h23 => ?_) (fun c22 h23 => ?_)
          · exact d_wj_X5_findName_102 h23 (fun b0_ b1_ b2_ b3_ g_ r_ => hK44 _ _ _ _ g_ (fun K44_ post_ hq_ => by
                    refine ⟨fun q_ => absurd q_ c1, fun _ => ?_⟩
                    rintro _ rfl
                    refine ⟨fun q_ => absurd q_ c4, fun _ => ?_⟩
                    refine ⟨fun q_ => absurd q_ c6, fun _ => ?_⟩
                    refine ⟨v9, ?_⟩
                    rintro _ rfl
                    refine ⟨v12, ?_⟩
                    rintro _ rfl
                    refine ⟨fun q_ => absurd c14 q_, fun _ => ?_⟩
                    refine ⟨v17, ?_⟩
                    rintro _ rfl
                    refine ⟨v20, ?_⟩
                    rintro _ rfl
                    refine ⟨fun _ => ?_, fun q_ => absurd q_ c22⟩
                    exact r_ _ _ hq_)) (fun b0_ b1_ g_ r_ => hp _ _ g_ (fun K44_ post_ hq_ => by
                    refine ⟨fun q_ => absurd q_ c1, fun _ => ?_⟩
                    rintro _ rfl
                    refine ⟨fun q_ => absurd q_ c4, fun _ => ?_⟩
                    refine ⟨fun q_ => absurd q_ c6, fun _ => ?_⟩
                    refine ⟨v9, ?_⟩
                    rintro _ rfl
                    refine ⟨v12, ?_⟩
                    rintro _ rfl
                    refine ⟨fun q_ => absurd c14 q_, fun _ => ?_⟩
                    refine ⟨v17, ?_⟩
                    rintro _ rfl
                    refine ⟨v20, ?_⟩
                    rintro _ rfl
                    refine ⟨fun _ => ?_, fun q_ => absurd q_ c22⟩
                    exact r_ _ _ hq_))
          · exact hp _ _ h23 (fun K44_ post_ hq_ => by
                    refine ⟨fun q_ => absurd q_ c1, fun _ => ?_⟩
                    rintro _ rfl
                    refine ⟨fun q_ => absurd q_ c4, fun _ => ?_⟩
                    refine ⟨fun q_ => absurd q_ c6, fun _ => ?_⟩
                    refine ⟨v9, ?_⟩
                    rintro _ rfl
                    refine ⟨v12, ?_⟩
                    rintro _ rfl
                    refine ⟨fun q_ => absurd c14 q_, fun _ => ?_⟩
                    refine ⟨v17, ?_⟩
                    rintro _ rfl
                    refine ⟨v20, ?_⟩
                    rintro _ rfl
                    refine ⟨fun q_ => absurd c22 q_, fun _ => ?_⟩
                    exact hq_)
theorem dl_wj_X5_findName_44 {post : Int32 → mS → Prop} {goal : Prop} : ∀ (n_ : Nat) (x2 : Int32) (x3 : Int32) (x4 : Int32) (u : mS), mL4 (fun K_ => wj_X5_findName_44 K_ post) n_ x2 x3 x4 u → (∀ (b0_ : Int32) (b1_ : mS), post b0_ b1_ → (∀ (post_ : Int32 → mS → Prop), post_ b0_ b1_ → ∃ m_, mL4 (fun K_ => wj_X5_findName_44 K_ post_) m_ x2 x3 x4 u) → goal) → goal
  | 0, _, _, _, _, h, _ => h.elim
  | n_ + 1, x2, x3, x4, u, h, hp => d_wj_X5_findName_44 h (fun b0_ b1_ b2_ b3_ g_ r_ => dl_wj_X5_findName_44 n_ b0_ b1_ b2_ b3_ g_ (fun b0_ b1_ g2_ r2_ => hp b0_ b1_ g2_ (fun post_ hq_ => (r2_ post_ hq_).elim (fun m_ hm_ => ⟨m_ + 1, r_ _ _ hm_⟩)))) (fun b0_ b1_ g_ r_ => hp b0_ b1_ g_ (fun post_ hq_ => ⟨1, r_ _ _ hq_⟩))
theorem d_wj_X5_findName_42 {post : Int32 → mS → Prop} {x2 : Int32} {x3 : Int32} {z0 : Int32} {u : mS} {goal : Prop} (h : wj_X5_findName_42 post x2 x3 z0 u) (hp : ∀ (b0_ : Int32) (b1_ : mS), post b0_ b1_ → (∀ (post_ : Int32 → mS → Prop), post_ b0_ b1_ → wj_X5_findName_42 post_ x2 x3 z0 u) → goal) : goal := by
  obtain ⟨n1, h2⟩ := h
  exact dl_wj_X5_findName_44 n1 _ _ _ _ h2 (fun b0_ b1_ g_ r_ => hp _ _ g_ (fun post_ hq_ => r_ _ hq_))
theorem d_wp_X5_findName {x1 : Int32} {x2 : Int32} {x3 : Int32} {u : mS} {post : Int32 → mS → Prop} {goal : Prop} (h : wp_X5_findName x1 x2 x3 u post) (hp : ∀ (b0_ : Int32) (b1_ : mS), post b0_ b1_ → (∀ (post_ : Int32 → mS → Prop), post_ b0_ b1_ → wp_X5_findName x1 x2 x3 u post_) → goal) : goal := by
  refine el_p h (fun c1 h2 => ?_) (fun c1 h2 => ?_)
  · exact hp _ _ h2 (fun post_ hq_ => by
            refine ⟨fun _ => ?_, fun q_ => absurd c1 q_⟩
            exact hq_)
  · have h3 := h2 _ rfl
    refine el_p h3 (fun c4 h5 => ?_) (fun c4 h5 => ?_)
    · exact hp _ _ h5 (fun post_ hq_ => by
              refine ⟨fun q_ => absurd q_ c1, fun _ => ?_⟩
              rintro _ rfl
              refine ⟨fun _ => ?_, fun q_ => absurd c4 q_⟩
              exact hq_)
    · refine el_p h5 (fun c6 h7 => ?_) (fun c6 h7 => ?_)
      · exact hp _ _ h7 (fun post_ hq_ => by
                refine ⟨fun q_ => absurd q_ c1, fun _ => ?_⟩
                rintro _ rfl
                refine ⟨fun q_ => absurd q_ c4, fun _ => ?_⟩
                refine ⟨fun _ => ?_, fun q_ => absurd c6 q_⟩
                exact hq_)
      · have v9 := h7.1
        have h8 := h7.2
        have h10 := h8 _ rfl
        refine el_p h10 (fun c11 h12 => ?_) (fun c11 h12 => ?_)
        · refine el_p h12 (fun c13 h14 => ?_) (fun c13 h14 => ?_)
          · exact d_wj_X5_findName_42 h14 (fun b0_ b1_ g_ r_ => hp _ _ g_ (fun post_ hq_ => by
                    refine ⟨fun q_ => absurd q_ c1, fun _ => ?_⟩
                    rintro _ rfl
                    refine ⟨fun q_ => absurd q_ c4, fun _ => ?_⟩
                    refine ⟨fun q_ => absurd q_ c6, fun _ => ?_⟩
                    refine ⟨v9, ?_⟩
                    rintro _ rfl
                    refine ⟨fun _ => ?_, fun q_ => absurd c11 q_⟩
                    refine ⟨fun _ => ?_, fun q_ => absurd c13 q_⟩
                    exact r_ _ hq_))
          · exact d_wj_X5_findName_42 h14 (fun b0_ b1_ g_ r_ => hp _ _ g_ (fun post_ hq_ => by
                    refine ⟨fun q_ => absurd q_ c1, fun _ => ?_⟩
                    rintro _ rfl
                    refine ⟨fun q_ => absurd q_ c4, fun _ => ?_⟩
                    refine ⟨fun q_ => absurd q_ c6, fun _ => ?_⟩
                    refine ⟨v9, ?_⟩
                    rintro _ rfl
                    refine ⟨fun _ => ?_, fun q_ => absurd c11 q_⟩
                    refine ⟨fun q_ => absurd q_ c13, fun _ => ?_⟩
                    exact r_ _ hq_))
        · exact hp _ _ h12 (fun post_ hq_ => by
                  refine ⟨fun q_ => absurd q_ c1, fun _ => ?_⟩
                  rintro _ rfl
                  refine ⟨fun q_ => absurd q_ c4, fun _ => ?_⟩
                  refine ⟨fun q_ => absurd q_ c6, fun _ => ?_⟩
                  refine ⟨v9, ?_⟩
                  rintro _ rfl
                  refine ⟨fun q_ => absurd q_ c11, fun _ => ?_⟩
                  exact hq_)
theorem d_wp_X7_bind {x1 : Int32} {x2 : Int32} {x3 : Int32} {x4 : Int32} {u : mS} {post : Int32 → mS → Prop} {goal : Prop} (h : wp_X7_bind x1 x2 x3 x4 u post) (hp : ∀ (b0_ : Int32) (b1_ : mS), post b0_ b1_ → (∀ (post_ : Int32 → mS → Prop), post_ b0_ b1_ → wp_X7_bind x1 x2 x3 x4 u post_) → goal) : goal := by
  have h1 := h _ rfl
  refine el_p h1 (fun c2 h3 => ?_) (fun c2 h3 => ?_)
  · exact hp _ _ h3 (fun post_ hq_ => by
            rintro _ rfl
            refine ⟨fun _ => ?_, fun q_ => absurd c2 q_⟩
            exact hq_)
  · have h4 := h3 _ rfl
    refine el_p h4 (fun c5 h6 => ?_) (fun c5 h6 => ?_)
    · have h7 := h6 _ rfl
      have v9 := h7.1
      have h8 := h7.2
      have h10 := h8 _ rfl
      have h11 := h10 _ rfl
      have v13 := h11.1
      have h12 := h11.2
      have h14 := h12 _ rfl
      have h15 := h14 _ rfl
      have v17 := h15.1
      have h16 := h15.2
      have h18 := h16 _ rfl
      have h19 := h18 _ rfl
      have v21 := h19.1
      have h20 := h19.2
      have h22 := h20 _ rfl
      have h23 := h22 _ rfl
      have h24 := h23 _ rfl
      have h25 := h24 _ rfl
      exact hp _ _ h25 (fun post_ hq_ => by
              rintro _ rfl
              refine ⟨fun q_ => absurd q_ c2, fun _ => ?_⟩
              rintro _ rfl
              refine ⟨fun _ => ?_, fun q_ => absurd c5 q_⟩
              rintro _ rfl
              refine ⟨v9, ?_⟩
              rintro _ rfl
              rintro _ rfl
              refine ⟨v13, ?_⟩
              rintro _ rfl
              rintro _ rfl
              refine ⟨v17, ?_⟩
              rintro _ rfl
              rintro _ rfl
              refine ⟨v21, ?_⟩
              rintro _ rfl
              rintro _ rfl
              rintro _ rfl
              rintro _ rfl
              exact hq_)
    · exact hp _ _ h6 (fun post_ hq_ => by
              rintro _ rfl
              refine ⟨fun q_ => absurd q_ c2, fun _ => ?_⟩
              rintro _ rfl
              refine ⟨fun q_ => absurd q_ c5, fun _ => ?_⟩
              exact hq_)
theorem d_wp_X0_bind {x1 : Int32} {x2 : Int32} {x3 : Int32} {u : mS} {post : Int32 → mS → Prop} {goal : Prop} (h : wp_X0_bind x1 x2 x3 u post) (hp : ∀ (b0_ : Int32) (b1_ : mS), post b0_ b1_ → (∀ (post_ : Int32 → mS → Prop), post_ b0_ b1_ → wp_X0_bind x1 x2 x3 u post_) → goal) : goal := by
  refine d_wp_X5_wordAt h (fun w3 w4 h1 r2 => ?_)
  refine d_wp_X5_marksAt h1 (fun w7 w8 h5 r6 => ?_)
  refine d_wp_X7_bind h5 (fun w11 w12 h9 r10 => ?_)
  refine el_n h9 (fun c13 h14 => ?_) (fun c13 h14 => ?_)
  · have h15 := h14 _ rfl
    have h16 := h15 _ rfl
    have h17 := h16 _ rfl
    exact hp _ _ h17 (fun post_ hq_ => by
            refine r2 _ ?_
            refine r6 _ ?_
            refine r10 _ ?_
            refine ⟨fun _ => ?_, fun q_ => absurd q_ c13⟩
            rintro _ rfl
            rintro _ rfl
            rintro _ rfl
            exact hq_)
  · refine d_wp_X2_fail h14 (fun w20 h18 r19 => ?_)
    exact hp _ _ h18 (fun post_ hq_ => by
            refine r2 _ ?_
            refine r6 _ ?_
            refine r10 _ ?_
            refine ⟨fun q_ => absurd c13 q_, fun _ => ?_⟩
            refine r19 _ ?_
            exact hq_)
theorem d_wp_X0_bindVariable {x1 : Int32} {x2 : Int32} {u : mS} {post : mS → Prop} {goal : Prop} (h : wp_X0_bindVariable x1 x2 u post) (hp : ∀ (b0_ : mS), post b0_ → (∀ (post_ : mS → Prop), post_ b0_ → wp_X0_bindVariable x1 x2 u post_) → goal) : goal := by
  refine d_wp_X5_findName h (fun w3 w4 h1 r2 => ?_)
  refine el_p h1 (fun c5 h6 => ?_) (fun c5 h6 => ?_)
  · have h7 := h6 _ rfl
    refine d_wp_X0_bind h7 (fun w10 w11 h8 r9 => ?_)
    refine el_p h8 (fun c12 h13 => ?_) (fun c12 h13 => ?_)
    · exact hp _ h13 (fun post_ hq_ => by
              refine r2 _ ?_
              refine ⟨fun _ => ?_, fun q_ => absurd c5 q_⟩
              rintro _ rfl
              refine r9 _ ?_
              refine ⟨fun _ => ?_, fun q_ => absurd c12 q_⟩
              exact hq_)
    · have h14 := h13 _ rfl
      have h15 := h14 _ rfl
      have h16 := h15 _ rfl
      exact hp _ h16 (fun post_ hq_ => by
              refine r2 _ ?_
              refine ⟨fun _ => ?_, fun q_ => absurd c5 q_⟩
              rintro _ rfl
              refine r9 _ ?_
              refine ⟨fun q_ => absurd q_ c12, fun _ => ?_⟩
              rintro _ rfl
              rintro _ rfl
              rintro _ rfl
              exact hq_)
  · refine d_wp_X2_fail h6 (fun w19 h17 r18 => ?_)
    exact hp _ h17 (fun post_ hq_ => by
            refine r2 _ ?_
            refine ⟨fun q_ => absurd q_ c5, fun _ => ?_⟩
            refine r18 _ ?_
            exact hq_)
theorem d_wp_X5_isHeld {x1 : Int32} {u : mS} {post : Int32 → mS → Prop} {goal : Prop} (h : wp_X5_isHeld x1 u post) (hp : ∀ (b0_ : Int32) (b1_ : mS), post b0_ b1_ → (∀ (post_ : Int32 → mS → Prop), post_ b0_ b1_ → wp_X5_isHeld x1 u post_) → goal) : goal := by
  refine el_p h (fun c1 h2 => ?_) (fun c1 h2 => ?_)
  · exact hp _ _ h2 (fun post_ hq_ => by
            refine ⟨fun _ => ?_, fun q_ => absurd c1 q_⟩
            exact hq_)
  · have h3 := h2 _ rfl
    refine el_p h3 (fun c4 h5 => ?_) (fun c4 h5 => ?_)
    · exact hp _ _ h5 (fun post_ hq_ => by
              refine ⟨fun q_ => absurd q_ c1, fun _ => ?_⟩
              rintro _ rfl
              refine ⟨fun _ => ?_, fun q_ => absurd c4 q_⟩
              exact hq_)
    · refine el_p h5 (fun c6 h7 => ?_) (fun c6 h7 => ?_)
      · exact hp _ _ h7 (fun post_ hq_ => by
                refine ⟨fun q_ => absurd q_ c1, fun _ => ?_⟩
                rintro _ rfl
                refine ⟨fun q_ => absurd q_ c4, fun _ => ?_⟩
                refine ⟨fun _ => ?_, fun q_ => absurd c6 q_⟩
                exact hq_)
      · have v9 := h7.1
        have h8 := h7.2
        have h10 := h8 _ rfl
        refine el_n h10 (fun c11 h12 => ?_) (fun c11 h12 => ?_)
        · have v14 := h12.1
          have h13 := h12.2
          have h15 := h13 _ rfl
          have h16 := h15 _ rfl
          refine el_p h16 (fun c17 h18 => ?_) (fun c17 h18 => ?_)
          · exact hp _ _ h18 (fun post_ hq_ => by
                    refine ⟨fun q_ => absurd q_ c1, fun _ => ?_⟩
                    rintro _ rfl
                    refine ⟨fun q_ => absurd q_ c4, fun _ => ?_⟩
                    refine ⟨fun q_ => absurd q_ c6, fun _ => ?_⟩
                    refine ⟨v9, ?_⟩
                    rintro _ rfl
                    refine ⟨fun _ => ?_, fun q_ => absurd q_ c11⟩
                    refine ⟨v14, ?_⟩
                    rintro _ rfl
                    rintro _ rfl
                    refine ⟨fun _ => ?_, fun q_ => absurd c17 q_⟩
                    exact hq_)
          · have h19 := h18 _ rfl
            refine el_p h19 (fun c20 h21 => ?_) (fun c20 h21 => ?_)
            · exact hp _ _ h21 (fun post_ hq_ => by
                      refine ⟨fun q_ => absurd q_ c1, fun _ => ?_⟩
                      rintro _ rfl
                      refine ⟨fun q_ => absurd q_ c4, fun _ => ?_⟩
                      refine ⟨fun q_ => absurd q_ c6, fun _ => ?_⟩
                      refine ⟨v9, ?_⟩
                      rintro _ rfl
                      refine ⟨fun _ => ?_, fun q_ => absurd q_ c11⟩
                      refine ⟨v14, ?_⟩
                      rintro _ rfl
                      rintro _ rfl
                      refine ⟨fun q_ => absurd q_ c17, fun _ => ?_⟩
                      rintro _ rfl
                      refine ⟨fun _ => ?_, fun q_ => absurd c20 q_⟩
                      exact hq_)
            · refine el_p h21 (fun c22 h23 => ?_) (fun c22 h23 => ?_)
              · exact hp _ _ h23 (fun post_ hq_ => by
                        refine ⟨fun q_ => absurd q_ c1, fun _ => ?_⟩
                        rintro _ rfl
                        refine ⟨fun q_ => absurd q_ c4, fun _ => ?_⟩
                        refine ⟨fun q_ => absurd q_ c6, fun _ => ?_⟩
                        refine ⟨v9, ?_⟩
                        rintro _ rfl
                        refine ⟨fun _ => ?_, fun q_ => absurd q_ c11⟩
                        refine ⟨v14, ?_⟩
                        rintro _ rfl
                        rintro _ rfl
                        refine ⟨fun q_ => absurd q_ c17, fun _ => ?_⟩
                        rintro _ rfl
                        refine ⟨fun q_ => absurd q_ c20, fun _ => ?_⟩
                        refine ⟨fun _ => ?_, fun q_ => absurd c22 q_⟩
                        exact hq_)
              · have v25 := h23.1
                have h24 := h23.2
                have h26 := h24 _ rfl
                refine el_n h26 (fun c27 h28 => ?_) (fun c27 h28 => ?_)
                · exact hp _ _ h28 (fun post_ hq_ => by
                          refine ⟨fun q_ => absurd q_ c1, fun _ => ?_⟩
                          rintro _ rfl
                          refine ⟨fun q_ => absurd q_ c4, fun _ => ?_⟩
                          refine ⟨fun q_ => absurd q_ c6, fun _ => ?_⟩
                          refine ⟨v9, ?_⟩
                          rintro _ rfl
                          refine ⟨fun _ => ?_, fun q_ => absurd q_ c11⟩
                          refine ⟨v14, ?_⟩
                          rintro _ rfl
                          rintro _ rfl
                          refine ⟨fun q_ => absurd q_ c17, fun _ => ?_⟩
                          rintro _ rfl
                          refine ⟨fun q_ => absurd q_ c20, fun _ => ?_⟩
                          refine ⟨fun q_ => absurd q_ c22, fun _ => ?_⟩
                          refine ⟨v25, ?_⟩
                          rintro _ rfl
                          refine ⟨fun _ => ?_, fun q_ => absurd q_ c27⟩
                          exact hq_)
                · exact hp _ _ h28 (fun post_ hq_ => by
                          refine ⟨fun q_ => absurd q_ c1, fun _ => ?_⟩
                          rintro _ rfl
                          refine ⟨fun q_ => absurd q_ c4, fun _ => ?_⟩
                          refine ⟨fun q_ => absurd q_ c6, fun _ => ?_⟩
                          refine ⟨v9, ?_⟩
                          rintro _ rfl
                          refine ⟨fun _ => ?_, fun q_ => absurd q_ c11⟩
                          refine ⟨v14, ?_⟩
                          rintro _ rfl
                          rintro _ rfl
                          refine ⟨fun q_ => absurd q_ c17, fun _ => ?_⟩
                          rintro _ rfl
                          refine ⟨fun q_ => absurd q_ c20, fun _ => ?_⟩
                          refine ⟨fun q_ => absurd q_ c22, fun _ => ?_⟩
                          refine ⟨v25, ?_⟩
                          rintro _ rfl
                          refine ⟨fun q_ => absurd c27 q_, fun _ => ?_⟩
                          exact hq_)
        · exact hp _ _ h12 (fun post_ hq_ => by
                  refine ⟨fun q_ => absurd q_ c1, fun _ => ?_⟩
                  rintro _ rfl
                  refine ⟨fun q_ => absurd q_ c4, fun _ => ?_⟩
                  refine ⟨fun q_ => absurd q_ c6, fun _ => ?_⟩
                  refine ⟨v9, ?_⟩
                  rintro _ rfl
                  refine ⟨fun q_ => absurd c11 q_, fun _ => ?_⟩
                  exact hq_)
theorem d_wp_X8_isTree {x0 : Int32} {u : mS} {post : Int32 → mS → Prop} {goal : Prop} (h : wp_X8_isTree x0 u post) (hp : ∀ (b0_ : Int32) (b1_ : mS), post b0_ b1_ → (∀ (post_ : Int32 → mS → Prop), post_ b0_ b1_ → wp_X8_isTree x0 u post_) → goal) : goal := by
  refine el_p h (fun c1 h2 => ?_) (fun c1 h2 => ?_)
  · exact hp _ _ h2 (fun post_ hq_ => by
            refine ⟨fun _ => ?_, fun q_ => absurd c1 q_⟩
            exact hq_)
  · refine el_p h2 (fun c3 h4 => ?_) (fun c3 h4 => ?_)
    · exact hp _ _ h4 (fun post_ hq_ => by
              refine ⟨fun q_ => absurd q_ c1, fun _ => ?_⟩
              refine ⟨fun _ => ?_, fun q_ => absurd c3 q_⟩
              exact hq_)
    · exact hp _ _ h4 (fun post_ hq_ => by
              refine ⟨fun q_ => absurd q_ c1, fun _ => ?_⟩
              refine ⟨fun q_ => absurd q_ c3, fun _ => ?_⟩
              exact hq_)
theorem d_wp_X5_variableAt {x1 : Int32} {u : mS} {post : Int32 → mS → Prop} {goal : Prop} (h : wp_X5_variableAt x1 u post) (hp : ∀ (b0_ : Int32) (b1_ : mS), post b0_ b1_ → (∀ (post_ : Int32 → mS → Prop), post_ b0_ b1_ → wp_X5_variableAt x1 u post_) → goal) : goal := by
  refine el_p h (fun c1 h2 => ?_) (fun c1 h2 => ?_)
  · exact hp _ _ h2 (fun post_ hq_ => by
            refine ⟨fun _ => ?_, fun q_ => absurd c1 q_⟩
            exact hq_)
  · have h3 := h2 _ rfl
    refine el_p h3 (fun c4 h5 => ?_) (fun c4 h5 => ?_)
    · exact hp _ _ h5 (fun post_ hq_ => by
              refine ⟨fun q_ => absurd q_ c1, fun _ => ?_⟩
              rintro _ rfl
              refine ⟨fun _ => ?_, fun q_ => absurd c4 q_⟩
              exact hq_)
    · refine el_p h5 (fun c6 h7 => ?_) (fun c6 h7 => ?_)
      · exact hp _ _ h7 (fun post_ hq_ => by
                refine ⟨fun q_ => absurd q_ c1, fun _ => ?_⟩
                rintro _ rfl
                refine ⟨fun q_ => absurd q_ c4, fun _ => ?_⟩
                refine ⟨fun _ => ?_, fun q_ => absurd c6 q_⟩
                exact hq_)
      · have v9 := h7.1
        have h8 := h7.2
        have h10 := h8 _ rfl
        refine el_p h10 (fun c11 h12 => ?_) (fun c11 h12 => ?_)
        · exact hp _ _ h12 (fun post_ hq_ => by
                  refine ⟨fun q_ => absurd q_ c1, fun _ => ?_⟩
                  rintro _ rfl
                  refine ⟨fun q_ => absurd q_ c4, fun _ => ?_⟩
                  refine ⟨fun q_ => absurd q_ c6, fun _ => ?_⟩
                  refine ⟨v9, ?_⟩
                  rintro _ rfl
                  refine ⟨fun _ => ?_, fun q_ => absurd c11 q_⟩
                  exact hq_)
        · have v14 := h12.1
          have h13 := h12.2
          have h15 := h13 _ rfl
          have h16 := h15 _ rfl
          exact hp _ _ h16 (fun post_ hq_ => by
                  refine ⟨fun q_ => absurd q_ c1, fun _ => ?_⟩
                  rintro _ rfl
                  refine ⟨fun q_ => absurd q_ c4, fun _ => ?_⟩
                  refine ⟨fun q_ => absurd q_ c6, fun _ => ?_⟩
                  refine ⟨v9, ?_⟩
                  rintro _ rfl
                  refine ⟨fun q_ => absurd q_ c11, fun _ => ?_⟩
                  refine ⟨v14, ?_⟩
                  rintro _ rfl
                  rintro _ rfl
                  exact hq_)
theorem d_wp_X1_hasRoomFor {x1 : Int32} {x2 : Int32} {u : mS} {post : Int32 → mS → Prop} {goal : Prop} (h : wp_X1_hasRoomFor x1 x2 u post) (hp : ∀ (b0_ : Int32) (b1_ : mS), post b0_ b1_ → (∀ (post_ : Int32 → mS → Prop), post_ b0_ b1_ → wp_X1_hasRoomFor x1 x2 u post_) → goal) : goal := by
  refine d_wp_X5_plainLength h (fun w3 w4 h1 r2 => ?_)
  have h5 := h1 _ rfl
  refine d_wp_X5_itemsFrom h5 (fun w8 w9 h6 r7 => ?_)
  refine d_wp_X5_hasDots h6 (fun w12 w13 h10 r11 => ?_)
  refine el_p h10 (fun c14 h15 => ?_) (fun c14 h15 => ?_)
  · refine el_n h15 (fun c16 h17 => ?_) (fun c16 h17 => ?_)
    · exact hp _ _ h17 (fun post_ hq_ => by
              refine r2 _ ?_
              rintro _ rfl
              refine r7 _ ?_
              refine r11 _ ?_
              refine ⟨fun _ => ?_, fun q_ => absurd c14 q_⟩
              refine ⟨fun _ => ?_, fun q_ => absurd q_ c16⟩
              exact hq_)
    · exact hp _ _ h17 (fun post_ hq_ => by
              refine r2 _ ?_
              rintro _ rfl
              refine r7 _ ?_
              refine r11 _ ?_
              refine ⟨fun _ => ?_, fun q_ => absurd c14 q_⟩
              refine ⟨fun q_ => absurd c16 q_, fun _ => ?_⟩
              exact hq_)
  · have h18 := h15 _ rfl
    refine el_p h18 (fun c19 h20 => ?_) (fun c19 h20 => ?_)
    · exact hp _ _ h20 (fun post_ hq_ => by
              refine r2 _ ?_
              rintro _ rfl
              refine r7 _ ?_
              refine r11 _ ?_
              refine ⟨fun q_ => absurd q_ c14, fun _ => ?_⟩
              rintro _ rfl
              refine ⟨fun _ => ?_, fun q_ => absurd c19 q_⟩
              exact hq_)
    · exact hp _ _ h20 (fun post_ hq_ => by
              refine r2 _ ?_
              rintro _ rfl
              refine r7 _ ?_
              refine r11 _ ?_
              refine ⟨fun q_ => absurd q_ c14, fun _ => ?_⟩
              rintro _ rfl
              refine ⟨fun q_ => absurd q_ c19, fun _ => ?_⟩
              exact hq_)
theorem d_wp_X4_clear {u : mS} {post : mS → Prop} {goal : Prop} (h : wp_X4_clear u post) (hp : ∀ (b0_ : mS), post b0_ → (∀ (post_ : mS → Prop), post_ b0_ → wp_X4_clear u post_) → goal) : goal := by
  have h1 := h _ rfl
  exact hp _ h1 (fun post_ hq_ => by
        rintro _ rfl
        exact hq_)
theorem d_wp_X4_hasInner {u : mS} {post : Int32 → mS → Prop} {goal : Prop} (h : wp_X4_hasInner u post) (hp : ∀ (b0_ : Int32) (b1_ : mS), post b0_ b1_ → (∀ (post_ : Int32 → mS → Prop), post_ b0_ b1_ → wp_X4_hasInner u post_) → goal) : goal := by
  have h1 := h _ rfl
  refine el_p h1 (fun c2 h3 => ?_) (fun c2 h3 => ?_)
  · exact hp _ _ h3 (fun post_ hq_ => by
            rintro _ rfl
            refine ⟨fun _ => ?_, fun q_ => absurd c2 q_⟩
            exact hq_)
  · have h4 := h3 _ rfl
    refine el_p h4 (fun c5 h6 => ?_) (fun c5 h6 => ?_)
    · exact hp _ _ h6 (fun post_ hq_ => by
              rintro _ rfl
              refine ⟨fun q_ => absurd q_ c2, fun _ => ?_⟩
              rintro _ rfl
              refine ⟨fun _ => ?_, fun q_ => absurd c5 q_⟩
              exact hq_)
    · exact hp _ _ h6 (fun post_ hq_ => by
              rintro _ rfl
              refine ⟨fun q_ => absurd q_ c2, fun _ => ?_⟩
              rintro _ rfl
              refine ⟨fun q_ => absurd q_ c5, fun _ => ?_⟩
              exact hq_)
theorem d_wp_X4_isIn {x1 : Int32} {u : mS} {post : Int32 → mS → Prop} {goal : Prop} (h : wp_X4_isIn x1 u post) (hp : ∀ (b0_ : Int32) (b1_ : mS), post b0_ b1_ → (∀ (post_ : Int32 → mS → Prop), post_ b0_ b1_ → wp_X4_isIn x1 u post_) → goal) : goal := by
  refine d_wp_X4_hasInner h (fun w3 w4 h1 r2 => ?_)
  refine el_p h1 (fun c5 h6 => ?_) (fun c5 h6 => ?_)
  · exact hp _ _ h6 (fun post_ hq_ => by
            refine r2 _ ?_
            refine ⟨fun _ => ?_, fun q_ => absurd c5 q_⟩
            exact hq_)
  · have h7 := h6 _ rfl
    have h8 := h7 _ rfl
    have v10 := h8.1
    have h9 := h8.2
    have h11 := h9 _ rfl
    refine el_n h11 (fun c12 h13 => ?_) (fun c12 h13 => ?_)
    · exact hp _ _ h13 (fun post_ hq_ => by
              refine r2 _ ?_
              refine ⟨fun q_ => absurd q_ c5, fun _ => ?_⟩
              rintro _ rfl
              rintro _ rfl
              refine ⟨v10, ?_⟩
              rintro _ rfl
              refine ⟨fun _ => ?_, fun q_ => absurd q_ c12⟩
              exact hq_)
    · exact hp _ _ h13 (fun post_ hq_ => by
              refine r2 _ ?_
              refine ⟨fun q_ => absurd q_ c5, fun _ => ?_⟩
              rintro _ rfl
              rintro _ rfl
              refine ⟨v10, ?_⟩
              rintro _ rfl
              refine ⟨fun q_ => absurd c12 q_, fun _ => ?_⟩
              exact hq_)
theorem d_wp_X4_enter {x1 : Int32} {x2 : Int32} {u : mS} {post : mS → Prop} {goal : Prop} (h : wp_X4_enter x1 x2 u post) (hp : ∀ (b0_ : mS), post b0_ → (∀ (post_ : mS → Prop), post_ b0_ → wp_X4_enter x1 x2 u post_) → goal) : goal := by
  have h1 := h _ rfl
  refine el_p h1 (fun c2 h3 => ?_) (fun c2 h3 => ?_)
  · exact hp _ h3 (fun post_ hq_ => by
            rintro _ rfl
            refine ⟨fun _ => ?_, fun q_ => absurd c2 q_⟩
            exact hq_)
  · have h4 := h3 _ rfl
    refine el_p h4 (fun c5 h6 => ?_) (fun c5 h6 => ?_)
    · exact hp _ h6 (fun post_ hq_ => by
              rintro _ rfl
              refine ⟨fun q_ => absurd q_ c2, fun _ => ?_⟩
              rintro _ rfl
              refine ⟨fun _ => ?_, fun q_ => absurd c5 q_⟩
              exact hq_)
    · have h7 := h6 _ rfl
      have v9 := h7.1
      have h8 := h7.2
      have h10 := h8 _ rfl
      have h11 := h10 _ rfl
      have v13 := h11.1
      have h12 := h11.2
      have h14 := h12 _ rfl
      have h15 := h14 _ rfl
      have v17 := h15.1
      have h16 := h15.2
      have h18 := h16 _ rfl
      have h19 := h18 _ rfl
      have h20 := h19 _ rfl
      have h21 := h20 _ rfl
      exact hp _ h21 (fun post_ hq_ => by
              rintro _ rfl
              refine ⟨fun q_ => absurd q_ c2, fun _ => ?_⟩
              rintro _ rfl
              refine ⟨fun q_ => absurd q_ c5, fun _ => ?_⟩
              rintro _ rfl
              refine ⟨v9, ?_⟩
              rintro _ rfl
              rintro _ rfl
              refine ⟨v13, ?_⟩
              rintro _ rfl
              rintro _ rfl
              refine ⟨v17, ?_⟩
              rintro _ rfl
              rintro _ rfl
              rintro _ rfl
              rintro _ rfl
              exact hq_)
theorem d_wp_X4_leave {x1 : Int32} {u : mS} {post : Int32 → mS → Prop} {goal : Prop} (h : wp_X4_leave x1 u post) (hp : ∀ (b0_ : Int32) (b1_ : mS), post b0_ b1_ → (∀ (post_ : Int32 → mS → Prop), post_ b0_ b1_ → wp_X4_leave x1 u post_) → goal) : goal := by
  refine d_wp_X4_hasInner h (fun w3 w4 h1 r2 => ?_)
  refine el_n h1 (fun c5 h6 => ?_) (fun c5 h6 => ?_)
  · have h7 := h6 _ rfl
    have h8 := h7 _ rfl
    have v10 := h8.1
    have h9 := h8.2
    have h11 := h9 _ rfl
    have h12 := h11 _ rfl
    have v14 := h12.1
    have h13 := h12.2
    have h15 := h13 _ rfl
    have h16 := h15 _ rfl
    have h17 := h16 _ rfl
    have v19 := h17.1
    have h18 := h17.2
    have h20 := h18 _ rfl
    have h21 := h20 _ rfl
    have h22 := h21 _ rfl
    have v24 := h22.1
    have h23 := h22.2
    have h25 := h23 _ rfl
    refine el_p h25 (fun c26 h27 => ?_) (fun c26 h27 => ?_)
    · have h28 := h27 _ rfl
      have h29 := h28 _ rfl
      have h30 := h29 _ rfl
      have h31 := h30 _ rfl
      exact hp _ _ h31 (fun post_ hq_ => by
              refine r2 _ ?_
              refine ⟨fun _ => ?_, fun q_ => absurd q_ c5⟩
              rintro _ rfl
              rintro _ rfl
              refine ⟨v10, ?_⟩
              rintro _ rfl
              rintro _ rfl
              refine ⟨v14, ?_⟩
              rintro _ rfl
              rintro _ rfl
              rintro _ rfl
              refine ⟨v19, ?_⟩
              rintro _ rfl
              rintro _ rfl
              rintro _ rfl
              refine ⟨v24, ?_⟩
              rintro _ rfl
              refine ⟨fun _ => ?_, fun q_ => absurd c26 q_⟩
              rintro _ rfl
              rintro _ rfl
              rintro _ rfl
              rintro _ rfl
              exact hq_)
    · have h32 := h27 _ rfl
      have h33 := h32 _ rfl
      have v35 := h33.1
      have h34 := h33.2
      have h36 := h34 _ rfl
      exact hp _ _ h36 (fun post_ hq_ => by
              refine r2 _ ?_
              refine ⟨fun _ => ?_, fun q_ => absurd q_ c5⟩
              rintro _ rfl
              rintro _ rfl
              refine ⟨v10, ?_⟩
              rintro _ rfl
              rintro _ rfl
              refine ⟨v14, ?_⟩
              rintro _ rfl
              rintro _ rfl
              rintro _ rfl
              refine ⟨v19, ?_⟩
              rintro _ rfl
              rintro _ rfl
              rintro _ rfl
              refine ⟨v24, ?_⟩
              rintro _ rfl
              refine ⟨fun q_ => absurd q_ c26, fun _ => ?_⟩
              rintro _ rfl
              rintro _ rfl
              refine ⟨v35, ?_⟩
              rintro _ rfl
              exact hq_)
  · have h37 := h6 _ rfl
    exact hp _ _ h37 (fun post_ hq_ => by
            refine r2 _ ?_
            refine ⟨fun q_ => absurd c5 q_, fun _ => ?_⟩
            rintro _ rfl
            exact hq_)
theorem d_wj_X1_matches_243 {K54 : Int32 → Int32 → Int32 → Int32 → mS → Prop} {post : Int32 → mS → Prop} {x3 : Int32} {x4 : Int32} {x5 : Int32} {x6 : Int32} {u : mS} {goal : Prop} (h : wj_X1_matches_243 K54 post x3 x4 x5 x6 u) (hK54 : ∀ (b0_ : Int32) (b1_ : Int32) (b2_ : Int32) (b3_ : Int32) (b4_ : mS), K54 b0_ b1_ b2_ b3_ b4_ → (∀ (K54_ : Int32 → Int32 → Int32 → Int32 → mS → Prop) (post_ : Int32 → mS → Prop), K54_ b0_ b1_ b2_ b3_ b4_ → wj_X1_matches_243 K54_ post_ x3 x4 x5 x6 u) → goal) (hp : ∀ (b0_ : Int32) (b1_ : mS), post b0_ b1_ → (∀ (K54_ : Int32 → Int32 → Int32 → Int32 → mS → Prop) (post_ : Int32 → mS → Prop), post_ b0_ b1_ → wj_X1_matches_243 K54_ post_ x3 x4 x5 x6 u) → goal) : goal := by
  have h1 := h _ rfl
  exact hK54 _ _ _ _ _ h1 (fun K54_ post_ hq_ => by
        rintro _ rfl
        exact hq_)
theorem d_wj_X1_matches_181 {K54 : Int32 → Int32 → Int32 → Int32 → mS → Prop} {post : Int32 → mS → Prop} {x3 : Int32} {x4 : Int32} {x5 : Int32} {x6 : Int32} {u : mS} {goal : Prop} (h : wj_X1_matches_181 K54 post x3 x4 x5 x6 u) (hK54 : ∀ (b0_ : Int32) (b1_ : Int32) (b2_ : Int32) (b3_ : Int32) (b4_ : mS), K54 b0_ b1_ b2_ b3_ b4_ → (∀ (K54_ : Int32 → Int32 → Int32 → Int32 → mS → Prop) (post_ : Int32 → mS → Prop), K54_ b0_ b1_ b2_ b3_ b4_ → wj_X1_matches_181 K54_ post_ x3 x4 x5 x6 u) → goal) (hp : ∀ (b0_ : Int32) (b1_ : mS), post b0_ b1_ → (∀ (K54_ : Int32 → Int32 → Int32 → Int32 → mS → Prop) (post_ : Int32 → mS → Prop), post_ b0_ b1_ → wj_X1_matches_181 K54_ post_ x3 x4 x5 x6 u) → goal) : goal := by
  have h1 := h _ rfl
  refine d_wp_X5_after h1 (fun w4 w5 h2 r3 => ?_)
  exact d_wj_X1_matches_243 h2 (fun b0_ b1_ b2_ b3_ b4_ g_ r_ => hK54 _ _ _ _ _ g_ (fun K54_ post_ hq_ => by
        rintro _ rfl
        refine r3 _ ?_
        exact r_ _ _ hq_)) (fun b0_ b1_ g_ r_ => hp _ _ g_ (fun K54_ post_ hq_ => by
        rintro _ rfl
        refine r3 _ ?_
        exact r_ _ _ hq_))
theorem d_wj_X1_matches_232 {K54 : Int32 → Int32 → Int32 → Int32 → mS → Prop} {post : Int32 → mS → Prop} {x3 : Int32} {x4 : Int32} {x5 : Int32} {x6 : Int32} {u : mS} {goal : Prop} (h : wj_X1_matches_232 K54 post x3 x4 x5 x6 u) (hK54 : ∀ (b0_ : Int32) (b1_ : Int32) (b2_ : Int32) (b3_ : Int32) (b4_ : mS), K54 b0_ b1_ b2_ b3_ b4_ → (∀ (K54_ : Int32 → Int32 → Int32 → Int32 → mS → Prop) (post_ : Int32 → mS → Prop), K54_ b0_ b1_ b2_ b3_ b4_ → wj_X1_matches_232 K54_ post_ x3 x4 x5 x6 u) → goal) (hp : ∀ (b0_ : Int32) (b1_ : mS), post b0_ b1_ → (∀ (K54_ : Int32 → Int32 → Int32 → Int32 → mS → Prop) (post_ : Int32 → mS → Prop), post_ b0_ b1_ → wj_X1_matches_232 K54_ post_ x3 x4 x5 x6 u) → goal) : goal := by
  have h1 := h _ rfl
  have h2 := h1 _ rfl
  exact d_wj_X1_matches_243 h2 (fun b0_ b1_ b2_ b3_ b4_ g_ r_ => hK54 _ _ _ _ _ g_ (fun K54_ post_ hq_ => by
        rintro _ rfl
        rintro _ rfl
        exact r_ _ _ hq_)) (fun b0_ b1_ g_ r_ => hp _ _ g_ (fun K54_ post_ hq_ => by
        rintro _ rfl
        rintro _ rfl
        exact r_ _ _ hq_))
theorem d_wj_X1_matches_134 {K54 : Int32 → Int32 → Int32 → Int32 → mS → Prop} {post : Int32 → mS → Prop} {x3 : Int32} {x4 : Int32} {x5 : Int32} {x6 : Int32} {u : mS} {goal : Prop} (h : wj_X1_matches_134 K54 post x3 x4 x5 x6 u) (hK54 : ∀ (b0_ : Int32) (b1_ : Int32) (b2_ : Int32) (b3_ : Int32) (b4_ : mS), K54 b0_ b1_ b2_ b3_ b4_ → (∀ (K54_ : Int32 → Int32 → Int32 → Int32 → mS → Prop) (post_ : Int32 → mS → Prop), K54_ b0_ b1_ b2_ b3_ b4_ → wj_X1_matches_134 K54_ post_ x3 x4 x5 x6 u) → goal) (hp : ∀ (b0_ : Int32) (b1_ : mS), post b0_ b1_ → (∀ (K54_ : Int32 → Int32 → Int32 → Int32 → mS → Prop) (post_ : Int32 → mS → Prop), post_ b0_ b1_ → wj_X1_matches_134 K54_ post_ x3 x4 x5 x6 u) → goal) : goal := by
  refine d_wp_X5_wordAt h (fun w3 w4 h1 r2 => ?_)
  refine el_n h1 (fun c5 h6 => ?_) (fun c5 h6 => ?_)
  · refine d_wp_X8_isName h6 (fun w9 w10 h7 r8 => ?_)
    refine el_n h7 (fun c11 h12 => ?_) (fun c11 h12 => ?_)
    · exact d_wj_X1_matches_181 h12 (fun b0_ b1_ b2_ b3_ b4_ g_ r_ => hK54 _ _ _ _ _ g_ (fun K54_ post_ hq_ => by
              refine r2 _ ?_
              refine ⟨fun _ => ?_, fun q_ => absurd q_ c5⟩
              refine r8 _ ?_
              refine ⟨fun _ => ?_, fun q_ => absurd q_ c11⟩
              exact r_ _ _ hq_)) (fun b0_ b1_ g_ r_ => hp _ _ g_ (fun K54_ post_ hq_ => by
              refine r2 _ ?_
              refine ⟨fun _ => ?_, fun q_ => absurd q_ c5⟩
              refine r8 _ ?_
              refine ⟨fun _ => ?_, fun q_ => absurd q_ c11⟩
              exact r_ _ _ hq_))
    · refine el_n h12 (fun c13 h14 => ?_) (fun c13 h14 => ?_)
      · refine el_n h14 (fun c15 h16 => ?_) (fun c15 h16 => ?_)
        · refine d_wp_X5_wordAt h16 (fun w19 w20 h17 r18 => ?_)
          refine el_n h17 (fun c21 h22 => ?_) (fun c21 h22 => ?_)
          · exact hp _ _ h22 (fun K54_ post_ hq_ => by
                    refine r2 _ ?_
                    refine ⟨fun _ => ?_, fun q_ => absurd q_ c5⟩
                    refine r8 _ ?_
                    refine ⟨fun q_ => absurd c11 q_, fun _ => ?_⟩
                    refine ⟨fun _ => ?_, fun q_ => absurd q_ c13⟩
                    refine ⟨fun _ => ?_, fun q_ => absurd q_ c15⟩
                    refine r18 _ ?_
                    refine ⟨fun _ => ?_, fun q_ => absurd q_ c21⟩
                    exact hq_)
          · exact d_wj_X1_matches_232 h22 (fun b0_ b1_ b2_ b3_ b4_ g_ r_ => hK54 _ _ _ _ _ g_ (fun K54_ post_ hq_ => by
                    refine r2 _ ?_
                    refine ⟨fun _ => ?_, fun q_ => absurd q_ c5⟩
                    refine r8 _ ?_
                    refine ⟨fun q_ => absurd c11 q_, fun _ => ?_⟩
                    refine ⟨fun _ => ?_, fun q_ => absurd q_ c13⟩
                    refine ⟨fun _ => ?_, fun q_ => absurd q_ c15⟩
                    refine r18 _ ?_
                    refine ⟨fun q_ => absurd c21 q_, fun _ => ?_⟩
                    exact r_ _ _ hq_)) (fun b0_ b1_ g_ r_ => hp _ _ g_ (fun K54_ post_ hq_ => by
                    refine r2 _ ?_
                    refine ⟨fun _ => ?_, fun q_ => absurd q_ c5⟩
                    refine r8 _ ?_
                    refine ⟨fun q_ => absurd c11 q_, fun _ => ?_⟩
                    refine ⟨fun _ => ?_, fun q_ => absurd q_ c13⟩
                    refine ⟨fun _ => ?_, fun q_ => absurd q_ c15⟩
                    refine r18 _ ?_
                    refine ⟨fun q_ => absurd c21 q_, fun _ => ?_⟩
                    exact r_ _ _ hq_))
        · refine d_wp_X1_hasRoomFor h16 (fun w25 w26 h23 r24 => ?_)
          refine el_p h23 (fun c27 h28 => ?_) (fun c27 h28 => ?_)
          · exact hp _ _ h28 (fun K54_ post_ hq_ => by
                    refine r2 _ ?_
                    refine ⟨fun _ => ?_, fun q_ => absurd q_ c5⟩
                    refine r8 _ ?_
                    refine ⟨fun q_ => absurd c11 q_, fun _ => ?_⟩
                    refine ⟨fun _ => ?_, fun q_ => absurd q_ c13⟩
                    refine ⟨fun q_ => absurd c15 q_, fun _ => ?_⟩
                    refine r24 _ ?_
                    refine ⟨fun _ => ?_, fun q_ => absurd c27 q_⟩
                    exact hq_)
          · exact d_wj_X1_matches_232 h28 (fun b0_ b1_ b2_ b3_ b4_ g_ r_ => hK54 _ _ _ _ _ g_ (fun K54_ post_ hq_ => by
                    refine r2 _ ?_
                    refine ⟨fun _ => ?_, fun q_ => absurd q_ c5⟩
                    refine r8 _ ?_
                    refine ⟨fun q_ => absurd c11 q_, fun _ => ?_⟩
                    refine ⟨fun _ => ?_, fun q_ => absurd q_ c13⟩
                    refine ⟨fun q_ => absurd c15 q_, fun _ => ?_⟩
                    refine r24 _ ?_
                    refine ⟨fun q_ => absurd q_ c27, fun _ => ?_⟩
                    exact r_ _ _ hq_)) (fun b0_ b1_ g_ r_ => hp _ _ g_ (fun K54_ post_ hq_ => by
                    refine r2 _ ?_
                    refine ⟨fun _ => ?_, fun q_ => absurd q_ c5⟩
                    refine r8 _ ?_
                    refine ⟨fun q_ => absurd c11 q_, fun _ => ?_⟩
                    refine ⟨fun _ => ?_, fun q_ => absurd q_ c13⟩
                    refine ⟨fun q_ => absurd c15 q_, fun _ => ?_⟩
                    refine r24 _ ?_
                    refine ⟨fun q_ => absurd q_ c27, fun _ => ?_⟩
                    exact r_ _ _ hq_))
      · exact d_wj_X1_matches_181 h14 (fun b0_ b1_ b2_ b3_ b4_ g_ r_ => hK54 _ _ _ _ _ g_ (fun K54_ post_ hq_ => by
                refine r2 _ ?_
                refine ⟨fun _ => ?_, fun q_ => absurd q_ c5⟩
                refine r8 _ ?_
                refine ⟨fun q_ => absurd c11 q_, fun _ => ?_⟩
                refine ⟨fun q_ => absurd c13 q_, fun _ => ?_⟩
                exact r_ _ _ hq_)) (fun b0_ b1_ g_ r_ => hp _ _ g_ (fun K54_ post_ hq_ => by
                refine r2 _ ?_
                refine ⟨fun _ => ?_, fun q_ => absurd q_ c5⟩
                refine r8 _ ?_
                refine ⟨fun q_ => absurd c11 q_, fun _ => ?_⟩
                refine ⟨fun q_ => absurd c13 q_, fun _ => ?_⟩
                exact r_ _ _ hq_))
  · refine d_wp_X4_leave h6 (fun w31 w32 h29 r30 => ?_)
    exact d_wj_X1_matches_243 h29 (fun b0_ b1_ b2_ b3_ b4_ g_ r_ => hK54 _ _ _ _ _ g_ (fun K54_ post_ hq_ => by
            refine r2 _ ?_
            refine ⟨fun q_ => absurd c5 q_, fun _ => ?_⟩
            refine r30 _ ?_
            exact r_ _ _ hq_)) (fun b0_ b1_ g_ r_ => hp _ _ g_ (fun K54_ post_ hq_ => by
            refine r2 _ ?_
            refine ⟨fun q_ => absurd c5 q_, fun _ => ?_⟩
            refine r30 _ ?_
            exact r_ _ _ hq_))
theorem d_wj_X1_matches_54 {K54 : Int32 → Int32 → Int32 → Int32 → mS → Prop} {post : Int32 → mS → Prop} {x3 : Int32} {x4 : Int32} {x5 : Int32} {x6 : Int32} {u : mS} {goal : Prop} (h : wj_X1_matches_54 K54 post x3 x4 x5 x6 u) (hK54 : ∀ (b0_ : Int32) (b1_ : Int32) (b2_ : Int32) (b3_ : Int32) (b4_ : mS), K54 b0_ b1_ b2_ b3_ b4_ → (∀ (K54_ : Int32 → Int32 → Int32 → Int32 → mS → Prop) (post_ : Int32 → mS → Prop), K54_ b0_ b1_ b2_ b3_ b4_ → wj_X1_matches_54 K54_ post_ x3 x4 x5 x6 u) → goal) (hp : ∀ (b0_ : Int32) (b1_ : mS), post b0_ b1_ → (∀ (K54_ : Int32 → Int32 → Int32 → Int32 → mS → Prop) (post_ : Int32 → mS → Prop), post_ b0_ b1_ → wj_X1_matches_54 K54_ post_ x3 x4 x5 x6 u) → goal) : goal := by
  refine el_p h (fun c1 h2 => ?_) (fun c1 h2 => ?_)
  · exact hp _ _ h2 (fun K54_ post_ hq_ => by
            refine ⟨fun _ => ?_, fun q_ => absurd c1 q_⟩
            exact hq_)
  · refine el_p h2 (fun c3 h4 => ?_) (fun c3 h4 => ?_)
    · exact hp _ _ h4 (fun K54_ post_ hq_ => by
              refine ⟨fun q_ => absurd q_ c1, fun _ => ?_⟩
              refine ⟨fun _ => ?_, fun q_ => absurd c3 q_⟩
              exact hq_)
    · refine d_wp_X5_isHeld h4 (fun w7 w8 h5 r6 => ?_)
      refine el_p h5 (fun c9 h10 => ?_) (fun c9 h10 => ?_)
      · exact d_wj_X1_matches_134 h10 (fun b0_ b1_ b2_ b3_ b4_ g_ r_ => hK54 _ _ _ _ _ g_ (fun K54_ post_ hq_ => by
                refine ⟨fun q_ => absurd q_ c1, fun _ => ?_⟩
                refine ⟨fun q_ => absurd q_ c3, fun _ => ?_⟩
                refine r6 _ ?_
                refine ⟨fun _ => ?_, fun q_ => absurd c9 q_⟩
                exact r_ _ _ hq_)) (fun b0_ b1_ g_ r_ => hp _ _ g_ (fun K54_ post_ hq_ => by
                refine ⟨fun q_ => absurd q_ c1, fun _ => ?_⟩
                refine ⟨fun q_ => absurd q_ c3, fun _ => ?_⟩
                refine r6 _ ?_
                refine ⟨fun _ => ?_, fun q_ => absurd c9 q_⟩
                exact r_ _ _ hq_))
      · refine d_wp_X4_isIn h10 (fun w13 w14 h11 r12 => ?_)
        refine el_n h11 (fun c15 h16 => ?_) (fun c15 h16 => ?_)
        · exact d_wj_X1_matches_134 h16 (fun b0_ b1_ b2_ b3_ b4_ g_ r_ => hK54 _ _ _ _ _ g_ (fun K54_ post_ hq_ => by
                  refine ⟨fun q_ => absurd q_ c1, fun _ => ?_⟩
                  refine ⟨fun q_ => absurd q_ c3, fun _ => ?_⟩
                  refine r6 _ ?_
                  refine ⟨fun q_ => absurd q_ c9, fun _ => ?_⟩
                  refine r12 _ ?_
                  refine ⟨fun _ => ?_, fun q_ => absurd q_ c15⟩
                  exact r_ _ _ hq_)) (fun b0_ b1_ g_ r_ => hp _ _ g_ (fun K54_ post_ hq_ => by
                  refine ⟨fun q_ => absurd q_ c1, fun _ => ?_⟩
                  refine ⟨fun q_ => absurd q_ c3, fun _ => ?_⟩
                  refine r6 _ ?_
                  refine ⟨fun q_ => absurd q_ c9, fun _ => ?_⟩
                  refine r12 _ ?_
                  refine ⟨fun _ => ?_, fun q_ => absurd q_ c15⟩
                  exact r_ _ _ hq_))
        · refine d_wp_X5_itemsFrom h16 (fun w19 w20 h17 r18 => ?_)
          refine el_n h17 (fun c21 h22 => ?_) (fun c21 h22 => ?_)
          · refine d_wp_X4_enter h22 (fun w25 h23 r24 => ?_)
            exact d_wj_X1_matches_134 h23 (fun b0_ b1_ b2_ b3_ b4_ g_ r_ => hK54 _ _ _ _ _ g_ (fun K54_ post_ hq_ => by
                    refine ⟨fun q_ => absurd q_ c1, fun _ => ?_⟩
                    refine ⟨fun q_ => absurd q_ c3, fun _ => ?_⟩
                    refine r6 _ ?_
                    refine ⟨fun q_ => absurd q_ c9, fun _ => ?_⟩
                    refine r12 _ ?_
                    refine ⟨fun q_ => absurd c15 q_, fun _ => ?_⟩
                    refine r18 _ ?_
                    refine ⟨fun _ => ?_, fun q_ => absurd q_ c21⟩
                    refine r24 _ ?_
                    exact r_ _ _ hq_)) (fun b0_ b1_ g_ r_ => hp _ _ g_ (fun K54_ post_ hq_ => by
                    refine ⟨fun q_ => absurd q_ c1, fun _ => ?_⟩
                    refine ⟨fun q_ => absurd q_ c3, fun _ => ?_⟩
                    refine r6 _ ?_
                    refine ⟨fun q_ => absurd q_ c9, fun _ => ?_⟩
                    refine r12 _ ?_
                    refine ⟨fun q_ => absurd c15 q_, fun _ => ?_⟩
                    refine r18 _ ?_
                    refine ⟨fun _ => ?_, fun q_ => absurd q_ c21⟩
                    refine r24 _ ?_
                    exact r_ _ _ hq_))
          · refine d_wp_X5_after h22 (fun w28 w29 h26 r27 => ?_)
            have h30 := h26 _ rfl
            exact d_wj_X1_matches_243 h30 (fun b0_ b1_ b2_ b3_ b4_ g_ r_ => hK54 _ _ _ _ _ g_ (fun K54_ post_ hq_ => by
                    refine ⟨fun q_ => absurd q_ c1, fun _ => ?_⟩
                    refine ⟨fun q_ => absurd q_ c3, fun _ => ?_⟩
                    refine r6 _ ?_
                    refine ⟨fun q_ => absurd q_ c9, fun _ => ?_⟩
                    refine r12 _ ?_
                    refine ⟨fun q_ => absurd c15 q_, fun _ => ?_⟩
                    refine r18 _ ?_
                    refine ⟨fun q_ => absurd c21 q_, fun _ => ?_⟩
                    refine r27 _ ?_
                    rintro _ rfl
                    exact r_ _ _ hq_)) (fun b0_ b1_ g_ r_ => hp _ _ g_ (fun K54_ post_ hq_ => by
                    refine ⟨fun q_ => absurd q_ c1, fun _ => ?_⟩
                    refine ⟨fun q_ => absurd q_ c3, fun _ => ?_⟩
                    refine r6 _ ?_
                    refine ⟨fun q_ => absurd q_ c9, fun _ => ?_⟩
                    refine r12 _ ?_
                    refine ⟨fun q_ => absurd c15 q_, fun _ => ?_⟩
                    refine r18 _ ?_
                    refine ⟨fun q_ => absurd c21 q_, fun _ => ?_⟩
                    refine r27 _ ?_
                    rintro _ rfl
                    exact r_ _ _ hq_))
theorem dl_wj_X1_matches_54 {post : Int32 → mS → Prop} {goal : Prop} : ∀ (n_ : Nat) (x3 : Int32) (x4 : Int32) (x5 : Int32) (x6 : Int32) (u : mS), mL5 (fun K_ => wj_X1_matches_54 K_ post) n_ x3 x4 x5 x6 u → (∀ (b0_ : Int32) (b1_ : mS), post b0_ b1_ → (∀ (post_ : Int32 → mS → Prop), post_ b0_ b1_ → ∃ m_, mL5 (fun K_ => wj_X1_matches_54 K_ post_) m_ x3 x4 x5 x6 u) → goal) → goal
  | 0, _, _, _, _, _, h, _ => h.elim
  | n_ + 1, x3, x4, x5, x6, u, h, hp => d_wj_X1_matches_54 h (fun b0_ b1_ b2_ b3_ b4_ g_ r_ => dl_wj_X1_matches_54 n_ b0_ b1_ b2_ b3_ b4_ g_ (fun b0_ b1_ g2_ r2_ => hp b0_ b1_ g2_ (fun post_ hq_ => (r2_ post_ hq_).elim (fun m_ hm_ => ⟨m_ + 1, r_ _ _ hm_⟩)))) (fun b0_ b1_ g_ r_ => hp b0_ b1_ g_ (fun post_ hq_ => ⟨1, r_ _ _ hq_⟩))
theorem d_wp_X1_matches {x1 : Int32} {x2 : Int32} {u : mS} {post : Int32 → mS → Prop} {goal : Prop} (h : wp_X1_matches x1 x2 u post) (hp : ∀ (b0_ : Int32) (b1_ : mS), post b0_ b1_ → (∀ (post_ : Int32 → mS → Prop), post_ b0_ b1_ → wp_X1_matches x1 x2 u post_) → goal) : goal := by
  refine d_wp_X1_hasRoomFor h (fun w3 w4 h1 r2 => ?_)
  refine el_n h1 (fun c5 h6 => ?_) (fun c5 h6 => ?_)
  · refine d_wp_X4_clear h6 (fun w9 h7 r8 => ?_)
    refine d_wp_X5_after h7 (fun w12 w13 h10 r11 => ?_)
    have h14 := h10 _ rfl
    refine d_wp_X5_after h14 (fun w17 w18 h15 r16 => ?_)
    have h19 := h15 _ rfl
    refine d_wp_X5_after h19 (fun w22 w23 h20 r21 => ?_)
    obtain ⟨n24, h25⟩ := h20
    exact dl_wj_X1_matches_54 n24 _ _ _ _ _ h25 (fun b0_ b1_ g_ r_ => hp _ _ g_ (fun post_ hq_ => by
            refine r2 _ ?_
            refine ⟨fun _ => ?_, fun q_ => absurd q_ c5⟩
            refine r8 _ ?_
            refine r11 _ ?_
            rintro _ rfl
            refine r16 _ ?_
            rintro _ rfl
            refine r21 _ ?_
            exact r_ _ hq_))
  · exact hp _ _ h6 (fun post_ hq_ => by
            refine r2 _ ?_
            refine ⟨fun q_ => absurd c5 q_, fun _ => ?_⟩
            exact hq_)
theorem d_wj_X1_firstRule_17 {K17 : Int32 → Int32 → Int32 → Int32 → mS → Prop} {post : Int32 → mS → Prop} {x2 : Int32} {x3 : Int32} {x4 : Int32} {x5 : Int32} {u : mS} {goal : Prop} (h : wj_X1_firstRule_17 K17 post x2 x3 x4 x5 u) (hK17 : ∀ (b0_ : Int32) (b1_ : Int32) (b2_ : Int32) (b3_ : Int32) (b4_ : mS), K17 b0_ b1_ b2_ b3_ b4_ → (∀ (K17_ : Int32 → Int32 → Int32 → Int32 → mS → Prop) (post_ : Int32 → mS → Prop), K17_ b0_ b1_ b2_ b3_ b4_ → wj_X1_firstRule_17 K17_ post_ x2 x3 x4 x5 u) → goal) (hp : ∀ (b0_ : Int32) (b1_ : mS), post b0_ b1_ → (∀ (K17_ : Int32 → Int32 → Int32 → Int32 → mS → Prop) (post_ : Int32 → mS → Prop), post_ b0_ b1_ → wj_X1_firstRule_17 K17_ post_ x2 x3 x4 x5 u) → goal) : goal := by
  refine el_p h (fun c1 h2 => ?_) (fun c1 h2 => ?_)
  · exact hp _ _ h2 (fun K17_ post_ hq_ => by
            refine ⟨fun _ => ?_, fun q_ => absurd c1 q_⟩
            exact hq_)
  · have h3 := h2 _ rfl
    refine d_wp_X1_matches h3 (fun w6 w7 h4 r5 => ?_)
    refine el_p h4 (fun c8 h9 => ?_) (fun c8 h9 => ?_)
    · refine d_wp_X5_after h9 (fun w12 w13 h10 r11 => ?_)
      have h14 := h10 _ rfl
      exact hK17 _ _ _ _ _ h14 (fun K17_ post_ hq_ => by
              refine ⟨fun q_ => absurd q_ c1, fun _ => ?_⟩
              rintro _ rfl
              refine r5 _ ?_
              refine ⟨fun _ => ?_, fun q_ => absurd c8 q_⟩
              refine r11 _ ?_
              rintro _ rfl
              exact hq_)
    · exact hp _ _ h9 (fun K17_ post_ hq_ => by
              refine ⟨fun q_ => absurd q_ c1, fun _ => ?_⟩
              rintro _ rfl
              refine r5 _ ?_
              refine ⟨fun q_ => absurd q_ c8, fun _ => ?_⟩
              exact hq_)
theorem dl_wj_X1_firstRule_17 {post : Int32 → mS → Prop} {goal : Prop} : ∀ (n_ : Nat) (x2 : Int32) (x3 : Int32) (x4 : Int32) (x5 : Int32) (u : mS), mL5 (fun K_ => wj_X1_firstRule_17 K_ post) n_ x2 x3 x4 x5 u → (∀ (b0_ : Int32) (b1_ : mS), post b0_ b1_ → (∀ (post_ : Int32 → mS → Prop), post_ b0_ b1_ → ∃ m_, mL5 (fun K_ => wj_X1_firstRule_17 K_ post_) m_ x2 x3 x4 x5 u) → goal) → goal
  | 0, _, _, _, _, _, h, _ => h.elim
  | n_ + 1, x2, x3, x4, x5, u, h, hp => d_wj_X1_firstRule_17 h (fun b0_ b1_ b2_ b3_ b4_ g_ r_ => dl_wj_X1_firstRule_17 n_ b0_ b1_ b2_ b3_ b4_ g_ (fun b0_ b1_ g2_ r2_ => hp b0_ b1_ g2_ (fun post_ hq_ => (r2_ post_ hq_).elim (fun m_ hm_ => ⟨m_ + 1, r_ _ _ hm_⟩)))) (fun b0_ b1_ g_ r_ => hp b0_ b1_ g_ (fun post_ hq_ => ⟨1, r_ _ _ hq_⟩))
theorem d_wp_X1_firstRule {x1 : Int32} {x2 : Int32} {u : mS} {post : Int32 → mS → Prop} {goal : Prop} (h : wp_X1_firstRule x1 x2 u post) (hp : ∀ (b0_ : Int32) (b1_ : mS), post b0_ b1_ → (∀ (post_ : Int32 → mS → Prop), post_ b0_ b1_ → wp_X1_firstRule x1 x2 u post_) → goal) : goal := by
  refine d_wp_X5_plainLength h (fun w3 w4 h1 r2 => ?_)
  have h5 := h1 _ rfl
  obtain ⟨n6, h7⟩ := h5
  exact dl_wj_X1_firstRule_17 n6 _ _ _ _ _ h7 (fun b0_ b1_ g_ r_ => hp _ _ g_ (fun post_ hq_ => by
        refine r2 _ ?_
        rintro _ rfl
        exact r_ _ hq_))
theorem d_wp_X5_startTree {u : mS} {post : Int32 → mS → Prop} {goal : Prop} (h : wp_X5_startTree u post) (hp : ∀ (b0_ : Int32) (b1_ : mS), post b0_ b1_ → (∀ (post_ : Int32 → mS → Prop), post_ b0_ b1_ → wp_X5_startTree u post_) → goal) : goal := by
  have h1 := h _ rfl
  have h2 := h1 _ rfl
  exact hp _ _ h2 (fun post_ hq_ => by
        rintro _ rfl
        rintro _ rfl
        exact hq_)
theorem d_wp_X4_roundOf {x1 : Int32} {u : mS} {post : Int32 → mS → Prop} {goal : Prop} (h : wp_X4_roundOf x1 u post) (hp : ∀ (b0_ : Int32) (b1_ : mS), post b0_ b1_ → (∀ (post_ : Int32 → mS → Prop), post_ b0_ b1_ → wp_X4_roundOf x1 u post_) → goal) : goal := by
  refine el_p h (fun c1 h2 => ?_) (fun c1 h2 => ?_)
  · exact hp _ _ h2 (fun post_ hq_ => by
            refine ⟨fun _ => ?_, fun q_ => absurd c1 q_⟩
            exact hq_)
  · have h3 := h2 _ rfl
    refine el_p h3 (fun c4 h5 => ?_) (fun c4 h5 => ?_)
    · exact hp _ _ h5 (fun post_ hq_ => by
              refine ⟨fun q_ => absurd q_ c1, fun _ => ?_⟩
              rintro _ rfl
              refine ⟨fun _ => ?_, fun q_ => absurd c4 q_⟩
              exact hq_)
    · refine el_p h5 (fun c6 h7 => ?_) (fun c6 h7 => ?_)
      · exact hp _ _ h7 (fun post_ hq_ => by
                refine ⟨fun q_ => absurd q_ c1, fun _ => ?_⟩
                rintro _ rfl
                refine ⟨fun q_ => absurd q_ c4, fun _ => ?_⟩
                refine ⟨fun _ => ?_, fun q_ => absurd c6 q_⟩
                exact hq_)
      · have v9 := h7.1
        have h8 := h7.2
        have h10 := h8 _ rfl
        exact hp _ _ h10 (fun post_ hq_ => by
                refine ⟨fun q_ => absurd q_ c1, fun _ => ?_⟩
                rintro _ rfl
                refine ⟨fun q_ => absurd q_ c4, fun _ => ?_⟩
                refine ⟨fun q_ => absurd q_ c6, fun _ => ?_⟩
                refine ⟨v9, ?_⟩
                rintro _ rfl
                exact hq_)
theorem d_wj_X1_matchOf_134 {K17 : Int32 → Int32 → Int32 → Int32 → Int32 → Int32 → mS → Prop} {post : Int32 → mS → Prop} {x1 : Int32} {x2 : Int32} {x3 : Int32} {x4 : Int32} {x5 : Int32} {x6 : Int32} {u : mS} {goal : Prop} (h : wj_X1_matchOf_134 K17 post x1 x2 x3 x4 x5 x6 u) (hK17 : ∀ (b0_ : Int32) (b1_ : Int32) (b2_ : Int32) (b3_ : Int32) (b4_ : Int32) (b5_ : Int32) (b6_ : mS), K17 b0_ b1_ b2_ b3_ b4_ b5_ b6_ → (∀ (K17_ : Int32 → Int32 → Int32 → Int32 → Int32 → Int32 → mS → Prop) (post_ : Int32 → mS → Prop), K17_ b0_ b1_ b2_ b3_ b4_ b5_ b6_ → wj_X1_matchOf_134 K17_ post_ x1 x2 x3 x4 x5 x6 u) → goal) (hp : ∀ (b0_ : Int32) (b1_ : mS), post b0_ b1_ → (∀ (K17_ : Int32 → Int32 → Int32 → Int32 → Int32 → Int32 → mS → Prop) (post_ : Int32 → mS → Prop), post_ b0_ b1_ → wj_X1_matchOf_134 K17_ post_ x1 x2 x3 x4 x5 x6 u) → goal) : goal := by
  have h1 := h _ rfl
  exact hK17 _ _ _ _ _ _ _ h1 (fun K17_ post_ hq_ => by
        rintro _ rfl
        exact hq_)
theorem d_wj_X1_matchOf_140 {post : Int32 → mS → Prop} {x4 : Int32} {u : mS} {goal : Prop} (h : wj_X1_matchOf_140 post x4 u) (hp : ∀ (b0_ : Int32) (b1_ : mS), post b0_ b1_ → (∀ (post_ : Int32 → mS → Prop), post_ b0_ b1_ → wj_X1_matchOf_140 post_ x4 u) → goal) : goal := by
  exact hp _ _ h (fun post_ hq_ => hq_)
theorem d_wj_X1_matchOf_120 {K17 : Int32 → Int32 → Int32 → Int32 → Int32 → Int32 → mS → Prop} {post : Int32 → mS → Prop} {x1 : Int32} {x2 : Int32} {x3 : Int32} {x4 : Int32} {x5 : Int32} {x6 : Int32} {u : mS} {goal : Prop} (h : wj_X1_matchOf_120 K17 post x1 x2 x3 x4 x5 x6 u) (hK17 : ∀ (b0_ : Int32) (b1_ : Int32) (b2_ : Int32) (b3_ : Int32) (b4_ : Int32) (b5_ : Int32) (b6_ : mS), K17 b0_ b1_ b2_ b3_ b4_ b5_ b6_ → (∀ (K17_ : Int32 → Int32 → Int32 → Int32 → Int32 → Int32 → mS → Prop) (post_ : Int32 → mS → Prop), K17_ b0_ b1_ b2_ b3_ b4_ b5_ b6_ → wj_X1_matchOf_120 K17_ post_ x1 x2 x3 x4 x5 x6 u) → goal) (hp : ∀ (b0_ : Int32) (b1_ : mS), post b0_ b1_ → (∀ (K17_ : Int32 → Int32 → Int32 → Int32 → Int32 → Int32 → mS → Prop) (post_ : Int32 → mS → Prop), post_ b0_ b1_ → wj_X1_matchOf_120 K17_ post_ x1 x2 x3 x4 x5 x6 u) → goal) : goal := by
  refine el_p h (fun c1 h2 => ?_) (fun c1 h2 => ?_)
  · have h3 := h2 _ rfl
    have h4 := h3 _ rfl
    exact d_wj_X1_matchOf_134 h4 (fun b0_ b1_ b2_ b3_ b4_ b5_ b6_ g_ r_ => hK17 _ _ _ _ _ _ _ g_ (fun K17_ post_ hq_ => by
            refine ⟨fun _ => ?_, fun q_ => absurd c1 q_⟩
            rintro _ rfl
            rintro _ rfl
            exact r_ _ _ hq_)) (fun b0_ b1_ g_ r_ => hp _ _ g_ (fun K17_ post_ hq_ => by
            refine ⟨fun _ => ?_, fun q_ => absurd c1 q_⟩
            rintro _ rfl
            rintro _ rfl
            exact r_ _ _ hq_))
  · exact d_wj_X1_matchOf_140 h2 (fun b0_ b1_ g_ r_ => hp _ _ g_ (fun K17_ post_ hq_ => by
            refine ⟨fun q_ => absurd q_ c1, fun _ => ?_⟩
            exact r_ _ hq_))
theorem d_wj_X1_matchOf_93 {K93 : Int32 → Int32 → Int32 → Int32 → Int32 → Int32 → Int32 → Int32 → mS → Prop} {K17 : Int32 → Int32 → Int32 → Int32 → Int32 → Int32 → mS → Prop} {post : Int32 → mS → Prop} {x1 : Int32} {x2 : Int32} {x3 : Int32} {x4 : Int32} {x5 : Int32} {x6 : Int32} {x7 : Int32} {x8 : Int32} {u : mS} {goal : Prop} (h : wj_X1_matchOf_93 K93 K17 post x1 x2 x3 x4 x5 x6 x7 x8 u) (hK93 : ∀ (b0_ : Int32) (b1_ : Int32) (b2_ : Int32) (b3_ : Int32) (b4_ : Int32) (b5_ : Int32) (b6_ : Int32) (b7_ : Int32) (b8_ : mS), K93 b0_ b1_ b2_ b3_ b4_ b5_ b6_ b7_ b8_ → (∀ (K93_ : Int32 → Int32 → Int32 → Int32 → Int32 → Int32 → Int32 → Int32 → mS → Prop) (K17_ : Int32 → Int32 → Int32 → Int32 → Int32 → Int32 → mS → Prop) (post_ : Int32 → mS → Prop), K93_ b0_ b1_ b2_ b3_ b4_ b5_ b6_ b7_ b8_ → wj_X1_matchOf_93 K93_ K17_ post_ x1 x2 x3 x4 x5 x6 x7 x8 u) → goal) (hK17 : ∀ (b0_ : Int32) (b1_ : Int32) (b2_ : Int32) (b3_ : Int32) (b4_ : Int32) (b5_ : Int32) (b6_ : mS), K17 b0_ b1_ b2_ b3_ b4_ b5_ b6_ → (∀ (K93_ : Int32 → Int32 → Int32 → Int32 → Int32 → Int32 → Int32 → Int32 → mS → Prop) (K17_ : Int32 → Int32 → Int32 → Int32 → Int32 → Int32 → mS → Prop) (post_ : Int32 → mS → Prop), K17_ b0_ b1_ b2_ b3_ b4_ b5_ b6_ → wj_X1_matchOf_93 K93_ K17_ post_ x1 x2 x3 x4 x5 x6 x7 x8 u) → goal) (hp : ∀ (b0_ : Int32) (b1_ : mS), post b0_ b1_ → (∀ (K93_ : Int32 → Int32 → Int32 → Int32 → Int32 → Int32 → Int32 → Int32 → mS → Prop) (K17_ : Int32 → Int32 → Int32 → Int32 → Int32 → Int32 → mS → Prop) (post_ : Int32 → mS → Prop), post_ b0_ b1_ → wj_X1_matchOf_93 K93_ K17_ post_ x1 x2 x3 x4 x5 x6 x7 x8 u) → goal) : goal := by
  refine el_p h (fun c1 h2 => ?_) (fun c1 h2 => ?_)
  · have h3 := h2 _ rfl
    exact d_wj_X1_matchOf_120 h3 (fun b0_ b1_ b2_ b3_ b4_ b5_ b6_ g_ r_ => hK17 _ _ _ _ _ _ _ g_ (fun K93_ K17_ post_ hq_ => by
            refine ⟨fun _ => ?_, fun q_ => absurd c1 q_⟩
            rintro _ rfl
            exact r_ _ _ hq_)) (fun b0_ b1_ g_ r_ => hp _ _ g_ (fun K93_ K17_ post_ hq_ => by
            refine ⟨fun _ => ?_, fun q_ => absurd c1 q_⟩
            rintro _ rfl
            exact r_ _ _ hq_))
  · refine d_wp_X5_after h2 (fun w6 w7 h4 r5 => ?_)
    have h8 := h4 _ rfl
    exact hK93 _ _ _ _ _ _ _ _ _ h8 (fun K93_ K17_ post_ hq_ => by
            refine ⟨fun q_ => absurd q_ c1, fun _ => ?_⟩
            refine r5 _ ?_
            rintro _ rfl
            exact hq_)
theorem dl_wj_X1_matchOf_93 {K17 : Int32 → Int32 → Int32 → Int32 → Int32 → Int32 → mS → Prop} {post : Int32 → mS → Prop} {goal : Prop} : ∀ (n_ : Nat) (x1 : Int32) (x2 : Int32) (x3 : Int32) (x4 : Int32) (x5 : Int32) (x6 : Int32) (x7 : Int32) (x8 : Int32) (u : mS), mL9 (fun K_ => wj_X1_matchOf_93 K_ K17 post) n_ x1 x2 x3 x4 x5 x6 x7 x8 u → (∀ (b0_ : Int32) (b1_ : Int32) (b2_ : Int32) (b3_ : Int32) (b4_ : Int32) (b5_ : Int32) (b6_ : mS), K17 b0_ b1_ b2_ b3_ b4_ b5_ b6_ → (∀ (K17_ : Int32 → Int32 → Int32 → Int32 → Int32 → Int32 → mS → Prop) (post_ : Int32 → mS → Prop), K17_ b0_ b1_ b2_ b3_ b4_ b5_ b6_ → ∃ m_, mL9 (fun K_ => wj_X1_matchOf_93 K_ K17_ post_) m_ x1 x2 x3 x4 x5 x6 x7 x8 u) → goal) → (∀ (b0_ : Int32) (b1_ : mS), post b0_ b1_ → (∀ (K17_ : Int32 → Int32 → Int32 → Int32 → Int32 → Int32 → mS → Prop) (post_ : Int32 → mS → Prop), post_ b0_ b1_ → ∃ m_, mL9 (fun K_ => wj_X1_matchOf_93 K_ K17_ post_) m_ x1 x2 x3 x4 x5 x6 x7 x8 u) → goal) → goal
  | 0, _, _, _, _, _, _, _, _, _, h, _, _ => h.elim
  | n_ + 1, x1, x2, x3, x4, x5, x6, x7, x8, u, h, hK17, hp => d_wj_X1_matchOf_93 h (fun b0_ b1_ b2_ b3_ b4_ b5_ b6_ b7_ b8_ g_ r_ => dl_wj_X1_matchOf_93 n_ b0_ b1_ b2_ b3_ b4_ b5_ b6_ b7_ b8_ g_ (fun b0_ b1_ b2_ b3_ b4_ b5_ b6_ g2_ r2_ => hK17 b0_ b1_ b2_ b3_ b4_ b5_ b6_ g2_ (fun K17_ post_ hq_ => (r2_ K17_ post_ hq_).elim (fun m_ hm_ => ⟨m_ + 1, r_ _ _ _ hm_⟩))) (fun b0_ b1_ g2_ r2_ => hp b0_ b1_ g2_ (fun K17_ post_ hq_ => (r2_ K17_ post_ hq_).elim (fun m_ hm_ => ⟨m_ + 1, r_ _ _ _ hm_⟩)))) (fun b0_ b1_ b2_ b3_ b4_ b5_ b6_ g_ r_ => hK17 b0_ b1_ b2_ b3_ b4_ b5_ b6_ g_ (fun K17_ post_ hq_ => ⟨1, r_ _ _ _ hq_⟩)) (fun b0_ b1_ g_ r_ => hp b0_ b1_ g_ (fun K17_ post_ hq_ => ⟨1, r_ _ _ _ hq_⟩))
theorem d_wj_X1_matchOf_17 {K17 : Int32 → Int32 → Int32 → Int32 → Int32 → Int32 → mS → Prop} {post : Int32 → mS → Prop} {x1 : Int32} {x2 : Int32} {x3 : Int32} {x4 : Int32} {x5 : Int32} {x6 : Int32} {u : mS} {goal : Prop} (h : wj_X1_matchOf_17 K17 post x1 x2 x3 x4 x5 x6 u) (hK17 : ∀ (b0_ : Int32) (b1_ : Int32) (b2_ : Int32) (b3_ : Int32) (b4_ : Int32) (b5_ : Int32) (b6_ : mS), K17 b0_ b1_ b2_ b3_ b4_ b5_ b6_ → (∀ (K17_ : Int32 → Int32 → Int32 → Int32 → Int32 → Int32 → mS → Prop) (post_ : Int32 → mS → Prop), K17_ b0_ b1_ b2_ b3_ b4_ b5_ b6_ → wj_X1_matchOf_17 K17_ post_ x1 x2 x3 x4 x5 x6 u) → goal) (hp : ∀ (b0_ : Int32) (b1_ : mS), post b0_ b1_ → (∀ (K17_ : Int32 → Int32 → Int32 → Int32 → Int32 → Int32 → mS → Prop) (post_ : Int32 → mS → Prop), post_ b0_ b1_ → wj_X1_matchOf_17 K17_ post_ x1 x2 x3 x4 x5 x6 u) → goal) : goal := by
  refine el_p h (fun c1 h2 => ?_) (fun c1 h2 => ?_)
  · exact d_wj_X1_matchOf_140 h2 (fun b0_ b1_ g_ r_ => hp _ _ g_ (fun K17_ post_ hq_ => by
            refine ⟨fun _ => ?_, fun q_ => absurd c1 q_⟩
            exact r_ _ hq_))
  · refine d_wp_X5_after h2 (fun w5 w6 h3 r4 => ?_)
    refine el_p h3 (fun c7 h8 => ?_) (fun c7 h8 => ?_)
    · refine d_wp_X5_isHeld h8 (fun w11 w12 h9 r10 => ?_)
      refine el_p h9 (fun c13 h14 => ?_) (fun c13 h14 => ?_)
      · exact d_wj_X1_matchOf_120 h14 (fun b0_ b1_ b2_ b3_ b4_ b5_ b6_ g_ r_ => hK17 _ _ _ _ _ _ _ g_ (fun K17_ post_ hq_ => by
                refine ⟨fun q_ => absurd q_ c1, fun _ => ?_⟩
                refine r4 _ ?_
                refine ⟨fun _ => ?_, fun q_ => absurd c7 q_⟩
                refine r10 _ ?_
                refine ⟨fun _ => ?_, fun q_ => absurd c13 q_⟩
                exact r_ _ _ hq_)) (fun b0_ b1_ g_ r_ => hp _ _ g_ (fun K17_ post_ hq_ => by
                refine ⟨fun q_ => absurd q_ c1, fun _ => ?_⟩
                refine r4 _ ?_
                refine ⟨fun _ => ?_, fun q_ => absurd c7 q_⟩
                refine r10 _ ?_
                refine ⟨fun _ => ?_, fun q_ => absurd c13 q_⟩
                exact r_ _ _ hq_))
      · refine el_p h14 (fun c15 h16 => ?_) (fun c15 h16 => ?_)
        · refine d_wp_X4_roundOf h16 (fun w19 w20 h17 r18 => ?_)
          obtain ⟨n21, h22⟩ := h17
          exact dl_wj_X1_matchOf_93 n21 _ _ _ _ _ _ _ _ _ h22 (fun b0_ b1_ b2_ b3_ b4_ b5_ b6_ g_ r_ => hK17 _ _ _ _ _ _ _ g_ (fun K17_ post_ hq_ => by
                  refine ⟨fun q_ => absurd q_ c1, fun _ => ?_⟩
                  refine r4 _ ?_
                  refine ⟨fun _ => ?_, fun q_ => absurd c7 q_⟩
                  refine r10 _ ?_
                  refine ⟨fun q_ => absurd q_ c13, fun _ => ?_⟩
                  refine ⟨fun _ => ?_, fun q_ => absurd c15 q_⟩
                  refine r18 _ ?_
                  exact r_ _ _ hq_)) (fun b0_ b1_ g_ r_ => hp _ _ g_ (fun K17_ post_ hq_ => by
                  refine ⟨fun q_ => absurd q_ c1, fun _ => ?_⟩
                  refine r4 _ ?_
                  refine ⟨fun _ => ?_, fun q_ => absurd c7 q_⟩
                  refine r10 _ ?_
                  refine ⟨fun q_ => absurd q_ c13, fun _ => ?_⟩
                  refine ⟨fun _ => ?_, fun q_ => absurd c15 q_⟩
                  refine r18 _ ?_
                  exact r_ _ _ hq_))
        · exact d_wj_X1_matchOf_140 h16 (fun b0_ b1_ g_ r_ => hp _ _ g_ (fun K17_ post_ hq_ => by
                  refine ⟨fun q_ => absurd q_ c1, fun _ => ?_⟩
                  refine r4 _ ?_
                  refine ⟨fun _ => ?_, fun q_ => absurd c7 q_⟩
                  refine r10 _ ?_
                  refine ⟨fun q_ => absurd q_ c13, fun _ => ?_⟩
                  refine ⟨fun q_ => absurd q_ c15, fun _ => ?_⟩
                  exact r_ _ hq_))
    · refine d_wp_X5_after h8 (fun w25 w26 h23 r24 => ?_)
      refine d_wp_X5_after h23 (fun w29 w30 h27 r28 => ?_)
      exact d_wj_X1_matchOf_134 h27 (fun b0_ b1_ b2_ b3_ b4_ b5_ b6_ g_ r_ => hK17 _ _ _ _ _ _ _ g_ (fun K17_ post_ hq_ => by
              refine ⟨fun q_ => absurd q_ c1, fun _ => ?_⟩
              refine r4 _ ?_
              refine ⟨fun q_ => absurd q_ c7, fun _ => ?_⟩
              refine r24 _ ?_
              refine r28 _ ?_
              exact r_ _ _ hq_)) (fun b0_ b1_ g_ r_ => hp _ _ g_ (fun K17_ post_ hq_ => by
              refine ⟨fun q_ => absurd q_ c1, fun _ => ?_⟩
              refine r4 _ ?_
              refine ⟨fun q_ => absurd q_ c7, fun _ => ?_⟩
              refine r24 _ ?_
              refine r28 _ ?_
              exact r_ _ _ hq_))
theorem dl_wj_X1_matchOf_17 {post : Int32 → mS → Prop} {goal : Prop} : ∀ (n_ : Nat) (x1 : Int32) (x2 : Int32) (x3 : Int32) (x4 : Int32) (x5 : Int32) (x6 : Int32) (u : mS), mL7 (fun K_ => wj_X1_matchOf_17 K_ post) n_ x1 x2 x3 x4 x5 x6 u → (∀ (b0_ : Int32) (b1_ : mS), post b0_ b1_ → (∀ (post_ : Int32 → mS → Prop), post_ b0_ b1_ → ∃ m_, mL7 (fun K_ => wj_X1_matchOf_17 K_ post_) m_ x1 x2 x3 x4 x5 x6 u) → goal) → goal
  | 0, _, _, _, _, _, _, _, h, _ => h.elim
  | n_ + 1, x1, x2, x3, x4, x5, x6, u, h, hp => d_wj_X1_matchOf_17 h (fun b0_ b1_ b2_ b3_ b4_ b5_ b6_ g_ r_ => dl_wj_X1_matchOf_17 n_ b0_ b1_ b2_ b3_ b4_ b5_ b6_ g_ (fun b0_ b1_ g2_ r2_ => hp b0_ b1_ g2_ (fun post_ hq_ => (r2_ post_ hq_).elim (fun m_ hm_ => ⟨m_ + 1, r_ _ _ hm_⟩)))) (fun b0_ b1_ g_ r_ => hp b0_ b1_ g_ (fun post_ hq_ => ⟨1, r_ _ _ hq_⟩))
theorem d_wp_X1_matchOf {x1 : Int32} {x2 : Int32} {u : mS} {post : Int32 → mS → Prop} {goal : Prop} (h : wp_X1_matchOf x1 x2 u post) (hp : ∀ (b0_ : Int32) (b1_ : mS), post b0_ b1_ → (∀ (post_ : Int32 → mS → Prop), post_ b0_ b1_ → wp_X1_matchOf x1 x2 u post_) → goal) : goal := by
  have h1 := h _ rfl
  have h2 := h1 _ rfl
  obtain ⟨n3, h4⟩ := h2
  exact dl_wj_X1_matchOf_17 n3 _ _ _ _ _ _ _ h4 (fun b0_ b1_ g_ r_ => hp _ _ g_ (fun post_ hq_ => by
        rintro _ rfl
        rintro _ rfl
        exact r_ _ hq_))
theorem d_wj_X1_roundsFor_81 {K14 : Int32 → Int32 → Int32 → mS → Prop} {post : Int32 → mS → Prop} {x2 : Int32} {x3 : Int32} {x4 : Int32} {u : mS} {goal : Prop} (h : wj_X1_roundsFor_81 K14 post x2 x3 x4 u) (hK14 : ∀ (b0_ : Int32) (b1_ : Int32) (b2_ : Int32) (b3_ : mS), K14 b0_ b1_ b2_ b3_ → (∀ (K14_ : Int32 → Int32 → Int32 → mS → Prop) (post_ : Int32 → mS → Prop), K14_ b0_ b1_ b2_ b3_ → wj_X1_roundsFor_81 K14_ post_ x2 x3 x4 u) → goal) (hp : ∀ (b0_ : Int32) (b1_ : mS), post b0_ b1_ → (∀ (K14_ : Int32 → Int32 → Int32 → mS → Prop) (post_ : Int32 → mS → Prop), post_ b0_ b1_ → wj_X1_roundsFor_81 K14_ post_ x2 x3 x4 u) → goal) : goal := by
  have h1 := h _ rfl
  exact hK14 _ _ _ _ h1 (fun K14_ post_ hq_ => by
        rintro _ rfl
        exact hq_)
theorem d_wj_X1_roundsFor_78 {K14 : Int32 → Int32 → Int32 → mS → Prop} {post : Int32 → mS → Prop} {x3 : Int32} {x4 : Int32} {x6 : Int32} {u : mS} {goal : Prop} (h : wj_X1_roundsFor_78 K14 post x3 x4 x6 u) (hK14 : ∀ (b0_ : Int32) (b1_ : Int32) (b2_ : Int32) (b3_ : mS), K14 b0_ b1_ b2_ b3_ → (∀ (K14_ : Int32 → Int32 → Int32 → mS → Prop) (post_ : Int32 → mS → Prop), K14_ b0_ b1_ b2_ b3_ → wj_X1_roundsFor_78 K14_ post_ x3 x4 x6 u) → goal) (hp : ∀ (b0_ : Int32) (b1_ : mS), post b0_ b1_ → (∀ (K14_ : Int32 → Int32 → Int32 → mS → Prop) (post_ : Int32 → mS → Prop), post_ b0_ b1_ → wj_X1_roundsFor_78 K14_ post_ x3 x4 x6 u) → goal) : goal := by
  exact d_wj_X1_roundsFor_81 h (fun b0_ b1_ b2_ b3_ g_ r_ => hK14 _ _ _ _ g_ (fun K14_ post_ hq_ => r_ _ _ hq_)) (fun b0_ b1_ g_ r_ => hp _ _ g_ (fun K14_ post_ hq_ => r_ _ _ hq_))
theorem d_wj_X1_roundsFor_14 {K14 : Int32 → Int32 → Int32 → mS → Prop} {post : Int32 → mS → Prop} {x2 : Int32} {x3 : Int32} {x4 : Int32} {u : mS} {goal : Prop} (h : wj_X1_roundsFor_14 K14 post x2 x3 x4 u) (hK14 : ∀ (b0_ : Int32) (b1_ : Int32) (b2_ : Int32) (b3_ : mS), K14 b0_ b1_ b2_ b3_ → (∀ (K14_ : Int32 → Int32 → Int32 → mS → Prop) (post_ : Int32 → mS → Prop), K14_ b0_ b1_ b2_ b3_ → wj_X1_roundsFor_14 K14_ post_ x2 x3 x4 u) → goal) (hp : ∀ (b0_ : Int32) (b1_ : mS), post b0_ b1_ → (∀ (K14_ : Int32 → Int32 → Int32 → mS → Prop) (post_ : Int32 → mS → Prop), post_ b0_ b1_ → wj_X1_roundsFor_14 K14_ post_ x2 x3 x4 u) → goal) : goal := by
  refine el_p h (fun c1 h2 => ?_) (fun c1 h2 => ?_)
  · have h3 := h2 _ rfl
    exact hp _ _ h3 (fun K14_ post_ hq_ => by
            refine ⟨fun _ => ?_, fun q_ => absurd c1 q_⟩
            rintro _ rfl
            exact hq_)
  · refine d_wp_X5_variableAt h2 (fun w6 w7 h4 r5 => ?_)
    refine el_p h4 (fun c8 h9 => ?_) (fun c8 h9 => ?_)
    · exact d_wj_X1_roundsFor_81 h9 (fun b0_ b1_ b2_ b3_ g_ r_ => hK14 _ _ _ _ g_ (fun K14_ post_ hq_ => by
              refine ⟨fun q_ => absurd q_ c1, fun _ => ?_⟩
              refine r5 _ ?_
              refine ⟨fun _ => ?_, fun q_ => absurd c8 q_⟩
              exact r_ _ _ hq_)) (fun b0_ b1_ g_ r_ => hp _ _ g_ (fun K14_ post_ hq_ => by
              refine ⟨fun q_ => absurd q_ c1, fun _ => ?_⟩
              refine r5 _ ?_
              refine ⟨fun _ => ?_, fun q_ => absurd c8 q_⟩
              exact r_ _ _ hq_))
    · have h10 := h9 _ rfl
      refine d_wp_X1_matchOf h10 (fun w13 w14 h11 r12 => ?_)
      refine d_wp_X5_itemsFrom h11 (fun w17 w18 h15 r16 => ?_)
      refine el_p h15 (fun c19 h20 => ?_) (fun c19 h20 => ?_)
      · exact d_wj_X1_roundsFor_78 h20 (fun b0_ b1_ b2_ b3_ g_ r_ => hK14 _ _ _ _ g_ (fun K14_ post_ hq_ => by
                refine ⟨fun q_ => absurd q_ c1, fun _ => ?_⟩
                refine r5 _ ?_
                refine ⟨fun q_ => absurd q_ c8, fun _ => ?_⟩
                rintro _ rfl
                refine r12 _ ?_
                refine r16 _ ?_
                refine ⟨fun _ => ?_, fun q_ => absurd c19 q_⟩
                exact r_ _ _ hq_)) (fun b0_ b1_ g_ r_ => hp _ _ g_ (fun K14_ post_ hq_ => by
                refine ⟨fun q_ => absurd q_ c1, fun _ => ?_⟩
                refine r5 _ ?_
                refine ⟨fun q_ => absurd q_ c8, fun _ => ?_⟩
                rintro _ rfl
                refine r12 _ ?_
                refine r16 _ ?_
                refine ⟨fun _ => ?_, fun q_ => absurd c19 q_⟩
                exact r_ _ _ hq_))
      · refine el_p h20 (fun c21 h22 => ?_) (fun c21 h22 => ?_)
        · exact d_wj_X1_roundsFor_78 h22 (fun b0_ b1_ b2_ b3_ g_ r_ => hK14 _ _ _ _ g_ (fun K14_ post_ hq_ => by
                  refine ⟨fun q_ => absurd q_ c1, fun _ => ?_⟩
                  refine r5 _ ?_
                  refine ⟨fun q_ => absurd q_ c8, fun _ => ?_⟩
                  rintro _ rfl
                  refine r12 _ ?_
                  refine r16 _ ?_
                  refine ⟨fun q_ => absurd q_ c19, fun _ => ?_⟩
                  refine ⟨fun _ => ?_, fun q_ => absurd c21 q_⟩
                  exact r_ _ _ hq_)) (fun b0_ b1_ g_ r_ => hp _ _ g_ (fun K14_ post_ hq_ => by
                  refine ⟨fun q_ => absurd q_ c1, fun _ => ?_⟩
                  refine r5 _ ?_
                  refine ⟨fun q_ => absurd q_ c8, fun _ => ?_⟩
                  rintro _ rfl
                  refine r12 _ ?_
                  refine r16 _ ?_
                  refine ⟨fun q_ => absurd q_ c19, fun _ => ?_⟩
                  refine ⟨fun _ => ?_, fun q_ => absurd c21 q_⟩
                  exact r_ _ _ hq_))
        · refine d_wp_X2_fail h22 (fun w25 h23 r24 => ?_)
          exact hp _ _ h23 (fun K14_ post_ hq_ => by
                  refine ⟨fun q_ => absurd q_ c1, fun _ => ?_⟩
                  refine r5 _ ?_
                  refine ⟨fun q_ => absurd q_ c8, fun _ => ?_⟩
                  rintro _ rfl
                  refine r12 _ ?_
                  refine r16 _ ?_
                  refine ⟨fun q_ => absurd q_ c19, fun _ => ?_⟩
                  refine ⟨fun q_ => absurd q_ c21, fun _ => ?_⟩
                  refine r24 _ ?_
                  exact hq_)
theorem dl_wj_X1_roundsFor_14 {post : Int32 → mS → Prop} {goal : Prop} : ∀ (n_ : Nat) (x2 : Int32) (x3 : Int32) (x4 : Int32) (u : mS), mL4 (fun K_ => wj_X1_roundsFor_14 K_ post) n_ x2 x3 x4 u → (∀ (b0_ : Int32) (b1_ : mS), post b0_ b1_ → (∀ (post_ : Int32 → mS → Prop), post_ b0_ b1_ → ∃ m_, mL4 (fun K_ => wj_X1_roundsFor_14 K_ post_) m_ x2 x3 x4 u) → goal) → goal
  | 0, _, _, _, _, h, _ => h.elim
  | n_ + 1, x2, x3, x4, u, h, hp => d_wj_X1_roundsFor_14 h (fun b0_ b1_ b2_ b3_ g_ r_ => dl_wj_X1_roundsFor_14 n_ b0_ b1_ b2_ b3_ g_ (fun b0_ b1_ g2_ r2_ => hp b0_ b1_ g2_ (fun post_ hq_ => (r2_ post_ hq_).elim (fun m_ hm_ => ⟨m_ + 1, r_ _ _ hm_⟩)))) (fun b0_ b1_ g_ r_ => hp b0_ b1_ g_ (fun post_ hq_ => ⟨1, r_ _ _ hq_⟩))
theorem d_wp_X1_roundsFor {x1 : Int32} {u : mS} {post : Int32 → mS → Prop} {goal : Prop} (h : wp_X1_roundsFor x1 u post) (hp : ∀ (b0_ : Int32) (b1_ : mS), post b0_ b1_ → (∀ (post_ : Int32 → mS → Prop), post_ b0_ b1_ → wp_X1_roundsFor x1 u post_) → goal) : goal := by
  refine d_wp_X5_after h (fun w3 w4 h1 r2 => ?_)
  obtain ⟨n5, h6⟩ := h1
  exact dl_wj_X1_roundsFor_14 n5 _ _ _ _ h6 (fun b0_ b1_ g_ r_ => hp _ _ g_ (fun post_ hq_ => by
        refine r2 _ ?_
        exact r_ _ hq_))
theorem d_wp_X5_closeBracket {u : mS} {post : mS → Prop} {goal : Prop} (h : wp_X5_closeBracket u post) (hp : ∀ (b0_ : mS), post b0_ → (∀ (post_ : mS → Prop), post_ b0_ → wp_X5_closeBracket u post_) → goal) : goal := by
  have h1 := h _ rfl
  refine el_p h1 (fun c2 h3 => ?_) (fun c2 h3 => ?_)
  · exact hp _ h3 (fun post_ hq_ => by
            rintro _ rfl
            refine ⟨fun _ => ?_, fun q_ => absurd c2 q_⟩
            exact hq_)
  · have h4 := h3 _ rfl
    refine el_p h4 (fun c5 h6 => ?_) (fun c5 h6 => ?_)
    · have h7 := h6 _ rfl
      have v9 := h7.1
      have h8 := h7.2
      have h10 := h8 _ rfl
      have h11 := h10 _ rfl
      have h12 := h11 _ rfl
      have h13 := h12 _ rfl
      have h14 := h13 _ rfl
      have h15 := h14 _ rfl
      have v17 := h15.1
      have h16 := h15.2
      have h18 := h16 _ rfl
      have h19 := h18 _ rfl
      exact hp _ h19 (fun post_ hq_ => by
              rintro _ rfl
              refine ⟨fun q_ => absurd q_ c2, fun _ => ?_⟩
              rintro _ rfl
              refine ⟨fun _ => ?_, fun q_ => absurd c5 q_⟩
              rintro _ rfl
              refine ⟨v9, ?_⟩
              rintro _ rfl
              rintro _ rfl
              rintro _ rfl
              rintro _ rfl
              rintro _ rfl
              rintro _ rfl
              refine ⟨v17, ?_⟩
              rintro _ rfl
              rintro _ rfl
              exact hq_)
    · exact hp _ h6 (fun post_ hq_ => by
              rintro _ rfl
              refine ⟨fun q_ => absurd q_ c2, fun _ => ?_⟩
              rintro _ rfl
              refine ⟨fun q_ => absurd q_ c5, fun _ => ?_⟩
              exact hq_)
theorem d_wj_X5_add_97 {post : mS → Prop} {u : mS} {goal : Prop} (h : wj_X5_add_97 post u) (hp : ∀ (b0_ : mS), post b0_ → (∀ (post_ : mS → Prop), post_ b0_ → wj_X5_add_97 post_ u) → goal) : goal := by
  have h1 := h _ rfl
  have h2 := h1 _ rfl
  have h3 := h2 _ rfl
  exact hp _ h3 (fun post_ hq_ => by
        rintro _ rfl
        rintro _ rfl
        rintro _ rfl
        exact hq_)
theorem d_wp_X5_add {x1 : Int32} {x2 : Int32} {u : mS} {post : mS → Prop} {goal : Prop} (h : wp_X5_add x1 x2 u post) (hp : ∀ (b0_ : mS), post b0_ → (∀ (post_ : mS → Prop), post_ b0_ → wp_X5_add x1 x2 u post_) → goal) : goal := by
  have h1 := h _ rfl
  refine el_p h1 (fun c2 h3 => ?_) (fun c2 h3 => ?_)
  · exact hp _ h3 (fun post_ hq_ => by
            rintro _ rfl
            refine ⟨fun _ => ?_, fun q_ => absurd c2 q_⟩
            exact hq_)
  · have h4 := h3 _ rfl
    refine el_p h4 (fun c5 h6 => ?_) (fun c5 h6 => ?_)
    · have h7 := h6 _ rfl
      have v9 := h7.1
      have h8 := h7.2
      have h10 := h8 _ rfl
      have h11 := h10 _ rfl
      have v13 := h11.1
      have h12 := h11.2
      have h14 := h12 _ rfl
      have h15 := h14 _ rfl
      have v17 := h15.1
      have h16 := h15.2
      have h18 := h16 _ rfl
      have h19 := h18 _ rfl
      have v21 := h19.1
      have h20 := h19.2
      have h22 := h20 _ rfl
      refine el_n h22 (fun c23 h24 => ?_) (fun c23 h24 => ?_)
      · refine el_n h24 (fun c25 h26 => ?_) (fun c25 h26 => ?_)
        · exact d_wj_X5_add_97 h26 (fun b0_ g_ r_ => hp _ g_ (fun post_ hq_ => by
                  rintro _ rfl
                  refine ⟨fun q_ => absurd q_ c2, fun _ => ?_⟩
                  rintro _ rfl
                  refine ⟨fun _ => ?_, fun q_ => absurd c5 q_⟩
                  rintro _ rfl
                  refine ⟨v9, ?_⟩
                  rintro _ rfl
                  rintro _ rfl
                  refine ⟨v13, ?_⟩
                  rintro _ rfl
                  rintro _ rfl
                  refine ⟨v17, ?_⟩
                  rintro _ rfl
                  rintro _ rfl
                  refine ⟨v21, ?_⟩
                  rintro _ rfl
                  refine ⟨fun _ => ?_, fun q_ => absurd q_ c23⟩
                  refine ⟨fun _ => ?_, fun q_ => absurd q_ c25⟩
                  exact r_ _ hq_))
        · refine d_wp_X5_closeBracket h26 (fun w29 h27 r28 => ?_)
          exact d_wj_X5_add_97 h27 (fun b0_ g_ r_ => hp _ g_ (fun post_ hq_ => by
                  rintro _ rfl
                  refine ⟨fun q_ => absurd q_ c2, fun _ => ?_⟩
                  rintro _ rfl
                  refine ⟨fun _ => ?_, fun q_ => absurd c5 q_⟩
                  rintro _ rfl
                  refine ⟨v9, ?_⟩
                  rintro _ rfl
                  rintro _ rfl
                  refine ⟨v13, ?_⟩
                  rintro _ rfl
                  rintro _ rfl
                  refine ⟨v17, ?_⟩
                  rintro _ rfl
                  rintro _ rfl
                  refine ⟨v21, ?_⟩
                  rintro _ rfl
                  refine ⟨fun _ => ?_, fun q_ => absurd q_ c23⟩
                  refine ⟨fun q_ => absurd c25 q_, fun _ => ?_⟩
                  refine r28 _ ?_
                  exact r_ _ hq_))
      · have h30 := h24 _ rfl
        have h31 := h30 _ rfl
        have v33 := h31.1
        have h32 := h31.2
        have h34 := h32 _ rfl
        have h35 := h34 _ rfl
        have h36 := h35 _ rfl
        exact d_wj_X5_add_97 h36 (fun b0_ g_ r_ => hp _ g_ (fun post_ hq_ => by
                rintro _ rfl
                refine ⟨fun q_ => absurd q_ c2, fun _ => ?_⟩
                rintro _ rfl
                refine ⟨fun _ => ?_, fun q_ => absurd c5 q_⟩
                rintro _ rfl
                refine ⟨v9, ?_⟩
                rintro _ rfl
                rintro _ rfl
                refine ⟨v13, ?_⟩
                rintro _ rfl
                rintro _ rfl
                refine ⟨v17, ?_⟩
                rintro _ rfl
                rintro _ rfl
                refine ⟨v21, ?_⟩
                rintro _ rfl
                refine ⟨fun q_ => absurd c23 q_, fun _ => ?_⟩
                rintro _ rfl
                rintro _ rfl
                refine ⟨v33, ?_⟩
                rintro _ rfl
                rintro _ rfl
                rintro _ rfl
                exact r_ _ hq_))
    · exact hp _ h6 (fun post_ hq_ => by
              rintro _ rfl
              refine ⟨fun q_ => absurd q_ c2, fun _ => ?_⟩
              rintro _ rfl
              refine ⟨fun q_ => absurd q_ c5, fun _ => ?_⟩
              exact hq_)
theorem d_wj_X1_fillToken_79 {K47 : Int32 → Int32 → mS → Prop} {post : mS → Prop} {x4 : Int32} {x5 : Int32} {z0 : Int32} {z1 : Int32} {u : mS} {goal : Prop} (h : wj_X1_fillToken_79 K47 post x4 x5 z0 z1 u) (hK47 : ∀ (b0_ : Int32) (b1_ : Int32) (b2_ : mS), K47 b0_ b1_ b2_ → (∀ (K47_ : Int32 → Int32 → mS → Prop) (post_ : mS → Prop), K47_ b0_ b1_ b2_ → wj_X1_fillToken_79 K47_ post_ x4 x5 z0 z1 u) → goal) (hp : ∀ (b0_ : mS), post b0_ → (∀ (K47_ : Int32 → Int32 → mS → Prop) (post_ : mS → Prop), post_ b0_ → wj_X1_fillToken_79 K47_ post_ x4 x5 z0 z1 u) → goal) : goal := by
  have h1 := h _ rfl
  have h2 := h1 _ rfl
  have h3 := h2 _ rfl
  refine el_p h3 (fun c4 h5 => ?_) (fun c4 h5 => ?_)
  · refine d_wp_X5_wordAt h5 (fun w8 w9 h6 r7 => ?_)
    refine d_wp_X5_marksAt h6 (fun w12 w13 h10 r11 => ?_)
    refine d_wp_X5_add h10 (fun w16 h14 r15 => ?_)
    have h17 := h14 _ rfl
    exact hK47 _ _ _ h17 (fun K47_ post_ hq_ => by
            rintro _ rfl
            rintro _ rfl
            rintro _ rfl
            refine ⟨fun _ => ?_, fun q_ => absurd c4 q_⟩
            refine r7 _ ?_
            refine r11 _ ?_
            refine r15 _ ?_
            rintro _ rfl
            exact hq_)
  · refine d_wp_X2_fail h5 (fun w20 h18 r19 => ?_)
    exact hp _ h18 (fun K47_ post_ hq_ => by
            rintro _ rfl
            rintro _ rfl
            rintro _ rfl
            refine ⟨fun q_ => absurd q_ c4, fun _ => ?_⟩
            refine r19 _ ?_
            exact hq_)
theorem d_wj_X1_fillToken_47 {K47 : Int32 → Int32 → mS → Prop} {post : mS → Prop} {x4 : Int32} {x5 : Int32} {u : mS} {goal : Prop} (h : wj_X1_fillToken_47 K47 post x4 x5 u) (hK47 : ∀ (b0_ : Int32) (b1_ : Int32) (b2_ : mS), K47 b0_ b1_ b2_ → (∀ (K47_ : Int32 → Int32 → mS → Prop) (post_ : mS → Prop), K47_ b0_ b1_ b2_ → wj_X1_fillToken_47 K47_ post_ x4 x5 u) → goal) (hp : ∀ (b0_ : mS), post b0_ → (∀ (K47_ : Int32 → Int32 → mS → Prop) (post_ : mS → Prop), post_ b0_ → wj_X1_fillToken_47 K47_ post_ x4 x5 u) → goal) : goal := by
  refine el_p h (fun c1 h2 => ?_) (fun c1 h2 => ?_)
  · exact hp _ h2 (fun K47_ post_ hq_ => by
            refine ⟨fun _ => ?_, fun q_ => absurd c1 q_⟩
            exact hq_)
  · have h3 := h2 _ rfl
    refine d_wp_X5_wordAt h3 (fun w6 w7 h4 r5 => ?_)
    refine d_wp_X8_isTree h4 (fun w10 w11 h8 r9 => ?_)
    refine el_p h8 (fun c12 h13 => ?_) (fun c12 h13 => ?_)
    · exact d_wj_X1_fillToken_79 h13 (fun b0_ b1_ b2_ g_ r_ => hK47 _ _ _ g_ (fun K47_ post_ hq_ => by
              refine ⟨fun q_ => absurd q_ c1, fun _ => ?_⟩
              rintro _ rfl
              refine r5 _ ?_
              refine r9 _ ?_
              refine ⟨fun _ => ?_, fun q_ => absurd c12 q_⟩
              exact r_ _ _ hq_)) (fun b0_ g_ r_ => hp _ g_ (fun K47_ post_ hq_ => by
              refine ⟨fun q_ => absurd q_ c1, fun _ => ?_⟩
              rintro _ rfl
              refine r5 _ ?_
              refine r9 _ ?_
              refine ⟨fun _ => ?_, fun q_ => absurd c12 q_⟩
              exact r_ _ _ hq_))
    · exact d_wj_X1_fillToken_79 h13 (fun b0_ b1_ b2_ g_ r_ => hK47 _ _ _ g_ (fun K47_ post_ hq_ => by
              refine ⟨fun q_ => absurd q_ c1, fun _ => ?_⟩
              rintro _ rfl
              refine r5 _ ?_
              refine r9 _ ?_
              refine ⟨fun q_ => absurd q_ c12, fun _ => ?_⟩
              exact r_ _ _ hq_)) (fun b0_ g_ r_ => hp _ g_ (fun K47_ post_ hq_ => by
              refine ⟨fun q_ => absurd q_ c1, fun _ => ?_⟩
              rintro _ rfl
              refine r5 _ ?_
              refine r9 _ ?_
              refine ⟨fun q_ => absurd q_ c12, fun _ => ?_⟩
              exact r_ _ _ hq_))
theorem dl_wj_X1_fillToken_47 {post : mS → Prop} {goal : Prop} : ∀ (n_ : Nat) (x4 : Int32) (x5 : Int32) (u : mS), mL3 (fun K_ => wj_X1_fillToken_47 K_ post) n_ x4 x5 u → (∀ (b0_ : mS), post b0_ → (∀ (post_ : mS → Prop), post_ b0_ → ∃ m_, mL3 (fun K_ => wj_X1_fillToken_47 K_ post_) m_ x4 x5 u) → goal) → goal
  | 0, _, _, _, h, _ => h.elim
  | n_ + 1, x4, x5, u, h, hp => d_wj_X1_fillToken_47 h (fun b0_ b1_ b2_ g_ r_ => dl_wj_X1_fillToken_47 n_ b0_ b1_ b2_ g_ (fun b0_ g2_ r2_ => hp b0_ g2_ (fun post_ hq_ => (r2_ post_ hq_).elim (fun m_ hm_ => ⟨m_ + 1, r_ _ _ hm_⟩)))) (fun b0_ g_ r_ => hp b0_ g_ (fun post_ hq_ => ⟨1, r_ _ _ hq_⟩))
theorem d_wj_X1_fillToken_42 {post : mS → Prop} {x3 : Int32} {z0 : Int32} {u : mS} {goal : Prop} (h : wj_X1_fillToken_42 post x3 z0 u) (hp : ∀ (b0_ : mS), post b0_ → (∀ (post_ : mS → Prop), post_ b0_ → wj_X1_fillToken_42 post_ x3 z0 u) → goal) : goal := by
  obtain ⟨n1, h2⟩ := h
  exact dl_wj_X1_fillToken_47 n1 _ _ _ h2 (fun b0_ g_ r_ => hp _ g_ (fun post_ hq_ => r_ _ hq_))
theorem d_wj_X1_fillToken_23 {post : mS → Prop} {x1 : Int32} {x2 : Int32} {z0 : Int32} {u : mS} {goal : Prop} (h : wj_X1_fillToken_23 post x1 x2 z0 u) (hp : ∀ (b0_ : mS), post b0_ → (∀ (post_ : mS → Prop), post_ b0_ → wj_X1_fillToken_23 post_ x1 x2 z0 u) → goal) : goal := by
  refine el_p h (fun c1 h2 => ?_) (fun c1 h2 => ?_)
  · refine d_wp_X5_after h2 (fun w5 w6 h3 r4 => ?_)
    exact d_wj_X1_fillToken_42 h3 (fun b0_ g_ r_ => hp _ g_ (fun post_ hq_ => by
            refine ⟨fun _ => ?_, fun q_ => absurd c1 q_⟩
            refine r4 _ ?_
            exact r_ _ hq_))
  · have h7 := h2 _ rfl
    exact d_wj_X1_fillToken_42 h7 (fun b0_ g_ r_ => hp _ g_ (fun post_ hq_ => by
            refine ⟨fun q_ => absurd q_ c1, fun _ => ?_⟩
            rintro _ rfl
            exact r_ _ hq_))
theorem d_wp_X1_fillToken {x1 : Int32} {u : mS} {post : mS → Prop} {goal : Prop} (h : wp_X1_fillToken x1 u post) (hp : ∀ (b0_ : mS), post b0_ → (∀ (post_ : mS → Prop), post_ b0_ → wp_X1_fillToken x1 u post_) → goal) : goal := by
  refine d_wp_X5_variableAt h (fun w3 w4 h1 r2 => ?_)
  refine el_p h1 (fun c5 h6 => ?_) (fun c5 h6 => ?_)
  · refine d_wp_X1_matchOf h6 (fun w9 w10 h7 r8 => ?_)
    exact d_wj_X1_fillToken_23 h7 (fun b0_ g_ r_ => hp _ g_ (fun post_ hq_ => by
            refine r2 _ ?_
            refine ⟨fun _ => ?_, fun q_ => absurd c5 q_⟩
            refine r8 _ ?_
            exact r_ _ hq_))
  · exact d_wj_X1_fillToken_23 h6 (fun b0_ g_ r_ => hp _ g_ (fun post_ hq_ => by
            refine r2 _ ?_
            refine ⟨fun q_ => absurd q_ c5, fun _ => ?_⟩
            exact r_ _ hq_))
theorem d_wj_X1_fill_184 {K59 : Int32 → Int32 → Int32 → Int32 → mS → Prop} {post : Int32 → mS → Prop} {x3 : Int32} {x4 : Int32} {x5 : Int32} {x6 : Int32} {u : mS} {goal : Prop} (h : wj_X1_fill_184 K59 post x3 x4 x5 x6 u) (hK59 : ∀ (b0_ : Int32) (b1_ : Int32) (b2_ : Int32) (b3_ : Int32) (b4_ : mS), K59 b0_ b1_ b2_ b3_ b4_ → (∀ (K59_ : Int32 → Int32 → Int32 → Int32 → mS → Prop) (post_ : Int32 → mS → Prop), K59_ b0_ b1_ b2_ b3_ b4_ → wj_X1_fill_184 K59_ post_ x3 x4 x5 x6 u) → goal) (hp : ∀ (b0_ : Int32) (b1_ : mS), post b0_ b1_ → (∀ (K59_ : Int32 → Int32 → Int32 → Int32 → mS → Prop) (post_ : Int32 → mS → Prop), post_ b0_ b1_ → wj_X1_fill_184 K59_ post_ x3 x4 x5 x6 u) → goal) : goal := by
  have h1 := h _ rfl
  exact hK59 _ _ _ _ _ h1 (fun K59_ post_ hq_ => by
        rintro _ rfl
        exact hq_)
theorem d_wj_X1_fill_147 {K59 : Int32 → Int32 → Int32 → Int32 → mS → Prop} {post : Int32 → mS → Prop} {x3 : Int32} {x4 : Int32} {x5 : Int32} {x6 : Int32} {u : mS} {goal : Prop} (h : wj_X1_fill_147 K59 post x3 x4 x5 x6 u) (hK59 : ∀ (b0_ : Int32) (b1_ : Int32) (b2_ : Int32) (b3_ : Int32) (b4_ : mS), K59 b0_ b1_ b2_ b3_ b4_ → (∀ (K59_ : Int32 → Int32 → Int32 → Int32 → mS → Prop) (post_ : Int32 → mS → Prop), K59_ b0_ b1_ b2_ b3_ b4_ → wj_X1_fill_147 K59_ post_ x3 x4 x5 x6 u) → goal) (hp : ∀ (b0_ : Int32) (b1_ : mS), post b0_ b1_ → (∀ (K59_ : Int32 → Int32 → Int32 → Int32 → mS → Prop) (post_ : Int32 → mS → Prop), post_ b0_ b1_ → wj_X1_fill_147 K59_ post_ x3 x4 x5 x6 u) → goal) : goal := by
  refine d_wp_X5_wordAt h (fun w3 w4 h1 r2 => ?_)
  refine el_n h1 (fun c5 h6 => ?_) (fun c5 h6 => ?_)
  · refine d_wp_X1_fillToken h6 (fun w9 h7 r8 => ?_)
    have h10 := h7 _ rfl
    exact d_wj_X1_fill_184 h10 (fun b0_ b1_ b2_ b3_ b4_ g_ r_ => hK59 _ _ _ _ _ g_ (fun K59_ post_ hq_ => by
            refine r2 _ ?_
            refine ⟨fun _ => ?_, fun q_ => absurd q_ c5⟩
            refine r8 _ ?_
            rintro _ rfl
            exact r_ _ _ hq_)) (fun b0_ b1_ g_ r_ => hp _ _ g_ (fun K59_ post_ hq_ => by
            refine r2 _ ?_
            refine ⟨fun _ => ?_, fun q_ => absurd q_ c5⟩
            refine r8 _ ?_
            rintro _ rfl
            exact r_ _ _ hq_))
  · refine d_wp_X4_leave h6 (fun w13 w14 h11 r12 => ?_)
    exact d_wj_X1_fill_184 h11 (fun b0_ b1_ b2_ b3_ b4_ g_ r_ => hK59 _ _ _ _ _ g_ (fun K59_ post_ hq_ => by
            refine r2 _ ?_
            refine ⟨fun q_ => absurd c5 q_, fun _ => ?_⟩
            refine r12 _ ?_
            exact r_ _ _ hq_)) (fun b0_ b1_ g_ r_ => hp _ _ g_ (fun K59_ post_ hq_ => by
            refine r2 _ ?_
            refine ⟨fun q_ => absurd c5 q_, fun _ => ?_⟩
            refine r12 _ ?_
            exact r_ _ _ hq_))
theorem d_wj_X1_fill_190 {post : Int32 → mS → Prop} {x3 : Int32} {u : mS} {goal : Prop} (h : wj_X1_fill_190 post x3 u) (hp : ∀ (b0_ : Int32) (b1_ : mS), post b0_ b1_ → (∀ (post_ : Int32 → mS → Prop), post_ b0_ b1_ → wj_X1_fill_190 post_ x3 u) → goal) : goal := by
  exact hp _ _ h (fun post_ hq_ => hq_)
theorem d_wj_X1_fill_59 {K59 : Int32 → Int32 → Int32 → Int32 → mS → Prop} {post : Int32 → mS → Prop} {x3 : Int32} {x4 : Int32} {x5 : Int32} {x6 : Int32} {u : mS} {goal : Prop} (h : wj_X1_fill_59 K59 post x3 x4 x5 x6 u) (hK59 : ∀ (b0_ : Int32) (b1_ : Int32) (b2_ : Int32) (b3_ : Int32) (b4_ : mS), K59 b0_ b1_ b2_ b3_ b4_ → (∀ (K59_ : Int32 → Int32 → Int32 → Int32 → mS → Prop) (post_ : Int32 → mS → Prop), K59_ b0_ b1_ b2_ b3_ b4_ → wj_X1_fill_59 K59_ post_ x3 x4 x5 x6 u) → goal) (hp : ∀ (b0_ : Int32) (b1_ : mS), post b0_ b1_ → (∀ (K59_ : Int32 → Int32 → Int32 → Int32 → mS → Prop) (post_ : Int32 → mS → Prop), post_ b0_ b1_ → wj_X1_fill_59 K59_ post_ x3 x4 x5 x6 u) → goal) : goal := by
  refine el_p h (fun c1 h2 => ?_) (fun c1 h2 => ?_)
  · exact d_wj_X1_fill_190 h2 (fun b0_ b1_ g_ r_ => hp _ _ g_ (fun K59_ post_ hq_ => by
            refine ⟨fun _ => ?_, fun q_ => absurd c1 q_⟩
            exact r_ _ hq_))
  · refine el_p h2 (fun c3 h4 => ?_) (fun c3 h4 => ?_)
    · exact d_wj_X1_fill_190 h4 (fun b0_ b1_ g_ r_ => hp _ _ g_ (fun K59_ post_ hq_ => by
              refine ⟨fun q_ => absurd q_ c1, fun _ => ?_⟩
              refine ⟨fun _ => ?_, fun q_ => absurd c3 q_⟩
              exact r_ _ hq_))
    · have h5 := h4 _ rfl
      refine el_n h5 (fun c6 h7 => ?_) (fun c6 h7 => ?_)
      · exact d_wj_X1_fill_190 h7 (fun b0_ b1_ g_ r_ => hp _ _ g_ (fun K59_ post_ hq_ => by
                refine ⟨fun q_ => absurd q_ c1, fun _ => ?_⟩
                refine ⟨fun q_ => absurd q_ c3, fun _ => ?_⟩
                rintro _ rfl
                refine ⟨fun _ => ?_, fun q_ => absurd q_ c6⟩
                exact r_ _ hq_))
      · refine d_wp_X5_isHeld h7 (fun w10 w11 h8 r9 => ?_)
        refine el_p h8 (fun c12 h13 => ?_) (fun c12 h13 => ?_)
        · exact d_wj_X1_fill_147 h13 (fun b0_ b1_ b2_ b3_ b4_ g_ r_ => hK59 _ _ _ _ _ g_ (fun K59_ post_ hq_ => by
                  refine ⟨fun q_ => absurd q_ c1, fun _ => ?_⟩
                  refine ⟨fun q_ => absurd q_ c3, fun _ => ?_⟩
                  rintro _ rfl
                  refine ⟨fun q_ => absurd c6 q_, fun _ => ?_⟩
                  refine r9 _ ?_
                  refine ⟨fun _ => ?_, fun q_ => absurd c12 q_⟩
                  exact r_ _ _ hq_)) (fun b0_ b1_ g_ r_ => hp _ _ g_ (fun K59_ post_ hq_ => by
                  refine ⟨fun q_ => absurd q_ c1, fun _ => ?_⟩
                  refine ⟨fun q_ => absurd q_ c3, fun _ => ?_⟩
                  rintro _ rfl
                  refine ⟨fun q_ => absurd c6 q_, fun _ => ?_⟩
                  refine r9 _ ?_
                  refine ⟨fun _ => ?_, fun q_ => absurd c12 q_⟩
                  exact r_ _ _ hq_))
        · refine d_wp_X4_isIn h13 (fun w16 w17 h14 r15 => ?_)
          refine el_n h14 (fun c18 h19 => ?_) (fun c18 h19 => ?_)
          · exact d_wj_X1_fill_147 h19 (fun b0_ b1_ b2_ b3_ b4_ g_ r_ => hK59 _ _ _ _ _ g_ (fun K59_ post_ hq_ => by
                    refine ⟨fun q_ => absurd q_ c1, fun _ => ?_⟩
                    refine ⟨fun q_ => absurd q_ c3, fun _ => ?_⟩
                    rintro _ rfl
                    refine ⟨fun q_ => absurd c6 q_, fun _ => ?_⟩
                    refine r9 _ ?_
                    refine ⟨fun q_ => absurd q_ c12, fun _ => ?_⟩
                    refine r15 _ ?_
                    refine ⟨fun _ => ?_, fun q_ => absurd q_ c18⟩
                    exact r_ _ _ hq_)) (fun b0_ b1_ g_ r_ => hp _ _ g_ (fun K59_ post_ hq_ => by
                    refine ⟨fun q_ => absurd q_ c1, fun _ => ?_⟩
                    refine ⟨fun q_ => absurd q_ c3, fun _ => ?_⟩
                    rintro _ rfl
                    refine ⟨fun q_ => absurd c6 q_, fun _ => ?_⟩
                    refine r9 _ ?_
                    refine ⟨fun q_ => absurd q_ c12, fun _ => ?_⟩
                    refine r15 _ ?_
                    refine ⟨fun _ => ?_, fun q_ => absurd q_ c18⟩
                    exact r_ _ _ hq_))
          · refine d_wp_X1_roundsFor h19 (fun w22 w23 h20 r21 => ?_)
            refine el_n h20 (fun c24 h25 => ?_) (fun c24 h25 => ?_)
            · refine d_wp_X4_enter h25 (fun w28 h26 r27 => ?_)
              exact d_wj_X1_fill_147 h26 (fun b0_ b1_ b2_ b3_ b4_ g_ r_ => hK59 _ _ _ _ _ g_ (fun K59_ post_ hq_ => by
                      refine ⟨fun q_ => absurd q_ c1, fun _ => ?_⟩
                      refine ⟨fun q_ => absurd q_ c3, fun _ => ?_⟩
                      rintro _ rfl
                      refine ⟨fun q_ => absurd c6 q_, fun _ => ?_⟩
                      refine r9 _ ?_
                      refine ⟨fun q_ => absurd q_ c12, fun _ => ?_⟩
                      refine r15 _ ?_
                      refine ⟨fun q_ => absurd c18 q_, fun _ => ?_⟩
                      refine r21 _ ?_
                      refine ⟨fun _ => ?_, fun q_ => absurd q_ c24⟩
                      refine r27 _ ?_
                      exact r_ _ _ hq_)) (fun b0_ b1_ g_ r_ => hp _ _ g_ (fun K59_ post_ hq_ => by
                      refine ⟨fun q_ => absurd q_ c1, fun _ => ?_⟩
                      refine ⟨fun q_ => absurd q_ c3, fun _ => ?_⟩
                      rintro _ rfl
                      refine ⟨fun q_ => absurd c6 q_, fun _ => ?_⟩
                      refine r9 _ ?_
                      refine ⟨fun q_ => absurd q_ c12, fun _ => ?_⟩
                      refine r15 _ ?_
                      refine ⟨fun q_ => absurd c18 q_, fun _ => ?_⟩
                      refine r21 _ ?_
                      refine ⟨fun _ => ?_, fun q_ => absurd q_ c24⟩
                      refine r27 _ ?_
                      exact r_ _ _ hq_))
            · refine d_wp_X5_after h25 (fun w31 w32 h29 r30 => ?_)
              have h33 := h29 _ rfl
              exact d_wj_X1_fill_184 h33 (fun b0_ b1_ b2_ b3_ b4_ g_ r_ => hK59 _ _ _ _ _ g_ (fun K59_ post_ hq_ => by
                      refine ⟨fun q_ => absurd q_ c1, fun _ => ?_⟩
                      refine ⟨fun q_ => absurd q_ c3, fun _ => ?_⟩
                      rintro _ rfl
                      refine ⟨fun q_ => absurd c6 q_, fun _ => ?_⟩
                      refine r9 _ ?_
                      refine ⟨fun q_ => absurd q_ c12, fun _ => ?_⟩
                      refine r15 _ ?_
                      refine ⟨fun q_ => absurd c18 q_, fun _ => ?_⟩
                      refine r21 _ ?_
                      refine ⟨fun q_ => absurd c24 q_, fun _ => ?_⟩
                      refine r30 _ ?_
                      rintro _ rfl
                      exact r_ _ _ hq_)) (fun b0_ b1_ g_ r_ => hp _ _ g_ (fun K59_ post_ hq_ => by
                      refine ⟨fun q_ => absurd q_ c1, fun _ => ?_⟩
                      refine ⟨fun q_ => absurd q_ c3, fun _ => ?_⟩
                      rintro _ rfl
                      refine ⟨fun q_ => absurd c6 q_, fun _ => ?_⟩
                      refine r9 _ ?_
                      refine ⟨fun q_ => absurd q_ c12, fun _ => ?_⟩
                      refine r15 _ ?_
                      refine ⟨fun q_ => absurd c18 q_, fun _ => ?_⟩
                      refine r21 _ ?_
                      refine ⟨fun q_ => absurd c24 q_, fun _ => ?_⟩
                      refine r30 _ ?_
                      rintro _ rfl
                      exact r_ _ _ hq_))
theorem dl_wj_X1_fill_59 {post : Int32 → mS → Prop} {goal : Prop} : ∀ (n_ : Nat) (x3 : Int32) (x4 : Int32) (x5 : Int32) (x6 : Int32) (u : mS), mL5 (fun K_ => wj_X1_fill_59 K_ post) n_ x3 x4 x5 x6 u → (∀ (b0_ : Int32) (b1_ : mS), post b0_ b1_ → (∀ (post_ : Int32 → mS → Prop), post_ b0_ b1_ → ∃ m_, mL5 (fun K_ => wj_X1_fill_59 K_ post_) m_ x3 x4 x5 x6 u) → goal) → goal
  | 0, _, _, _, _, _, h, _ => h.elim
  | n_ + 1, x3, x4, x5, x6, u, h, hp => d_wj_X1_fill_59 h (fun b0_ b1_ b2_ b3_ b4_ g_ r_ => dl_wj_X1_fill_59 n_ b0_ b1_ b2_ b3_ b4_ g_ (fun b0_ b1_ g2_ r2_ => hp b0_ b1_ g2_ (fun post_ hq_ => (r2_ post_ hq_).elim (fun m_ hm_ => ⟨m_ + 1, r_ _ _ hm_⟩)))) (fun b0_ b1_ g_ r_ => hp b0_ b1_ g_ (fun post_ hq_ => ⟨1, r_ _ _ hq_⟩))
theorem d_wp_X1_fill {x1 : Int32} {x2 : Int32} {u : mS} {post : Int32 → mS → Prop} {goal : Prop} (h : wp_X1_fill x1 x2 u post) (hp : ∀ (b0_ : Int32) (b1_ : mS), post b0_ b1_ → (∀ (post_ : Int32 → mS → Prop), post_ b0_ b1_ → wp_X1_fill x1 x2 u post_) → goal) : goal := by
  have h1 := h _ rfl
  have h2 := h1 _ rfl
  have h3 := h2 _ rfl
  have h4 := h3 _ rfl
  refine d_wp_X4_clear h4 (fun w7 h5 r6 => ?_)
  refine d_wp_X5_startTree h5 (fun w10 w11 h8 r9 => ?_)
  have h12 := h8 _ rfl
  refine d_wp_X5_after h12 (fun w15 w16 h13 r14 => ?_)
  refine d_wp_X5_after h13 (fun w19 w20 h17 r18 => ?_)
  obtain ⟨n21, h22⟩ := h17
  exact dl_wj_X1_fill_59 n21 _ _ _ _ _ h22 (fun b0_ b1_ g_ r_ => hp _ _ g_ (fun post_ hq_ => by
        rintro _ rfl
        rintro _ rfl
        rintro _ rfl
        rintro _ rfl
        refine r6 _ ?_
        refine r9 _ ?_
        rintro _ rfl
        refine r14 _ ?_
        refine r18 _ ?_
        exact r_ _ hq_))
