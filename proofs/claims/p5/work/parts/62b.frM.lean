/-- what the reference's expand leaves as it is: the typed row, the own names and how many -/
def RM (u v : mS) : Prop := v.2 0 = u.2 0 ∧ v.2 5 = u.2 5 ∧ v.1 3 = u.1 3
theorem RM_rf (u : mS) : RM u u := ⟨rfl, rfl, rfl⟩
theorem RM_tr {u v w : mS} (h : RM u v) (g : RM v w) : RM u w := ⟨g.1.trans h.1, g.2.1.trans h.2.1, g.2.2.trans h.2.2⟩
theorem RM_set {u w : mS} {k : Nat} {v : Int32} (h : RM u w) (hk : k ≠ 3) : RM u (mSet w k v) := ⟨h.1, h.2.1, (mSet_other (Ne.symm hk)).trans h.2.2⟩
theorem RM_put {u w : mS} {k i : Nat} {v : Int32} (h : RM u w) (hk : k ≠ 0 ∧ k ≠ 5) : RM u (mPut w k i v) := ⟨(mPut_other (Ne.symm hk.1)).trans h.1, (mPut_other (Ne.symm hk.2)).trans h.2.1, h.2.2⟩
theorem f_wp_X9_look {x1 : Int32} {u : mS} {post post_ : Int32 → mS → Prop} (hp : ∀ (b0_ : Int32) (b1_ : mS), RM u b1_ → post b0_ b1_ → post_ b0_ b1_) (h : wp_X9_look x1 u post) : wp_X9_look x1 u post_ := by
  intro y1 ee1
  have hh2 := h y1 ee1
  refine ⟨fun cc3 => ?_, fun cc4 => ?_⟩
  · have hh5 := hh2.1 cc3
    exact hp _ _ (RM_rf u) hh5
  · have hh6 := hh2.2 cc4
    refine ⟨hh6.1, ?_⟩
    have hh7 := hh6.2
    intro y3 ee8
    have hh9 := hh7 y3 ee8
    exact hp _ _ (RM_rf u) hh9
theorem f_wp_X9_isLetter {x0 : Int32} {u : mS} {post post_ : Int32 → mS → Prop} (hp : ∀ (b0_ : Int32) (b1_ : mS), RM u b1_ → post b0_ b1_ → post_ b0_ b1_) (h : wp_X9_isLetter x0 u post) : wp_X9_isLetter x0 u post_ := by
  refine ⟨fun cc1 => ?_, fun cc2 => ?_⟩
  · have hh3 := h.1 cc1
    exact hp _ _ (RM_rf u) hh3
  · have hh4 := h.2 cc2
    refine ⟨fun cc5 => ?_, fun cc6 => ?_⟩
    · have hh7 := hh4.1 cc5
      exact hp _ _ (RM_rf u) hh7
    · have hh8 := hh4.2 cc6
      exact hp _ _ (RM_rf u) hh8
theorem f_wp_X9_isDigit {x0 : Int32} {u : mS} {post post_ : Int32 → mS → Prop} (hp : ∀ (b0_ : Int32) (b1_ : mS), RM u b1_ → post b0_ b1_ → post_ b0_ b1_) (h : wp_X9_isDigit x0 u post) : wp_X9_isDigit x0 u post_ := by
  refine ⟨fun cc1 => ?_, fun cc2 => ?_⟩
  · have hh3 := h.1 cc1
    exact hp _ _ (RM_rf u) hh3
  · have hh4 := h.2 cc2
    refine ⟨fun cc5 => ?_, fun cc6 => ?_⟩
    · have hh7 := hh4.1 cc5
      exact hp _ _ (RM_rf u) hh7
    · have hh8 := hh4.2 cc6
      exact hp _ _ (RM_rf u) hh8
theorem f_wj_X9_run_54 {K11 K11_ : Int32 → Int32 → Int32 → mS → Prop} {post post_ : Int32 → mS → Prop} {x1 : Int32} {x2 : Int32} {x3 : Int32} {u : mS} (hK11 : ∀ (b0_ : Int32) (b1_ : Int32) (b2_ : Int32) (b3_ : mS), RM u b3_ → K11 b0_ b1_ b2_ b3_ → K11_ b0_ b1_ b2_ b3_) (hp : ∀ (b0_ : Int32) (b1_ : mS), RM u b1_ → post b0_ b1_ → post_ b0_ b1_) (h : wj_X9_run_54 K11 post x1 x2 x3 u) : wj_X9_run_54 K11_ post_ x1 x2 x3 u := by
  intro y21 ee1
  have hh2 := h y21 ee1
  exact hK11 _ _ _ _ (RM_rf u) hh2
theorem f_wj_X9_run_60 {post post_ : Int32 → mS → Prop} {x2 : Int32} {u : mS} (hp : ∀ (b0_ : Int32) (b1_ : mS), RM u b1_ → post b0_ b1_ → post_ b0_ b1_) (h : wj_X9_run_60 post x2 u) : wj_X9_run_60 post_ x2 u := by
  exact hp _ _ (RM_rf u) h
theorem f_wj_X9_run_11 {K11 K11_ : Int32 → Int32 → Int32 → mS → Prop} {post post_ : Int32 → mS → Prop} {x1 : Int32} {x2 : Int32} {x3 : Int32} {u : mS} (hK11 : ∀ (b0_ : Int32) (b1_ : Int32) (b2_ : Int32) (b3_ : mS), RM u b3_ → K11 b0_ b1_ b2_ b3_ → K11_ b0_ b1_ b2_ b3_) (hp : ∀ (b0_ : Int32) (b1_ : mS), RM u b1_ → post b0_ b1_ → post_ b0_ b1_) (h : wj_X9_run_11 K11 post x1 x2 x3 u) : wj_X9_run_11 K11_ post_ x1 x2 x3 u := by
  intro y5 ee1
  have hh2 := h y5 ee1
  intro y6 ee3
  have hh4 := hh2 y6 ee3
  refine ⟨fun cc5 => ?_, fun cc6 => ?_⟩
  · have hh7 := hh4.1 cc5
    exact f_wj_X9_run_60 (fun _ v_ rv_ h_ => hp _ v_ (RM_tr (RM_rf u) rv_) h_) hh7
  · have hh8 := hh4.2 cc6
    refine ⟨fun cc9 => ?_, fun cc10 => ?_⟩
    · have hh11 := hh8.1 cc9
      intro y9 ee12
      have hh13 := hh11 y9 ee12
      refine f_wp_X9_look (fun r10 u11 rr15 hh14 => ?_) hh13
      have rr16 : RM u u11 := RM_tr (RM_rf u) rr15
      refine f_wp_X9_isDigit (fun r12 u13 rr18 hh17 => ?_) hh14
      have rr19 : RM u u13 := RM_tr rr16 rr18
      refine ⟨fun cc20 => ?_, fun cc21 => ?_⟩
      · have hh22 := hh17.1 cc20
        exact f_wj_X9_run_60 (fun _ v_ rv_ h_ => hp _ v_ (RM_tr rr19 rv_) h_) hh22
      · have hh23 := hh17.2 cc21
        exact f_wj_X9_run_54 (fun _ _ _ v_ rv_ h_ => hK11 _ _ _ v_ (RM_tr rr19 rv_) h_) (fun _ v_ rv_ h_ => hp _ v_ (RM_tr rr19 rv_) h_) hh23
    · have hh24 := hh8.2 cc10
      intro y15 ee25
      have hh26 := hh24 y15 ee25
      refine f_wp_X9_look (fun r16 u17 rr28 hh27 => ?_) hh26
      have rr29 : RM u u17 := RM_tr (RM_rf u) rr28
      refine f_wp_X9_isLetter (fun r18 u19 rr31 hh30 => ?_) hh27
      have rr32 : RM u u19 := RM_tr rr29 rr31
      refine ⟨fun cc33 => ?_, fun cc34 => ?_⟩
      · have hh35 := hh30.1 cc33
        exact f_wj_X9_run_60 (fun _ v_ rv_ h_ => hp _ v_ (RM_tr rr32 rv_) h_) hh35
      · have hh36 := hh30.2 cc34
        exact f_wj_X9_run_54 (fun _ _ _ v_ rv_ h_ => hK11 _ _ _ v_ (RM_tr rr32 rv_) h_) (fun _ v_ rv_ h_ => hp _ v_ (RM_tr rr32 rv_) h_) hh36
theorem f_wp_X9_run {x1 : Int32} {u : mS} {post post_ : Int32 → mS → Prop} (hp : ∀ (b0_ : Int32) (b1_ : mS), RM u b1_ → post b0_ b1_ → post_ b0_ b1_) (h : wp_X9_run x1 u post) : wp_X9_run x1 u post_ := by
  refine f_wp_X9_look (fun r1 u2 rr2 hh1 => ?_) h
  have rr3 : RM u u2 := RM_tr (RM_rf u) rr2
  refine f_wp_X9_isLetter (fun r3 u4 rr5 hh4 => ?_) hh1
  have rr6 : RM u u4 := RM_tr rr3 rr5
  obtain ⟨nn7, hh8⟩ := hh4
  refine ⟨nn7, mL4_mo RM RM_rf ?_ nn7 _ _ _ _ (RM_rf _) hh8⟩
  intro K_ K2_ z_ hz_ hK_ _ _ _ h_
  exact f_wj_X9_run_11 (fun _ _ _ v_ rv_ h_ => hK_ _ _ _ v_ (RM_tr hz_ rv_) h_) (fun _ v_ rv_ h_ => hp _ v_ (RM_tr rr6 (RM_tr hz_ rv_)) h_) h_
theorem f_wj_X9_token_63 {post post_ : Int32 → mS → Prop} {x1 : Int32} {u : mS} (hp : ∀ (b0_ : Int32) (b1_ : mS), RM u b1_ → post b0_ b1_ → post_ b0_ b1_) (h : wj_X9_token_63 post x1 u) : wj_X9_token_63 post_ x1 u := by
  refine f_wp_X9_run (fun r33 u34 rr2 hh1 => ?_) h
  have rr3 : RM u u34 := RM_tr (RM_rf u) rr2
  exact hp _ _ rr3 hh1
theorem f_wj_X9_token_139 {post post_ : Int32 → mS → Prop} {u : mS} (hp : ∀ (b0_ : Int32) (b1_ : mS), RM u b1_ → post b0_ b1_ → post_ b0_ b1_) (h : wj_X9_token_139 post u) : wj_X9_token_139 post_ u := by
  exact hp _ _ (RM_rf u) h
theorem f_wp_X9_token {x1 : Int32} {u : mS} {post post_ : Int32 → mS → Prop} (hp : ∀ (b0_ : Int32) (b1_ : mS), RM u b1_ → post b0_ b1_ → post_ b0_ b1_) (h : wp_X9_token x1 u post) : wp_X9_token x1 u post_ := by
  refine f_wp_X9_look (fun r1 u2 rr2 hh1 => ?_) h
  have rr3 : RM u u2 := RM_tr (RM_rf u) rr2
  refine f_wp_X9_isLetter (fun r3 u4 rr5 hh4 => ?_) hh1
  have rr6 : RM u u4 := RM_tr rr3 rr5
  refine ⟨fun cc7 => ?_, fun cc8 => ?_⟩
  · have hh9 := hh4.1 cc7
    refine f_wp_X9_isDigit (fun r6 u7 rr11 hh10 => ?_) hh9
    have rr12 : RM u u7 := RM_tr rr6 rr11
    refine ⟨fun cc13 => ?_, fun cc14 => ?_⟩
    · have hh15 := hh10.1 cc13
      refine ⟨fun cc16 => ?_, fun cc17 => ?_⟩
      · have hh18 := hh15.1 cc16
        refine ⟨fun cc19 => ?_, fun cc20 => ?_⟩
        · have hh21 := hh18.1 cc19
          exact f_wj_X9_token_139 (fun _ v_ rv_ h_ => hp _ v_ (RM_tr rr12 rv_) h_) hh21
        · have hh22 := hh18.2 cc20
          refine ⟨fun cc23 => ?_, fun cc24 => ?_⟩
          · have hh25 := hh22.1 cc23
            exact f_wj_X9_token_139 (fun _ v_ rv_ h_ => hp _ v_ (RM_tr rr12 rv_) h_) hh25
          · have hh26 := hh22.2 cc24
            refine ⟨fun cc27 => ?_, fun cc28 => ?_⟩
            · have hh29 := hh26.1 cc27
              exact f_wj_X9_token_139 (fun _ v_ rv_ h_ => hp _ v_ (RM_tr rr12 rv_) h_) hh29
            · have hh30 := hh26.2 cc28
              refine ⟨fun cc31 => ?_, fun cc32 => ?_⟩
              · have hh33 := hh30.1 cc31
                exact f_wj_X9_token_139 (fun _ v_ rv_ h_ => hp _ v_ (RM_tr rr12 rv_) h_) hh33
              · have hh34 := hh30.2 cc32
                refine ⟨fun cc35 => ?_, fun cc36 => ?_⟩
                · have hh37 := hh34.1 cc35
                  exact f_wj_X9_token_139 (fun _ v_ rv_ h_ => hp _ v_ (RM_tr rr12 rv_) h_) hh37
                · have hh38 := hh34.2 cc36
                  refine ⟨fun cc39 => ?_, fun cc40 => ?_⟩
                  · have hh41 := hh38.1 cc39
                    exact f_wj_X9_token_139 (fun _ v_ rv_ h_ => hp _ v_ (RM_tr rr12 rv_) h_) hh41
                  · have hh42 := hh38.2 cc40
                    refine ⟨fun cc43 => ?_, fun cc44 => ?_⟩
                    · have hh45 := hh42.1 cc43
                      exact hp _ _ rr12 hh45
                    · have hh46 := hh42.2 cc44
                      exact f_wj_X9_token_139 (fun _ v_ rv_ h_ => hp _ v_ (RM_tr rr12 rv_) h_) hh46
      · have hh47 := hh15.2 cc17
        intro y17 ee48
        have hh49 := hh47 y17 ee48
        refine f_wp_X9_look (fun r18 u19 rr51 hh50 => ?_) hh49
        have rr52 : RM u u19 := RM_tr rr12 rr51
        refine ⟨fun cc53 => ?_, fun cc54 => ?_⟩
        · have hh55 := hh50.1 cc53
          exact hp _ _ rr52 hh55
        · have hh56 := hh50.2 cc54
          exact hp _ _ rr52 hh56
    · have hh57 := hh10.2 cc14
      refine f_wp_X9_run (fun r21 u22 rr59 hh58 => ?_) hh57
      have rr60 : RM u u22 := RM_tr rr12 rr59
      refine ⟨fun cc61 => ?_, fun cc62 => ?_⟩
      · have hh63 := hh58.1 cc61
        exact f_wj_X9_token_63 (fun _ v_ rv_ h_ => hp _ v_ (RM_tr rr60 rv_) h_) hh63
      · have hh64 := hh58.2 cc62
        refine f_wp_X9_run (fun r24 u25 rr66 hh65 => ?_) hh64
        have rr67 : RM u u25 := RM_tr rr60 rr66
        refine ⟨fun cc68 => ?_, fun cc69 => ?_⟩
        · have hh70 := hh65.1 cc68
          exact hp _ _ rr67 hh70
        · have hh71 := hh65.2 cc69
          refine ⟨fun cc72 => ?_, fun cc73 => ?_⟩
          · have hh74 := hh71.1 cc72
            exact hp _ _ rr67 hh74
          · have hh75 := hh71.2 cc73
            exact f_wj_X9_token_63 (fun _ v_ rv_ h_ => hp _ v_ (RM_tr rr67 rv_) h_) hh75
  · have hh76 := hh4.2 cc8
    refine f_wp_X9_run (fun r28 u29 rr78 hh77 => ?_) hh76
    have rr79 : RM u u29 := RM_tr rr6 rr78
    refine ⟨fun cc80 => ?_, fun cc81 => ?_⟩
    · have hh82 := hh77.1 cc80
      exact hp _ _ rr79 hh82
    · have hh83 := hh77.2 cc81
      refine f_wp_X9_run (fun r31 u32 rr85 hh84 => ?_) hh83
      have rr86 : RM u u32 := RM_tr rr79 rr85
      exact hp _ _ rr86 hh84
theorem f_wj_X9_code_110 {K48 K48_ : Int32 → Int32 → Int32 → Int32 → Int32 → mS → Prop} {post post_ : Int32 → mS → Prop} {x1 : Int32} {x2 : Int32} {x3 : Int32} {x5 : Int32} {z0 : Int32} {u : mS} (hK48 : ∀ (b0_ : Int32) (b1_ : Int32) (b2_ : Int32) (b3_ : Int32) (b4_ : Int32) (b5_ : mS), RM u b5_ → K48 b0_ b1_ b2_ b3_ b4_ b5_ → K48_ b0_ b1_ b2_ b3_ b4_ b5_) (hp : ∀ (b0_ : Int32) (b1_ : mS), RM u b1_ → post b0_ b1_ → post_ b0_ b1_) (h : wj_X9_code_110 K48 post x1 x2 x3 x5 z0 u) : wj_X9_code_110 K48_ post_ x1 x2 x3 x5 z0 u := by
  intro y29 ee1
  have hh2 := h y29 ee1
  exact hK48 _ _ _ _ _ _ (RM_rf u) hh2
theorem f_wj_X9_code_132 {post post_ : Int32 → mS → Prop} {x4 : Int32} {z0 : Int32} {z1 : Int32} {u : mS} (hp : ∀ (b0_ : Int32) (b1_ : mS), RM u b1_ → post b0_ b1_ → post_ b0_ b1_) (h : wj_X9_code_132 post x4 z0 z1 u) : wj_X9_code_132 post_ x4 z0 z1 u := by
  intro y30 ee1
  have hh2 := h y30 ee1
  intro y31 ee3
  have hh4 := hh2 y31 ee3
  exact hp _ _ (RM_rf u) hh4
theorem f_wj_X9_code_48 {K48 K48_ : Int32 → Int32 → Int32 → Int32 → Int32 → mS → Prop} {post post_ : Int32 → mS → Prop} {x1 : Int32} {x2 : Int32} {x3 : Int32} {x4 : Int32} {x5 : Int32} {u : mS} (hK48 : ∀ (b0_ : Int32) (b1_ : Int32) (b2_ : Int32) (b3_ : Int32) (b4_ : Int32) (b5_ : mS), RM u b5_ → K48 b0_ b1_ b2_ b3_ b4_ b5_ → K48_ b0_ b1_ b2_ b3_ b4_ b5_) (hp : ∀ (b0_ : Int32) (b1_ : mS), RM u b1_ → post b0_ b1_ → post_ b0_ b1_) (h : wj_X9_code_48 K48 post x1 x2 x3 x4 x5 u) : wj_X9_code_48 K48_ post_ x1 x2 x3 x4 x5 u := by
  intro y7 ee1
  have hh2 := h y7 ee1
  refine ⟨fun cc3 => ?_, fun cc4 => ?_⟩
  · have hh5 := hh2.1 cc3
    refine f_wp_X9_isDigit (fun r9 u10 rr7 hh6 => ?_) hh5
    have rr8 : RM u u10 := RM_tr (RM_rf u) rr7
    refine ⟨fun cc9 => ?_, fun cc10 => ?_⟩
    · have hh11 := hh6.1 cc9
      exact f_wj_X9_code_132 (fun _ v_ rv_ h_ => hp _ v_ (RM_tr rr8 rv_) h_) hh11
    · have hh12 := hh6.2 cc10
      exact f_wj_X9_code_132 (fun _ v_ rv_ h_ => hp _ v_ (RM_tr rr8 rv_) h_) hh12
  · have hh13 := hh2.2 cc4
    refine f_wp_X9_isDigit (fun r12 u13 rr15 hh14 => ?_) hh13
    have rr16 : RM u u13 := RM_tr (RM_rf u) rr15
    refine ⟨fun cc17 => ?_, fun cc18 => ?_⟩
    · have hh19 := hh14.1 cc17
      refine f_wp_X9_isLetter (fun r15 u16 rr21 hh20 => ?_) hh19
      have rr22 : RM u u16 := RM_tr rr16 rr21
      refine ⟨fun cc23 => ?_, fun cc24 => ?_⟩
      · have hh25 := hh20.1 cc23
        intro y18 ee26
        have hh27 := hh25 y18 ee26
        exact f_wj_X9_code_110 (fun _ _ _ _ _ v_ rv_ h_ => hK48 _ _ _ _ _ v_ (RM_tr rr22 rv_) h_) (fun _ v_ rv_ h_ => hp _ v_ (RM_tr rr22 rv_) h_) hh27
      · have hh28 := hh20.2 cc24
        intro y19 ee29
        have hh30 := hh28 y19 ee29
        refine f_wp_X9_look (fun r20 u21 rr32 hh31 => ?_) hh30
        have rr33 : RM u u21 := RM_tr rr22 rr32
        intro y22 ee34
        have hh35 := hh31 y22 ee34
        intro y23 ee36
        have hh37 := hh35 y23 ee36
        exact f_wj_X9_code_110 (fun _ _ _ _ _ v_ rv_ h_ => hK48 _ _ _ _ _ v_ (RM_tr rr33 rv_) h_) (fun _ v_ rv_ h_ => hp _ v_ (RM_tr rr33 rv_) h_) hh37
    · have hh38 := hh14.2 cc18
      intro y24 ee39
      have hh40 := hh38 y24 ee39
      refine f_wp_X9_look (fun r25 u26 rr42 hh41 => ?_) hh40
      have rr43 : RM u u26 := RM_tr rr16 rr42
      intro y27 ee44
      have hh45 := hh41 y27 ee44
      intro y28 ee46
      have hh47 := hh45 y28 ee46
      exact f_wj_X9_code_110 (fun _ _ _ _ _ v_ rv_ h_ => hK48 _ _ _ _ _ v_ (RM_tr rr43 rv_) h_) (fun _ v_ rv_ h_ => hp _ v_ (RM_tr rr43 rv_) h_) hh47
theorem f_wp_X9_code {x1 : Int32} {x2 : Int32} {u : mS} {post post_ : Int32 → mS → Prop} (hp : ∀ (b0_ : Int32) (b1_ : mS), RM u b1_ → post b0_ b1_ → post_ b0_ b1_) (h : wp_X9_code x1 x2 u post) : wp_X9_code x1 x2 u post_ := by
  refine f_wp_X9_look (fun r1 u2 rr2 hh1 => ?_) h
  have rr3 : RM u u2 := RM_tr (RM_rf u) rr2
  refine ⟨fun cc4 => ?_, fun cc5 => ?_⟩
  · have hh6 := hh1.1 cc4
    refine ⟨fun cc7 => ?_, fun cc8 => ?_⟩
    · have hh9 := hh6.1 cc7
      refine ⟨fun cc10 => ?_, fun cc11 => ?_⟩
      · have hh12 := hh9.1 cc10
        refine ⟨fun cc13 => ?_, fun cc14 => ?_⟩
        · have hh15 := hh12.1 cc13
          obtain ⟨nn16, hh17⟩ := hh15
          refine ⟨nn16, mL6_mo RM RM_rf ?_ nn16 _ _ _ _ _ _ (RM_rf _) hh17⟩
          intro K_ K2_ z_ hz_ hK_ _ _ _ _ _ h_
          exact f_wj_X9_code_48 (fun _ _ _ _ _ v_ rv_ h_ => hK_ _ _ _ _ _ v_ (RM_tr hz_ rv_) h_) (fun _ v_ rv_ h_ => hp _ v_ (RM_tr rr3 (RM_tr hz_ rv_)) h_) h_
        · have hh18 := hh12.2 cc14
          exact hp _ _ rr3 hh18
      · have hh19 := hh9.2 cc11
        exact hp _ _ rr3 hh19
    · have hh20 := hh6.2 cc8
      exact hp _ _ rr3 hh20
  · have hh21 := hh1.2 cc5
    exact hp _ _ rr3 hh21
theorem f_wj_X9_fits_23 {post post_ : Int32 → mS → Prop} {x1 : Int32} {u : mS} (hp : ∀ (b0_ : Int32) (b1_ : mS), RM u b1_ → post b0_ b1_ → post_ b0_ b1_) (h : wj_X9_fits_23 post x1 u) : wj_X9_fits_23 post_ x1 u := by
  refine ⟨fun cc1 => ?_, fun cc2 => ?_⟩
  · have hh3 := h.1 cc1
    exact hp _ _ (RM_rf u) hh3
  · have hh4 := h.2 cc2
    exact hp _ _ (RM_rf u) hh4
theorem f_wj_X9_fits_85 {post post_ : Int32 → mS → Prop} {u : mS} (hp : ∀ (b0_ : Int32) (b1_ : mS), RM u b1_ → post b0_ b1_ → post_ b0_ b1_) (h : wj_X9_fits_85 post u) : wj_X9_fits_85 post_ u := by
  exact hp _ _ (RM_rf u) h
theorem f_wj_X9_fits_9 {post post_ : Int32 → mS → Prop} {x0 : Int32} {x1 : Int32} {x2 : Int32} {z0 : Int32} {u : mS} (hp : ∀ (b0_ : Int32) (b1_ : mS), RM u b1_ → post b0_ b1_ → post_ b0_ b1_) (h : wj_X9_fits_9 post x0 x1 x2 z0 u) : wj_X9_fits_9 post_ x0 x1 x2 z0 u := by
  refine ⟨fun cc1 => ?_, fun cc2 => ?_⟩
  · have hh3 := h.1 cc1
    refine ⟨fun cc4 => ?_, fun cc5 => ?_⟩
    · have hh6 := hh3.1 cc4
      refine ⟨fun cc7 => ?_, fun cc8 => ?_⟩
      · have hh9 := hh6.1 cc7
        refine ⟨fun cc10 => ?_, fun cc11 => ?_⟩
        · have hh12 := hh9.1 cc10
          exact f_wj_X9_fits_85 (fun _ v_ rv_ h_ => hp _ v_ (RM_tr (RM_rf u) rv_) h_) hh12
        · have hh13 := hh9.2 cc11
          refine ⟨fun cc14 => ?_, fun cc15 => ?_⟩
          · have hh16 := hh13.1 cc14
            exact hp _ _ (RM_rf u) hh16
          · have hh17 := hh13.2 cc15
            exact f_wj_X9_fits_85 (fun _ v_ rv_ h_ => hp _ v_ (RM_tr (RM_rf u) rv_) h_) hh17
      · have hh18 := hh6.2 cc8
        refine ⟨fun cc19 => ?_, fun cc20 => ?_⟩
        · have hh21 := hh18.1 cc19
          exact hp _ _ (RM_rf u) hh21
        · have hh22 := hh18.2 cc20
          refine ⟨fun cc23 => ?_, fun cc24 => ?_⟩
          · have hh25 := hh22.1 cc23
            exact hp _ _ (RM_rf u) hh25
          · have hh26 := hh22.2 cc24
            refine ⟨fun cc27 => ?_, fun cc28 => ?_⟩
            · have hh29 := hh26.1 cc27
              exact hp _ _ (RM_rf u) hh29
            · have hh30 := hh26.2 cc28
              exact hp _ _ (RM_rf u) hh30
    · have hh31 := hh3.2 cc5
      refine ⟨fun cc32 => ?_, fun cc33 => ?_⟩
      · have hh34 := hh31.1 cc32
        exact hp _ _ (RM_rf u) hh34
      · have hh35 := hh31.2 cc33
        exact hp _ _ (RM_rf u) hh35
  · have hh36 := h.2 cc2
    refine ⟨fun cc37 => ?_, fun cc38 => ?_⟩
    · have hh39 := hh36.1 cc37
      exact f_wj_X9_fits_23 (fun _ v_ rv_ h_ => hp _ v_ (RM_tr (RM_rf u) rv_) h_) hh39
    · have hh40 := hh36.2 cc38
      refine ⟨fun cc41 => ?_, fun cc42 => ?_⟩
      · have hh43 := hh40.1 cc41
        exact hp _ _ (RM_rf u) hh43
      · have hh44 := hh40.2 cc42
        exact f_wj_X9_fits_23 (fun _ v_ rv_ h_ => hp _ v_ (RM_tr (RM_rf u) rv_) h_) hh44
theorem f_wp_X9_fits {x0 : Int32} {x1 : Int32} {x2 : Int32} {u : mS} {post post_ : Int32 → mS → Prop} (hp : ∀ (b0_ : Int32) (b1_ : mS), RM u b1_ → post b0_ b1_ → post_ b0_ b1_) (h : wp_X9_fits x0 x1 x2 u post) : wp_X9_fits x0 x1 x2 u post_ := by
  refine ⟨fun cc1 => ?_, fun cc2 => ?_⟩
  · have hh3 := h.1 cc1
    exact f_wj_X9_fits_9 (fun _ v_ rv_ h_ => hp _ v_ (RM_tr (RM_rf u) rv_) h_) hh3
  · have hh4 := h.2 cc2
    exact f_wj_X9_fits_9 (fun _ v_ rv_ h_ => hp _ v_ (RM_tr (RM_rf u) rv_) h_) hh4
theorem f_wj_X9_read_84 {post post_ : Int32 → mS → Prop} {x4 : Int32} {u : mS} (hp : ∀ (b0_ : Int32) (b1_ : mS), RM u b1_ → post b0_ b1_ → post_ b0_ b1_) (h : wj_X9_read_84 post x4 u) : wj_X9_read_84 post_ x4 u := by
  exact hp _ _ (RM_rf u) h
theorem f_wj_X9_read_123 {K9 K9_ : Int32 → Int32 → Int32 → Int32 → mS → Prop} {post post_ : Int32 → mS → Prop} {x1 : Int32} {x4 : Int32} {x5 : Int32} {x7 : Int32} {z0 : Int32} {u : mS} (hK9 : ∀ (b0_ : Int32) (b1_ : Int32) (b2_ : Int32) (b3_ : Int32) (b4_ : mS), RM u b4_ → K9 b0_ b1_ b2_ b3_ b4_ → K9_ b0_ b1_ b2_ b3_ b4_) (hp : ∀ (b0_ : Int32) (b1_ : mS), RM u b1_ → post b0_ b1_ → post_ b0_ b1_) (h : wj_X9_read_123 K9 post x1 x4 x5 x7 z0 u) : wj_X9_read_123 K9_ post_ x1 x4 x5 x7 z0 u := by
  intro y28 ee1
  have hh2 := h y28 ee1
  exact hK9 _ _ _ _ _ (RM_rf u) hh2
theorem f_wj_X9_read_60 {K9 K9_ : Int32 → Int32 → Int32 → Int32 → mS → Prop} {post post_ : Int32 → mS → Prop} {x1 : Int32} {x2 : Int32} {x3 : Int32} {x4 : Int32} {x5 : Int32} {z0 : Int32} {u : mS} (hK9 : ∀ (b0_ : Int32) (b1_ : Int32) (b2_ : Int32) (b3_ : Int32) (b4_ : mS), RM u b4_ → K9 b0_ b1_ b2_ b3_ b4_ → K9_ b0_ b1_ b2_ b3_ b4_) (hp : ∀ (b0_ : Int32) (b1_ : mS), RM u b1_ → post b0_ b1_ → post_ b0_ b1_) (h : wj_X9_read_60 K9 post x1 x2 x3 x4 x5 z0 u) : wj_X9_read_60 K9_ post_ x1 x2 x3 x4 x5 z0 u := by
  intro y17 ee1
  have hh2 := h y17 ee1
  refine ⟨fun cc3 => ?_, fun cc4 => ?_⟩
  · have hh5 := hh2.1 cc3
    exact f_wj_X9_read_84 (fun _ v_ rv_ h_ => hp _ v_ (RM_tr (RM_rf u) rv_) h_) hh5
  · have hh6 := hh2.2 cc4
    refine f_wp_X9_fits (fun r19 u20 rr8 hh7 => ?_) hh6
    have rr9 : RM u u20 := RM_tr (RM_rf u) rr8
    refine ⟨fun cc10 => ?_, fun cc11 => ?_⟩
    · have hh12 := hh7.1 cc10
      refine ⟨hh12.1, ?_⟩
      have hh13 := hh12.2
      intro u22 ee14
      have hh15 := hh13 u22 ee14
      have rr16 : RM u u22 := by rw [ee14]; exact RM_put rr9 (by decide)
      intro y23 ee17
      have hh18 := hh15 y23 ee17
      refine ⟨fun cc19 => ?_, fun cc20 => ?_⟩
      · have hh21 := hh18.1 cc19
        refine ⟨fun cc22 => ?_, fun cc23 => ?_⟩
        · have hh24 := hh21.1 cc22
          exact f_wj_X9_read_123 (fun _ _ _ _ v_ rv_ h_ => hK9 _ _ _ _ v_ (RM_tr rr16 rv_) h_) (fun _ v_ rv_ h_ => hp _ v_ (RM_tr rr16 rv_) h_) hh24
        · have hh25 := hh21.2 cc23
          intro y26 ee26
          have hh27 := hh25 y26 ee26
          exact f_wj_X9_read_123 (fun _ _ _ _ v_ rv_ h_ => hK9 _ _ _ _ v_ (RM_tr rr16 rv_) h_) (fun _ v_ rv_ h_ => hp _ v_ (RM_tr rr16 rv_) h_) hh27
      · have hh28 := hh18.2 cc20
        intro y27 ee29
        have hh30 := hh28 y27 ee29
        exact f_wj_X9_read_123 (fun _ _ _ _ v_ rv_ h_ => hK9 _ _ _ _ v_ (RM_tr rr16 rv_) h_) (fun _ v_ rv_ h_ => hp _ v_ (RM_tr rr16 rv_) h_) hh30
    · have hh31 := hh7.2 cc11
      exact f_wj_X9_read_84 (fun _ v_ rv_ h_ => hp _ v_ (RM_tr rr9 rv_) h_) hh31
theorem f_wj_X9_read_145 {post post_ : Int32 → mS → Prop} {u : mS} (hp : ∀ (b0_ : Int32) (b1_ : mS), RM u b1_ → post b0_ b1_ → post_ b0_ b1_) (h : wj_X9_read_145 post u) : wj_X9_read_145 post_ u := by
  intro y38 ee1
  have hh2 := h y38 ee1
  exact hp _ _ (RM_rf u) hh2
theorem f_wj_X9_read_164 {K164 K164_ : Int32 → mS → Prop} {post post_ : Int32 → mS → Prop} {x5 : Int32} {u : mS} (hK164 : ∀ (b0_ : Int32) (b1_ : mS), RM u b1_ → K164 b0_ b1_ → K164_ b0_ b1_) (hp : ∀ (b0_ : Int32) (b1_ : mS), RM u b1_ → post b0_ b1_ → post_ b0_ b1_) (h : wj_X9_read_164 K164 post x5 u) : wj_X9_read_164 K164_ post_ x5 u := by
  refine ⟨fun cc1 => ?_, fun cc2 => ?_⟩
  · have hh3 := h.1 cc1
    exact hp _ _ (RM_rf u) hh3
  · have hh4 := h.2 cc2
    intro y30 ee5
    have hh6 := hh4 y30 ee5
    intro y31 ee7
    have hh8 := hh6 y31 ee7
    refine ⟨hh8.1, ?_⟩
    have hh9 := hh8.2
    intro y32 ee10
    have hh11 := hh9 y32 ee10
    refine ⟨hh11.1, ?_⟩
    have hh12 := hh11.2
    intro u33 ee13
    have hh14 := hh12 u33 ee13
    have rr15 : RM u u33 := by rw [ee13]; exact RM_put (RM_rf u) (by decide)
    intro y34 ee16
    have hh17 := hh14 y34 ee16
    intro y35 ee18
    have hh19 := hh17 y35 ee18
    refine ⟨hh19.1, ?_⟩
    have hh20 := hh19.2
    intro u36 ee21
    have hh22 := hh20 u36 ee21
    have rr23 : RM u u36 := by rw [ee21]; exact RM_put rr15 (by decide)
    intro y37 ee24
    have hh25 := hh22 y37 ee24
    exact hK164 _ _ rr23 hh25
theorem f_wj_X9_read_9 {K9 K9_ : Int32 → Int32 → Int32 → Int32 → mS → Prop} {post post_ : Int32 → mS → Prop} {x1 : Int32} {x2 : Int32} {x3 : Int32} {x4 : Int32} {u : mS} (hK9 : ∀ (b0_ : Int32) (b1_ : Int32) (b2_ : Int32) (b3_ : Int32) (b4_ : mS), RM u b4_ → K9 b0_ b1_ b2_ b3_ b4_ → K9_ b0_ b1_ b2_ b3_ b4_) (hp : ∀ (b0_ : Int32) (b1_ : mS), RM u b1_ → post b0_ b1_ → post_ b0_ b1_) (h : wj_X9_read_9 K9 post x1 x2 x3 x4 u) : wj_X9_read_9 K9_ post_ x1 x2 x3 x4 u := by
  intro y1 ee1
  have hh2 := h y1 ee1
  refine ⟨fun cc3 => ?_, fun cc4 => ?_⟩
  · have hh5 := hh2.1 cc3
    refine ⟨fun cc6 => ?_, fun cc7 => ?_⟩
    · have hh8 := hh5.1 cc6
      exact f_wj_X9_read_145 (fun _ v_ rv_ h_ => hp _ v_ (RM_tr (RM_rf u) rv_) h_) hh8
    · have hh9 := hh5.2 cc7
      refine ⟨fun cc10 => ?_, fun cc11 => ?_⟩
      · have hh12 := hh9.1 cc10
        intro y5 ee13
        have hh14 := hh12 y5 ee13
        intro u6 ee15
        have hh16 := hh14 u6 ee15
        have rr17 : RM u u6 := by rw [ee15]; exact RM_set (RM_rf u) (by decide)
        intro y7 ee18
        have hh19 := hh16 y7 ee18
        obtain ⟨nn20, hh21⟩ := hh19
        refine ⟨nn20, mL2_mo RM RM_rf ?_ nn20 _ _ (RM_rf _) hh21⟩
        intro K_ K2_ z_ hz_ hK_ _ h_
        exact f_wj_X9_read_164 (fun _ v_ rv_ h_ => hK_ _ v_ (RM_tr hz_ rv_) h_) (fun _ v_ rv_ h_ => hp _ v_ (RM_tr rr17 (RM_tr hz_ rv_)) h_) h_
      · have hh22 := hh9.2 cc11
        exact f_wj_X9_read_145 (fun _ v_ rv_ h_ => hp _ v_ (RM_tr (RM_rf u) rv_) h_) hh22
  · have hh23 := hh2.2 cc4
    refine f_wp_X9_look (fun r8 u9 rr25 hh24 => ?_) hh23
    have rr26 : RM u u9 := RM_tr (RM_rf u) rr25
    refine ⟨fun cc27 => ?_, fun cc28 => ?_⟩
    · have hh29 := hh24.1 cc27
      refine f_wp_X9_token (fun r11 u12 rr31 hh30 => ?_) hh29
      have rr32 : RM u u12 := RM_tr rr26 rr31
      refine ⟨fun cc33 => ?_, fun cc34 => ?_⟩
      · have hh35 := hh30.1 cc33
        exact f_wj_X9_read_60 (fun _ _ _ _ v_ rv_ h_ => hK9 _ _ _ _ v_ (RM_tr rr32 rv_) h_) (fun _ v_ rv_ h_ => hp _ v_ (RM_tr rr32 rv_) h_) hh35
      · have hh36 := hh30.2 cc34
        refine f_wp_X9_code (fun r14 u15 rr38 hh37 => ?_) hh36
        have rr39 : RM u u15 := RM_tr rr32 rr38
        exact f_wj_X9_read_60 (fun _ _ _ _ v_ rv_ h_ => hK9 _ _ _ _ v_ (RM_tr rr39 rv_) h_) (fun _ v_ rv_ h_ => hp _ v_ (RM_tr rr39 rv_) h_) hh37
    · have hh40 := hh24.2 cc28
      intro y16 ee41
      have hh42 := hh40 y16 ee41
      exact hK9 _ _ _ _ _ rr26 hh42
theorem f_wp_X9_read {u : mS} {post post_ : Int32 → mS → Prop} (hp : ∀ (b0_ : Int32) (b1_ : mS), RM u b1_ → post b0_ b1_ → post_ b0_ b1_) (h : wp_X9_read u post) : wp_X9_read u post_ := by
  obtain ⟨nn1, hh2⟩ := h
  refine ⟨nn1, mL5_mo RM RM_rf ?_ nn1 _ _ _ _ _ (RM_rf _) hh2⟩
  intro K_ K2_ z_ hz_ hK_ _ _ _ _ h_
  exact f_wj_X9_read_9 (fun _ _ _ _ v_ rv_ h_ => hK_ _ _ _ _ v_ (RM_tr hz_ rv_) h_) (fun _ v_ rv_ h_ => hp _ v_ (RM_tr (RM_rf u) (RM_tr hz_ rv_)) h_) h_
theorem f_wp_X9_kind_2 {x1 : Int32} {u : mS} {post post_ : Int32 → mS → Prop} (hp : ∀ (b0_ : Int32) (b1_ : mS), RM u b1_ → post b0_ b1_ → post_ b0_ b1_) (h : wp_X9_kind_2 x1 u post) : wp_X9_kind_2 x1 u post_ := by
  refine ⟨h.1, ?_⟩
  have hh1 := h.2
  intro y1 ee2
  have hh3 := hh1 y1 ee2
  intro y2 ee4
  have hh5 := hh3 y2 ee4
  exact hp _ _ (RM_rf u) hh5
theorem f_wj_X9_end_2_56 {K7 K7_ : Int32 → Int32 → Int32 → mS → Prop} {post post_ : Int32 → mS → Prop} {x2 : Int32} {x3 : Int32} {z0 : Int32} {u : mS} (hK7 : ∀ (b0_ : Int32) (b1_ : Int32) (b2_ : Int32) (b3_ : mS), RM u b3_ → K7 b0_ b1_ b2_ b3_ → K7_ b0_ b1_ b2_ b3_) (hp : ∀ (b0_ : Int32) (b1_ : mS), RM u b1_ → post b0_ b1_ → post_ b0_ b1_) (h : wj_X9_end_2_56 K7 post x2 x3 z0 u) : wj_X9_end_2_56 K7_ post_ x2 x3 z0 u := by
  exact hK7 _ _ _ _ (RM_rf u) h
theorem f_wj_X9_end_2_43 {K7 K7_ : Int32 → Int32 → Int32 → mS → Prop} {post post_ : Int32 → mS → Prop} {x3 : Int32} {z0 : Int32} {u : mS} (hK7 : ∀ (b0_ : Int32) (b1_ : Int32) (b2_ : Int32) (b3_ : mS), RM u b3_ → K7 b0_ b1_ b2_ b3_ → K7_ b0_ b1_ b2_ b3_) (hp : ∀ (b0_ : Int32) (b1_ : mS), RM u b1_ → post b0_ b1_ → post_ b0_ b1_) (h : wj_X9_end_2_43 K7 post x3 z0 u) : wj_X9_end_2_43 K7_ post_ x3 z0 u := by
  intro y10 ee1
  have hh2 := h y10 ee1
  refine ⟨fun cc3 => ?_, fun cc4 => ?_⟩
  · have hh5 := hh2.1 cc3
    exact f_wj_X9_end_2_56 (fun _ _ _ v_ rv_ h_ => hK7 _ _ _ v_ (RM_tr (RM_rf u) rv_) h_) (fun _ v_ rv_ h_ => hp _ v_ (RM_tr (RM_rf u) rv_) h_) hh5
  · have hh6 := hh2.2 cc4
    exact f_wj_X9_end_2_56 (fun _ _ _ v_ rv_ h_ => hK7 _ _ _ v_ (RM_tr (RM_rf u) rv_) h_) (fun _ v_ rv_ h_ => hp _ v_ (RM_tr (RM_rf u) rv_) h_) hh6
theorem f_wj_X9_end_2_7 {K7 K7_ : Int32 → Int32 → Int32 → mS → Prop} {post post_ : Int32 → mS → Prop} {x2 : Int32} {x3 : Int32} {x4 : Int32} {u : mS} (hK7 : ∀ (b0_ : Int32) (b1_ : Int32) (b2_ : Int32) (b3_ : mS), RM u b3_ → K7 b0_ b1_ b2_ b3_ → K7_ b0_ b1_ b2_ b3_) (hp : ∀ (b0_ : Int32) (b1_ : mS), RM u b1_ → post b0_ b1_ → post_ b0_ b1_) (h : wj_X9_end_2_7 K7 post x2 x3 x4 u) : wj_X9_end_2_7 K7_ post_ x2 x3 x4 u := by
  refine ⟨fun cc1 => ?_, fun cc2 => ?_⟩
  · have hh3 := h.1 cc1
    exact hp _ _ (RM_rf u) hh3
  · have hh4 := h.2 cc2
    refine f_wp_X9_kind_2 (fun r2 u3 rr6 hh5 => ?_) hh4
    have rr7 : RM u u3 := RM_tr (RM_rf u) rr6
    refine ⟨fun cc8 => ?_, fun cc9 => ?_⟩
    · have hh10 := hh5.1 cc8
      refine f_wp_X9_kind_2 (fun r5 u6 rr12 hh11 => ?_) hh10
      have rr13 : RM u u6 := RM_tr rr7 rr12
      refine ⟨fun cc14 => ?_, fun cc15 => ?_⟩
      · have hh16 := hh11.1 cc14
        exact f_wj_X9_end_2_43 (fun _ _ _ v_ rv_ h_ => hK7 _ _ _ v_ (RM_tr rr13 rv_) h_) (fun _ v_ rv_ h_ => hp _ v_ (RM_tr rr13 rv_) h_) hh16
      · have hh17 := hh11.2 cc15
        intro y8 ee18
        have hh19 := hh17 y8 ee18
        exact f_wj_X9_end_2_43 (fun _ _ _ v_ rv_ h_ => hK7 _ _ _ v_ (RM_tr rr13 rv_) h_) (fun _ v_ rv_ h_ => hp _ v_ (RM_tr rr13 rv_) h_) hh19
    · have hh20 := hh5.2 cc9
      intro y9 ee21
      have hh22 := hh20 y9 ee21
      exact f_wj_X9_end_2_43 (fun _ _ _ v_ rv_ h_ => hK7 _ _ _ v_ (RM_tr rr7 rv_) h_) (fun _ v_ rv_ h_ => hp _ v_ (RM_tr rr7 rv_) h_) hh22
theorem f_wp_X9_end_2 {x1 : Int32} {u : mS} {post post_ : Int32 → mS → Prop} (hp : ∀ (b0_ : Int32) (b1_ : mS), RM u b1_ → post b0_ b1_ → post_ b0_ b1_) (h : wp_X9_end_2 x1 u post) : wp_X9_end_2 x1 u post_ := by
  obtain ⟨nn1, hh2⟩ := h
  refine ⟨nn1, mL4_mo RM RM_rf ?_ nn1 _ _ _ _ (RM_rf _) hh2⟩
  intro K_ K2_ z_ hz_ hK_ _ _ _ h_
  exact f_wj_X9_end_2_7 (fun _ _ _ v_ rv_ h_ => hK_ _ _ _ v_ (RM_tr hz_ rv_) h_) (fun _ v_ rv_ h_ => hp _ v_ (RM_tr (RM_rf u) (RM_tr hz_ rv_)) h_) h_
theorem f_wj_X9_dots_2_61 {K6 K6_ : Int32 → Int32 → mS → Prop} {post post_ : Int32 → mS → Prop} {x2 : Int32} {z0 : Int32} {u : mS} (hK6 : ∀ (b0_ : Int32) (b1_ : Int32) (b2_ : mS), RM u b2_ → K6 b0_ b1_ b2_ → K6_ b0_ b1_ b2_) (hp : ∀ (b0_ : Int32) (b1_ : mS), RM u b1_ → post b0_ b1_ → post_ b0_ b1_) (h : wj_X9_dots_2_61 K6 post x2 z0 u) : wj_X9_dots_2_61 K6_ post_ x2 z0 u := by
  exact hK6 _ _ _ (RM_rf u) h
theorem f_wj_X9_dots_2_44 {K6 K6_ : Int32 → Int32 → mS → Prop} {post post_ : Int32 → mS → Prop} {x3 : Int32} {x4 : Int32} {z0 : Int32} {u : mS} (hK6 : ∀ (b0_ : Int32) (b1_ : Int32) (b2_ : mS), RM u b2_ → K6 b0_ b1_ b2_ → K6_ b0_ b1_ b2_) (hp : ∀ (b0_ : Int32) (b1_ : mS), RM u b1_ → post b0_ b1_ → post_ b0_ b1_) (h : wj_X9_dots_2_44 K6 post x3 x4 z0 u) : wj_X9_dots_2_44 K6_ post_ x3 x4 z0 u := by
  refine ⟨fun cc1 => ?_, fun cc2 => ?_⟩
  · have hh3 := h.1 cc1
    refine f_wp_X9_end_2 (fun r11 u12 rr5 hh4 => ?_) hh3
    have rr6 : RM u u12 := RM_tr (RM_rf u) rr5
    exact f_wj_X9_dots_2_61 (fun _ _ v_ rv_ h_ => hK6 _ _ v_ (RM_tr rr6 rv_) h_) (fun _ v_ rv_ h_ => hp _ v_ (RM_tr rr6 rv_) h_) hh4
  · have hh7 := h.2 cc2
    intro y13 ee8
    have hh9 := hh7 y13 ee8
    exact f_wj_X9_dots_2_61 (fun _ _ v_ rv_ h_ => hK6 _ _ v_ (RM_tr (RM_rf u) rv_) h_) (fun _ v_ rv_ h_ => hp _ v_ (RM_tr (RM_rf u) rv_) h_) hh9
theorem f_wj_X9_dots_2_30 {K6 K6_ : Int32 → Int32 → mS → Prop} {post post_ : Int32 → mS → Prop} {x2 : Int32} {x3 : Int32} {z0 : Int32} {u : mS} (hK6 : ∀ (b0_ : Int32) (b1_ : Int32) (b2_ : mS), RM u b2_ → K6 b0_ b1_ b2_ → K6_ b0_ b1_ b2_) (hp : ∀ (b0_ : Int32) (b1_ : mS), RM u b1_ → post b0_ b1_ → post_ b0_ b1_) (h : wj_X9_dots_2_30 K6 post x2 x3 z0 u) : wj_X9_dots_2_30 K6_ post_ x2 x3 z0 u := by
  refine ⟨fun cc1 => ?_, fun cc2 => ?_⟩
  · have hh3 := h.1 cc1
    exact f_wj_X9_dots_2_44 (fun _ _ v_ rv_ h_ => hK6 _ _ v_ (RM_tr (RM_rf u) rv_) h_) (fun _ v_ rv_ h_ => hp _ v_ (RM_tr (RM_rf u) rv_) h_) hh3
  · have hh4 := h.2 cc2
    intro y9 ee5
    have hh6 := hh4 y9 ee5
    exact f_wj_X9_dots_2_44 (fun _ _ v_ rv_ h_ => hK6 _ _ v_ (RM_tr (RM_rf u) rv_) h_) (fun _ v_ rv_ h_ => hp _ v_ (RM_tr (RM_rf u) rv_) h_) hh6
theorem f_wj_X9_dots_2_6 {K6 K6_ : Int32 → Int32 → mS → Prop} {post post_ : Int32 → mS → Prop} {x2 : Int32} {x3 : Int32} {u : mS} (hK6 : ∀ (b0_ : Int32) (b1_ : Int32) (b2_ : mS), RM u b2_ → K6 b0_ b1_ b2_ → K6_ b0_ b1_ b2_) (hp : ∀ (b0_ : Int32) (b1_ : mS), RM u b1_ → post b0_ b1_ → post_ b0_ b1_) (h : wj_X9_dots_2_6 K6 post x2 x3 u) : wj_X9_dots_2_6 K6_ post_ x2 x3 u := by
  refine f_wp_X9_kind_2 (fun r2 u3 rr2 hh1 => ?_) h
  have rr3 : RM u u3 := RM_tr (RM_rf u) rr2
  refine ⟨fun cc4 => ?_, fun cc5 => ?_⟩
  · have hh6 := hh1.1 cc4
    exact hp _ _ rr3 hh6
  · have hh7 := hh1.2 cc5
    refine f_wp_X9_kind_2 (fun r5 u6 rr9 hh8 => ?_) hh7
    have rr10 : RM u u6 := RM_tr rr3 rr9
    refine ⟨fun cc11 => ?_, fun cc12 => ?_⟩
    · have hh13 := hh8.1 cc11
      exact f_wj_X9_dots_2_30 (fun _ _ v_ rv_ h_ => hK6 _ _ v_ (RM_tr rr10 rv_) h_) (fun _ v_ rv_ h_ => hp _ v_ (RM_tr rr10 rv_) h_) hh13
    · have hh14 := hh8.2 cc12
      exact f_wj_X9_dots_2_30 (fun _ _ v_ rv_ h_ => hK6 _ _ v_ (RM_tr rr10 rv_) h_) (fun _ v_ rv_ h_ => hp _ v_ (RM_tr rr10 rv_) h_) hh14
theorem f_wp_X9_dots_2 {x1 : Int32} {u : mS} {post post_ : Int32 → mS → Prop} (hp : ∀ (b0_ : Int32) (b1_ : mS), RM u b1_ → post b0_ b1_ → post_ b0_ b1_) (h : wp_X9_dots_2 x1 u post) : wp_X9_dots_2 x1 u post_ := by
  intro y1 ee1
  have hh2 := h y1 ee1
  obtain ⟨nn3, hh4⟩ := hh2
  refine ⟨nn3, mL3_mo RM RM_rf ?_ nn3 _ _ _ (RM_rf _) hh4⟩
  intro K_ K2_ z_ hz_ hK_ _ _ h_
  exact f_wj_X9_dots_2_6 (fun _ _ v_ rv_ h_ => hK_ _ _ v_ (RM_tr hz_ rv_) h_) (fun _ v_ rv_ h_ => hp _ v_ (RM_tr (RM_rf u) (RM_tr hz_ rv_)) h_) h_
theorem f_wj_X9_keep_3 {K3 K3_ : Int32 → Int32 → Int32 → Int32 → mS → Prop} {post post_ : Int32 → mS → Prop} {x1 : Int32} {x2 : Int32} {x3 : Int32} {x4 : Int32} {u : mS} (hK3 : ∀ (b0_ : Int32) (b1_ : Int32) (b2_ : Int32) (b3_ : Int32) (b4_ : mS), RM u b4_ → K3 b0_ b1_ b2_ b3_ b4_ → K3_ b0_ b1_ b2_ b3_ b4_) (hp : ∀ (b0_ : Int32) (b1_ : mS), RM u b1_ → post b0_ b1_ → post_ b0_ b1_) (h : wj_X9_keep_3 K3 post x1 x2 x3 x4 u) : wj_X9_keep_3 K3_ post_ x1 x2 x3 x4 u := by
  refine ⟨fun cc1 => ?_, fun cc2 => ?_⟩
  · have hh3 := h.1 cc1
    intro y2 ee4
    have hh5 := hh3 y2 ee4
    intro y3 ee6
    have hh7 := hh5 y3 ee6
    exact hp _ _ (RM_rf u) hh7
  · have hh8 := h.2 cc2
    intro y4 ee9
    have hh10 := hh8 y4 ee9
    intro y5 ee11
    have hh12 := hh10 y5 ee11
    refine ⟨hh12.1, ?_⟩
    have hh13 := hh12.2
    intro y6 ee14
    have hh15 := hh13 y6 ee14
    refine ⟨hh15.1, ?_⟩
    have hh16 := hh15.2
    intro u7 ee17
    have hh18 := hh16 u7 ee17
    have rr19 : RM u u7 := by rw [ee17]; exact RM_put (RM_rf u) (by decide)
    intro y8 ee20
    have hh21 := hh18 y8 ee20
    intro y9 ee22
    have hh23 := hh21 y9 ee22
    refine ⟨hh23.1, ?_⟩
    have hh24 := hh23.2
    intro y10 ee25
    have hh26 := hh24 y10 ee25
    refine ⟨hh26.1, ?_⟩
    have hh27 := hh26.2
    intro u11 ee28
    have hh29 := hh27 u11 ee28
    have rr30 : RM u u11 := by rw [ee28]; exact RM_put rr19 (by decide)
    intro y12 ee31
    have hh32 := hh29 y12 ee31
    exact hK3 _ _ _ _ _ rr30 hh32
theorem f_wp_X9_keep {x1 : Int32} {x2 : Int32} {x3 : Int32} {u : mS} {post post_ : Int32 → mS → Prop} (hp : ∀ (b0_ : Int32) (b1_ : mS), RM u b1_ → post b0_ b1_ → post_ b0_ b1_) (h : wp_X9_keep x1 x2 x3 u post) : wp_X9_keep x1 x2 x3 u post_ := by
  obtain ⟨nn1, hh2⟩ := h
  refine ⟨nn1, mL5_mo RM RM_rf ?_ nn1 _ _ _ _ _ (RM_rf _) hh2⟩
  intro K_ K2_ z_ hz_ hK_ _ _ _ _ h_
  exact f_wj_X9_keep_3 (fun _ _ _ _ v_ rv_ h_ => hK_ _ _ _ _ v_ (RM_tr hz_ rv_) h_) (fun _ v_ rv_ h_ => hp _ v_ (RM_tr (RM_rf u) (RM_tr hz_ rv_)) h_) h_
theorem f_wp_X9_kind_4 {x1 : Int32} {u : mS} {post post_ : Int32 → mS → Prop} (hp : ∀ (b0_ : Int32) (b1_ : mS), RM u b1_ → post b0_ b1_ → post_ b0_ b1_) (h : wp_X9_kind_4 x1 u post) : wp_X9_kind_4 x1 u post_ := by
  refine ⟨h.1, ?_⟩
  have hh1 := h.2
  intro y1 ee2
  have hh3 := hh1 y1 ee2
  intro y2 ee4
  have hh5 := hh3 y2 ee4
  exact hp _ _ (RM_rf u) hh5
theorem f_wj_X9_end_4_56 {K7 K7_ : Int32 → Int32 → Int32 → mS → Prop} {post post_ : Int32 → mS → Prop} {x2 : Int32} {x3 : Int32} {z0 : Int32} {u : mS} (hK7 : ∀ (b0_ : Int32) (b1_ : Int32) (b2_ : Int32) (b3_ : mS), RM u b3_ → K7 b0_ b1_ b2_ b3_ → K7_ b0_ b1_ b2_ b3_) (hp : ∀ (b0_ : Int32) (b1_ : mS), RM u b1_ → post b0_ b1_ → post_ b0_ b1_) (h : wj_X9_end_4_56 K7 post x2 x3 z0 u) : wj_X9_end_4_56 K7_ post_ x2 x3 z0 u := by
  exact hK7 _ _ _ _ (RM_rf u) h
theorem f_wj_X9_end_4_43 {K7 K7_ : Int32 → Int32 → Int32 → mS → Prop} {post post_ : Int32 → mS → Prop} {x3 : Int32} {z0 : Int32} {u : mS} (hK7 : ∀ (b0_ : Int32) (b1_ : Int32) (b2_ : Int32) (b3_ : mS), RM u b3_ → K7 b0_ b1_ b2_ b3_ → K7_ b0_ b1_ b2_ b3_) (hp : ∀ (b0_ : Int32) (b1_ : mS), RM u b1_ → post b0_ b1_ → post_ b0_ b1_) (h : wj_X9_end_4_43 K7 post x3 z0 u) : wj_X9_end_4_43 K7_ post_ x3 z0 u := by
  intro y10 ee1
  have hh2 := h y10 ee1
  refine ⟨fun cc3 => ?_, fun cc4 => ?_⟩
  · have hh5 := hh2.1 cc3
    exact f_wj_X9_end_4_56 (fun _ _ _ v_ rv_ h_ => hK7 _ _ _ v_ (RM_tr (RM_rf u) rv_) h_) (fun _ v_ rv_ h_ => hp _ v_ (RM_tr (RM_rf u) rv_) h_) hh5
  · have hh6 := hh2.2 cc4
    exact f_wj_X9_end_4_56 (fun _ _ _ v_ rv_ h_ => hK7 _ _ _ v_ (RM_tr (RM_rf u) rv_) h_) (fun _ v_ rv_ h_ => hp _ v_ (RM_tr (RM_rf u) rv_) h_) hh6
theorem f_wj_X9_end_4_7 {K7 K7_ : Int32 → Int32 → Int32 → mS → Prop} {post post_ : Int32 → mS → Prop} {x2 : Int32} {x3 : Int32} {x4 : Int32} {u : mS} (hK7 : ∀ (b0_ : Int32) (b1_ : Int32) (b2_ : Int32) (b3_ : mS), RM u b3_ → K7 b0_ b1_ b2_ b3_ → K7_ b0_ b1_ b2_ b3_) (hp : ∀ (b0_ : Int32) (b1_ : mS), RM u b1_ → post b0_ b1_ → post_ b0_ b1_) (h : wj_X9_end_4_7 K7 post x2 x3 x4 u) : wj_X9_end_4_7 K7_ post_ x2 x3 x4 u := by
  refine ⟨fun cc1 => ?_, fun cc2 => ?_⟩
  · have hh3 := h.1 cc1
    exact hp _ _ (RM_rf u) hh3
  · have hh4 := h.2 cc2
    refine f_wp_X9_kind_4 (fun r2 u3 rr6 hh5 => ?_) hh4
    have rr7 : RM u u3 := RM_tr (RM_rf u) rr6
    refine ⟨fun cc8 => ?_, fun cc9 => ?_⟩
    · have hh10 := hh5.1 cc8
      refine f_wp_X9_kind_4 (fun r5 u6 rr12 hh11 => ?_) hh10
      have rr13 : RM u u6 := RM_tr rr7 rr12
      refine ⟨fun cc14 => ?_, fun cc15 => ?_⟩
      · have hh16 := hh11.1 cc14
        exact f_wj_X9_end_4_43 (fun _ _ _ v_ rv_ h_ => hK7 _ _ _ v_ (RM_tr rr13 rv_) h_) (fun _ v_ rv_ h_ => hp _ v_ (RM_tr rr13 rv_) h_) hh16
      · have hh17 := hh11.2 cc15
        intro y8 ee18
        have hh19 := hh17 y8 ee18
        exact f_wj_X9_end_4_43 (fun _ _ _ v_ rv_ h_ => hK7 _ _ _ v_ (RM_tr rr13 rv_) h_) (fun _ v_ rv_ h_ => hp _ v_ (RM_tr rr13 rv_) h_) hh19
    · have hh20 := hh5.2 cc9
      intro y9 ee21
      have hh22 := hh20 y9 ee21
      exact f_wj_X9_end_4_43 (fun _ _ _ v_ rv_ h_ => hK7 _ _ _ v_ (RM_tr rr7 rv_) h_) (fun _ v_ rv_ h_ => hp _ v_ (RM_tr rr7 rv_) h_) hh22
theorem f_wp_X9_end_4 {x1 : Int32} {u : mS} {post post_ : Int32 → mS → Prop} (hp : ∀ (b0_ : Int32) (b1_ : mS), RM u b1_ → post b0_ b1_ → post_ b0_ b1_) (h : wp_X9_end_4 x1 u post) : wp_X9_end_4 x1 u post_ := by
  obtain ⟨nn1, hh2⟩ := h
  refine ⟨nn1, mL4_mo RM RM_rf ?_ nn1 _ _ _ _ (RM_rf _) hh2⟩
  intro K_ K2_ z_ hz_ hK_ _ _ _ h_
  exact f_wj_X9_end_4_7 (fun _ _ _ v_ rv_ h_ => hK_ _ _ _ v_ (RM_tr hz_ rv_) h_) (fun _ v_ rv_ h_ => hp _ v_ (RM_tr (RM_rf u) (RM_tr hz_ rv_)) h_) h_
theorem f_wj_X9_count_4_61 {K6 K6_ : Int32 → Int32 → mS → Prop} {post post_ : Int32 → mS → Prop} {x2 : Int32} {z0 : Int32} {u : mS} (hK6 : ∀ (b0_ : Int32) (b1_ : Int32) (b2_ : mS), RM u b2_ → K6 b0_ b1_ b2_ → K6_ b0_ b1_ b2_) (hp : ∀ (b0_ : Int32) (b1_ : mS), RM u b1_ → post b0_ b1_ → post_ b0_ b1_) (h : wj_X9_count_4_61 K6 post x2 z0 u) : wj_X9_count_4_61 K6_ post_ x2 z0 u := by
  exact hK6 _ _ _ (RM_rf u) h
theorem f_wj_X9_count_4_44 {K6 K6_ : Int32 → Int32 → mS → Prop} {post post_ : Int32 → mS → Prop} {x3 : Int32} {x4 : Int32} {z0 : Int32} {u : mS} (hK6 : ∀ (b0_ : Int32) (b1_ : Int32) (b2_ : mS), RM u b2_ → K6 b0_ b1_ b2_ → K6_ b0_ b1_ b2_) (hp : ∀ (b0_ : Int32) (b1_ : mS), RM u b1_ → post b0_ b1_ → post_ b0_ b1_) (h : wj_X9_count_4_44 K6 post x3 x4 z0 u) : wj_X9_count_4_44 K6_ post_ x3 x4 z0 u := by
  refine ⟨fun cc1 => ?_, fun cc2 => ?_⟩
  · have hh3 := h.1 cc1
    refine f_wp_X9_end_4 (fun r11 u12 rr5 hh4 => ?_) hh3
    have rr6 : RM u u12 := RM_tr (RM_rf u) rr5
    exact f_wj_X9_count_4_61 (fun _ _ v_ rv_ h_ => hK6 _ _ v_ (RM_tr rr6 rv_) h_) (fun _ v_ rv_ h_ => hp _ v_ (RM_tr rr6 rv_) h_) hh4
  · have hh7 := h.2 cc2
    intro y13 ee8
    have hh9 := hh7 y13 ee8
    exact f_wj_X9_count_4_61 (fun _ _ v_ rv_ h_ => hK6 _ _ v_ (RM_tr (RM_rf u) rv_) h_) (fun _ v_ rv_ h_ => hp _ v_ (RM_tr (RM_rf u) rv_) h_) hh9
theorem f_wj_X9_count_4_30 {K6 K6_ : Int32 → Int32 → mS → Prop} {post post_ : Int32 → mS → Prop} {x2 : Int32} {x3 : Int32} {z0 : Int32} {u : mS} (hK6 : ∀ (b0_ : Int32) (b1_ : Int32) (b2_ : mS), RM u b2_ → K6 b0_ b1_ b2_ → K6_ b0_ b1_ b2_) (hp : ∀ (b0_ : Int32) (b1_ : mS), RM u b1_ → post b0_ b1_ → post_ b0_ b1_) (h : wj_X9_count_4_30 K6 post x2 x3 z0 u) : wj_X9_count_4_30 K6_ post_ x2 x3 z0 u := by
  refine ⟨fun cc1 => ?_, fun cc2 => ?_⟩
  · have hh3 := h.1 cc1
    intro y9 ee4
    have hh5 := hh3 y9 ee4
    exact f_wj_X9_count_4_44 (fun _ _ v_ rv_ h_ => hK6 _ _ v_ (RM_tr (RM_rf u) rv_) h_) (fun _ v_ rv_ h_ => hp _ v_ (RM_tr (RM_rf u) rv_) h_) hh5
  · have hh6 := h.2 cc2
    exact f_wj_X9_count_4_44 (fun _ _ v_ rv_ h_ => hK6 _ _ v_ (RM_tr (RM_rf u) rv_) h_) (fun _ v_ rv_ h_ => hp _ v_ (RM_tr (RM_rf u) rv_) h_) hh6
theorem f_wj_X9_count_4_6 {K6 K6_ : Int32 → Int32 → mS → Prop} {post post_ : Int32 → mS → Prop} {x2 : Int32} {x3 : Int32} {u : mS} (hK6 : ∀ (b0_ : Int32) (b1_ : Int32) (b2_ : mS), RM u b2_ → K6 b0_ b1_ b2_ → K6_ b0_ b1_ b2_) (hp : ∀ (b0_ : Int32) (b1_ : mS), RM u b1_ → post b0_ b1_ → post_ b0_ b1_) (h : wj_X9_count_4_6 K6 post x2 x3 u) : wj_X9_count_4_6 K6_ post_ x2 x3 u := by
  refine f_wp_X9_kind_4 (fun r2 u3 rr2 hh1 => ?_) h
  have rr3 : RM u u3 := RM_tr (RM_rf u) rr2
  refine ⟨fun cc4 => ?_, fun cc5 => ?_⟩
  · have hh6 := hh1.1 cc4
    exact hp _ _ rr3 hh6
  · have hh7 := hh1.2 cc5
    refine f_wp_X9_kind_4 (fun r5 u6 rr9 hh8 => ?_) hh7
    have rr10 : RM u u6 := RM_tr rr3 rr9
    refine ⟨fun cc11 => ?_, fun cc12 => ?_⟩
    · have hh13 := hh8.1 cc11
      exact f_wj_X9_count_4_30 (fun _ _ v_ rv_ h_ => hK6 _ _ v_ (RM_tr rr10 rv_) h_) (fun _ v_ rv_ h_ => hp _ v_ (RM_tr rr10 rv_) h_) hh13
    · have hh14 := hh8.2 cc12
      exact f_wj_X9_count_4_30 (fun _ _ v_ rv_ h_ => hK6 _ _ v_ (RM_tr rr10 rv_) h_) (fun _ v_ rv_ h_ => hp _ v_ (RM_tr rr10 rv_) h_) hh14
theorem f_wp_X9_count_4 {x1 : Int32} {u : mS} {post post_ : Int32 → mS → Prop} (hp : ∀ (b0_ : Int32) (b1_ : mS), RM u b1_ → post b0_ b1_ → post_ b0_ b1_) (h : wp_X9_count_4 x1 u post) : wp_X9_count_4 x1 u post_ := by
  intro y1 ee1
  have hh2 := h y1 ee1
  obtain ⟨nn3, hh4⟩ := hh2
  refine ⟨nn3, mL3_mo RM RM_rf ?_ nn3 _ _ _ (RM_rf _) hh4⟩
  intro K_ K2_ z_ hz_ hK_ _ _ h_
  exact f_wj_X9_count_4_6 (fun _ _ v_ rv_ h_ => hK_ _ _ v_ (RM_tr hz_ rv_) h_) (fun _ v_ rv_ h_ => hp _ v_ (RM_tr (RM_rf u) (RM_tr hz_ rv_)) h_) h_
theorem f_wj_X9_dots_4_61 {K6 K6_ : Int32 → Int32 → mS → Prop} {post post_ : Int32 → mS → Prop} {x2 : Int32} {z0 : Int32} {u : mS} (hK6 : ∀ (b0_ : Int32) (b1_ : Int32) (b2_ : mS), RM u b2_ → K6 b0_ b1_ b2_ → K6_ b0_ b1_ b2_) (hp : ∀ (b0_ : Int32) (b1_ : mS), RM u b1_ → post b0_ b1_ → post_ b0_ b1_) (h : wj_X9_dots_4_61 K6 post x2 z0 u) : wj_X9_dots_4_61 K6_ post_ x2 z0 u := by
  exact hK6 _ _ _ (RM_rf u) h
theorem f_wj_X9_dots_4_44 {K6 K6_ : Int32 → Int32 → mS → Prop} {post post_ : Int32 → mS → Prop} {x3 : Int32} {x4 : Int32} {z0 : Int32} {u : mS} (hK6 : ∀ (b0_ : Int32) (b1_ : Int32) (b2_ : mS), RM u b2_ → K6 b0_ b1_ b2_ → K6_ b0_ b1_ b2_) (hp : ∀ (b0_ : Int32) (b1_ : mS), RM u b1_ → post b0_ b1_ → post_ b0_ b1_) (h : wj_X9_dots_4_44 K6 post x3 x4 z0 u) : wj_X9_dots_4_44 K6_ post_ x3 x4 z0 u := by
  refine ⟨fun cc1 => ?_, fun cc2 => ?_⟩
  · have hh3 := h.1 cc1
    refine f_wp_X9_end_4 (fun r11 u12 rr5 hh4 => ?_) hh3
    have rr6 : RM u u12 := RM_tr (RM_rf u) rr5
    exact f_wj_X9_dots_4_61 (fun _ _ v_ rv_ h_ => hK6 _ _ v_ (RM_tr rr6 rv_) h_) (fun _ v_ rv_ h_ => hp _ v_ (RM_tr rr6 rv_) h_) hh4
  · have hh7 := h.2 cc2
    intro y13 ee8
    have hh9 := hh7 y13 ee8
    exact f_wj_X9_dots_4_61 (fun _ _ v_ rv_ h_ => hK6 _ _ v_ (RM_tr (RM_rf u) rv_) h_) (fun _ v_ rv_ h_ => hp _ v_ (RM_tr (RM_rf u) rv_) h_) hh9
theorem f_wj_X9_dots_4_30 {K6 K6_ : Int32 → Int32 → mS → Prop} {post post_ : Int32 → mS → Prop} {x2 : Int32} {x3 : Int32} {z0 : Int32} {u : mS} (hK6 : ∀ (b0_ : Int32) (b1_ : Int32) (b2_ : mS), RM u b2_ → K6 b0_ b1_ b2_ → K6_ b0_ b1_ b2_) (hp : ∀ (b0_ : Int32) (b1_ : mS), RM u b1_ → post b0_ b1_ → post_ b0_ b1_) (h : wj_X9_dots_4_30 K6 post x2 x3 z0 u) : wj_X9_dots_4_30 K6_ post_ x2 x3 z0 u := by
  refine ⟨fun cc1 => ?_, fun cc2 => ?_⟩
  · have hh3 := h.1 cc1
    exact f_wj_X9_dots_4_44 (fun _ _ v_ rv_ h_ => hK6 _ _ v_ (RM_tr (RM_rf u) rv_) h_) (fun _ v_ rv_ h_ => hp _ v_ (RM_tr (RM_rf u) rv_) h_) hh3
  · have hh4 := h.2 cc2
    intro y9 ee5
    have hh6 := hh4 y9 ee5
    exact f_wj_X9_dots_4_44 (fun _ _ v_ rv_ h_ => hK6 _ _ v_ (RM_tr (RM_rf u) rv_) h_) (fun _ v_ rv_ h_ => hp _ v_ (RM_tr (RM_rf u) rv_) h_) hh6
theorem f_wj_X9_dots_4_6 {K6 K6_ : Int32 → Int32 → mS → Prop} {post post_ : Int32 → mS → Prop} {x2 : Int32} {x3 : Int32} {u : mS} (hK6 : ∀ (b0_ : Int32) (b1_ : Int32) (b2_ : mS), RM u b2_ → K6 b0_ b1_ b2_ → K6_ b0_ b1_ b2_) (hp : ∀ (b0_ : Int32) (b1_ : mS), RM u b1_ → post b0_ b1_ → post_ b0_ b1_) (h : wj_X9_dots_4_6 K6 post x2 x3 u) : wj_X9_dots_4_6 K6_ post_ x2 x3 u := by
  refine f_wp_X9_kind_4 (fun r2 u3 rr2 hh1 => ?_) h
  have rr3 : RM u u3 := RM_tr (RM_rf u) rr2
  refine ⟨fun cc4 => ?_, fun cc5 => ?_⟩
  · have hh6 := hh1.1 cc4
    exact hp _ _ rr3 hh6
  · have hh7 := hh1.2 cc5
    refine f_wp_X9_kind_4 (fun r5 u6 rr9 hh8 => ?_) hh7
    have rr10 : RM u u6 := RM_tr rr3 rr9
    refine ⟨fun cc11 => ?_, fun cc12 => ?_⟩
    · have hh13 := hh8.1 cc11
      exact f_wj_X9_dots_4_30 (fun _ _ v_ rv_ h_ => hK6 _ _ v_ (RM_tr rr10 rv_) h_) (fun _ v_ rv_ h_ => hp _ v_ (RM_tr rr10 rv_) h_) hh13
    · have hh14 := hh8.2 cc12
      exact f_wj_X9_dots_4_30 (fun _ _ v_ rv_ h_ => hK6 _ _ v_ (RM_tr rr10 rv_) h_) (fun _ v_ rv_ h_ => hp _ v_ (RM_tr rr10 rv_) h_) hh14
theorem f_wp_X9_dots_4 {x1 : Int32} {u : mS} {post post_ : Int32 → mS → Prop} (hp : ∀ (b0_ : Int32) (b1_ : mS), RM u b1_ → post b0_ b1_ → post_ b0_ b1_) (h : wp_X9_dots_4 x1 u post) : wp_X9_dots_4 x1 u post_ := by
  intro y1 ee1
  have hh2 := h y1 ee1
  obtain ⟨nn3, hh4⟩ := hh2
  refine ⟨nn3, mL3_mo RM RM_rf ?_ nn3 _ _ _ (RM_rf _) hh4⟩
  intro K_ K2_ z_ hz_ hK_ _ _ h_
  exact f_wj_X9_dots_4_6 (fun _ _ v_ rv_ h_ => hK_ _ _ v_ (RM_tr hz_ rv_) h_) (fun _ v_ rv_ h_ => hp _ v_ (RM_tr (RM_rf u) (RM_tr hz_ rv_)) h_) h_
theorem f_wp_X9_isPlain_4 {x1 : Int32} {x2 : Int32} {u : mS} {post post_ : Int32 → mS → Prop} (hp : ∀ (b0_ : Int32) (b1_ : mS), RM u b1_ → post b0_ b1_ → post_ b0_ b1_) (h : wp_X9_isPlain_4 x1 x2 u post) : wp_X9_isPlain_4 x1 x2 u post_ := by
  refine f_wp_X9_kind_4 (fun r1 u2 rr2 hh1 => ?_) h
  have rr3 : RM u u2 := RM_tr (RM_rf u) rr2
  refine ⟨fun cc4 => ?_, fun cc5 => ?_⟩
  · have hh6 := hh1.1 cc4
    exact hp _ _ rr3 hh6
  · have hh7 := hh1.2 cc5
    refine f_wp_X9_count_4 (fun r4 u5 rr9 hh8 => ?_) hh7
    have rr10 : RM u u5 := RM_tr rr3 rr9
    refine ⟨fun cc11 => ?_, fun cc12 => ?_⟩
    · have hh13 := hh8.1 cc11
      exact hp _ _ rr10 hh13
    · have hh14 := hh8.2 cc12
      refine f_wp_X9_dots_4 (fun r7 u8 rr16 hh15 => ?_) hh14
      have rr17 : RM u u8 := RM_tr rr10 rr16
      refine ⟨fun cc18 => ?_, fun cc19 => ?_⟩
      · have hh20 := hh15.1 cc18
        exact hp _ _ rr17 hh20
      · have hh21 := hh15.2 cc19
        exact hp _ _ rr17 hh21
theorem f_wj_X9_heldBy_101 {K6 K6_ : Int32 → Int32 → Int32 → Int32 → mS → Prop} {post post_ : Int32 → mS → Prop} {x2 : Int32} {x3 : Int32} {x5 : Int32} {z0 : Int32} {u : mS} (hK6 : ∀ (b0_ : Int32) (b1_ : Int32) (b2_ : Int32) (b3_ : Int32) (b4_ : mS), RM u b4_ → K6 b0_ b1_ b2_ b3_ b4_ → K6_ b0_ b1_ b2_ b3_ b4_) (hp : ∀ (b0_ : Int32) (b1_ : mS), RM u b1_ → post b0_ b1_ → post_ b0_ b1_) (h : wj_X9_heldBy_101 K6 post x2 x3 x5 z0 u) : wj_X9_heldBy_101 K6_ post_ x2 x3 x5 z0 u := by
  intro y17 ee1
  have hh2 := h y17 ee1
  exact hK6 _ _ _ _ _ (RM_rf u) hh2
theorem f_wj_X9_heldBy_99 {K6 K6_ : Int32 → Int32 → Int32 → Int32 → mS → Prop} {post post_ : Int32 → mS → Prop} {x2 : Int32} {x3 : Int32} {x4 : Int32} {x5 : Int32} {u : mS} (hK6 : ∀ (b0_ : Int32) (b1_ : Int32) (b2_ : Int32) (b3_ : Int32) (b4_ : mS), RM u b4_ → K6 b0_ b1_ b2_ b3_ b4_ → K6_ b0_ b1_ b2_ b3_ b4_) (hp : ∀ (b0_ : Int32) (b1_ : mS), RM u b1_ → post b0_ b1_ → post_ b0_ b1_) (h : wj_X9_heldBy_99 K6 post x2 x3 x4 x5 u) : wj_X9_heldBy_99 K6_ post_ x2 x3 x4 x5 u := by
  exact f_wj_X9_heldBy_101 (fun _ _ _ _ v_ rv_ h_ => hK6 _ _ _ _ v_ (RM_tr (RM_rf u) rv_) h_) (fun _ v_ rv_ h_ => hp _ v_ (RM_tr (RM_rf u) rv_) h_) h
theorem f_wj_X9_heldBy_64 {K6 K6_ : Int32 → Int32 → Int32 → Int32 → mS → Prop} {post post_ : Int32 → mS → Prop} {x2 : Int32} {x3 : Int32} {x4 : Int32} {x5 : Int32} {z0 : Int32} {u : mS} (hK6 : ∀ (b0_ : Int32) (b1_ : Int32) (b2_ : Int32) (b3_ : Int32) (b4_ : mS), RM u b4_ → K6 b0_ b1_ b2_ b3_ b4_ → K6_ b0_ b1_ b2_ b3_ b4_) (hp : ∀ (b0_ : Int32) (b1_ : mS), RM u b1_ → post b0_ b1_ → post_ b0_ b1_) (h : wj_X9_heldBy_64 K6 post x2 x3 x4 x5 z0 u) : wj_X9_heldBy_64 K6_ post_ x2 x3 x4 x5 z0 u := by
  refine ⟨fun cc1 => ?_, fun cc2 => ?_⟩
  · have hh3 := h.1 cc1
    exact f_wj_X9_heldBy_99 (fun _ _ _ _ v_ rv_ h_ => hK6 _ _ _ _ v_ (RM_tr (RM_rf u) rv_) h_) (fun _ v_ rv_ h_ => hp _ v_ (RM_tr (RM_rf u) rv_) h_) hh3
  · have hh4 := h.2 cc2
    refine ⟨fun cc5 => ?_, fun cc6 => ?_⟩
    · have hh7 := hh4.1 cc5
      exact f_wj_X9_heldBy_99 (fun _ _ _ _ v_ rv_ h_ => hK6 _ _ _ _ v_ (RM_tr (RM_rf u) rv_) h_) (fun _ v_ rv_ h_ => hp _ v_ (RM_tr (RM_rf u) rv_) h_) hh7
    · have hh8 := hh4.2 cc6
      refine f_wp_X9_kind_4 (fun r13 u14 rr10 hh9 => ?_) hh8
      have rr11 : RM u u14 := RM_tr (RM_rf u) rr10
      refine ⟨fun cc12 => ?_, fun cc13 => ?_⟩
      · have hh14 := hh9.1 cc12
        exact f_wj_X9_heldBy_99 (fun _ _ _ _ v_ rv_ h_ => hK6 _ _ _ _ v_ (RM_tr rr11 rv_) h_) (fun _ v_ rv_ h_ => hp _ v_ (RM_tr rr11 rv_) h_) hh14
      · have hh15 := hh9.2 cc13
        intro y16 ee16
        have hh17 := hh15 y16 ee16
        exact f_wj_X9_heldBy_101 (fun _ _ _ _ v_ rv_ h_ => hK6 _ _ _ _ v_ (RM_tr rr11 rv_) h_) (fun _ v_ rv_ h_ => hp _ v_ (RM_tr rr11 rv_) h_) hh17
theorem f_wj_X9_heldBy_44 {K6 K6_ : Int32 → Int32 → Int32 → Int32 → mS → Prop} {post post_ : Int32 → mS → Prop} {x2 : Int32} {x3 : Int32} {x4 : Int32} {x5 : Int32} {z0 : Int32} {u : mS} (hK6 : ∀ (b0_ : Int32) (b1_ : Int32) (b2_ : Int32) (b3_ : Int32) (b4_ : mS), RM u b4_ → K6 b0_ b1_ b2_ b3_ b4_ → K6_ b0_ b1_ b2_ b3_ b4_) (hp : ∀ (b0_ : Int32) (b1_ : mS), RM u b1_ → post b0_ b1_ → post_ b0_ b1_) (h : wj_X9_heldBy_44 K6 post x2 x3 x4 x5 z0 u) : wj_X9_heldBy_44 K6_ post_ x2 x3 x4 x5 z0 u := by
  refine ⟨fun cc1 => ?_, fun cc2 => ?_⟩
  · have hh3 := h.1 cc1
    exact f_wj_X9_heldBy_64 (fun _ _ _ _ v_ rv_ h_ => hK6 _ _ _ _ v_ (RM_tr (RM_rf u) rv_) h_) (fun _ v_ rv_ h_ => hp _ v_ (RM_tr (RM_rf u) rv_) h_) hh3
  · have hh4 := h.2 cc2
    refine f_wp_X9_end_4 (fun r9 u10 rr6 hh5 => ?_) hh4
    have rr7 : RM u u10 := RM_tr (RM_rf u) rr6
    exact f_wj_X9_heldBy_64 (fun _ _ _ _ v_ rv_ h_ => hK6 _ _ _ _ v_ (RM_tr rr7 rv_) h_) (fun _ v_ rv_ h_ => hp _ v_ (RM_tr rr7 rv_) h_) hh5
theorem f_wj_X9_heldBy_43 {K6 K6_ : Int32 → Int32 → Int32 → Int32 → mS → Prop} {post post_ : Int32 → mS → Prop} {x2 : Int32} {x3 : Int32} {x4 : Int32} {x5 : Int32} {u : mS} (hK6 : ∀ (b0_ : Int32) (b1_ : Int32) (b2_ : Int32) (b3_ : Int32) (b4_ : mS), RM u b4_ → K6 b0_ b1_ b2_ b3_ b4_ → K6_ b0_ b1_ b2_ b3_ b4_) (hp : ∀ (b0_ : Int32) (b1_ : mS), RM u b1_ → post b0_ b1_ → post_ b0_ b1_) (h : wj_X9_heldBy_43 K6 post x2 x3 x4 x5 u) : wj_X9_heldBy_43 K6_ post_ x2 x3 x4 x5 u := by
  exact f_wj_X9_heldBy_44 (fun _ _ _ _ v_ rv_ h_ => hK6 _ _ _ _ v_ (RM_tr (RM_rf u) rv_) h_) (fun _ v_ rv_ h_ => hp _ v_ (RM_tr (RM_rf u) rv_) h_) h
theorem f_wj_X9_heldBy_6 {K6 K6_ : Int32 → Int32 → Int32 → Int32 → mS → Prop} {post post_ : Int32 → mS → Prop} {x2 : Int32} {x3 : Int32} {x4 : Int32} {x5 : Int32} {u : mS} (hK6 : ∀ (b0_ : Int32) (b1_ : Int32) (b2_ : Int32) (b3_ : Int32) (b4_ : mS), RM u b4_ → K6 b0_ b1_ b2_ b3_ b4_ → K6_ b0_ b1_ b2_ b3_ b4_) (hp : ∀ (b0_ : Int32) (b1_ : mS), RM u b1_ → post b0_ b1_ → post_ b0_ b1_) (h : wj_X9_heldBy_6 K6 post x2 x3 x4 x5 u) : wj_X9_heldBy_6 K6_ post_ x2 x3 x4 x5 u := by
  refine ⟨fun cc1 => ?_, fun cc2 => ?_⟩
  · have hh3 := h.1 cc1
    exact hp _ _ (RM_rf u) hh3
  · have hh4 := h.2 cc2
    refine f_wp_X9_kind_4 (fun r2 u3 rr6 hh5 => ?_) hh4
    have rr7 : RM u u3 := RM_tr (RM_rf u) rr6
    refine ⟨fun cc8 => ?_, fun cc9 => ?_⟩
    · have hh10 := hh5.1 cc8
      exact f_wj_X9_heldBy_43 (fun _ _ _ _ v_ rv_ h_ => hK6 _ _ _ _ v_ (RM_tr rr7 rv_) h_) (fun _ v_ rv_ h_ => hp _ v_ (RM_tr rr7 rv_) h_) hh10
    · have hh11 := hh5.2 cc9
      refine f_wp_X9_kind_4 (fun r5 u6 rr13 hh12 => ?_) hh11
      have rr14 : RM u u6 := RM_tr rr7 rr13
      refine ⟨fun cc15 => ?_, fun cc16 => ?_⟩
      · have hh17 := hh12.1 cc15
        exact f_wj_X9_heldBy_43 (fun _ _ _ _ v_ rv_ h_ => hK6 _ _ _ _ v_ (RM_tr rr14 rv_) h_) (fun _ v_ rv_ h_ => hp _ v_ (RM_tr rr14 rv_) h_) hh17
      · have hh18 := hh12.2 cc16
        exact f_wj_X9_heldBy_44 (fun _ _ _ _ v_ rv_ h_ => hK6 _ _ _ _ v_ (RM_tr rr14 rv_) h_) (fun _ v_ rv_ h_ => hp _ v_ (RM_tr rr14 rv_) h_) hh18
theorem f_wp_X9_heldBy {x1 : Int32} {x2 : Int32} {x3 : Int32} {u : mS} {post post_ : Int32 → mS → Prop} (hp : ∀ (b0_ : Int32) (b1_ : mS), RM u b1_ → post b0_ b1_ → post_ b0_ b1_) (h : wp_X9_heldBy x1 x2 x3 u post) : wp_X9_heldBy x1 x2 x3 u post_ := by
  obtain ⟨nn1, hh2⟩ := h
  refine ⟨nn1, mL5_mo RM RM_rf ?_ nn1 _ _ _ _ _ (RM_rf _) hh2⟩
  intro K_ K2_ z_ hz_ hK_ _ _ _ _ h_
  exact f_wj_X9_heldBy_6 (fun _ _ _ _ v_ rv_ h_ => hK_ _ _ _ _ v_ (RM_tr hz_ rv_) h_) (fun _ v_ rv_ h_ => hp _ v_ (RM_tr (RM_rf u) (RM_tr hz_ rv_)) h_) h_
theorem f_wj_X9_variable_56 {K24 K24_ : Int32 → Int32 → Int32 → Int32 → mS → Prop} {post post_ : Int32 → mS → Prop} {x2 : Int32} {x3 : Int32} {x4 : Int32} {x5 : Int32} {u : mS} (hK24 : ∀ (b0_ : Int32) (b1_ : Int32) (b2_ : Int32) (b3_ : Int32) (b4_ : mS), RM u b4_ → K24 b0_ b1_ b2_ b3_ b4_ → K24_ b0_ b1_ b2_ b3_ b4_) (hp : ∀ (b0_ : Int32) (b1_ : mS), RM u b1_ → post b0_ b1_ → post_ b0_ b1_) (h : wj_X9_variable_56 K24 post x2 x3 x4 x5 u) : wj_X9_variable_56 K24_ post_ x2 x3 x4 x5 u := by
  intro y12 ee1
  have hh2 := h y12 ee1
  exact hK24 _ _ _ _ _ (RM_rf u) hh2
theorem f_wj_X9_variable_24 {K24 K24_ : Int32 → Int32 → Int32 → Int32 → mS → Prop} {post post_ : Int32 → mS → Prop} {x2 : Int32} {x3 : Int32} {x4 : Int32} {x5 : Int32} {u : mS} (hK24 : ∀ (b0_ : Int32) (b1_ : Int32) (b2_ : Int32) (b3_ : Int32) (b4_ : mS), RM u b4_ → K24 b0_ b1_ b2_ b3_ b4_ → K24_ b0_ b1_ b2_ b3_ b4_) (hp : ∀ (b0_ : Int32) (b1_ : mS), RM u b1_ → post b0_ b1_ → post_ b0_ b1_) (h : wj_X9_variable_24 K24 post x2 x3 x4 x5 u) : wj_X9_variable_24 K24_ post_ x2 x3 x4 x5 u := by
  refine ⟨fun cc1 => ?_, fun cc2 => ?_⟩
  · have hh3 := h.1 cc1
    exact hp _ _ (RM_rf u) hh3
  · have hh4 := h.2 cc2
    refine ⟨hh4.1, ?_⟩
    have hh5 := hh4.2
    intro y8 ee6
    have hh7 := hh5 y8 ee6
    refine ⟨fun cc8 => ?_, fun cc9 => ?_⟩
    · have hh10 := hh7.1 cc8
      exact f_wj_X9_variable_56 (fun _ _ _ _ v_ rv_ h_ => hK24 _ _ _ _ v_ (RM_tr (RM_rf u) rv_) h_) (fun _ v_ rv_ h_ => hp _ v_ (RM_tr (RM_rf u) rv_) h_) hh10
    · have hh11 := hh7.2 cc9
      refine ⟨hh11.1, ?_⟩
      have hh12 := hh11.2
      intro y10 ee13
      have hh14 := hh12 y10 ee13
      refine ⟨fun cc15 => ?_, fun cc16 => ?_⟩
      · have hh17 := hh14.1 cc15
        exact f_wj_X9_variable_56 (fun _ _ _ _ v_ rv_ h_ => hK24 _ _ _ _ v_ (RM_tr (RM_rf u) rv_) h_) (fun _ v_ rv_ h_ => hp _ v_ (RM_tr (RM_rf u) rv_) h_) hh17
      · have hh18 := hh14.2 cc16
        exact hp _ _ (RM_rf u) hh18
theorem f_wp_X9_variable {x1 : Int32} {x2 : Int32} {x3 : Int32} {u : mS} {post post_ : Int32 → mS → Prop} (hp : ∀ (b0_ : Int32) (b1_ : mS), RM u b1_ → post b0_ b1_ → post_ b0_ b1_) (h : wp_X9_variable x1 x2 x3 u post) : wp_X9_variable x1 x2 x3 u post_ := by
  refine f_wp_X9_end_4 (fun r1 u2 rr2 hh1 => ?_) h
  have rr3 : RM u u2 := RM_tr (RM_rf u) rr2
  intro y3 ee4
  have hh5 := hh1 y3 ee4
  intro y4 ee6
  have hh7 := hh5 y4 ee6
  refine f_wp_X9_end_4 (fun r5 u6 rr9 hh8 => ?_) hh7
  have rr10 : RM u u6 := RM_tr rr3 rr9
  obtain ⟨nn11, hh12⟩ := hh8
  refine ⟨nn11, mL5_mo RM RM_rf ?_ nn11 _ _ _ _ _ (RM_rf _) hh12⟩
  intro K_ K2_ z_ hz_ hK_ _ _ _ _ h_
  exact f_wj_X9_variable_24 (fun _ _ _ _ v_ rv_ h_ => hK_ _ _ _ _ v_ (RM_tr hz_ rv_) h_) (fun _ v_ rv_ h_ => hp _ v_ (RM_tr rr10 (RM_tr hz_ rv_)) h_) h_
theorem f_wj_X9_isPattern_165 {K65 K65_ : Int32 → Int32 → Int32 → mS → Prop} {post post_ : Int32 → mS → Prop} {x1 : Int32} {x2 : Int32} {x4 : Int32} {u : mS} (hK65 : ∀ (b0_ : Int32) (b1_ : Int32) (b2_ : Int32) (b3_ : mS), RM u b3_ → K65 b0_ b1_ b2_ b3_ → K65_ b0_ b1_ b2_ b3_) (hp : ∀ (b0_ : Int32) (b1_ : mS), RM u b1_ → post b0_ b1_ → post_ b0_ b1_) (h : wj_X9_isPattern_165 K65 post x1 x2 x4 u) : wj_X9_isPattern_165 K65_ post_ x1 x2 x4 u := by
  intro y36 ee1
  have hh2 := h y36 ee1
  exact hK65 _ _ _ _ (RM_rf u) hh2
theorem f_wj_X9_isPattern_133 {K65 K65_ : Int32 → Int32 → Int32 → mS → Prop} {post post_ : Int32 → mS → Prop} {x1 : Int32} {x2 : Int32} {x4 : Int32} {x5 : Int32} {u : mS} (hK65 : ∀ (b0_ : Int32) (b1_ : Int32) (b2_ : Int32) (b3_ : mS), RM u b3_ → K65 b0_ b1_ b2_ b3_ → K65_ b0_ b1_ b2_ b3_) (hp : ∀ (b0_ : Int32) (b1_ : mS), RM u b1_ → post b0_ b1_ → post_ b0_ b1_) (h : wj_X9_isPattern_133 K65 post x1 x2 x4 x5 u) : wj_X9_isPattern_133 K65_ post_ x1 x2 x4 x5 u := by
  refine ⟨fun cc1 => ?_, fun cc2 => ?_⟩
  · have hh3 := h.1 cc1
    exact f_wj_X9_isPattern_165 (fun _ _ _ v_ rv_ h_ => hK65 _ _ _ v_ (RM_tr (RM_rf u) rv_) h_) (fun _ v_ rv_ h_ => hp _ v_ (RM_tr (RM_rf u) rv_) h_) hh3
  · have hh4 := h.2 cc2
    refine ⟨hh4.1, ?_⟩
    have hh5 := hh4.2
    intro y31 ee6
    have hh7 := hh5 y31 ee6
    refine ⟨hh7.1, ?_⟩
    have hh8 := hh7.2
    intro y32 ee9
    have hh10 := hh8 y32 ee9
    refine f_wp_X9_variable (fun r33 u34 rr12 hh11 => ?_) hh10
    have rr13 : RM u u34 := RM_tr (RM_rf u) rr12
    refine ⟨fun cc14 => ?_, fun cc15 => ?_⟩
    · have hh16 := hh11.1 cc14
      exact f_wj_X9_isPattern_165 (fun _ _ _ v_ rv_ h_ => hK65 _ _ _ v_ (RM_tr rr13 rv_) h_) (fun _ v_ rv_ h_ => hp _ v_ (RM_tr rr13 rv_) h_) hh16
    · have hh17 := hh11.2 cc15
      exact hp _ _ rr13 hh17
theorem f_wj_X9_isPattern_106 {K65 K65_ : Int32 → Int32 → Int32 → mS → Prop} {post post_ : Int32 → mS → Prop} {x1 : Int32} {x2 : Int32} {x4 : Int32} {x5 : Int32} {u : mS} (hK65 : ∀ (b0_ : Int32) (b1_ : Int32) (b2_ : Int32) (b3_ : mS), RM u b3_ → K65 b0_ b1_ b2_ b3_ → K65_ b0_ b1_ b2_ b3_) (hp : ∀ (b0_ : Int32) (b1_ : mS), RM u b1_ → post b0_ b1_ → post_ b0_ b1_) (h : wj_X9_isPattern_106 K65 post x1 x2 x4 x5 u) : wj_X9_isPattern_106 K65_ post_ x1 x2 x4 x5 u := by
  refine ⟨fun cc1 => ?_, fun cc2 => ?_⟩
  · have hh3 := h.1 cc1
    exact f_wj_X9_isPattern_133 (fun _ _ _ v_ rv_ h_ => hK65 _ _ _ v_ (RM_tr (RM_rf u) rv_) h_) (fun _ v_ rv_ h_ => hp _ v_ (RM_tr (RM_rf u) rv_) h_) hh3
  · have hh4 := h.2 cc2
    refine ⟨fun cc5 => ?_, fun cc6 => ?_⟩
    · have hh7 := hh4.1 cc5
      exact f_wj_X9_isPattern_133 (fun _ _ _ v_ rv_ h_ => hK65 _ _ _ v_ (RM_tr (RM_rf u) rv_) h_) (fun _ v_ rv_ h_ => hp _ v_ (RM_tr (RM_rf u) rv_) h_) hh7
    · have hh8 := hh4.2 cc6
      intro y26 ee9
      have hh10 := hh8 y26 ee9
      refine f_wp_X9_heldBy (fun r27 u28 rr12 hh11 => ?_) hh10
      have rr13 : RM u u28 := RM_tr (RM_rf u) rr12
      refine ⟨fun cc14 => ?_, fun cc15 => ?_⟩
      · have hh16 := hh11.1 cc14
        exact hp _ _ rr13 hh16
      · have hh17 := hh11.2 cc15
        exact f_wj_X9_isPattern_133 (fun _ _ _ v_ rv_ h_ => hK65 _ _ _ v_ (RM_tr rr13 rv_) h_) (fun _ v_ rv_ h_ => hp _ v_ (RM_tr rr13 rv_) h_) hh17
theorem f_wj_X9_isPattern_65 {K65 K65_ : Int32 → Int32 → Int32 → mS → Prop} {post post_ : Int32 → mS → Prop} {x1 : Int32} {x2 : Int32} {x4 : Int32} {u : mS} (hK65 : ∀ (b0_ : Int32) (b1_ : Int32) (b2_ : Int32) (b3_ : mS), RM u b3_ → K65 b0_ b1_ b2_ b3_ → K65_ b0_ b1_ b2_ b3_) (hp : ∀ (b0_ : Int32) (b1_ : mS), RM u b1_ → post b0_ b1_ → post_ b0_ b1_) (h : wj_X9_isPattern_65 K65 post x1 x2 x4 u) : wj_X9_isPattern_65 K65_ post_ x1 x2 x4 u := by
  refine ⟨fun cc1 => ?_, fun cc2 => ?_⟩
  · have hh3 := h.1 cc1
    exact hp _ _ (RM_rf u) hh3
  · have hh4 := h.2 cc2
    refine f_wp_X9_kind_4 (fun r17 u18 rr6 hh5 => ?_) hh4
    have rr7 : RM u u18 := RM_tr (RM_rf u) rr6
    refine ⟨fun cc8 => ?_, fun cc9 => ?_⟩
    · have hh10 := hh5.1 cc8
      exact f_wj_X9_isPattern_106 (fun _ _ _ v_ rv_ h_ => hK65 _ _ _ v_ (RM_tr rr7 rv_) h_) (fun _ v_ rv_ h_ => hp _ v_ (RM_tr rr7 rv_) h_) hh10
    · have hh11 := hh5.2 cc9
      intro y20 ee12
      have hh13 := hh11 y20 ee12
      refine f_wp_X9_kind_4 (fun r21 u22 rr15 hh14 => ?_) hh13
      have rr16 : RM u u22 := RM_tr rr7 rr15
      refine ⟨fun cc17 => ?_, fun cc18 => ?_⟩
      · have hh19 := hh14.1 cc17
        exact f_wj_X9_isPattern_106 (fun _ _ _ v_ rv_ h_ => hK65 _ _ _ v_ (RM_tr rr16 rv_) h_) (fun _ v_ rv_ h_ => hp _ v_ (RM_tr rr16 rv_) h_) hh19
      · have hh20 := hh14.2 cc18
        exact hp _ _ rr16 hh20
theorem f_wp_X9_isPattern {x1 : Int32} {u : mS} {post post_ : Int32 → mS → Prop} (hp : ∀ (b0_ : Int32) (b1_ : mS), RM u b1_ → post b0_ b1_ → post_ b0_ b1_) (h : wp_X9_isPattern x1 u post) : wp_X9_isPattern x1 u post_ := by
  refine f_wp_X9_kind_4 (fun r1 u2 rr2 hh1 => ?_) h
  have rr3 : RM u u2 := RM_tr (RM_rf u) rr2
  refine ⟨fun cc4 => ?_, fun cc5 => ?_⟩
  · have hh6 := hh1.1 cc4
    exact hp _ _ rr3 hh6
  · have hh7 := hh1.2 cc5
    refine f_wp_X9_count_4 (fun r4 u5 rr9 hh8 => ?_) hh7
    have rr10 : RM u u5 := RM_tr rr3 rr9
    refine ⟨fun cc11 => ?_, fun cc12 => ?_⟩
    · have hh13 := hh8.1 cc11
      refine f_wp_X9_end_4 (fun r7 u8 rr15 hh14 => ?_) hh13
      have rr16 : RM u u8 := RM_tr rr10 rr15
      intro y9 ee17
      have hh18 := hh14 y9 ee17
      intro y10 ee19
      have hh20 := hh18 y10 ee19
      refine f_wp_X9_end_4 (fun r11 u12 rr22 hh21 => ?_) hh20
      have rr23 : RM u u12 := RM_tr rr16 rr22
      refine f_wp_X9_kind_4 (fun r13 u14 rr25 hh24 => ?_) hh21
      have rr26 : RM u u14 := RM_tr rr23 rr25
      refine ⟨fun cc27 => ?_, fun cc28 => ?_⟩
      · have hh29 := hh24.1 cc27
        obtain ⟨nn30, hh31⟩ := hh29
        refine ⟨nn30, mL4_mo RM RM_rf ?_ nn30 _ _ _ _ (RM_rf _) hh31⟩
        intro K_ K2_ z_ hz_ hK_ _ _ _ h_
        exact f_wj_X9_isPattern_65 (fun _ _ _ v_ rv_ h_ => hK_ _ _ _ v_ (RM_tr hz_ rv_) h_) (fun _ v_ rv_ h_ => hp _ v_ (RM_tr rr26 (RM_tr hz_ rv_)) h_) h_
      · have hh32 := hh24.2 cc28
        exact hp _ _ rr26 hh32
    · have hh33 := hh8.2 cc12
      exact hp _ _ rr10 hh33
theorem f_wj_X9_uses_56 {K6 K6_ : Int32 → Int32 → Int32 → Int32 → mS → Prop} {post post_ : Int32 → mS → Prop} {x1 : Int32} {x3 : Int32} {x5 : Int32} {z0 : Int32} {u : mS} (hK6 : ∀ (b0_ : Int32) (b1_ : Int32) (b2_ : Int32) (b3_ : Int32) (b4_ : mS), RM u b4_ → K6 b0_ b1_ b2_ b3_ b4_ → K6_ b0_ b1_ b2_ b3_ b4_) (hp : ∀ (b0_ : Int32) (b1_ : mS), RM u b1_ → post b0_ b1_ → post_ b0_ b1_) (h : wj_X9_uses_56 K6 post x1 x3 x5 z0 u) : wj_X9_uses_56 K6_ post_ x1 x3 x5 z0 u := by
  intro y11 ee1
  have hh2 := h y11 ee1
  exact hK6 _ _ _ _ _ (RM_rf u) hh2
theorem f_wj_X9_uses_54 {K6 K6_ : Int32 → Int32 → Int32 → Int32 → mS → Prop} {post post_ : Int32 → mS → Prop} {x1 : Int32} {x3 : Int32} {x4 : Int32} {x5 : Int32} {u : mS} (hK6 : ∀ (b0_ : Int32) (b1_ : Int32) (b2_ : Int32) (b3_ : Int32) (b4_ : mS), RM u b4_ → K6 b0_ b1_ b2_ b3_ b4_ → K6_ b0_ b1_ b2_ b3_ b4_) (hp : ∀ (b0_ : Int32) (b1_ : mS), RM u b1_ → post b0_ b1_ → post_ b0_ b1_) (h : wj_X9_uses_54 K6 post x1 x3 x4 x5 u) : wj_X9_uses_54 K6_ post_ x1 x3 x4 x5 u := by
  exact f_wj_X9_uses_56 (fun _ _ _ _ v_ rv_ h_ => hK6 _ _ _ _ v_ (RM_tr (RM_rf u) rv_) h_) (fun _ v_ rv_ h_ => hp _ v_ (RM_tr (RM_rf u) rv_) h_) h
theorem f_wj_X9_uses_6 {K6 K6_ : Int32 → Int32 → Int32 → Int32 → mS → Prop} {post post_ : Int32 → mS → Prop} {x1 : Int32} {x3 : Int32} {x4 : Int32} {x5 : Int32} {u : mS} (hK6 : ∀ (b0_ : Int32) (b1_ : Int32) (b2_ : Int32) (b3_ : Int32) (b4_ : mS), RM u b4_ → K6 b0_ b1_ b2_ b3_ b4_ → K6_ b0_ b1_ b2_ b3_ b4_) (hp : ∀ (b0_ : Int32) (b1_ : mS), RM u b1_ → post b0_ b1_ → post_ b0_ b1_) (h : wj_X9_uses_6 K6 post x1 x3 x4 x5 u) : wj_X9_uses_6 K6_ post_ x1 x3 x4 x5 u := by
  refine ⟨fun cc1 => ?_, fun cc2 => ?_⟩
  · have hh3 := h.1 cc1
    exact hp _ _ (RM_rf u) hh3
  · have hh4 := h.2 cc2
    refine f_wp_X9_kind_4 (fun r2 u3 rr6 hh5 => ?_) hh4
    have rr7 : RM u u3 := RM_tr (RM_rf u) rr6
    refine ⟨fun cc8 => ?_, fun cc9 => ?_⟩
    · have hh10 := hh5.1 cc8
      exact f_wj_X9_uses_54 (fun _ _ _ _ v_ rv_ h_ => hK6 _ _ _ _ v_ (RM_tr rr7 rv_) h_) (fun _ v_ rv_ h_ => hp _ v_ (RM_tr rr7 rv_) h_) hh10
    · have hh11 := hh5.2 cc9
      refine ⟨hh11.1, ?_⟩
      have hh12 := hh11.2
      intro y5 ee13
      have hh14 := hh12 y5 ee13
      refine ⟨hh14.1, ?_⟩
      have hh15 := hh14.2
      intro y6 ee16
      have hh17 := hh15 y6 ee16
      refine f_wp_X9_variable (fun r7 u8 rr19 hh18 => ?_) hh17
      have rr20 : RM u u8 := RM_tr rr7 rr19
      refine ⟨fun cc21 => ?_, fun cc22 => ?_⟩
      · have hh23 := hh18.1 cc21
        exact f_wj_X9_uses_54 (fun _ _ _ _ v_ rv_ h_ => hK6 _ _ _ _ v_ (RM_tr rr20 rv_) h_) (fun _ v_ rv_ h_ => hp _ v_ (RM_tr rr20 rv_) h_) hh23
      · have hh24 := hh18.2 cc22
        intro y10 ee25
        have hh26 := hh24 y10 ee25
        exact f_wj_X9_uses_56 (fun _ _ _ _ v_ rv_ h_ => hK6 _ _ _ _ v_ (RM_tr rr20 rv_) h_) (fun _ v_ rv_ h_ => hp _ v_ (RM_tr rr20 rv_) h_) hh26
theorem f_wp_X9_uses {x1 : Int32} {x2 : Int32} {x3 : Int32} {u : mS} {post post_ : Int32 → mS → Prop} (hp : ∀ (b0_ : Int32) (b1_ : mS), RM u b1_ → post b0_ b1_ → post_ b0_ b1_) (h : wp_X9_uses x1 x2 x3 u post) : wp_X9_uses x1 x2 x3 u post_ := by
  obtain ⟨nn1, hh2⟩ := h
  refine ⟨nn1, mL5_mo RM RM_rf ?_ nn1 _ _ _ _ _ (RM_rf _) hh2⟩
  intro K_ K2_ z_ hz_ hK_ _ _ _ _ h_
  exact f_wj_X9_uses_6 (fun _ _ _ _ v_ rv_ h_ => hK_ _ _ _ _ v_ (RM_tr hz_ rv_) h_) (fun _ v_ rv_ h_ => hp _ v_ (RM_tr (RM_rf u) (RM_tr hz_ rv_)) h_) h_
theorem f_wj_X9_isTemplate_97 {K24 K24_ : Int32 → Int32 → Int32 → Int32 → Int32 → mS → Prop} {post post_ : Int32 → mS → Prop} {x1 : Int32} {x2 : Int32} {x3 : Int32} {x4 : Int32} {x5 : Int32} {u : mS} (hK24 : ∀ (b0_ : Int32) (b1_ : Int32) (b2_ : Int32) (b3_ : Int32) (b4_ : Int32) (b5_ : mS), RM u b5_ → K24 b0_ b1_ b2_ b3_ b4_ b5_ → K24_ b0_ b1_ b2_ b3_ b4_ b5_) (hp : ∀ (b0_ : Int32) (b1_ : mS), RM u b1_ → post b0_ b1_ → post_ b0_ b1_) (h : wj_X9_isTemplate_97 K24 post x1 x2 x3 x4 x5 u) : wj_X9_isTemplate_97 K24_ post_ x1 x2 x3 x4 x5 u := by
  intro y21 ee1
  have hh2 := h y21 ee1
  exact hK24 _ _ _ _ _ _ (RM_rf u) hh2
theorem f_wj_X9_isTemplate_66 {K24 K24_ : Int32 → Int32 → Int32 → Int32 → Int32 → mS → Prop} {post post_ : Int32 → mS → Prop} {x1 : Int32} {x2 : Int32} {x3 : Int32} {x4 : Int32} {x5 : Int32} {z0 : Int32} {u : mS} (hK24 : ∀ (b0_ : Int32) (b1_ : Int32) (b2_ : Int32) (b3_ : Int32) (b4_ : Int32) (b5_ : mS), RM u b5_ → K24 b0_ b1_ b2_ b3_ b4_ b5_ → K24_ b0_ b1_ b2_ b3_ b4_ b5_) (hp : ∀ (b0_ : Int32) (b1_ : mS), RM u b1_ → post b0_ b1_ → post_ b0_ b1_) (h : wj_X9_isTemplate_66 K24 post x1 x2 x3 x4 x5 z0 u) : wj_X9_isTemplate_66 K24_ post_ x1 x2 x3 x4 x5 z0 u := by
  refine ⟨fun cc1 => ?_, fun cc2 => ?_⟩
  · have hh3 := h.1 cc1
    exact f_wj_X9_isTemplate_97 (fun _ _ _ _ _ v_ rv_ h_ => hK24 _ _ _ _ _ v_ (RM_tr (RM_rf u) rv_) h_) (fun _ v_ rv_ h_ => hp _ v_ (RM_tr (RM_rf u) rv_) h_) hh3
  · have hh4 := h.2 cc2
    refine f_wp_X9_heldBy (fun r15 u16 rr6 hh5 => ?_) hh4
    have rr7 : RM u u16 := RM_tr (RM_rf u) rr6
    intro y17 ee8
    have hh9 := hh5 y17 ee8
    refine f_wp_X9_heldBy (fun r18 u19 rr11 hh10 => ?_) hh9
    have rr12 : RM u u19 := RM_tr rr7 rr11
    refine ⟨fun cc13 => ?_, fun cc14 => ?_⟩
    · have hh15 := hh10.1 cc13
      exact f_wj_X9_isTemplate_97 (fun _ _ _ _ _ v_ rv_ h_ => hK24 _ _ _ _ _ v_ (RM_tr rr12 rv_) h_) (fun _ v_ rv_ h_ => hp _ v_ (RM_tr rr12 rv_) h_) hh15
    · have hh16 := hh10.2 cc14
      exact hp _ _ rr12 hh16
theorem f_wj_X9_isTemplate_185 {K106 K106_ : Int32 → Int32 → Int32 → mS → Prop} {post post_ : Int32 → mS → Prop} {x1 : Int32} {x3 : Int32} {x5 : Int32} {u : mS} (hK106 : ∀ (b0_ : Int32) (b1_ : Int32) (b2_ : Int32) (b3_ : mS), RM u b3_ → K106 b0_ b1_ b2_ b3_ → K106_ b0_ b1_ b2_ b3_) (hp : ∀ (b0_ : Int32) (b1_ : mS), RM u b1_ → post b0_ b1_ → post_ b0_ b1_) (h : wj_X9_isTemplate_185 K106 post x1 x3 x5 u) : wj_X9_isTemplate_185 K106_ post_ x1 x3 x5 u := by
  intro y36 ee1
  have hh2 := h y36 ee1
  exact hK106 _ _ _ _ (RM_rf u) hh2
theorem f_wj_X9_isTemplate_149 {K106 K106_ : Int32 → Int32 → Int32 → mS → Prop} {post post_ : Int32 → mS → Prop} {x1 : Int32} {x3 : Int32} {x5 : Int32} {z0 : Int32} {u : mS} (hK106 : ∀ (b0_ : Int32) (b1_ : Int32) (b2_ : Int32) (b3_ : mS), RM u b3_ → K106 b0_ b1_ b2_ b3_ → K106_ b0_ b1_ b2_ b3_) (hp : ∀ (b0_ : Int32) (b1_ : mS), RM u b1_ → post b0_ b1_ → post_ b0_ b1_) (h : wj_X9_isTemplate_149 K106 post x1 x3 x5 z0 u) : wj_X9_isTemplate_149 K106_ post_ x1 x3 x5 z0 u := by
  refine ⟨fun cc1 => ?_, fun cc2 => ?_⟩
  · have hh3 := h.1 cc1
    exact f_wj_X9_isTemplate_185 (fun _ _ _ v_ rv_ h_ => hK106 _ _ _ v_ (RM_tr (RM_rf u) rv_) h_) (fun _ v_ rv_ h_ => hp _ v_ (RM_tr (RM_rf u) rv_) h_) hh3
  · have hh4 := h.2 cc2
    refine f_wp_X9_kind_4 (fun r30 u31 rr6 hh5 => ?_) hh4
    have rr7 : RM u u31 := RM_tr (RM_rf u) rr6
    refine ⟨fun cc8 => ?_, fun cc9 => ?_⟩
    · have hh10 := hh5.1 cc8
      exact f_wj_X9_isTemplate_185 (fun _ _ _ v_ rv_ h_ => hK106 _ _ _ v_ (RM_tr rr7 rv_) h_) (fun _ v_ rv_ h_ => hp _ v_ (RM_tr rr7 rv_) h_) hh10
    · have hh11 := hh5.2 cc9
      refine f_wp_X9_uses (fun r33 u34 rr13 hh12 => ?_) hh11
      have rr14 : RM u u34 := RM_tr rr7 rr13
      refine ⟨fun cc15 => ?_, fun cc16 => ?_⟩
      · have hh17 := hh12.1 cc15
        exact f_wj_X9_isTemplate_185 (fun _ _ _ v_ rv_ h_ => hK106 _ _ _ v_ (RM_tr rr14 rv_) h_) (fun _ v_ rv_ h_ => hp _ v_ (RM_tr rr14 rv_) h_) hh17
      · have hh18 := hh12.2 cc16
        exact hp _ _ rr14 hh18
theorem f_wj_X9_isTemplate_136 {K106 K106_ : Int32 → Int32 → Int32 → mS → Prop} {post post_ : Int32 → mS → Prop} {x1 : Int32} {x3 : Int32} {x5 : Int32} {u : mS} (hK106 : ∀ (b0_ : Int32) (b1_ : Int32) (b2_ : Int32) (b3_ : mS), RM u b3_ → K106 b0_ b1_ b2_ b3_ → K106_ b0_ b1_ b2_ b3_) (hp : ∀ (b0_ : Int32) (b1_ : mS), RM u b1_ → post b0_ b1_ → post_ b0_ b1_) (h : wj_X9_isTemplate_136 K106 post x1 x3 x5 u) : wj_X9_isTemplate_136 K106_ post_ x1 x3 x5 u := by
  exact f_wj_X9_isTemplate_149 (fun _ _ _ v_ rv_ h_ => hK106 _ _ _ v_ (RM_tr (RM_rf u) rv_) h_) (fun _ v_ rv_ h_ => hp _ v_ (RM_tr (RM_rf u) rv_) h_) h
theorem f_wj_X9_isTemplate_106 {K106 K106_ : Int32 → Int32 → Int32 → mS → Prop} {post post_ : Int32 → mS → Prop} {x1 : Int32} {x3 : Int32} {x5 : Int32} {u : mS} (hK106 : ∀ (b0_ : Int32) (b1_ : Int32) (b2_ : Int32) (b3_ : mS), RM u b3_ → K106 b0_ b1_ b2_ b3_ → K106_ b0_ b1_ b2_ b3_) (hp : ∀ (b0_ : Int32) (b1_ : mS), RM u b1_ → post b0_ b1_ → post_ b0_ b1_) (h : wj_X9_isTemplate_106 K106 post x1 x3 x5 u) : wj_X9_isTemplate_106 K106_ post_ x1 x3 x5 u := by
  refine ⟨fun cc1 => ?_, fun cc2 => ?_⟩
  · have hh3 := h.1 cc1
    exact hp _ _ (RM_rf u) hh3
  · have hh4 := h.2 cc2
    refine f_wp_X9_kind_4 (fun r23 u24 rr6 hh5 => ?_) hh4
    have rr7 : RM u u24 := RM_tr (RM_rf u) rr6
    refine ⟨fun cc8 => ?_, fun cc9 => ?_⟩
    · have hh10 := hh5.1 cc8
      exact f_wj_X9_isTemplate_136 (fun _ _ _ v_ rv_ h_ => hK106 _ _ _ v_ (RM_tr rr7 rv_) h_) (fun _ v_ rv_ h_ => hp _ v_ (RM_tr rr7 rv_) h_) hh10
    · have hh11 := hh5.2 cc9
      refine ⟨fun cc12 => ?_, fun cc13 => ?_⟩
      · have hh14 := hh11.1 cc12
        refine f_wp_X9_end_4 (fun r27 u28 rr16 hh15 => ?_) hh14
        have rr17 : RM u u28 := RM_tr rr7 rr16
        exact f_wj_X9_isTemplate_149 (fun _ _ _ v_ rv_ h_ => hK106 _ _ _ v_ (RM_tr rr17 rv_) h_) (fun _ v_ rv_ h_ => hp _ v_ (RM_tr rr17 rv_) h_) hh15
      · have hh18 := hh11.2 cc13
        exact f_wj_X9_isTemplate_136 (fun _ _ _ v_ rv_ h_ => hK106 _ _ _ v_ (RM_tr rr7 rv_) h_) (fun _ v_ rv_ h_ => hp _ v_ (RM_tr rr7 rv_) h_) hh18
theorem f_wj_X9_isTemplate_24 {K24 K24_ : Int32 → Int32 → Int32 → Int32 → Int32 → mS → Prop} {post post_ : Int32 → mS → Prop} {x1 : Int32} {x2 : Int32} {x3 : Int32} {x4 : Int32} {x5 : Int32} {u : mS} (hK24 : ∀ (b0_ : Int32) (b1_ : Int32) (b2_ : Int32) (b3_ : Int32) (b4_ : Int32) (b5_ : mS), RM u b5_ → K24 b0_ b1_ b2_ b3_ b4_ b5_ → K24_ b0_ b1_ b2_ b3_ b4_ b5_) (hp : ∀ (b0_ : Int32) (b1_ : mS), RM u b1_ → post b0_ b1_ → post_ b0_ b1_) (h : wj_X9_isTemplate_24 K24 post x1 x2 x3 x4 x5 u) : wj_X9_isTemplate_24 K24_ post_ x1 x2 x3 x4 x5 u := by
  refine ⟨fun cc1 => ?_, fun cc2 => ?_⟩
  · have hh3 := h.1 cc1
    obtain ⟨nn4, hh5⟩ := hh3
    refine ⟨nn4, mL4_mo RM RM_rf ?_ nn4 _ _ _ _ (RM_rf _) hh5⟩
    intro K_ K2_ z_ hz_ hK_ _ _ _ h_
    exact f_wj_X9_isTemplate_106 (fun _ _ _ v_ rv_ h_ => hK_ _ _ _ v_ (RM_tr hz_ rv_) h_) (fun _ v_ rv_ h_ => hp _ v_ (RM_tr (RM_rf u) (RM_tr hz_ rv_)) h_) h_
  · have hh6 := h.2 cc2
    refine f_wp_X9_kind_4 (fun r7 u8 rr8 hh7 => ?_) hh6
    have rr9 : RM u u8 := RM_tr (RM_rf u) rr8
    refine ⟨fun cc10 => ?_, fun cc11 => ?_⟩
    · have hh12 := hh7.1 cc10
      exact f_wj_X9_isTemplate_66 (fun _ _ _ _ _ v_ rv_ h_ => hK24 _ _ _ _ _ v_ (RM_tr rr9 rv_) h_) (fun _ v_ rv_ h_ => hp _ v_ (RM_tr rr9 rv_) h_) hh12
    · have hh13 := hh7.2 cc11
      refine ⟨hh13.1, ?_⟩
      have hh14 := hh13.2
      intro y10 ee15
      have hh16 := hh14 y10 ee15
      refine ⟨hh16.1, ?_⟩
      have hh17 := hh16.2
      intro y11 ee18
      have hh19 := hh17 y11 ee18
      refine f_wp_X9_variable (fun r12 u13 rr21 hh20 => ?_) hh19
      have rr22 : RM u u13 := RM_tr rr9 rr21
      exact f_wj_X9_isTemplate_66 (fun _ _ _ _ _ v_ rv_ h_ => hK24 _ _ _ _ _ v_ (RM_tr rr22 rv_) h_) (fun _ v_ rv_ h_ => hp _ v_ (RM_tr rr22 rv_) h_) hh20
theorem f_wp_X9_isTemplate {x1 : Int32} {x2 : Int32} {u : mS} {post post_ : Int32 → mS → Prop} (hp : ∀ (b0_ : Int32) (b1_ : mS), RM u b1_ → post b0_ b1_ → post_ b0_ b1_) (h : wp_X9_isTemplate x1 x2 u post) : wp_X9_isTemplate x1 x2 u post_ := by
  refine f_wp_X9_end_4 (fun r1 u2 rr2 hh1 => ?_) h
  have rr3 : RM u u2 := RM_tr (RM_rf u) rr2
  refine f_wp_X9_end_4 (fun r3 u4 rr5 hh4 => ?_) hh1
  have rr6 : RM u u4 := RM_tr rr3 rr5
  intro y5 ee7
  have hh8 := hh4 y5 ee7
  obtain ⟨nn9, hh10⟩ := hh8
  refine ⟨nn9, mL6_mo RM RM_rf ?_ nn9 _ _ _ _ _ _ (RM_rf _) hh10⟩
  intro K_ K2_ z_ hz_ hK_ _ _ _ _ _ h_
  exact f_wj_X9_isTemplate_24 (fun _ _ _ _ _ v_ rv_ h_ => hK_ _ _ _ _ _ v_ (RM_tr hz_ rv_) h_) (fun _ v_ rv_ h_ => hp _ v_ (RM_tr rr6 (RM_tr hz_ rv_)) h_) h_
theorem f_wj_X9_areRules_2 {K2 K2_ : Int32 → Int32 → mS → Prop} {post post_ : Int32 → mS → Prop} {x2 : Int32} {x3 : Int32} {u : mS} (hK2 : ∀ (b0_ : Int32) (b1_ : Int32) (b2_ : mS), RM u b2_ → K2 b0_ b1_ b2_ → K2_ b0_ b1_ b2_) (hp : ∀ (b0_ : Int32) (b1_ : mS), RM u b1_ → post b0_ b1_ → post_ b0_ b1_) (h : wj_X9_areRules_2 K2 post x2 x3 u) : wj_X9_areRules_2 K2_ post_ x2 x3 u := by
  refine ⟨fun cc1 => ?_, fun cc2 => ?_⟩
  · have hh3 := h.1 cc1
    exact hp _ _ (RM_rf u) hh3
  · have hh4 := h.2 cc2
    refine f_wp_X9_kind_4 (fun r2 u3 rr6 hh5 => ?_) hh4
    have rr7 : RM u u3 := RM_tr (RM_rf u) rr6
    refine ⟨fun cc8 => ?_, fun cc9 => ?_⟩
    · have hh10 := hh5.1 cc8
      exact hp _ _ rr7 hh10
    · have hh11 := hh5.2 cc9
      refine f_wp_X9_isPlain_4 (fun r5 u6 rr13 hh12 => ?_) hh11
      have rr14 : RM u u6 := RM_tr rr7 rr13
      refine ⟨fun cc15 => ?_, fun cc16 => ?_⟩
      · have hh17 := hh12.1 cc15
        exact hp _ _ rr14 hh17
      · have hh18 := hh12.2 cc16
        intro y8 ee19
        have hh20 := hh18 y8 ee19
        refine f_wp_X9_isPattern (fun r9 u10 rr22 hh21 => ?_) hh20
        have rr23 : RM u u10 := RM_tr rr14 rr22
        refine ⟨fun cc24 => ?_, fun cc25 => ?_⟩
        · have hh26 := hh21.1 cc24
          exact hp _ _ rr23 hh26
        · have hh27 := hh21.2 cc25
          intro y12 ee28
          have hh29 := hh27 y12 ee28
          intro y13 ee30
          have hh31 := hh29 y13 ee30
          refine f_wp_X9_end_4 (fun r14 u15 rr33 hh32 => ?_) hh31
          have rr34 : RM u u15 := RM_tr rr23 rr33
          refine f_wp_X9_isTemplate (fun r16 u17 rr36 hh35 => ?_) hh32
          have rr37 : RM u u17 := RM_tr rr34 rr36
          refine ⟨fun cc38 => ?_, fun cc39 => ?_⟩
          · have hh40 := hh35.1 cc38
            refine f_wp_X9_end_4 (fun r19 u20 rr42 hh41 => ?_) hh40
            have rr43 : RM u u20 := RM_tr rr37 rr42
            exact hK2 _ _ _ rr43 hh41
          · have hh44 := hh35.2 cc39
            exact hp _ _ rr37 hh44
theorem f_wp_X9_areRules {x1 : Int32} {x2 : Int32} {u : mS} {post post_ : Int32 → mS → Prop} (hp : ∀ (b0_ : Int32) (b1_ : mS), RM u b1_ → post b0_ b1_ → post_ b0_ b1_) (h : wp_X9_areRules x1 x2 u post) : wp_X9_areRules x1 x2 u post_ := by
  obtain ⟨nn1, hh2⟩ := h
  refine ⟨nn1, mL3_mo RM RM_rf ?_ nn1 _ _ _ (RM_rf _) hh2⟩
  intro K_ K2_ z_ hz_ hK_ _ _ h_
  exact f_wj_X9_areRules_2 (fun _ _ v_ rv_ h_ => hK_ _ _ v_ (RM_tr hz_ rv_) h_) (fun _ v_ rv_ h_ => hp _ v_ (RM_tr (RM_rf u) (RM_tr hz_ rv_)) h_) h_
theorem f_wp_X9_what_2 {x1 : Int32} {u : mS} {post post_ : Int32 → mS → Prop} (hp : ∀ (b0_ : Int32) (b1_ : mS), RM u b1_ → post b0_ b1_ → post_ b0_ b1_) (h : wp_X9_what_2 x1 u post) : wp_X9_what_2 x1 u post_ := by
  refine ⟨h.1, ?_⟩
  have hh1 := h.2
  intro y1 ee2
  have hh3 := hh1 y1 ee2
  intro y2 ee4
  have hh5 := hh3 y2 ee4
  exact hp _ _ (RM_rf u) hh5
theorem f_wj_X9_fails_16 {post post_ : mS → Prop} {z0 : Int32} {u : mS} (hp : ∀ (b0_ : mS), RM u b0_ → post b0_ → post_ b0_) (h : wj_X9_fails_16 post z0 u) : wj_X9_fails_16 post_ z0 u := by
  intro u4 ee1
  have hh2 := h u4 ee1
  have rr3 : RM u u4 := by rw [ee1]; exact RM_set (RM_rf u) (by decide)
  exact hp _ rr3 hh2
theorem f_wp_X9_fails {x1 : Int32} {u : mS} {post post_ : mS → Prop} (hp : ∀ (b0_ : mS), RM u b0_ → post b0_ → post_ b0_) (h : wp_X9_fails x1 u post) : wp_X9_fails x1 u post_ := by
  intro y1 ee1
  have hh2 := h y1 ee1
  refine ⟨fun cc3 => ?_, fun cc4 => ?_⟩
  · have hh5 := hh2.1 cc3
    intro y3 ee6
    have hh7 := hh5 y3 ee6
    exact f_wj_X9_fails_16 (fun v_ rv_ h_ => hp v_ (RM_tr (RM_rf u) rv_) h_) hh7
  · have hh8 := hh2.2 cc4
    exact f_wj_X9_fails_16 (fun v_ rv_ h_ => hp v_ (RM_tr (RM_rf u) rv_) h_) hh8
theorem f_wp_X9_bind {x1 : Int32} {x2 : Int32} {x3 : Int32} {x4 : Int32} {x5 : Int32} {u : mS} {post post_ : mS → Prop} (hp : ∀ (b0_ : mS), RM u b0_ → post b0_ → post_ b0_) (h : wp_X9_bind x1 x2 x3 x4 x5 u post) : wp_X9_bind x1 x2 x3 x4 x5 u post_ := by
  intro y1 ee1
  have hh2 := h y1 ee1
  refine ⟨fun cc3 => ?_, fun cc4 => ?_⟩
  · have hh5 := hh2.1 cc3
    intro y3 ee6
    have hh7 := hh5 y3 ee6
    refine ⟨hh7.1, ?_⟩
    have hh8 := hh7.2
    intro u4 ee9
    have hh10 := hh8 u4 ee9
    have rr11 : RM u u4 := by rw [ee9]; exact RM_put (RM_rf u) (by decide)
    intro y5 ee12
    have hh13 := hh10 y5 ee12
    refine ⟨hh13.1, ?_⟩
    have hh14 := hh13.2
    intro u6 ee15
    have hh16 := hh14 u6 ee15
    have rr17 : RM u u6 := by rw [ee15]; exact RM_put rr11 (by decide)
    intro y7 ee18
    have hh19 := hh16 y7 ee18
    refine ⟨hh19.1, ?_⟩
    have hh20 := hh19.2
    intro u8 ee21
    have hh22 := hh20 u8 ee21
    have rr23 : RM u u8 := by rw [ee21]; exact RM_put rr17 (by decide)
    intro y9 ee24
    have hh25 := hh22 y9 ee24
    refine ⟨hh25.1, ?_⟩
    have hh26 := hh25.2
    intro u10 ee27
    have hh28 := hh26 u10 ee27
    have rr29 : RM u u10 := by rw [ee27]; exact RM_put rr23 (by decide)
    intro y11 ee30
    have hh31 := hh28 y11 ee30
    refine ⟨hh31.1, ?_⟩
    have hh32 := hh31.2
    intro u12 ee33
    have hh34 := hh32 u12 ee33
    have rr35 : RM u u12 := by rw [ee33]; exact RM_put rr29 (by decide)
    intro y13 ee36
    have hh37 := hh34 y13 ee36
    intro y14 ee38
    have hh39 := hh37 y14 ee38
    intro u15 ee40
    have hh41 := hh39 u15 ee40
    have rr42 : RM u u15 := by rw [ee40]; exact RM_set rr35 (by decide)
    exact hp _ rr42 hh41
  · have hh43 := hh2.2 cc4
    refine f_wp_X9_fails (fun u17 rr45 hh44 => ?_) hh43
    have rr46 : RM u u17 := RM_tr (RM_rf u) rr45
    exact hp _ rr46 hh44
theorem f_wj_X9_beginning_90 {K90 K90_ : Int32 → mS → Prop} {post post_ : mS → Prop} {x1 : Int32} {u : mS} (hK90 : ∀ (b0_ : Int32) (b1_ : mS), RM u b1_ → K90 b0_ b1_ → K90_ b0_ b1_) (hp : ∀ (b0_ : mS), RM u b0_ → post b0_ → post_ b0_) (h : wj_X9_beginning_90 K90 post x1 u) : wj_X9_beginning_90 K90_ post_ x1 u := by
  intro y18 ee1
  have hh2 := h y18 ee1
  refine ⟨fun cc3 => ?_, fun cc4 => ?_⟩
  · have hh5 := hh2.1 cc3
    intro y20 ee6
    have hh7 := hh5 y20 ee6
    intro u21 ee8
    have hh9 := hh7 u21 ee8
    have rr10 : RM u u21 := by rw [ee8]; exact RM_set (RM_rf u) (by decide)
    exact hp _ rr10 hh9
  · have hh11 := hh2.2 cc4
    refine ⟨hh11.1, ?_⟩
    have hh12 := hh11.2
    intro y22 ee13
    have hh14 := hh12 y22 ee13
    intro y23 ee15
    have hh16 := hh14 y23 ee15
    refine ⟨hh16.1, ?_⟩
    have hh17 := hh16.2
    intro y24 ee18
    have hh19 := hh17 y24 ee18
    refine f_wp_X9_bind (fun u26 rr21 hh20 => ?_) hh19
    have rr22 : RM u u26 := RM_tr (RM_rf u) rr21
    intro y27 ee23
    have hh24 := hh20 y27 ee23
    exact hK90 _ _ rr22 hh24
theorem f_wp_X9_beginning {u : mS} {post post_ : mS → Prop} (hp : ∀ (b0_ : mS), RM u b0_ → post b0_ → post_ b0_) (h : wp_X9_beginning u post) : wp_X9_beginning u post_ := by
  intro u1 ee1
  have hh2 := h u1 ee1
  have rr3 : RM u u1 := by rw [ee1]; exact RM_set (RM_rf u) (by decide)
  refine f_wp_X9_bind (fun u3 rr5 hh4 => ?_) hh2
  have rr6 : RM u u3 := RM_tr rr3 rr5
  refine f_wp_X9_bind (fun u5 rr8 hh7 => ?_) hh4
  have rr9 : RM u u5 := RM_tr rr6 rr8
  refine f_wp_X9_bind (fun u7 rr11 hh10 => ?_) hh7
  have rr12 : RM u u7 := RM_tr rr9 rr11
  refine f_wp_X9_bind (fun u9 rr14 hh13 => ?_) hh10
  have rr15 : RM u u9 := RM_tr rr12 rr14
  refine f_wp_X9_bind (fun u11 rr17 hh16 => ?_) hh13
  have rr18 : RM u u11 := RM_tr rr15 rr17
  refine f_wp_X9_bind (fun u13 rr20 hh19 => ?_) hh16
  have rr21 : RM u u13 := RM_tr rr18 rr20
  refine f_wp_X9_bind (fun u15 rr23 hh22 => ?_) hh19
  have rr24 : RM u u15 := RM_tr rr21 rr23
  refine f_wp_X9_bind (fun u17 rr26 hh25 => ?_) hh22
  have rr27 : RM u u17 := RM_tr rr24 rr26
  obtain ⟨nn28, hh29⟩ := hh25
  refine ⟨nn28, mL2_mo RM RM_rf ?_ nn28 _ _ (RM_rf _) hh29⟩
  intro K_ K2_ z_ hz_ hK_ _ h_
  exact f_wj_X9_beginning_90 (fun _ v_ rv_ h_ => hK_ _ v_ (RM_tr hz_ rv_) h_) (fun v_ rv_ h_ => hp v_ (RM_tr rr27 (RM_tr hz_ rv_)) h_) h_
theorem f_wp_X9_put {x1 : Int32} {u : mS} {post post_ : mS → Prop} (hp : ∀ (b0_ : mS), RM u b0_ → post b0_ → post_ b0_) (h : wp_X9_put x1 u post) : wp_X9_put x1 u post_ := by
  intro y1 ee1
  have hh2 := h y1 ee1
  refine ⟨fun cc3 => ?_, fun cc4 => ?_⟩
  · have hh5 := hh2.1 cc3
    intro y3 ee6
    have hh7 := hh5 y3 ee6
    refine ⟨fun cc8 => ?_, fun cc9 => ?_⟩
    · have hh10 := hh7.1 cc8
      intro y5 ee11
      have hh12 := hh10 y5 ee11
      refine ⟨hh12.1, ?_⟩
      have hh13 := hh12.2
      intro u6 ee14
      have hh15 := hh13 u6 ee14
      have rr16 : RM u u6 := by rw [ee14]; exact RM_put (RM_rf u) (by decide)
      intro y7 ee17
      have hh18 := hh15 y7 ee17
      intro y8 ee19
      have hh20 := hh18 y8 ee19
      intro u9 ee21
      have hh22 := hh20 u9 ee21
      have rr23 : RM u u9 := by rw [ee21]; exact RM_set rr16 (by decide)
      exact hp _ rr23 hh22
    · have hh24 := hh7.2 cc9
      refine f_wp_X9_fails (fun u11 rr26 hh25 => ?_) hh24
      have rr27 : RM u u11 := RM_tr (RM_rf u) rr26
      exact hp _ rr27 hh25
  · have hh28 := hh2.2 cc4
    exact hp _ (RM_rf u) hh28
theorem f_wj_X9_space_13 {post post_ : mS → Prop} {u : mS} (hp : ∀ (b0_ : mS), RM u b0_ → post b0_ → post_ b0_) (h : wj_X9_space_13 post u) : wj_X9_space_13 post_ u := by
  intro u5 ee1
  have hh2 := h u5 ee1
  have rr3 : RM u u5 := by rw [ee1]; exact RM_set (RM_rf u) (by decide)
  exact hp _ rr3 hh2
theorem f_wp_X9_space {u : mS} {post post_ : mS → Prop} (hp : ∀ (b0_ : mS), RM u b0_ → post b0_ → post_ b0_) (h : wp_X9_space u post) : wp_X9_space u post_ := by
  intro y1 ee1
  have hh2 := h y1 ee1
  refine ⟨fun cc3 => ?_, fun cc4 => ?_⟩
  · have hh5 := hh2.1 cc3
    exact f_wj_X9_space_13 (fun v_ rv_ h_ => hp v_ (RM_tr (RM_rf u) rv_) h_) hh5
  · have hh6 := hh2.2 cc4
    refine f_wp_X9_put (fun u4 rr8 hh7 => ?_) hh6
    have rr9 : RM u u4 := RM_tr (RM_rf u) rr8
    exact f_wj_X9_space_13 (fun v_ rv_ h_ => hp v_ (RM_tr rr9 rv_) h_) hh7
theorem f_wj_X9_putName_54 {post post_ : mS → Prop} {x1 : Int32} {u : mS} (hp : ∀ (b0_ : mS), RM u b0_ → post b0_ → post_ b0_) (h : wj_X9_putName_54 post x1 u) : wj_X9_putName_54 post_ x1 u := by
  intro y16 ee1
  have hh2 := h y16 ee1
  intro y17 ee3
  have hh4 := hh2 y17 ee3
  refine f_wp_X9_put (fun u19 rr6 hh5 => ?_) hh4
  have rr7 : RM u u19 := RM_tr (RM_rf u) rr6
  exact hp _ rr7 hh5
theorem f_wj_X9_putName_34 {post post_ : mS → Prop} {x1 : Int32} {u : mS} (hp : ∀ (b0_ : mS), RM u b0_ → post b0_ → post_ b0_) (h : wj_X9_putName_34 post x1 u) : wj_X9_putName_34 post_ x1 u := by
  refine ⟨fun cc1 => ?_, fun cc2 => ?_⟩
  · have hh3 := h.1 cc1
    exact f_wj_X9_putName_54 (fun v_ rv_ h_ => hp v_ (RM_tr (RM_rf u) rv_) h_) hh3
  · have hh4 := h.2 cc2
    intro y11 ee5
    have hh6 := hh4 y11 ee5
    intro y12 ee7
    have hh8 := hh6 y12 ee7
    intro y13 ee9
    have hh10 := hh8 y13 ee9
    refine f_wp_X9_put (fun u15 rr12 hh11 => ?_) hh10
    have rr13 : RM u u15 := RM_tr (RM_rf u) rr12
    exact f_wj_X9_putName_54 (fun v_ rv_ h_ => hp v_ (RM_tr rr13 rv_) h_) hh11
theorem f_wp_X9_putName {x1 : Int32} {u : mS} {post post_ : mS → Prop} (hp : ∀ (b0_ : mS), RM u b0_ → post b0_ → post_ b0_) (h : wp_X9_putName x1 u post) : wp_X9_putName x1 u post_ := by
  refine ⟨fun cc1 => ?_, fun cc2 => ?_⟩
  · have hh3 := h.1 cc1
    refine ⟨fun cc4 => ?_, fun cc5 => ?_⟩
    · have hh6 := hh3.1 cc4
      exact f_wj_X9_putName_34 (fun v_ rv_ h_ => hp v_ (RM_tr (RM_rf u) rv_) h_) hh6
    · have hh7 := hh3.2 cc5
      intro y3 ee8
      have hh9 := hh7 y3 ee8
      intro y4 ee10
      have hh11 := hh9 y4 ee10
      refine f_wp_X9_put (fun u6 rr13 hh12 => ?_) hh11
      have rr14 : RM u u6 := RM_tr (RM_rf u) rr13
      exact f_wj_X9_putName_34 (fun v_ rv_ h_ => hp v_ (RM_tr rr14 rv_) h_) hh12
  · have hh15 := h.2 cc2
    intro y7 ee16
    have hh17 := hh15 y7 ee16
    refine f_wp_X9_put (fun u9 rr19 hh18 => ?_) hh17
    have rr20 : RM u u9 := RM_tr (RM_rf u) rr19
    exact hp _ rr20 hh18
theorem f_wp_X9_putClose {u : mS} {post post_ : mS → Prop} (hp : ∀ (b0_ : mS), RM u b0_ → post b0_ → post_ b0_) (h : wp_X9_putClose u post) : wp_X9_putClose u post_ := by
  refine f_wp_X9_put (fun u2 rr2 hh1 => ?_) h
  have rr3 : RM u u2 := RM_tr (RM_rf u) rr2
  intro u3 ee4
  have hh5 := hh1 u3 ee4
  have rr6 : RM u u3 := by rw [ee4]; exact RM_set rr3 (by decide)
  exact hp _ rr6 hh5
theorem f_wp_X9_putOpen {u : mS} {post post_ : mS → Prop} (hp : ∀ (b0_ : mS), RM u b0_ → post b0_ → post_ b0_) (h : wp_X9_putOpen u post) : wp_X9_putOpen u post_ := by
  refine f_wp_X9_space (fun u2 rr2 hh1 => ?_) h
  have rr3 : RM u u2 := RM_tr (RM_rf u) rr2
  refine f_wp_X9_put (fun u4 rr5 hh4 => ?_) hh1
  have rr6 : RM u u4 := RM_tr rr3 rr5
  intro u5 ee7
  have hh8 := hh4 u5 ee7
  have rr9 : RM u u5 := by rw [ee7]; exact RM_set rr6 (by decide)
  exact hp _ rr9 hh8
theorem f_wj_X9_putNumber_17 {post post_ : mS → Prop} {x1 : Int32} {u : mS} (hp : ∀ (b0_ : mS), RM u b0_ → post b0_ → post_ b0_) (h : wj_X9_putNumber_17 post x1 u) : wj_X9_putNumber_17 post_ x1 u := by
  intro y6 ee1
  have hh2 := h y6 ee1
  intro y7 ee3
  have hh4 := hh2 y7 ee3
  refine f_wp_X9_put (fun u9 rr6 hh5 => ?_) hh4
  have rr7 : RM u u9 := RM_tr (RM_rf u) rr6
  exact hp _ rr7 hh5
theorem f_wp_X9_putNumber {x1 : Int32} {u : mS} {post post_ : mS → Prop} (hp : ∀ (b0_ : mS), RM u b0_ → post b0_ → post_ b0_) (h : wp_X9_putNumber x1 u post) : wp_X9_putNumber x1 u post_ := by
  refine ⟨fun cc1 => ?_, fun cc2 => ?_⟩
  · have hh3 := h.1 cc1
    exact f_wj_X9_putNumber_17 (fun v_ rv_ h_ => hp v_ (RM_tr (RM_rf u) rv_) h_) hh3
  · have hh4 := h.2 cc2
    intro y2 ee5
    have hh6 := hh4 y2 ee5
    intro y3 ee7
    have hh8 := hh6 y3 ee7
    refine f_wp_X9_put (fun u5 rr10 hh9 => ?_) hh8
    have rr11 : RM u u5 := RM_tr (RM_rf u) rr10
    exact f_wj_X9_putNumber_17 (fun v_ rv_ h_ => hp v_ (RM_tr rr11 rv_) h_) hh9
theorem f_wj_X9_putToken_82 {post post_ : mS → Prop} {x2 : Int32} {u : mS} (hp : ∀ (b0_ : mS), RM u b0_ → post b0_ → post_ b0_) (h : wj_X9_putToken_82 post x2 u) : wj_X9_putToken_82 post_ x2 u := by
  refine ⟨fun cc1 => ?_, fun cc2 => ?_⟩
  · have hh3 := h.1 cc1
    exact hp _ (RM_rf u) hh3
  · have hh4 := h.2 cc2
    refine f_wp_X9_put (fun u26 rr6 hh5 => ?_) hh4
    have rr7 : RM u u26 := RM_tr (RM_rf u) rr6
    refine f_wp_X9_put (fun u28 rr9 hh8 => ?_) hh5
    have rr10 : RM u u28 := RM_tr rr7 rr9
    exact hp _ rr10 hh8
theorem f_wj_X9_putToken_71 {post post_ : mS → Prop} {x2 : Int32} {u : mS} (hp : ∀ (b0_ : mS), RM u b0_ → post b0_ → post_ b0_) (h : wj_X9_putToken_71 post x2 u) : wj_X9_putToken_71 post_ x2 u := by
  refine ⟨fun cc1 => ?_, fun cc2 => ?_⟩
  · have hh3 := h.1 cc1
    exact f_wj_X9_putToken_82 (fun v_ rv_ h_ => hp v_ (RM_tr (RM_rf u) rv_) h_) hh3
  · have hh4 := h.2 cc2
    refine f_wp_X9_put (fun u23 rr6 hh5 => ?_) hh4
    have rr7 : RM u u23 := RM_tr (RM_rf u) rr6
    exact f_wj_X9_putToken_82 (fun v_ rv_ h_ => hp v_ (RM_tr rr7 rv_) h_) hh5
theorem f_wj_X9_putToken_54 {post post_ : mS → Prop} {x1 : Int32} {x2 : Int32} {u : mS} (hp : ∀ (b0_ : mS), RM u b0_ → post b0_ → post_ b0_) (h : wj_X9_putToken_54 post x1 x2 u) : wj_X9_putToken_54 post_ x1 x2 u := by
  refine ⟨fun cc1 => ?_, fun cc2 => ?_⟩
  · have hh3 := h.1 cc1
    exact f_wj_X9_putToken_71 (fun v_ rv_ h_ => hp v_ (RM_tr (RM_rf u) rv_) h_) hh3
  · have hh4 := h.2 cc2
    refine f_wp_X9_what_2 (fun r17 u18 rr6 hh5 => ?_) hh4
    have rr7 : RM u u18 := RM_tr (RM_rf u) rr6
    refine f_wp_X9_putNumber (fun u20 rr9 hh8 => ?_) hh5
    have rr10 : RM u u20 := RM_tr rr7 rr9
    exact f_wj_X9_putToken_71 (fun v_ rv_ h_ => hp v_ (RM_tr rr10 rv_) h_) hh8
theorem f_wp_X9_putToken {x1 : Int32} {u : mS} {post post_ : mS → Prop} (hp : ∀ (b0_ : mS), RM u b0_ → post b0_ → post_ b0_) (h : wp_X9_putToken x1 u post) : wp_X9_putToken x1 u post_ := by
  refine f_wp_X9_kind_2 (fun r1 u2 rr2 hh1 => ?_) h
  have rr3 : RM u u2 := RM_tr (RM_rf u) rr2
  refine ⟨fun cc4 => ?_, fun cc5 => ?_⟩
  · have hh6 := hh1.1 cc4
    refine ⟨fun cc7 => ?_, fun cc8 => ?_⟩
    · have hh9 := hh6.1 cc7
      refine f_wp_X9_space (fun u6 rr11 hh10 => ?_) hh9
      have rr12 : RM u u6 := RM_tr rr3 rr11
      refine ⟨fun cc13 => ?_, fun cc14 => ?_⟩
      · have hh15 := hh10.1 cc13
        exact f_wj_X9_putToken_54 (fun v_ rv_ h_ => hp v_ (RM_tr rr12 rv_) h_) hh15
      · have hh16 := hh10.2 cc14
        refine f_wp_X9_what_2 (fun r8 u9 rr18 hh17 => ?_) hh16
        have rr19 : RM u u9 := RM_tr rr12 rr18
        refine f_wp_X9_putName (fun u11 rr21 hh20 => ?_) hh17
        have rr22 : RM u u11 := RM_tr rr19 rr21
        exact f_wj_X9_putToken_54 (fun v_ rv_ h_ => hp v_ (RM_tr rr22 rv_) h_) hh20
    · have hh23 := hh6.2 cc8
      refine f_wp_X9_putClose (fun u13 rr25 hh24 => ?_) hh23
      have rr26 : RM u u13 := RM_tr rr3 rr25
      exact hp _ rr26 hh24
  · have hh27 := hh1.2 cc5
    refine f_wp_X9_putOpen (fun u15 rr29 hh28 => ?_) hh27
    have rr30 : RM u u15 := RM_tr rr3 rr29
    exact hp _ rr30 hh28
theorem f_wj_X9_means_124 {K5 K5_ : Int32 → Int32 → Int32 → Int32 → mS → Prop} {K48 K48_ : Int32 → Int32 → Int32 → Int32 → Int32 → mS → Prop} {post post_ : Int32 → mS → Prop} {x1 : Int32} {x2 : Int32} {x4 : Int32} {x6 : Int32} {z0 : Int32} {u : mS} (hK5 : ∀ (b0_ : Int32) (b1_ : Int32) (b2_ : Int32) (b3_ : Int32) (b4_ : mS), RM u b4_ → K5 b0_ b1_ b2_ b3_ b4_ → K5_ b0_ b1_ b2_ b3_ b4_) (hK48 : ∀ (b0_ : Int32) (b1_ : Int32) (b2_ : Int32) (b3_ : Int32) (b4_ : Int32) (b5_ : mS), RM u b5_ → K48 b0_ b1_ b2_ b3_ b4_ b5_ → K48_ b0_ b1_ b2_ b3_ b4_ b5_) (hp : ∀ (b0_ : Int32) (b1_ : mS), RM u b1_ → post b0_ b1_ → post_ b0_ b1_) (h : wj_X9_means_124 K5 K48 post x1 x2 x4 x6 z0 u) : wj_X9_means_124 K5_ K48_ post_ x1 x2 x4 x6 z0 u := by
  intro y25 ee1
  have hh2 := h y25 ee1
  exact hK48 _ _ _ _ _ _ (RM_rf u) hh2
theorem f_wj_X9_means_119 {K5 K5_ : Int32 → Int32 → Int32 → Int32 → mS → Prop} {K48 K48_ : Int32 → Int32 → Int32 → Int32 → Int32 → mS → Prop} {post post_ : Int32 → mS → Prop} {x1 : Int32} {x2 : Int32} {x4 : Int32} {x6 : Int32} {u : mS} (hK5 : ∀ (b0_ : Int32) (b1_ : Int32) (b2_ : Int32) (b3_ : Int32) (b4_ : mS), RM u b4_ → K5 b0_ b1_ b2_ b3_ b4_ → K5_ b0_ b1_ b2_ b3_ b4_) (hK48 : ∀ (b0_ : Int32) (b1_ : Int32) (b2_ : Int32) (b3_ : Int32) (b4_ : Int32) (b5_ : mS), RM u b5_ → K48 b0_ b1_ b2_ b3_ b4_ b5_ → K48_ b0_ b1_ b2_ b3_ b4_ b5_) (hp : ∀ (b0_ : Int32) (b1_ : mS), RM u b1_ → post b0_ b1_ → post_ b0_ b1_) (h : wj_X9_means_119 K5 K48 post x1 x2 x4 x6 u) : wj_X9_means_119 K5_ K48_ post_ x1 x2 x4 x6 u := by
  exact f_wj_X9_means_124 (fun _ _ _ _ v_ rv_ h_ => hK5 _ _ _ _ v_ (RM_tr (RM_rf u) rv_) h_) (fun _ _ _ _ _ v_ rv_ h_ => hK48 _ _ _ _ _ v_ (RM_tr (RM_rf u) rv_) h_) (fun _ v_ rv_ h_ => hp _ v_ (RM_tr (RM_rf u) rv_) h_) h
theorem f_wj_X9_means_123 {K5 K5_ : Int32 → Int32 → Int32 → Int32 → mS → Prop} {K48 K48_ : Int32 → Int32 → Int32 → Int32 → Int32 → mS → Prop} {post post_ : Int32 → mS → Prop} {x1 : Int32} {x2 : Int32} {x4 : Int32} {x6 : Int32} {u : mS} (hK5 : ∀ (b0_ : Int32) (b1_ : Int32) (b2_ : Int32) (b3_ : Int32) (b4_ : mS), RM u b4_ → K5 b0_ b1_ b2_ b3_ b4_ → K5_ b0_ b1_ b2_ b3_ b4_) (hK48 : ∀ (b0_ : Int32) (b1_ : Int32) (b2_ : Int32) (b3_ : Int32) (b4_ : Int32) (b5_ : mS), RM u b5_ → K48 b0_ b1_ b2_ b3_ b4_ b5_ → K48_ b0_ b1_ b2_ b3_ b4_ b5_) (hp : ∀ (b0_ : Int32) (b1_ : mS), RM u b1_ → post b0_ b1_ → post_ b0_ b1_) (h : wj_X9_means_123 K5 K48 post x1 x2 x4 x6 u) : wj_X9_means_123 K5_ K48_ post_ x1 x2 x4 x6 u := by
  exact f_wj_X9_means_124 (fun _ _ _ _ v_ rv_ h_ => hK5 _ _ _ _ v_ (RM_tr (RM_rf u) rv_) h_) (fun _ _ _ _ _ v_ rv_ h_ => hK48 _ _ _ _ _ v_ (RM_tr (RM_rf u) rv_) h_) (fun _ v_ rv_ h_ => hp _ v_ (RM_tr (RM_rf u) rv_) h_) h
theorem f_wj_X9_means_87 {K5 K5_ : Int32 → Int32 → Int32 → Int32 → mS → Prop} {K48 K48_ : Int32 → Int32 → Int32 → Int32 → Int32 → mS → Prop} {post post_ : Int32 → mS → Prop} {x1 : Int32} {x2 : Int32} {x4 : Int32} {x5 : Int32} {x6 : Int32} {z0 : Int32} {u : mS} (hK5 : ∀ (b0_ : Int32) (b1_ : Int32) (b2_ : Int32) (b3_ : Int32) (b4_ : mS), RM u b4_ → K5 b0_ b1_ b2_ b3_ b4_ → K5_ b0_ b1_ b2_ b3_ b4_) (hK48 : ∀ (b0_ : Int32) (b1_ : Int32) (b2_ : Int32) (b3_ : Int32) (b4_ : Int32) (b5_ : mS), RM u b5_ → K48 b0_ b1_ b2_ b3_ b4_ b5_ → K48_ b0_ b1_ b2_ b3_ b4_ b5_) (hp : ∀ (b0_ : Int32) (b1_ : mS), RM u b1_ → post b0_ b1_ → post_ b0_ b1_) (h : wj_X9_means_87 K5 K48 post x1 x2 x4 x5 x6 z0 u) : wj_X9_means_87 K5_ K48_ post_ x1 x2 x4 x5 x6 z0 u := by
  refine ⟨fun cc1 => ?_, fun cc2 => ?_⟩
  · have hh3 := h.1 cc1
    exact f_wj_X9_means_123 (fun _ _ _ _ v_ rv_ h_ => hK5 _ _ _ _ v_ (RM_tr (RM_rf u) rv_) h_) (fun _ _ _ _ _ v_ rv_ h_ => hK48 _ _ _ _ _ v_ (RM_tr (RM_rf u) rv_) h_) (fun _ v_ rv_ h_ => hp _ v_ (RM_tr (RM_rf u) rv_) h_) hh3
  · have hh4 := h.2 cc2
    refine ⟨fun cc5 => ?_, fun cc6 => ?_⟩
    · have hh7 := hh4.1 cc5
      exact f_wj_X9_means_119 (fun _ _ _ _ v_ rv_ h_ => hK5 _ _ _ _ v_ (RM_tr (RM_rf u) rv_) h_) (fun _ _ _ _ _ v_ rv_ h_ => hK48 _ _ _ _ _ v_ (RM_tr (RM_rf u) rv_) h_) (fun _ v_ rv_ h_ => hp _ v_ (RM_tr (RM_rf u) rv_) h_) hh7
    · have hh8 := hh4.2 cc6
      refine ⟨hh8.1, ?_⟩
      have hh9 := hh8.2
      intro y20 ee10
      have hh11 := hh9 y20 ee10
      refine ⟨hh11.1, ?_⟩
      have hh12 := hh11.2
      intro y21 ee13
      have hh14 := hh12 y21 ee13
      intro y22 ee15
      have hh16 := hh14 y22 ee15
      intro y23 ee17
      have hh18 := hh16 y23 ee17
      refine ⟨fun cc19 => ?_, fun cc20 => ?_⟩
      · have hh21 := hh18.1 cc19
        exact f_wj_X9_means_123 (fun _ _ _ _ v_ rv_ h_ => hK5 _ _ _ _ v_ (RM_tr (RM_rf u) rv_) h_) (fun _ _ _ _ _ v_ rv_ h_ => hK48 _ _ _ _ _ v_ (RM_tr (RM_rf u) rv_) h_) (fun _ v_ rv_ h_ => hp _ v_ (RM_tr (RM_rf u) rv_) h_) hh21
      · have hh22 := hh18.2 cc20
        exact f_wj_X9_means_119 (fun _ _ _ _ v_ rv_ h_ => hK5 _ _ _ _ v_ (RM_tr (RM_rf u) rv_) h_) (fun _ _ _ _ _ v_ rv_ h_ => hK48 _ _ _ _ _ v_ (RM_tr (RM_rf u) rv_) h_) (fun _ v_ rv_ h_ => hp _ v_ (RM_tr (RM_rf u) rv_) h_) hh22
theorem f_wj_X9_means_86 {K5 K5_ : Int32 → Int32 → Int32 → Int32 → mS → Prop} {K48 K48_ : Int32 → Int32 → Int32 → Int32 → Int32 → mS → Prop} {post post_ : Int32 → mS → Prop} {x1 : Int32} {x2 : Int32} {x4 : Int32} {x5 : Int32} {x6 : Int32} {u : mS} (hK5 : ∀ (b0_ : Int32) (b1_ : Int32) (b2_ : Int32) (b3_ : Int32) (b4_ : mS), RM u b4_ → K5 b0_ b1_ b2_ b3_ b4_ → K5_ b0_ b1_ b2_ b3_ b4_) (hK48 : ∀ (b0_ : Int32) (b1_ : Int32) (b2_ : Int32) (b3_ : Int32) (b4_ : Int32) (b5_ : mS), RM u b5_ → K48 b0_ b1_ b2_ b3_ b4_ b5_ → K48_ b0_ b1_ b2_ b3_ b4_ b5_) (hp : ∀ (b0_ : Int32) (b1_ : mS), RM u b1_ → post b0_ b1_ → post_ b0_ b1_) (h : wj_X9_means_86 K5 K48 post x1 x2 x4 x5 x6 u) : wj_X9_means_86 K5_ K48_ post_ x1 x2 x4 x5 x6 u := by
  exact f_wj_X9_means_87 (fun _ _ _ _ v_ rv_ h_ => hK5 _ _ _ _ v_ (RM_tr (RM_rf u) rv_) h_) (fun _ _ _ _ _ v_ rv_ h_ => hK48 _ _ _ _ _ v_ (RM_tr (RM_rf u) rv_) h_) (fun _ v_ rv_ h_ => hp _ v_ (RM_tr (RM_rf u) rv_) h_) h
theorem f_wj_X9_means_143 {K5 K5_ : Int32 → Int32 → Int32 → Int32 → mS → Prop} {post post_ : Int32 → mS → Prop} {x1 : Int32} {x2 : Int32} {x3 : Int32} {x4 : Int32} {u : mS} (hK5 : ∀ (b0_ : Int32) (b1_ : Int32) (b2_ : Int32) (b3_ : Int32) (b4_ : mS), RM u b4_ → K5 b0_ b1_ b2_ b3_ b4_ → K5_ b0_ b1_ b2_ b3_ b4_) (hp : ∀ (b0_ : Int32) (b1_ : mS), RM u b1_ → post b0_ b1_ → post_ b0_ b1_) (h : wj_X9_means_143 K5 post x1 x2 x3 x4 u) : wj_X9_means_143 K5_ post_ x1 x2 x3 x4 u := by
  intro y26 ee1
  have hh2 := h y26 ee1
  exact hK5 _ _ _ _ _ (RM_rf u) hh2
theorem f_wj_X9_means_48 {K48 K48_ : Int32 → Int32 → Int32 → Int32 → Int32 → mS → Prop} {K5 K5_ : Int32 → Int32 → Int32 → Int32 → mS → Prop} {post post_ : Int32 → mS → Prop} {x1 : Int32} {x2 : Int32} {x4 : Int32} {x5 : Int32} {x6 : Int32} {u : mS} (hK48 : ∀ (b0_ : Int32) (b1_ : Int32) (b2_ : Int32) (b3_ : Int32) (b4_ : Int32) (b5_ : mS), RM u b5_ → K48 b0_ b1_ b2_ b3_ b4_ b5_ → K48_ b0_ b1_ b2_ b3_ b4_ b5_) (hK5 : ∀ (b0_ : Int32) (b1_ : Int32) (b2_ : Int32) (b3_ : Int32) (b4_ : mS), RM u b4_ → K5 b0_ b1_ b2_ b3_ b4_ → K5_ b0_ b1_ b2_ b3_ b4_) (hp : ∀ (b0_ : Int32) (b1_ : mS), RM u b1_ → post b0_ b1_ → post_ b0_ b1_) (h : wj_X9_means_48 K48 K5 post x1 x2 x4 x5 x6 u) : wj_X9_means_48 K48_ K5_ post_ x1 x2 x4 x5 x6 u := by
  intro y9 ee1
  have hh2 := h y9 ee1
  refine ⟨fun cc3 => ?_, fun cc4 => ?_⟩
  · have hh5 := hh2.1 cc3
    refine ⟨fun cc6 => ?_, fun cc7 => ?_⟩
    · have hh8 := hh5.1 cc6
      exact f_wj_X9_means_143 (fun _ _ _ _ v_ rv_ h_ => hK5 _ _ _ _ v_ (RM_tr (RM_rf u) rv_) h_) (fun _ v_ rv_ h_ => hp _ v_ (RM_tr (RM_rf u) rv_) h_) hh8
    · have hh9 := hh5.2 cc7
      exact hp _ _ (RM_rf u) hh9
  · have hh10 := hh2.2 cc4
    refine ⟨hh10.1, ?_⟩
    have hh11 := hh10.2
    intro y12 ee12
    have hh13 := hh11 y12 ee12
    refine ⟨fun cc14 => ?_, fun cc15 => ?_⟩
    · have hh16 := hh13.1 cc14
      exact f_wj_X9_means_86 (fun _ _ _ _ v_ rv_ h_ => hK5 _ _ _ _ v_ (RM_tr (RM_rf u) rv_) h_) (fun _ _ _ _ _ v_ rv_ h_ => hK48 _ _ _ _ _ v_ (RM_tr (RM_rf u) rv_) h_) (fun _ v_ rv_ h_ => hp _ v_ (RM_tr (RM_rf u) rv_) h_) hh16
    · have hh17 := hh13.2 cc15
      refine ⟨hh17.1, ?_⟩
      have hh18 := hh17.2
      intro y14 ee19
      have hh20 := hh18 y14 ee19
      intro y15 ee21
      have hh22 := hh20 y15 ee21
      intro y16 ee23
      have hh24 := hh22 y16 ee23
      refine ⟨fun cc25 => ?_, fun cc26 => ?_⟩
      · have hh27 := hh24.1 cc25
        exact f_wj_X9_means_86 (fun _ _ _ _ v_ rv_ h_ => hK5 _ _ _ _ v_ (RM_tr (RM_rf u) rv_) h_) (fun _ _ _ _ _ v_ rv_ h_ => hK48 _ _ _ _ _ v_ (RM_tr (RM_rf u) rv_) h_) (fun _ v_ rv_ h_ => hp _ v_ (RM_tr (RM_rf u) rv_) h_) hh27
      · have hh28 := hh24.2 cc26
        exact f_wj_X9_means_87 (fun _ _ _ _ v_ rv_ h_ => hK5 _ _ _ _ v_ (RM_tr (RM_rf u) rv_) h_) (fun _ _ _ _ _ v_ rv_ h_ => hK48 _ _ _ _ _ v_ (RM_tr (RM_rf u) rv_) h_) (fun _ v_ rv_ h_ => hp _ v_ (RM_tr (RM_rf u) rv_) h_) hh28
theorem f_wj_X9_means_5 {K5 K5_ : Int32 → Int32 → Int32 → Int32 → mS → Prop} {post post_ : Int32 → mS → Prop} {x1 : Int32} {x2 : Int32} {x3 : Int32} {x4 : Int32} {u : mS} (hK5 : ∀ (b0_ : Int32) (b1_ : Int32) (b2_ : Int32) (b3_ : Int32) (b4_ : mS), RM u b4_ → K5 b0_ b1_ b2_ b3_ b4_ → K5_ b0_ b1_ b2_ b3_ b4_) (hp : ∀ (b0_ : Int32) (b1_ : mS), RM u b1_ → post b0_ b1_ → post_ b0_ b1_) (h : wj_X9_means_5 K5 post x1 x2 x3 x4 u) : wj_X9_means_5 K5_ post_ x1 x2 x3 x4 u := by
  intro y1 ee1
  have hh2 := h y1 ee1
  refine ⟨fun cc3 => ?_, fun cc4 => ?_⟩
  · have hh5 := hh2.1 cc3
    exact hp _ _ (RM_rf u) hh5
  · have hh6 := hh2.2 cc4
    refine ⟨hh6.1, ?_⟩
    have hh7 := hh6.2
    intro y3 ee8
    have hh9 := hh7 y3 ee8
    refine ⟨fun cc10 => ?_, fun cc11 => ?_⟩
    · have hh12 := hh9.1 cc10
      exact f_wj_X9_means_143 (fun _ _ _ _ v_ rv_ h_ => hK5 _ _ _ _ v_ (RM_tr (RM_rf u) rv_) h_) (fun _ v_ rv_ h_ => hp _ v_ (RM_tr (RM_rf u) rv_) h_) hh12
    · have hh13 := hh9.2 cc11
      refine ⟨hh13.1, ?_⟩
      have hh14 := hh13.2
      intro y5 ee15
      have hh16 := hh14 y5 ee15
      intro y6 ee17
      have hh18 := hh16 y6 ee17
      intro y7 ee19
      have hh20 := hh18 y7 ee19
      refine ⟨fun cc21 => ?_, fun cc22 => ?_⟩
      · have hh23 := hh20.1 cc21
        obtain ⟨nn24, hh25⟩ := hh23
        refine ⟨nn24, mL6_mo RM RM_rf ?_ nn24 _ _ _ _ _ _ (RM_rf _) hh25⟩
        intro K_ K2_ z_ hz_ hK_ _ _ _ _ _ h_
        exact f_wj_X9_means_48 (fun _ _ _ _ _ v_ rv_ h_ => hK_ _ _ _ _ _ v_ (RM_tr hz_ rv_) h_) (fun _ _ _ _ v_ rv_ h_ => hK5 _ _ _ _ v_ (RM_tr (RM_rf u) (RM_tr hz_ rv_)) h_) (fun _ v_ rv_ h_ => hp _ v_ (RM_tr (RM_rf u) (RM_tr hz_ rv_)) h_) h_
      · have hh26 := hh20.2 cc22
        exact f_wj_X9_means_143 (fun _ _ _ _ v_ rv_ h_ => hK5 _ _ _ _ v_ (RM_tr (RM_rf u) rv_) h_) (fun _ v_ rv_ h_ => hp _ v_ (RM_tr (RM_rf u) rv_) h_) hh26
theorem f_wp_X9_means {x1 : Int32} {x2 : Int32} {u : mS} {post post_ : Int32 → mS → Prop} (hp : ∀ (b0_ : Int32) (b1_ : mS), RM u b1_ → post b0_ b1_ → post_ b0_ b1_) (h : wp_X9_means x1 x2 u post) : wp_X9_means x1 x2 u post_ := by
  obtain ⟨nn1, hh2⟩ := h
  refine ⟨nn1, mL5_mo RM RM_rf ?_ nn1 _ _ _ _ _ (RM_rf _) hh2⟩
  intro K_ K2_ z_ hz_ hK_ _ _ _ _ h_
  exact f_wj_X9_means_5 (fun _ _ _ _ v_ rv_ h_ => hK_ _ _ _ _ v_ (RM_tr hz_ rv_) h_) (fun _ v_ rv_ h_ => hp _ v_ (RM_tr (RM_rf u) (RM_tr hz_ rv_)) h_) h_
theorem f_wp_X9_putVariable {x1 : Int32} {u : mS} {post post_ : mS → Prop} (hp : ∀ (b0_ : mS), RM u b0_ → post b0_ → post_ b0_) (h : wp_X9_putVariable x1 u post) : wp_X9_putVariable x1 u post_ := by
  refine f_wp_X9_space (fun u2 rr2 hh1 => ?_) h
  have rr3 : RM u u2 := RM_tr (RM_rf u) rr2
  refine f_wp_X9_put (fun u4 rr5 hh4 => ?_) hh1
  have rr6 : RM u u4 := RM_tr rr3 rr5
  refine f_wp_X9_putNumber (fun u6 rr8 hh7 => ?_) hh4
  have rr9 : RM u u6 := RM_tr rr6 rr8
  exact hp _ rr9 hh7
theorem f_wj_X9_word_106 {post post_ : mS → Prop} {u : mS} (hp : ∀ (b0_ : mS), RM u b0_ → post b0_ → post_ b0_) (h : wj_X9_word_106 post u) : wj_X9_word_106 post_ u := by
  intro y28 ee1
  have hh2 := h y28 ee1
  intro y29 ee3
  have hh4 := hh2 y29 ee3
  intro u30 ee5
  have hh6 := hh4 u30 ee5
  have rr7 : RM u u30 := by rw [ee5]; exact RM_set (RM_rf u) (by decide)
  exact hp _ rr7 hh6
theorem f_wj_X9_word_40 {post post_ : mS → Prop} {z0 : Int32} {u : mS} (hp : ∀ (b0_ : mS), RM u b0_ → post b0_ → post_ b0_) (h : wj_X9_word_40 post z0 u) : wj_X9_word_40 post_ z0 u := by
  refine f_wp_X9_fails (fun u27 rr2 hh1 => ?_) h
  have rr3 : RM u u27 := RM_tr (RM_rf u) rr2
  exact f_wj_X9_word_106 (fun v_ rv_ h_ => hp v_ (RM_tr rr3 rv_) h_) hh1
theorem f_wp_X9_word {u : mS} {post post_ : mS → Prop} (hp : ∀ (b0_ : mS), RM u b0_ → post b0_ → post_ b0_) (h : wp_X9_word u post) : wp_X9_word u post_ := by
  intro y1 ee1
  have hh2 := h y1 ee1
  refine f_wp_X9_what_2 (fun r2 u3 rr4 hh3 => ?_) hh2
  have rr5 : RM u u3 := RM_tr (RM_rf u) rr4
  intro y4 ee6
  have hh7 := hh3 y4 ee6
  refine ⟨hh7.1, ?_⟩
  have hh8 := hh7.2
  intro y5 ee9
  have hh10 := hh8 y5 ee9
  refine f_wp_X9_means (fun r6 u7 rr12 hh11 => ?_) hh10
  have rr13 : RM u u7 := RM_tr rr5 rr12
  refine ⟨fun cc14 => ?_, fun cc15 => ?_⟩
  · have hh16 := hh11.1 cc14
    refine ⟨hh16.1, ?_⟩
    have hh17 := hh16.2
    intro y9 ee18
    have hh19 := hh17 y9 ee18
    refine ⟨fun cc20 => ?_, fun cc21 => ?_⟩
    · have hh22 := hh19.1 cc20
      refine ⟨hh22.1, ?_⟩
      have hh23 := hh22.2
      intro y11 ee24
      have hh25 := hh23 y11 ee24
      refine ⟨fun cc26 => ?_, fun cc27 => ?_⟩
      · have hh28 := hh25.1 cc26
        refine f_wp_X9_fails (fun u14 rr30 hh29 => ?_) hh28
        have rr31 : RM u u14 := RM_tr rr13 rr30
        exact f_wj_X9_word_106 (fun v_ rv_ h_ => hp v_ (RM_tr rr31 rv_) h_) hh29
      · have hh32 := hh25.2 cc27
        refine ⟨hh32.1, ?_⟩
        have hh33 := hh32.2
        intro y15 ee34
        have hh35 := hh33 y15 ee34
        refine f_wp_X9_putVariable (fun u17 rr37 hh36 => ?_) hh35
        have rr38 : RM u u17 := RM_tr rr13 rr37
        exact f_wj_X9_word_106 (fun v_ rv_ h_ => hp v_ (RM_tr rr38 rv_) h_) hh36
    · have hh39 := hh19.2 cc21
      refine f_wp_X9_space (fun u19 rr41 hh40 => ?_) hh39
      have rr42 : RM u u19 := RM_tr rr13 rr41
      intro y20 ee43
      have hh44 := hh40 y20 ee43
      refine f_wp_X9_what_2 (fun r21 u22 rr46 hh45 => ?_) hh44
      have rr47 : RM u u22 := RM_tr rr42 rr46
      refine f_wp_X9_putName (fun u24 rr49 hh48 => ?_) hh45
      have rr50 : RM u u24 := RM_tr rr47 rr49
      exact f_wj_X9_word_106 (fun v_ rv_ h_ => hp v_ (RM_tr rr50 rv_) h_) hh48
  · have hh51 := hh11.2 cc15
    refine ⟨fun cc52 => ?_, fun cc53 => ?_⟩
    · have hh54 := hh51.1 cc52
      exact f_wj_X9_word_40 (fun v_ rv_ h_ => hp v_ (RM_tr rr13 rv_) h_) hh54
    · have hh55 := hh51.2 cc53
      exact f_wj_X9_word_40 (fun v_ rv_ h_ => hp v_ (RM_tr rr13 rv_) h_) hh55
theorem f_wj_X9_count_2_61 {K6 K6_ : Int32 → Int32 → mS → Prop} {post post_ : Int32 → mS → Prop} {x2 : Int32} {z0 : Int32} {u : mS} (hK6 : ∀ (b0_ : Int32) (b1_ : Int32) (b2_ : mS), RM u b2_ → K6 b0_ b1_ b2_ → K6_ b0_ b1_ b2_) (hp : ∀ (b0_ : Int32) (b1_ : mS), RM u b1_ → post b0_ b1_ → post_ b0_ b1_) (h : wj_X9_count_2_61 K6 post x2 z0 u) : wj_X9_count_2_61 K6_ post_ x2 z0 u := by
  exact hK6 _ _ _ (RM_rf u) h
theorem f_wj_X9_count_2_44 {K6 K6_ : Int32 → Int32 → mS → Prop} {post post_ : Int32 → mS → Prop} {x3 : Int32} {x4 : Int32} {z0 : Int32} {u : mS} (hK6 : ∀ (b0_ : Int32) (b1_ : Int32) (b2_ : mS), RM u b2_ → K6 b0_ b1_ b2_ → K6_ b0_ b1_ b2_) (hp : ∀ (b0_ : Int32) (b1_ : mS), RM u b1_ → post b0_ b1_ → post_ b0_ b1_) (h : wj_X9_count_2_44 K6 post x3 x4 z0 u) : wj_X9_count_2_44 K6_ post_ x3 x4 z0 u := by
  refine ⟨fun cc1 => ?_, fun cc2 => ?_⟩
  · have hh3 := h.1 cc1
    refine f_wp_X9_end_2 (fun r11 u12 rr5 hh4 => ?_) hh3
    have rr6 : RM u u12 := RM_tr (RM_rf u) rr5
    exact f_wj_X9_count_2_61 (fun _ _ v_ rv_ h_ => hK6 _ _ v_ (RM_tr rr6 rv_) h_) (fun _ v_ rv_ h_ => hp _ v_ (RM_tr rr6 rv_) h_) hh4
  · have hh7 := h.2 cc2
    intro y13 ee8
    have hh9 := hh7 y13 ee8
    exact f_wj_X9_count_2_61 (fun _ _ v_ rv_ h_ => hK6 _ _ v_ (RM_tr (RM_rf u) rv_) h_) (fun _ v_ rv_ h_ => hp _ v_ (RM_tr (RM_rf u) rv_) h_) hh9
theorem f_wj_X9_count_2_30 {K6 K6_ : Int32 → Int32 → mS → Prop} {post post_ : Int32 → mS → Prop} {x2 : Int32} {x3 : Int32} {z0 : Int32} {u : mS} (hK6 : ∀ (b0_ : Int32) (b1_ : Int32) (b2_ : mS), RM u b2_ → K6 b0_ b1_ b2_ → K6_ b0_ b1_ b2_) (hp : ∀ (b0_ : Int32) (b1_ : mS), RM u b1_ → post b0_ b1_ → post_ b0_ b1_) (h : wj_X9_count_2_30 K6 post x2 x3 z0 u) : wj_X9_count_2_30 K6_ post_ x2 x3 z0 u := by
  refine ⟨fun cc1 => ?_, fun cc2 => ?_⟩
  · have hh3 := h.1 cc1
    intro y9 ee4
    have hh5 := hh3 y9 ee4
    exact f_wj_X9_count_2_44 (fun _ _ v_ rv_ h_ => hK6 _ _ v_ (RM_tr (RM_rf u) rv_) h_) (fun _ v_ rv_ h_ => hp _ v_ (RM_tr (RM_rf u) rv_) h_) hh5
  · have hh6 := h.2 cc2
    exact f_wj_X9_count_2_44 (fun _ _ v_ rv_ h_ => hK6 _ _ v_ (RM_tr (RM_rf u) rv_) h_) (fun _ v_ rv_ h_ => hp _ v_ (RM_tr (RM_rf u) rv_) h_) hh6
theorem f_wj_X9_count_2_6 {K6 K6_ : Int32 → Int32 → mS → Prop} {post post_ : Int32 → mS → Prop} {x2 : Int32} {x3 : Int32} {u : mS} (hK6 : ∀ (b0_ : Int32) (b1_ : Int32) (b2_ : mS), RM u b2_ → K6 b0_ b1_ b2_ → K6_ b0_ b1_ b2_) (hp : ∀ (b0_ : Int32) (b1_ : mS), RM u b1_ → post b0_ b1_ → post_ b0_ b1_) (h : wj_X9_count_2_6 K6 post x2 x3 u) : wj_X9_count_2_6 K6_ post_ x2 x3 u := by
  refine f_wp_X9_kind_2 (fun r2 u3 rr2 hh1 => ?_) h
  have rr3 : RM u u3 := RM_tr (RM_rf u) rr2
  refine ⟨fun cc4 => ?_, fun cc5 => ?_⟩
  · have hh6 := hh1.1 cc4
    exact hp _ _ rr3 hh6
  · have hh7 := hh1.2 cc5
    refine f_wp_X9_kind_2 (fun r5 u6 rr9 hh8 => ?_) hh7
    have rr10 : RM u u6 := RM_tr rr3 rr9
    refine ⟨fun cc11 => ?_, fun cc12 => ?_⟩
    · have hh13 := hh8.1 cc11
      exact f_wj_X9_count_2_30 (fun _ _ v_ rv_ h_ => hK6 _ _ v_ (RM_tr rr10 rv_) h_) (fun _ v_ rv_ h_ => hp _ v_ (RM_tr rr10 rv_) h_) hh13
    · have hh14 := hh8.2 cc12
      exact f_wj_X9_count_2_30 (fun _ _ v_ rv_ h_ => hK6 _ _ v_ (RM_tr rr10 rv_) h_) (fun _ v_ rv_ h_ => hp _ v_ (RM_tr rr10 rv_) h_) hh14
theorem f_wp_X9_count_2 {x1 : Int32} {u : mS} {post post_ : Int32 → mS → Prop} (hp : ∀ (b0_ : Int32) (b1_ : mS), RM u b1_ → post b0_ b1_ → post_ b0_ b1_) (h : wp_X9_count_2 x1 u post) : wp_X9_count_2 x1 u post_ := by
  intro y1 ee1
  have hh2 := h y1 ee1
  obtain ⟨nn3, hh4⟩ := hh2
  refine ⟨nn3, mL3_mo RM RM_rf ?_ nn3 _ _ _ (RM_rf _) hh4⟩
  intro K_ K2_ z_ hz_ hK_ _ _ h_
  exact f_wj_X9_count_2_6 (fun _ _ v_ rv_ h_ => hK_ _ _ v_ (RM_tr hz_ rv_) h_) (fun _ v_ rv_ h_ => hp _ v_ (RM_tr (RM_rf u) (RM_tr hz_ rv_)) h_) h_
theorem f_wp_X9_isPlain_2 {x1 : Int32} {x2 : Int32} {u : mS} {post post_ : Int32 → mS → Prop} (hp : ∀ (b0_ : Int32) (b1_ : mS), RM u b1_ → post b0_ b1_ → post_ b0_ b1_) (h : wp_X9_isPlain_2 x1 x2 u post) : wp_X9_isPlain_2 x1 x2 u post_ := by
  refine f_wp_X9_kind_2 (fun r1 u2 rr2 hh1 => ?_) h
  have rr3 : RM u u2 := RM_tr (RM_rf u) rr2
  refine ⟨fun cc4 => ?_, fun cc5 => ?_⟩
  · have hh6 := hh1.1 cc4
    exact hp _ _ rr3 hh6
  · have hh7 := hh1.2 cc5
    refine f_wp_X9_count_2 (fun r4 u5 rr9 hh8 => ?_) hh7
    have rr10 : RM u u5 := RM_tr rr3 rr9
    refine ⟨fun cc11 => ?_, fun cc12 => ?_⟩
    · have hh13 := hh8.1 cc11
      exact hp _ _ rr10 hh13
    · have hh14 := hh8.2 cc12
      refine f_wp_X9_dots_2 (fun r7 u8 rr16 hh15 => ?_) hh14
      have rr17 : RM u u8 := RM_tr rr10 rr16
      refine ⟨fun cc18 => ?_, fun cc19 => ?_⟩
      · have hh20 := hh15.1 cc18
        exact hp _ _ rr17 hh20
      · have hh21 := hh15.2 cc19
        exact hp _ _ rr17 hh21
theorem f_wp_X9_scope {u : mS} {post post_ : Int32 → mS → Prop} (hp : ∀ (b0_ : Int32) (b1_ : mS), RM u b1_ → post b0_ b1_ → post_ b0_ b1_) (h : wp_X9_scope u post) : wp_X9_scope u post_ := by
  intro y1 ee1
  have hh2 := h y1 ee1
  refine ⟨fun cc3 => ?_, fun cc4 => ?_⟩
  · have hh5 := hh2.1 cc3
    intro y3 ee6
    have hh7 := hh5 y3 ee6
    intro y4 ee8
    have hh9 := hh7 y4 ee8
    intro u5 ee10
    have hh11 := hh9 u5 ee10
    have rr12 : RM u u5 := by rw [ee10]; exact RM_set (RM_rf u) (by decide)
    intro y6 ee13
    have hh14 := hh11 y6 ee13
    intro y7 ee15
    have hh16 := hh14 y7 ee15
    intro y8 ee17
    have hh18 := hh16 y8 ee17
    exact hp _ _ rr12 hh18
  · have hh19 := hh2.2 cc4
    refine f_wp_X9_fails (fun u10 rr21 hh20 => ?_) hh19
    have rr22 : RM u u10 := RM_tr (RM_rf u) rr21
    exact hp _ _ rr22 hh20
theorem f_wj_X9_give_47 {K3 K3_ : Int32 → Int32 → Int32 → mS → Prop} {post post_ : mS → Prop} {x2 : Int32} {x3 : Int32} {x4 : Int32} {z0 : Int32} {z1 : Int32} {u : mS} (hK3 : ∀ (b0_ : Int32) (b1_ : Int32) (b2_ : Int32) (b3_ : mS), RM u b3_ → K3 b0_ b1_ b2_ b3_ → K3_ b0_ b1_ b2_ b3_) (hp : ∀ (b0_ : mS), RM u b0_ → post b0_ → post_ b0_) (h : wj_X9_give_47 K3 post x2 x3 x4 z0 z1 u) : wj_X9_give_47 K3_ post_ x2 x3 x4 z0 z1 u := by
  refine ⟨h.1, ?_⟩
  have hh1 := h.2
  intro u8 ee2
  have hh3 := hh1 u8 ee2
  have rr4 : RM u u8 := by rw [ee2]; exact RM_put (RM_rf u) (by decide)
  intro y9 ee5
  have hh6 := hh3 y9 ee5
  exact hK3 _ _ _ _ rr4 hh6
theorem f_wj_X9_give_3 {K3 K3_ : Int32 → Int32 → Int32 → mS → Prop} {post post_ : mS → Prop} {x2 : Int32} {x3 : Int32} {x4 : Int32} {u : mS} (hK3 : ∀ (b0_ : Int32) (b1_ : Int32) (b2_ : Int32) (b3_ : mS), RM u b3_ → K3 b0_ b1_ b2_ b3_ → K3_ b0_ b1_ b2_ b3_) (hp : ∀ (b0_ : mS), RM u b0_ → post b0_ → post_ b0_) (h : wj_X9_give_3 K3 post x2 x3 x4 u) : wj_X9_give_3 K3_ post_ x2 x3 x4 u := by
  refine ⟨fun cc1 => ?_, fun cc2 => ?_⟩
  · have hh3 := h.1 cc1
    exact hp _ (RM_rf u) hh3
  · have hh4 := h.2 cc2
    refine f_wp_X9_kind_2 (fun r2 u3 rr6 hh5 => ?_) hh4
    have rr7 : RM u u3 := RM_tr (RM_rf u) rr6
    refine ⟨fun cc8 => ?_, fun cc9 => ?_⟩
    · have hh10 := hh5.1 cc8
      refine ⟨hh10.1, ?_⟩
      have hh11 := hh10.2
      intro y5 ee12
      have hh13 := hh11 y5 ee12
      exact f_wj_X9_give_47 (fun _ _ _ v_ rv_ h_ => hK3 _ _ _ v_ (RM_tr rr7 rv_) h_) (fun v_ rv_ h_ => hp v_ (RM_tr rr7 rv_) h_) hh13
    · have hh14 := hh5.2 cc9
      refine ⟨hh14.1, ?_⟩
      have hh15 := hh14.2
      intro y6 ee16
      have hh17 := hh15 y6 ee16
      intro y7 ee18
      have hh19 := hh17 y7 ee18
      exact f_wj_X9_give_47 (fun _ _ _ v_ rv_ h_ => hK3 _ _ _ v_ (RM_tr rr7 rv_) h_) (fun v_ rv_ h_ => hp v_ (RM_tr rr7 rv_) h_) hh19
theorem f_wp_X9_give {x1 : Int32} {x2 : Int32} {x3 : Int32} {u : mS} {post post_ : mS → Prop} (hp : ∀ (b0_ : mS), RM u b0_ → post b0_ → post_ b0_) (h : wp_X9_give x1 x2 x3 u post) : wp_X9_give x1 x2 x3 u post_ := by
  obtain ⟨nn1, hh2⟩ := h
  refine ⟨nn1, mL4_mo RM RM_rf ?_ nn1 _ _ _ _ (RM_rf _) hh2⟩
  intro K_ K2_ z_ hz_ hK_ _ _ _ h_
  exact f_wj_X9_give_3 (fun _ _ _ v_ rv_ h_ => hK_ _ _ _ v_ (RM_tr hz_ rv_) h_) (fun v_ rv_ h_ => hp v_ (RM_tr (RM_rf u) (RM_tr hz_ rv_)) h_) h_
theorem f_wj_X9_local_140 {post post_ : mS → Prop} {u : mS} (hp : ∀ (b0_ : mS), RM u b0_ → post b0_ → post_ b0_) (h : wj_X9_local_140 post u) : wj_X9_local_140 post_ u := by
  refine f_wp_X9_fails (fun u58 rr2 hh1 => ?_) h
  have rr3 : RM u u58 := RM_tr (RM_rf u) rr2
  exact hp _ rr3 hh1
theorem f_wj_X9_local_123 {post post_ : mS → Prop} {x1 : Int32} {x2 : Int32} {x3 : Int32} {x4 : Int32} {x5 : Int32} {z0 : Int32} {u : mS} (hp : ∀ (b0_ : mS), RM u b0_ → post b0_ → post_ b0_) (h : wj_X9_local_123 post x1 x2 x3 x4 x5 z0 u) : wj_X9_local_123 post_ x1 x2 x3 x4 x5 z0 u := by
  refine ⟨fun cc1 => ?_, fun cc2 => ?_⟩
  · have hh3 := h.1 cc1
    exact f_wj_X9_local_140 (fun v_ rv_ h_ => hp v_ (RM_tr (RM_rf u) rv_) h_) hh3
  · have hh4 := h.2 cc2
    refine f_wp_X9_areRules (fun r30 u31 rr6 hh5 => ?_) hh4
    have rr7 : RM u u31 := RM_tr (RM_rf u) rr6
    refine ⟨fun cc8 => ?_, fun cc9 => ?_⟩
    · have hh10 := hh5.1 cc8
      refine f_wp_X9_scope (fun r33 u34 rr12 hh11 => ?_) hh10
      have rr13 : RM u u34 := RM_tr rr7 rr12
      intro y35 ee14
      have hh15 := hh11 y35 ee14
      refine ⟨fun cc16 => ?_, fun cc17 => ?_⟩
      · have hh18 := hh15.1 cc16
        intro y37 ee19
        have hh20 := hh18 y37 ee19
        intro y38 ee21
        have hh22 := hh20 y38 ee21
        refine f_wp_X9_give (fun u40 rr24 hh23 => ?_) hh22
        have rr25 : RM u u40 := RM_tr rr13 rr24
        refine f_wp_X9_give (fun u42 rr27 hh26 => ?_) hh23
        have rr28 : RM u u42 := RM_tr rr25 rr27
        intro y43 ee29
        have hh30 := hh26 y43 ee29
        refine f_wp_X9_what_2 (fun r44 u45 rr32 hh31 => ?_) hh30
        have rr33 : RM u u45 := RM_tr rr28 rr32
        intro y46 ee34
        have hh35 := hh31 y46 ee34
        refine ⟨hh35.1, ?_⟩
        have hh36 := hh35.2
        intro y47 ee37
        have hh38 := hh36 y47 ee37
        refine f_wp_X9_bind (fun u49 rr40 hh39 => ?_) hh38
        have rr41 : RM u u49 := RM_tr rr33 rr40
        intro u50 ee42
        have hh43 := hh39 u50 ee42
        have rr44 : RM u u50 := by rw [ee42]; exact RM_set rr41 (by decide)
        intro y51 ee45
        have hh46 := hh43 y51 ee45
        refine ⟨hh46.1, ?_⟩
        have hh47 := hh46.2
        intro u52 ee48
        have hh49 := hh47 u52 ee48
        have rr50 : RM u u52 := by rw [ee48]; exact RM_put rr44 (by decide)
        intro y53 ee51
        have hh52 := hh49 y53 ee51
        intro y54 ee53
        have hh54 := hh52 y54 ee53
        intro u55 ee55
        have hh56 := hh54 u55 ee55
        have rr57 : RM u u55 := by rw [ee55]; exact RM_set rr50 (by decide)
        intro u56 ee58
        have hh59 := hh56 u56 ee58
        have rr60 : RM u u56 := by rw [ee58]; exact RM_set rr57 (by decide)
        exact hp _ rr60 hh59
      · have hh61 := hh15.2 cc17
        exact hp _ rr13 hh61
    · have hh62 := hh5.2 cc9
      exact f_wj_X9_local_140 (fun v_ rv_ h_ => hp v_ (RM_tr rr7 rv_) h_) hh62
theorem f_wj_X9_local_93 {post post_ : mS → Prop} {x1 : Int32} {x2 : Int32} {x3 : Int32} {z0 : Int32} {u : mS} (hp : ∀ (b0_ : mS), RM u b0_ → post b0_ → post_ b0_) (h : wj_X9_local_93 post x1 x2 x3 z0 u) : wj_X9_local_93 post_ x1 x2 x3 z0 u := by
  intro y23 ee1
  have hh2 := h y23 ee1
  refine ⟨fun cc3 => ?_, fun cc4 => ?_⟩
  · have hh5 := hh2.1 cc3
    exact f_wj_X9_local_123 (fun v_ rv_ h_ => hp v_ (RM_tr (RM_rf u) rv_) h_) hh5
  · have hh6 := hh2.2 cc4
    intro y25 ee7
    have hh8 := hh6 y25 ee7
    intro y26 ee9
    have hh10 := hh8 y26 ee9
    refine f_wp_X9_keep (fun r27 u28 rr12 hh11 => ?_) hh10
    have rr13 : RM u u28 := RM_tr (RM_rf u) rr12
    exact f_wj_X9_local_123 (fun v_ rv_ h_ => hp v_ (RM_tr rr13 rv_) h_) hh11
theorem f_wj_X9_local_76 {post post_ : mS → Prop} {x1 : Int32} {x2 : Int32} {z0 : Int32} {u : mS} (hp : ∀ (b0_ : mS), RM u b0_ → post b0_ → post_ b0_) (h : wj_X9_local_76 post x1 x2 z0 u) : wj_X9_local_76 post_ x1 x2 z0 u := by
  refine ⟨fun cc1 => ?_, fun cc2 => ?_⟩
  · have hh3 := h.1 cc1
    exact f_wj_X9_local_93 (fun v_ rv_ h_ => hp v_ (RM_tr (RM_rf u) rv_) h_) hh3
  · have hh4 := h.2 cc2
    refine f_wp_X9_end_2 (fun r21 u22 rr6 hh5 => ?_) hh4
    have rr7 : RM u u22 := RM_tr (RM_rf u) rr6
    exact f_wj_X9_local_93 (fun v_ rv_ h_ => hp v_ (RM_tr rr7 rv_) h_) hh5
theorem f_wj_X9_local_75 {post post_ : mS → Prop} {x1 : Int32} {x2 : Int32} {u : mS} (hp : ∀ (b0_ : mS), RM u b0_ → post b0_ → post_ b0_) (h : wj_X9_local_75 post x1 x2 u) : wj_X9_local_75 post_ x1 x2 u := by
  exact f_wj_X9_local_76 (fun v_ rv_ h_ => hp v_ (RM_tr (RM_rf u) rv_) h_) h
theorem f_wp_X9_local {u : mS} {post post_ : mS → Prop} (hp : ∀ (b0_ : mS), RM u b0_ → post b0_ → post_ b0_) (h : wp_X9_local u post) : wp_X9_local u post_ := by
  intro y1 ee1
  have hh2 := h y1 ee1
  refine f_wp_X9_end_2 (fun r2 u3 rr4 hh3 => ?_) hh2
  have rr5 : RM u u3 := RM_tr (RM_rf u) rr4
  intro y4 ee6
  have hh7 := hh3 y4 ee6
  intro y5 ee8
  have hh9 := hh7 y5 ee8
  intro y6 ee10
  have hh11 := hh9 y6 ee10
  refine f_wp_X9_isPlain_2 (fun r7 u8 rr13 hh12 => ?_) hh11
  have rr14 : RM u u8 := RM_tr rr5 rr13
  refine ⟨fun cc15 => ?_, fun cc16 => ?_⟩
  · have hh17 := hh12.1 cc15
    exact f_wj_X9_local_75 (fun v_ rv_ h_ => hp v_ (RM_tr rr14 rv_) h_) hh17
  · have hh18 := hh12.2 cc16
    refine f_wp_X9_kind_2 (fun r10 u11 rr20 hh19 => ?_) hh18
    have rr21 : RM u u11 := RM_tr rr14 rr20
    refine ⟨fun cc22 => ?_, fun cc23 => ?_⟩
    · have hh24 := hh19.1 cc22
      exact f_wj_X9_local_75 (fun v_ rv_ h_ => hp v_ (RM_tr rr21 rv_) h_) hh24
    · have hh25 := hh19.2 cc23
      intro y13 ee26
      have hh27 := hh25 y13 ee26
      refine f_wp_X9_kind_2 (fun r14 u15 rr29 hh28 => ?_) hh27
      have rr30 : RM u u15 := RM_tr rr21 rr29
      refine ⟨fun cc31 => ?_, fun cc32 => ?_⟩
      · have hh33 := hh28.1 cc31
        exact f_wj_X9_local_75 (fun v_ rv_ h_ => hp v_ (RM_tr rr30 rv_) h_) hh33
      · have hh34 := hh28.2 cc32
        refine f_wp_X9_dots_2 (fun r17 u18 rr36 hh35 => ?_) hh34
        have rr37 : RM u u18 := RM_tr rr30 rr36
        refine ⟨fun cc38 => ?_, fun cc39 => ?_⟩
        · have hh40 := hh35.1 cc38
          exact f_wj_X9_local_75 (fun v_ rv_ h_ => hp v_ (RM_tr rr37 rv_) h_) hh40
        · have hh41 := hh35.2 cc39
          exact f_wj_X9_local_76 (fun v_ rv_ h_ => hp v_ (RM_tr rr37 rv_) h_) hh41
theorem f_wj_X9_function_106 {K75 K75_ : Int32 → Int32 → Int32 → Int32 → Int32 → mS → Prop} {post post_ : mS → Prop} {x1 : Int32} {x2 : Int32} {x4 : Int32} {x5 : Int32} {z0 : Int32} {u : mS} (hK75 : ∀ (b0_ : Int32) (b1_ : Int32) (b2_ : Int32) (b3_ : Int32) (b4_ : Int32) (b5_ : mS), RM u b5_ → K75 b0_ b1_ b2_ b3_ b4_ b5_ → K75_ b0_ b1_ b2_ b3_ b4_ b5_) (hp : ∀ (b0_ : mS), RM u b0_ → post b0_ → post_ b0_) (h : wj_X9_function_106 K75 post x1 x2 x4 x5 z0 u) : wj_X9_function_106 K75_ post_ x1 x2 x4 x5 z0 u := by
  intro y34 ee1
  have hh2 := h y34 ee1
  exact hK75 _ _ _ _ _ _ (RM_rf u) hh2
theorem f_wj_X9_function_105 {K75 K75_ : Int32 → Int32 → Int32 → Int32 → Int32 → mS → Prop} {post post_ : mS → Prop} {x1 : Int32} {x2 : Int32} {x4 : Int32} {x5 : Int32} {u : mS} (hK75 : ∀ (b0_ : Int32) (b1_ : Int32) (b2_ : Int32) (b3_ : Int32) (b4_ : Int32) (b5_ : mS), RM u b5_ → K75 b0_ b1_ b2_ b3_ b4_ b5_ → K75_ b0_ b1_ b2_ b3_ b4_ b5_) (hp : ∀ (b0_ : mS), RM u b0_ → post b0_ → post_ b0_) (h : wj_X9_function_105 K75 post x1 x2 x4 x5 u) : wj_X9_function_105 K75_ post_ x1 x2 x4 x5 u := by
  exact f_wj_X9_function_106 (fun _ _ _ _ _ v_ rv_ h_ => hK75 _ _ _ _ _ v_ (RM_tr (RM_rf u) rv_) h_) (fun v_ rv_ h_ => hp v_ (RM_tr (RM_rf u) rv_) h_) h
theorem f_wj_X9_function_223 {K156 K156_ : Int32 → Int32 → Int32 → Int32 → mS → Prop} {K177 K177_ : Int32 → Int32 → Int32 → Int32 → Int32 → mS → Prop} {post post_ : mS → Prop} {x2 : Int32} {x4 : Int32} {x6 : Int32} {x7 : Int32} {x8 : Int32} {u : mS} (hK156 : ∀ (b0_ : Int32) (b1_ : Int32) (b2_ : Int32) (b3_ : Int32) (b4_ : mS), RM u b4_ → K156 b0_ b1_ b2_ b3_ b4_ → K156_ b0_ b1_ b2_ b3_ b4_) (hK177 : ∀ (b0_ : Int32) (b1_ : Int32) (b2_ : Int32) (b3_ : Int32) (b4_ : Int32) (b5_ : mS), RM u b5_ → K177 b0_ b1_ b2_ b3_ b4_ b5_ → K177_ b0_ b1_ b2_ b3_ b4_ b5_) (hp : ∀ (b0_ : mS), RM u b0_ → post b0_ → post_ b0_) (h : wj_X9_function_223 K156 K177 post x2 x4 x6 x7 x8 u) : wj_X9_function_223 K156_ K177_ post_ x2 x4 x6 x7 x8 u := by
  intro y57 ee1
  have hh2 := h y57 ee1
  exact hK177 _ _ _ _ _ _ (RM_rf u) hh2
theorem f_wj_X9_function_283 {K156 K156_ : Int32 → Int32 → Int32 → Int32 → mS → Prop} {post post_ : mS → Prop} {x2 : Int32} {x4 : Int32} {x6 : Int32} {x7 : Int32} {z0 : Int32} {u : mS} (hK156 : ∀ (b0_ : Int32) (b1_ : Int32) (b2_ : Int32) (b3_ : Int32) (b4_ : mS), RM u b4_ → K156 b0_ b1_ b2_ b3_ b4_ → K156_ b0_ b1_ b2_ b3_ b4_) (hp : ∀ (b0_ : mS), RM u b0_ → post b0_ → post_ b0_) (h : wj_X9_function_283 K156 post x2 x4 x6 x7 z0 u) : wj_X9_function_283 K156_ post_ x2 x4 x6 x7 z0 u := by
  intro u63 ee1
  have hh2 := h u63 ee1
  have rr3 : RM u u63 := by rw [ee1]; exact RM_set (RM_rf u) (by decide)
  intro y64 ee4
  have hh5 := hh2 y64 ee4
  exact hK156 _ _ _ _ _ rr3 hh5
theorem f_wj_X9_function_262 {K156 K156_ : Int32 → Int32 → Int32 → Int32 → mS → Prop} {post post_ : mS → Prop} {x2 : Int32} {x4 : Int32} {x6 : Int32} {x7 : Int32} {u : mS} (hK156 : ∀ (b0_ : Int32) (b1_ : Int32) (b2_ : Int32) (b3_ : Int32) (b4_ : mS), RM u b4_ → K156 b0_ b1_ b2_ b3_ b4_ → K156_ b0_ b1_ b2_ b3_ b4_) (hp : ∀ (b0_ : mS), RM u b0_ → post b0_ → post_ b0_) (h : wj_X9_function_262 K156 post x2 x4 x6 x7 u) : wj_X9_function_262 K156_ post_ x2 x4 x6 x7 u := by
  intro y58 ee1
  have hh2 := h y58 ee1
  refine ⟨fun cc3 => ?_, fun cc4 => ?_⟩
  · have hh5 := hh2.1 cc3
    intro y60 ee6
    have hh7 := hh5 y60 ee6
    exact f_wj_X9_function_283 (fun _ _ _ _ v_ rv_ h_ => hK156 _ _ _ _ v_ (RM_tr (RM_rf u) rv_) h_) (fun v_ rv_ h_ => hp v_ (RM_tr (RM_rf u) rv_) h_) hh7
  · have hh8 := hh2.2 cc4
    intro y61 ee9
    have hh10 := hh8 y61 ee9
    intro y62 ee11
    have hh12 := hh10 y62 ee11
    exact f_wj_X9_function_283 (fun _ _ _ _ v_ rv_ h_ => hK156 _ _ _ _ v_ (RM_tr (RM_rf u) rv_) h_) (fun v_ rv_ h_ => hp v_ (RM_tr (RM_rf u) rv_) h_) hh12
theorem f_wj_X9_function_177 {K177 K177_ : Int32 → Int32 → Int32 → Int32 → Int32 → mS → Prop} {K156 K156_ : Int32 → Int32 → Int32 → Int32 → mS → Prop} {post post_ : mS → Prop} {x2 : Int32} {x4 : Int32} {x6 : Int32} {x7 : Int32} {x8 : Int32} {u : mS} (hK177 : ∀ (b0_ : Int32) (b1_ : Int32) (b2_ : Int32) (b3_ : Int32) (b4_ : Int32) (b5_ : mS), RM u b5_ → K177 b0_ b1_ b2_ b3_ b4_ b5_ → K177_ b0_ b1_ b2_ b3_ b4_ b5_) (hK156 : ∀ (b0_ : Int32) (b1_ : Int32) (b2_ : Int32) (b3_ : Int32) (b4_ : mS), RM u b4_ → K156 b0_ b1_ b2_ b3_ b4_ → K156_ b0_ b1_ b2_ b3_ b4_) (hp : ∀ (b0_ : mS), RM u b0_ → post b0_ → post_ b0_) (h : wj_X9_function_177 K177 K156 post x2 x4 x6 x7 x8 u) : wj_X9_function_177 K177_ K156_ post_ x2 x4 x6 x7 x8 u := by
  refine ⟨fun cc1 => ?_, fun cc2 => ?_⟩
  · have hh3 := h.1 cc1
    intro y41 ee4
    have hh5 := hh3 y41 ee4
    refine ⟨fun cc6 => ?_, fun cc7 => ?_⟩
    · have hh8 := hh5.1 cc6
      exact f_wj_X9_function_262 (fun _ _ _ _ v_ rv_ h_ => hK156 _ _ _ _ v_ (RM_tr (RM_rf u) rv_) h_) (fun v_ rv_ h_ => hp v_ (RM_tr (RM_rf u) rv_) h_) hh8
    · have hh9 := hh5.2 cc7
      refine f_wp_X9_what_2 (fun r43 u44 rr11 hh10 => ?_) hh9
      have rr12 : RM u u44 := RM_tr (RM_rf u) rr11
      refine ⟨hh10.1, ?_⟩
      have hh13 := hh10.2
      intro y45 ee14
      have hh15 := hh13 y45 ee14
      intro y46 ee16
      have hh17 := hh15 y46 ee16
      refine f_wp_X9_bind (fun u48 rr19 hh18 => ?_) hh17
      have rr20 : RM u u48 := RM_tr rr12 rr19
      exact f_wj_X9_function_262 (fun _ _ _ _ v_ rv_ h_ => hK156 _ _ _ _ v_ (RM_tr rr20 rv_) h_) (fun v_ rv_ h_ => hp v_ (RM_tr rr20 rv_) h_) hh18
  · have hh21 := h.2 cc2
    refine ⟨hh21.1, ?_⟩
    have hh22 := hh21.2
    intro y49 ee23
    have hh24 := hh22 y49 ee23
    refine ⟨hh24.1, ?_⟩
    have hh25 := hh24.2
    intro y50 ee26
    have hh27 := hh25 y50 ee26
    refine ⟨fun cc28 => ?_, fun cc29 => ?_⟩
    · have hh30 := hh27.1 cc28
      exact f_wj_X9_function_223 (fun _ _ _ _ v_ rv_ h_ => hK156 _ _ _ _ v_ (RM_tr (RM_rf u) rv_) h_) (fun _ _ _ _ _ v_ rv_ h_ => hK177 _ _ _ _ _ v_ (RM_tr (RM_rf u) rv_) h_) (fun v_ rv_ h_ => hp v_ (RM_tr (RM_rf u) rv_) h_) hh30
    · have hh31 := hh27.2 cc29
      refine ⟨hh31.1, ?_⟩
      have hh32 := hh31.2
      intro y52 ee33
      have hh34 := hh32 y52 ee33
      refine ⟨hh34.1, ?_⟩
      have hh35 := hh34.2
      intro y53 ee36
      have hh37 := hh35 y53 ee36
      refine ⟨fun cc38 => ?_, fun cc39 => ?_⟩
      · have hh40 := hh37.1 cc38
        exact f_wj_X9_function_223 (fun _ _ _ _ v_ rv_ h_ => hK156 _ _ _ _ v_ (RM_tr (RM_rf u) rv_) h_) (fun _ _ _ _ _ v_ rv_ h_ => hK177 _ _ _ _ _ v_ (RM_tr (RM_rf u) rv_) h_) (fun v_ rv_ h_ => hp v_ (RM_tr (RM_rf u) rv_) h_) hh40
      · have hh41 := hh37.2 cc39
        refine f_wp_X9_fails (fun u56 rr43 hh42 => ?_) hh41
        have rr44 : RM u u56 := RM_tr (RM_rf u) rr43
        exact f_wj_X9_function_223 (fun _ _ _ _ v_ rv_ h_ => hK156 _ _ _ _ v_ (RM_tr rr44 rv_) h_) (fun _ _ _ _ _ v_ rv_ h_ => hK177 _ _ _ _ _ v_ (RM_tr rr44 rv_) h_) (fun v_ rv_ h_ => hp v_ (RM_tr rr44 rv_) h_) hh42
theorem f_wj_X9_function_333 {K333 K333_ : Int32 → Int32 → mS → Prop} {post post_ : mS → Prop} {x4 : Int32} {x7 : Int32} {u : mS} (hK333 : ∀ (b0_ : Int32) (b1_ : Int32) (b2_ : mS), RM u b2_ → K333 b0_ b1_ b2_ → K333_ b0_ b1_ b2_) (hp : ∀ (b0_ : mS), RM u b0_ → post b0_ → post_ b0_) (h : wj_X9_function_333 K333 post x4 x7 u) : wj_X9_function_333 K333_ post_ x4 x7 u := by
  intro y79 ee1
  have hh2 := h y79 ee1
  refine ⟨fun cc3 => ?_, fun cc4 => ?_⟩
  · have hh5 := hh2.1 cc3
    refine f_wp_X9_putClose (fun u82 rr7 hh6 => ?_) hh5
    have rr8 : RM u u82 := RM_tr (RM_rf u) rr7
    intro y83 ee9
    have hh10 := hh6 y83 ee9
    intro y84 ee11
    have hh12 := hh10 y84 ee11
    intro u85 ee13
    have hh14 := hh12 u85 ee13
    have rr15 : RM u u85 := by rw [ee13]; exact RM_set rr8 (by decide)
    intro u86 ee16
    have hh17 := hh14 u86 ee16
    have rr18 : RM u u86 := by rw [ee16]; exact RM_set rr15 (by decide)
    exact hp _ rr18 hh17
  · have hh19 := hh2.2 cc4
    refine f_wp_X9_putVariable (fun u88 rr21 hh20 => ?_) hh19
    have rr22 : RM u u88 := RM_tr (RM_rf u) rr21
    intro y89 ee23
    have hh24 := hh20 y89 ee23
    exact hK333 _ _ _ rr22 hh24
theorem f_wj_X9_function_292 {post post_ : mS → Prop} {x4 : Int32} {x6 : Int32} {u : mS} (hp : ∀ (b0_ : mS), RM u b0_ → post b0_ → post_ b0_) (h : wj_X9_function_292 post x4 x6 u) : wj_X9_function_292 post_ x4 x6 u := by
  intro y65 ee1
  have hh2 := h y65 ee1
  refine ⟨fun cc3 => ?_, fun cc4 => ?_⟩
  · have hh5 := hh2.1 cc3
    refine f_wp_X9_putOpen (fun u68 rr7 hh6 => ?_) hh5
    have rr8 : RM u u68 := RM_tr (RM_rf u) rr7
    refine f_wp_X9_space (fun u70 rr10 hh9 => ?_) hh6
    have rr11 : RM u u70 := RM_tr rr8 rr10
    intro y71 ee12
    have hh13 := hh9 y71 ee12
    intro y72 ee14
    have hh15 := hh13 y72 ee14
    refine f_wp_X9_what_2 (fun r73 u74 rr17 hh16 => ?_) hh15
    have rr18 : RM u u74 := RM_tr rr11 rr17
    refine f_wp_X9_putName (fun u76 rr20 hh19 => ?_) hh16
    have rr21 : RM u u76 := RM_tr rr18 rr20
    refine f_wp_X9_putOpen (fun u78 rr23 hh22 => ?_) hh19
    have rr24 : RM u u78 := RM_tr rr21 rr23
    obtain ⟨nn25, hh26⟩ := hh22
    refine ⟨nn25, mL3_mo RM RM_rf ?_ nn25 _ _ _ (RM_rf _) hh26⟩
    intro K_ K2_ z_ hz_ hK_ _ _ h_
    exact f_wj_X9_function_333 (fun _ _ v_ rv_ h_ => hK_ _ _ v_ (RM_tr hz_ rv_) h_) (fun v_ rv_ h_ => hp v_ (RM_tr rr24 (RM_tr hz_ rv_)) h_) h_
  · have hh27 := hh2.2 cc4
    exact hp _ (RM_rf u) hh27
theorem f_wj_X9_function_156 {K156 K156_ : Int32 → Int32 → Int32 → Int32 → mS → Prop} {post post_ : mS → Prop} {x2 : Int32} {x4 : Int32} {x6 : Int32} {x7 : Int32} {u : mS} (hK156 : ∀ (b0_ : Int32) (b1_ : Int32) (b2_ : Int32) (b3_ : Int32) (b4_ : mS), RM u b4_ → K156 b0_ b1_ b2_ b3_ b4_ → K156_ b0_ b1_ b2_ b3_ b4_) (hp : ∀ (b0_ : mS), RM u b0_ → post b0_ → post_ b0_) (h : wj_X9_function_156 K156 post x2 x4 x6 x7 u) : wj_X9_function_156 K156_ post_ x2 x4 x6 x7 u := by
  intro y35 ee1
  have hh2 := h y35 ee1
  refine ⟨fun cc3 => ?_, fun cc4 => ?_⟩
  · have hh5 := hh2.1 cc3
    exact f_wj_X9_function_292 (fun v_ rv_ h_ => hp v_ (RM_tr (RM_rf u) rv_) h_) hh5
  · have hh6 := hh2.2 cc4
    intro y37 ee7
    have hh8 := hh6 y37 ee7
    refine ⟨fun cc9 => ?_, fun cc10 => ?_⟩
    · have hh11 := hh8.1 cc9
      exact f_wj_X9_function_292 (fun v_ rv_ h_ => hp v_ (RM_tr (RM_rf u) rv_) h_) hh11
    · have hh12 := hh8.2 cc10
      intro y39 ee13
      have hh14 := hh12 y39 ee13
      obtain ⟨nn15, hh16⟩ := hh14
      refine ⟨nn15, mL6_mo RM RM_rf ?_ nn15 _ _ _ _ _ _ (RM_rf _) hh16⟩
      intro K_ K2_ z_ hz_ hK_ _ _ _ _ _ h_
      exact f_wj_X9_function_177 (fun _ _ _ _ _ v_ rv_ h_ => hK_ _ _ _ _ _ v_ (RM_tr hz_ rv_) h_) (fun _ _ _ _ v_ rv_ h_ => hK156 _ _ _ _ v_ (RM_tr (RM_rf u) (RM_tr hz_ rv_)) h_) (fun v_ rv_ h_ => hp v_ (RM_tr (RM_rf u) (RM_tr hz_ rv_)) h_) h_
theorem f_wj_X9_function_75 {K75 K75_ : Int32 → Int32 → Int32 → Int32 → Int32 → mS → Prop} {post post_ : mS → Prop} {x1 : Int32} {x2 : Int32} {x3 : Int32} {x4 : Int32} {x5 : Int32} {u : mS} (hK75 : ∀ (b0_ : Int32) (b1_ : Int32) (b2_ : Int32) (b3_ : Int32) (b4_ : Int32) (b5_ : mS), RM u b5_ → K75 b0_ b1_ b2_ b3_ b4_ b5_ → K75_ b0_ b1_ b2_ b3_ b4_ b5_) (hp : ∀ (b0_ : mS), RM u b0_ → post b0_ → post_ b0_) (h : wj_X9_function_75 K75 post x1 x2 x3 x4 x5 u) : wj_X9_function_75 K75_ post_ x1 x2 x3 x4 x5 u := by
  intro y17 ee1
  have hh2 := h y17 ee1
  refine ⟨fun cc3 => ?_, fun cc4 => ?_⟩
  · have hh5 := hh2.1 cc3
    refine ⟨fun cc6 => ?_, fun cc7 => ?_⟩
    · have hh8 := hh5.1 cc6
      refine f_wp_X9_scope (fun r20 u21 rr10 hh9 => ?_) hh8
      have rr11 : RM u u21 := RM_tr (RM_rf u) rr10
      intro y22 ee12
      have hh13 := hh9 y22 ee12
      refine ⟨fun cc14 => ?_, fun cc15 => ?_⟩
      · have hh16 := hh13.1 cc14
        refine f_wp_X9_give (fun u25 rr18 hh17 => ?_) hh16
        have rr19 : RM u u25 := RM_tr rr11 rr18
        intro y26 ee20
        have hh21 := hh17 y26 ee20
        intro y27 ee22
        have hh23 := hh21 y27 ee22
        obtain ⟨nn24, hh25⟩ := hh23
        refine ⟨nn24, mL5_mo RM RM_rf ?_ nn24 _ _ _ _ _ (RM_rf _) hh25⟩
        intro K_ K2_ z_ hz_ hK_ _ _ _ _ h_
        exact f_wj_X9_function_156 (fun _ _ _ _ v_ rv_ h_ => hK_ _ _ _ _ v_ (RM_tr hz_ rv_) h_) (fun v_ rv_ h_ => hp v_ (RM_tr rr19 (RM_tr hz_ rv_)) h_) h_
      · have hh26 := hh13.2 cc15
        exact hp _ rr11 hh26
    · have hh27 := hh5.2 cc7
      refine f_wp_X9_fails (fun u29 rr29 hh28 => ?_) hh27
      have rr30 : RM u u29 := RM_tr (RM_rf u) rr29
      exact hp _ rr30 hh28
  · have hh31 := hh2.2 cc4
    refine ⟨fun cc32 => ?_, fun cc33 => ?_⟩
    · have hh34 := hh31.1 cc32
      exact f_wj_X9_function_105 (fun _ _ _ _ _ v_ rv_ h_ => hK75 _ _ _ _ _ v_ (RM_tr (RM_rf u) rv_) h_) (fun v_ rv_ h_ => hp v_ (RM_tr (RM_rf u) rv_) h_) hh34
    · have hh35 := hh31.2 cc33
      refine f_wp_X9_kind_2 (fun r31 u32 rr37 hh36 => ?_) hh35
      have rr38 : RM u u32 := RM_tr (RM_rf u) rr37
      refine ⟨fun cc39 => ?_, fun cc40 => ?_⟩
      · have hh41 := hh36.1 cc39
        exact f_wj_X9_function_105 (fun _ _ _ _ _ v_ rv_ h_ => hK75 _ _ _ _ _ v_ (RM_tr rr38 rv_) h_) (fun v_ rv_ h_ => hp v_ (RM_tr rr38 rv_) h_) hh41
      · have hh42 := hh36.2 cc40
        exact f_wj_X9_function_106 (fun _ _ _ _ _ v_ rv_ h_ => hK75 _ _ _ _ _ v_ (RM_tr rr38 rv_) h_) (fun v_ rv_ h_ => hp v_ (RM_tr rr38 rv_) h_) hh42
theorem f_wj_X9_function_68 {post post_ : mS → Prop} {x1 : Int32} {x2 : Int32} {x3 : Int32} {z0 : Int32} {u : mS} (hp : ∀ (b0_ : mS), RM u b0_ → post b0_ → post_ b0_) (h : wj_X9_function_68 post x1 x2 x3 z0 u) : wj_X9_function_68 post_ x1 x2 x3 z0 u := by
  intro y16 ee1
  have hh2 := h y16 ee1
  obtain ⟨nn3, hh4⟩ := hh2
  refine ⟨nn3, mL6_mo RM RM_rf ?_ nn3 _ _ _ _ _ _ (RM_rf _) hh4⟩
  intro K_ K2_ z_ hz_ hK_ _ _ _ _ _ h_
  exact f_wj_X9_function_75 (fun _ _ _ _ _ v_ rv_ h_ => hK_ _ _ _ _ _ v_ (RM_tr hz_ rv_) h_) (fun v_ rv_ h_ => hp v_ (RM_tr (RM_rf u) (RM_tr hz_ rv_)) h_) h_
theorem f_wj_X9_function_51 {post post_ : mS → Prop} {x1 : Int32} {x2 : Int32} {z0 : Int32} {u : mS} (hp : ∀ (b0_ : mS), RM u b0_ → post b0_ → post_ b0_) (h : wj_X9_function_51 post x1 x2 z0 u) : wj_X9_function_51 post_ x1 x2 z0 u := by
  refine ⟨fun cc1 => ?_, fun cc2 => ?_⟩
  · have hh3 := h.1 cc1
    exact f_wj_X9_function_68 (fun v_ rv_ h_ => hp v_ (RM_tr (RM_rf u) rv_) h_) hh3
  · have hh4 := h.2 cc2
    refine f_wp_X9_end_2 (fun r14 u15 rr6 hh5 => ?_) hh4
    have rr7 : RM u u15 := RM_tr (RM_rf u) rr6
    exact f_wj_X9_function_68 (fun v_ rv_ h_ => hp v_ (RM_tr rr7 rv_) h_) hh5
theorem f_wj_X9_function_50 {post post_ : mS → Prop} {x1 : Int32} {x2 : Int32} {u : mS} (hp : ∀ (b0_ : mS), RM u b0_ → post b0_ → post_ b0_) (h : wj_X9_function_50 post x1 x2 u) : wj_X9_function_50 post_ x1 x2 u := by
  exact f_wj_X9_function_51 (fun v_ rv_ h_ => hp v_ (RM_tr (RM_rf u) rv_) h_) h
theorem f_wp_X9_function {u : mS} {post post_ : mS → Prop} (hp : ∀ (b0_ : mS), RM u b0_ → post b0_ → post_ b0_) (h : wp_X9_function u post) : wp_X9_function u post_ := by
  intro y1 ee1
  have hh2 := h y1 ee1
  refine f_wp_X9_end_2 (fun r2 u3 rr4 hh3 => ?_) hh2
  have rr5 : RM u u3 := RM_tr (RM_rf u) rr4
  intro y4 ee6
  have hh7 := hh3 y4 ee6
  intro y5 ee8
  have hh9 := hh7 y5 ee8
  intro y6 ee10
  have hh11 := hh9 y6 ee10
  refine f_wp_X9_isPlain_2 (fun r7 u8 rr13 hh12 => ?_) hh11
  have rr14 : RM u u8 := RM_tr rr5 rr13
  refine ⟨fun cc15 => ?_, fun cc16 => ?_⟩
  · have hh17 := hh12.1 cc15
    exact f_wj_X9_function_50 (fun v_ rv_ h_ => hp v_ (RM_tr rr14 rv_) h_) hh17
  · have hh18 := hh12.2 cc16
    refine f_wp_X9_kind_2 (fun r10 u11 rr20 hh19 => ?_) hh18
    have rr21 : RM u u11 := RM_tr rr14 rr20
    refine ⟨fun cc22 => ?_, fun cc23 => ?_⟩
    · have hh24 := hh19.1 cc22
      exact f_wj_X9_function_50 (fun v_ rv_ h_ => hp v_ (RM_tr rr21 rv_) h_) hh24
    · have hh25 := hh19.2 cc23
      exact f_wj_X9_function_51 (fun v_ rv_ h_ => hp v_ (RM_tr rr21 rv_) h_) hh25
theorem f_wj_X9_form_148 {post post_ : mS → Prop} {x2 : Int32} {u : mS} (hp : ∀ (b0_ : mS), RM u b0_ → post b0_ → post_ b0_) (h : wj_X9_form_148 post x2 u) : wj_X9_form_148 post_ x2 u := by
  intro u41 ee1
  have hh2 := h u41 ee1
  have rr3 : RM u u41 := by rw [ee1]; exact RM_set (RM_rf u) (by decide)
  exact hp _ rr3 hh2
theorem f_wj_X9_form_125 {K125 K125_ : Int32 → Int32 → mS → Prop} {post post_ : mS → Prop} {x2 : Int32} {x3 : Int32} {u : mS} (hK125 : ∀ (b0_ : Int32) (b1_ : Int32) (b2_ : mS), RM u b2_ → K125 b0_ b1_ b2_ → K125_ b0_ b1_ b2_) (hp : ∀ (b0_ : mS), RM u b0_ → post b0_ → post_ b0_) (h : wj_X9_form_125 K125 post x2 x3 u) : wj_X9_form_125 K125_ post_ x2 x3 u := by
  refine ⟨fun cc1 => ?_, fun cc2 => ?_⟩
  · have hh3 := h.1 cc1
    exact f_wj_X9_form_148 (fun v_ rv_ h_ => hp v_ (RM_tr (RM_rf u) rv_) h_) hh3
  · have hh4 := h.2 cc2
    intro y36 ee5
    have hh6 := hh4 y36 ee5
    refine ⟨fun cc7 => ?_, fun cc8 => ?_⟩
    · have hh9 := hh6.1 cc7
      exact f_wj_X9_form_148 (fun v_ rv_ h_ => hp v_ (RM_tr (RM_rf u) rv_) h_) hh9
    · have hh10 := hh6.2 cc8
      refine f_wp_X9_putToken (fun u39 rr12 hh11 => ?_) hh10
      have rr13 : RM u u39 := RM_tr (RM_rf u) rr12
      intro y40 ee14
      have hh15 := hh11 y40 ee14
      exact hK125 _ _ _ rr13 hh15
theorem f_wj_X9_form_41 {post post_ : mS → Prop} {x1 : Int32} {z0 : Int32} {z1 : Int32} {u : mS} (hp : ∀ (b0_ : mS), RM u b0_ → post b0_ → post_ b0_) (h : wj_X9_form_41 post x1 z0 z1 u) : wj_X9_form_41 post_ x1 z0 z1 u := by
  refine f_wp_X9_isPlain_2 (fun r9 u10 rr2 hh1 => ?_) h
  have rr3 : RM u u10 := RM_tr (RM_rf u) rr2
  refine ⟨fun cc4 => ?_, fun cc5 => ?_⟩
  · have hh6 := hh1.1 cc4
    refine ⟨fun cc7 => ?_, fun cc8 => ?_⟩
    · have hh9 := hh6.1 cc7
      intro y13 ee10
      have hh11 := hh9 y13 ee10
      refine f_wp_X9_end_2 (fun r14 u15 rr13 hh12 => ?_) hh11
      have rr14 : RM u u15 := RM_tr rr3 rr13
      intro y16 ee15
      have hh16 := hh12 y16 ee15
      obtain ⟨nn17, hh18⟩ := hh16
      refine ⟨nn17, mL3_mo RM RM_rf ?_ nn17 _ _ _ (RM_rf _) hh18⟩
      intro K_ K2_ z_ hz_ hK_ _ _ h_
      exact f_wj_X9_form_125 (fun _ _ v_ rv_ h_ => hK_ _ _ v_ (RM_tr hz_ rv_) h_) (fun v_ rv_ h_ => hp v_ (RM_tr rr14 (RM_tr hz_ rv_)) h_) h_
    · have hh19 := hh6.2 cc8
      refine f_wp_X9_putOpen (fun u18 rr21 hh20 => ?_) hh19
      have rr22 : RM u u18 := RM_tr rr3 rr21
      refine f_wp_X9_space (fun u20 rr24 hh23 => ?_) hh20
      have rr25 : RM u u20 := RM_tr rr22 rr24
      intro y21 ee26
      have hh27 := hh23 y21 ee26
      intro y22 ee28
      have hh29 := hh27 y22 ee28
      refine f_wp_X9_what_2 (fun r23 u24 rr31 hh30 => ?_) hh29
      have rr32 : RM u u24 := RM_tr rr25 rr31
      refine f_wp_X9_putName (fun u26 rr34 hh33 => ?_) hh30
      have rr35 : RM u u26 := RM_tr rr32 rr34
      intro y27 ee36
      have hh37 := hh33 y27 ee36
      intro y28 ee38
      have hh39 := hh37 y28 ee38
      intro u29 ee40
      have hh41 := hh39 u29 ee40
      have rr42 : RM u u29 := by rw [ee40]; exact RM_set rr35 (by decide)
      intro y30 ee43
      have hh44 := hh41 y30 ee43
      intro y31 ee45
      have hh46 := hh44 y31 ee45
      intro u32 ee47
      have hh48 := hh46 u32 ee47
      have rr49 : RM u u32 := by rw [ee47]; exact RM_set rr42 (by decide)
      exact hp _ rr49 hh48
  · have hh50 := hh1.2 cc5
    refine f_wp_X9_fails (fun u34 rr52 hh51 => ?_) hh50
    have rr53 : RM u u34 := RM_tr rr3 rr52
    exact hp _ rr53 hh51
theorem f_wp_X9_form {x1 : Int32} {u : mS} {post post_ : mS → Prop} (hp : ∀ (b0_ : mS), RM u b0_ → post b0_ → post_ b0_) (h : wp_X9_form x1 u post) : wp_X9_form x1 u post_ := by
  refine ⟨fun cc1 => ?_, fun cc2 => ?_⟩
  · have hh3 := h.1 cc1
    refine ⟨fun cc4 => ?_, fun cc5 => ?_⟩
    · have hh6 := hh3.1 cc4
      intro y3 ee7
      have hh8 := hh6 y3 ee7
      refine ⟨fun cc9 => ?_, fun cc10 => ?_⟩
      · have hh11 := hh8.1 cc9
        exact f_wj_X9_form_41 (fun v_ rv_ h_ => hp v_ (RM_tr (RM_rf u) rv_) h_) hh11
      · have hh12 := hh8.2 cc10
        exact f_wj_X9_form_41 (fun v_ rv_ h_ => hp v_ (RM_tr (RM_rf u) rv_) h_) hh12
    · have hh13 := hh3.2 cc5
      refine f_wp_X9_local (fun u6 rr15 hh14 => ?_) hh13
      have rr16 : RM u u6 := RM_tr (RM_rf u) rr15
      exact hp _ rr16 hh14
  · have hh17 := h.2 cc2
    refine f_wp_X9_function (fun u8 rr19 hh18 => ?_) hh17
    have rr20 : RM u u8 := RM_tr (RM_rf u) rr19
    exact hp _ rr20 hh18
theorem f_wj_X9_turn_2_3_37 {K3 K3_ : Int32 → Int32 → Int32 → mS → Prop} {post post_ : mS → Prop} {x4 : Int32} {x5 : Int32} {x6 : Int32} {z0 : Int32} {z1 : Int32} {u : mS} (hK3 : ∀ (b0_ : Int32) (b1_ : Int32) (b2_ : Int32) (b3_ : mS), RM u b3_ → K3 b0_ b1_ b2_ b3_ → K3_ b0_ b1_ b2_ b3_) (hp : ∀ (b0_ : mS), RM u b0_ → post b0_ → post_ b0_) (h : wj_X9_turn_2_3_37 K3 post x4 x5 x6 z0 z1 u) : wj_X9_turn_2_3_37 K3_ post_ x4 x5 x6 z0 z1 u := by
  refine ⟨h.1, ?_⟩
  have hh1 := h.2
  intro u8 ee2
  have hh3 := hh1 u8 ee2
  have rr4 : RM u u8 := by rw [ee2]; exact RM_put (RM_rf u) (by decide)
  intro y9 ee5
  have hh6 := hh3 y9 ee5
  exact hK3 _ _ _ _ rr4 hh6
theorem f_wj_X9_turn_2_3_3 {K3 K3_ : Int32 → Int32 → Int32 → mS → Prop} {post post_ : mS → Prop} {x4 : Int32} {x5 : Int32} {x6 : Int32} {u : mS} (hK3 : ∀ (b0_ : Int32) (b1_ : Int32) (b2_ : Int32) (b3_ : mS), RM u b3_ → K3 b0_ b1_ b2_ b3_ → K3_ b0_ b1_ b2_ b3_) (hp : ∀ (b0_ : mS), RM u b0_ → post b0_ → post_ b0_) (h : wj_X9_turn_2_3_3 K3 post x4 x5 x6 u) : wj_X9_turn_2_3_3 K3_ post_ x4 x5 x6 u := by
  refine ⟨fun cc1 => ?_, fun cc2 => ?_⟩
  · have hh3 := h.1 cc1
    exact hp _ (RM_rf u) hh3
  · have hh4 := h.2 cc2
    refine f_wp_X9_kind_2 (fun r2 u3 rr6 hh5 => ?_) hh4
    have rr7 : RM u u3 := RM_tr (RM_rf u) rr6
    refine ⟨fun cc8 => ?_, fun cc9 => ?_⟩
    · have hh10 := hh5.1 cc8
      refine ⟨hh10.1, ?_⟩
      have hh11 := hh10.2
      intro y5 ee12
      have hh13 := hh11 y5 ee12
      exact f_wj_X9_turn_2_3_37 (fun _ _ _ v_ rv_ h_ => hK3 _ _ _ v_ (RM_tr rr7 rv_) h_) (fun v_ rv_ h_ => hp v_ (RM_tr rr7 rv_) h_) hh13
    · have hh14 := hh5.2 cc9
      refine ⟨hh14.1, ?_⟩
      have hh15 := hh14.2
      intro y6 ee16
      have hh17 := hh15 y6 ee16
      intro y7 ee18
      have hh19 := hh17 y7 ee18
      exact f_wj_X9_turn_2_3_37 (fun _ _ _ v_ rv_ h_ => hK3 _ _ _ v_ (RM_tr rr7 rv_) h_) (fun v_ rv_ h_ => hp v_ (RM_tr rr7 rv_) h_) hh19
theorem f_wp_X9_turn_2_3 {x3 : Int32} {x4 : Int32} {x5 : Int32} {u : mS} {post post_ : mS → Prop} (hp : ∀ (b0_ : mS), RM u b0_ → post b0_ → post_ b0_) (h : wp_X9_turn_2_3 x3 x4 x5 u post) : wp_X9_turn_2_3 x3 x4 x5 u post_ := by
  obtain ⟨nn1, hh2⟩ := h
  refine ⟨nn1, mL4_mo RM RM_rf ?_ nn1 _ _ _ _ (RM_rf _) hh2⟩
  intro K_ K2_ z_ hz_ hK_ _ _ _ h_
  exact f_wj_X9_turn_2_3_3 (fun _ _ _ v_ rv_ h_ => hK_ _ _ _ v_ (RM_tr hz_ rv_) h_) (fun v_ rv_ h_ => hp v_ (RM_tr (RM_rf u) (RM_tr hz_ rv_)) h_) h_
theorem f_wj_X9_pairs_177 {K105 K105_ : Int32 → Int32 → Int32 → Int32 → Int32 → Int32 → Int32 → mS → Prop} {post post_ : Int32 → mS → Prop} {x4 : Int32} {x5 : Int32} {x7 : Int32} {x8 : Int32} {x10 : Int32} {x11 : Int32} {z0 : Int32} {u : mS} (hK105 : ∀ (b0_ : Int32) (b1_ : Int32) (b2_ : Int32) (b3_ : Int32) (b4_ : Int32) (b5_ : Int32) (b6_ : Int32) (b7_ : mS), RM u b7_ → K105 b0_ b1_ b2_ b3_ b4_ b5_ b6_ b7_ → K105_ b0_ b1_ b2_ b3_ b4_ b5_ b6_ b7_) (hp : ∀ (b0_ : Int32) (b1_ : mS), RM u b1_ → post b0_ b1_ → post_ b0_ b1_) (h : wj_X9_pairs_177 K105 post x4 x5 x7 x8 x10 x11 z0 u) : wj_X9_pairs_177 K105_ post_ x4 x5 x7 x8 x10 x11 z0 u := by
  intro y29 ee1
  have hh2 := h y29 ee1
  exact hK105 _ _ _ _ _ _ _ _ (RM_rf u) hh2
theorem f_wj_X9_pairs_143 {K105 K105_ : Int32 → Int32 → Int32 → Int32 → Int32 → Int32 → Int32 → mS → Prop} {post post_ : Int32 → mS → Prop} {x4 : Int32} {x5 : Int32} {x7 : Int32} {x8 : Int32} {x9 : Int32} {x10 : Int32} {x11 : Int32} {u : mS} (hK105 : ∀ (b0_ : Int32) (b1_ : Int32) (b2_ : Int32) (b3_ : Int32) (b4_ : Int32) (b5_ : Int32) (b6_ : Int32) (b7_ : mS), RM u b7_ → K105 b0_ b1_ b2_ b3_ b4_ b5_ b6_ b7_ → K105_ b0_ b1_ b2_ b3_ b4_ b5_ b6_ b7_) (hp : ∀ (b0_ : Int32) (b1_ : mS), RM u b1_ → post b0_ b1_ → post_ b0_ b1_) (h : wj_X9_pairs_143 K105 post x4 x5 x7 x8 x9 x10 x11 u) : wj_X9_pairs_143 K105_ post_ x4 x5 x7 x8 x9 x10 x11 u := by
  refine f_wp_X9_end_2 (fun r23 u24 rr2 hh1 => ?_) h
  have rr3 : RM u u24 := RM_tr (RM_rf u) rr2
  intro y25 ee4
  have hh5 := hh1 y25 ee4
  refine ⟨fun cc6 => ?_, fun cc7 => ?_⟩
  · have hh8 := hh5.1 cc6
    exact f_wj_X9_pairs_177 (fun _ _ _ _ _ _ _ v_ rv_ h_ => hK105 _ _ _ _ _ _ _ v_ (RM_tr rr3 rv_) h_) (fun _ v_ rv_ h_ => hp _ v_ (RM_tr rr3 rv_) h_) hh8
  · have hh9 := hh5.2 cc7
    refine f_wp_X9_end_4 (fun r27 u28 rr11 hh10 => ?_) hh9
    have rr12 : RM u u28 := RM_tr rr3 rr11
    exact f_wj_X9_pairs_177 (fun _ _ _ _ _ _ _ v_ rv_ h_ => hK105 _ _ _ _ _ _ _ v_ (RM_tr rr12 rv_) h_) (fun _ v_ rv_ h_ => hp _ v_ (RM_tr rr12 rv_) h_) hh10
theorem f_wj_X9_pairs_122 {K105 K105_ : Int32 → Int32 → Int32 → Int32 → Int32 → Int32 → Int32 → mS → Prop} {post post_ : Int32 → mS → Prop} {x4 : Int32} {x5 : Int32} {x7 : Int32} {x8 : Int32} {x9 : Int32} {x10 : Int32} {x11 : Int32} {u : mS} (hK105 : ∀ (b0_ : Int32) (b1_ : Int32) (b2_ : Int32) (b3_ : Int32) (b4_ : Int32) (b5_ : Int32) (b6_ : Int32) (b7_ : mS), RM u b7_ → K105 b0_ b1_ b2_ b3_ b4_ b5_ b6_ b7_ → K105_ b0_ b1_ b2_ b3_ b4_ b5_ b6_ b7_) (hp : ∀ (b0_ : Int32) (b1_ : mS), RM u b1_ → post b0_ b1_ → post_ b0_ b1_) (h : wj_X9_pairs_122 K105 post x4 x5 x7 x8 x9 x10 x11 u) : wj_X9_pairs_122 K105_ post_ x4 x5 x7 x8 x9 x10 x11 u := by
  refine ⟨h.1, ?_⟩
  have hh1 := h.2
  intro u30 ee2
  have hh3 := hh1 u30 ee2
  have rr4 : RM u u30 := by rw [ee2]; exact RM_put (RM_rf u) (by decide)
  refine ⟨hh3.1, ?_⟩
  have hh5 := hh3.2
  intro u31 ee6
  have hh7 := hh5 u31 ee6
  have rr8 : RM u u31 := by rw [ee6]; exact RM_put rr4 (by decide)
  intro y32 ee9
  have hh10 := hh7 y32 ee9
  exact f_wj_X9_pairs_143 (fun _ _ _ _ _ _ _ v_ rv_ h_ => hK105 _ _ _ _ _ _ _ v_ (RM_tr rr8 rv_) h_) (fun _ v_ rv_ h_ => hp _ v_ (RM_tr rr8 rv_) h_) hh10
theorem f_wj_X9_pairs_105 {K105 K105_ : Int32 → Int32 → Int32 → Int32 → Int32 → Int32 → Int32 → mS → Prop} {post post_ : Int32 → mS → Prop} {x4 : Int32} {x5 : Int32} {x7 : Int32} {x8 : Int32} {x9 : Int32} {x10 : Int32} {x11 : Int32} {u : mS} (hK105 : ∀ (b0_ : Int32) (b1_ : Int32) (b2_ : Int32) (b3_ : Int32) (b4_ : Int32) (b5_ : Int32) (b6_ : Int32) (b7_ : mS), RM u b7_ → K105 b0_ b1_ b2_ b3_ b4_ b5_ b6_ b7_ → K105_ b0_ b1_ b2_ b3_ b4_ b5_ b6_ b7_) (hp : ∀ (b0_ : Int32) (b1_ : mS), RM u b1_ → post b0_ b1_ → post_ b0_ b1_) (h : wj_X9_pairs_105 K105 post x4 x5 x7 x8 x9 x10 x11 u) : wj_X9_pairs_105 K105_ post_ x4 x5 x7 x8 x9 x10 x11 u := by
  refine ⟨fun cc1 => ?_, fun cc2 => ?_⟩
  · have hh3 := h.1 cc1
    exact hp _ _ (RM_rf u) hh3
  · have hh4 := h.2 cc2
    refine ⟨fun cc5 => ?_, fun cc6 => ?_⟩
    · have hh7 := hh4.1 cc5
      exact f_wj_X9_pairs_122 (fun _ _ _ _ _ _ _ v_ rv_ h_ => hK105 _ _ _ _ _ _ _ v_ (RM_tr (RM_rf u) rv_) h_) (fun _ v_ rv_ h_ => hp _ v_ (RM_tr (RM_rf u) rv_) h_) hh7
    · have hh8 := hh4.2 cc6
      refine ⟨fun cc9 => ?_, fun cc10 => ?_⟩
      · have hh11 := hh8.1 cc9
        exact f_wj_X9_pairs_143 (fun _ _ _ _ _ _ _ v_ rv_ h_ => hK105 _ _ _ _ _ _ _ v_ (RM_tr (RM_rf u) rv_) h_) (fun _ v_ rv_ h_ => hp _ v_ (RM_tr (RM_rf u) rv_) h_) hh11
      · have hh12 := hh8.2 cc10
        exact f_wj_X9_pairs_122 (fun _ _ _ _ _ _ _ v_ rv_ h_ => hK105 _ _ _ _ _ _ _ v_ (RM_tr (RM_rf u) rv_) h_) (fun _ v_ rv_ h_ => hp _ v_ (RM_tr (RM_rf u) rv_) h_) hh12
theorem f_wj_X9_pairs_89 {post post_ : Int32 → mS → Prop} {x1 : Int32} {x2 : Int32} {x3 : Int32} {x4 : Int32} {x5 : Int32} {x7 : Int32} {u : mS} (hp : ∀ (b0_ : Int32) (b1_ : mS), RM u b1_ → post b0_ b1_ → post_ b0_ b1_) (h : wj_X9_pairs_89 post x1 x2 x3 x4 x5 x7 u) : wj_X9_pairs_89 post_ x1 x2 x3 x4 x5 x7 u := by
  intro y18 ee1
  have hh2 := h y18 ee1
  intro y19 ee3
  have hh4 := hh2 y19 ee3
  obtain ⟨nn5, hh6⟩ := hh4
  refine ⟨nn5, mL8_mo RM RM_rf ?_ nn5 _ _ _ _ _ _ _ _ (RM_rf _) hh6⟩
  intro K_ K2_ z_ hz_ hK_ _ _ _ _ _ _ _ h_
  exact f_wj_X9_pairs_105 (fun _ _ _ _ _ _ _ v_ rv_ h_ => hK_ _ _ _ _ _ _ _ v_ (RM_tr hz_ rv_) h_) (fun _ v_ rv_ h_ => hp _ v_ (RM_tr (RM_rf u) (RM_tr hz_ rv_)) h_) h_
theorem f_wj_X9_pairs_51 {post post_ : Int32 → mS → Prop} {x1 : Int32} {x2 : Int32} {x3 : Int32} {x4 : Int32} {x5 : Int32} {z0 : Int32} {u : mS} (hp : ∀ (b0_ : Int32) (b1_ : mS), RM u b1_ → post b0_ b1_ → post_ b0_ b1_) (h : wj_X9_pairs_51 post x1 x2 x3 x4 x5 z0 u) : wj_X9_pairs_51 post_ x1 x2 x3 x4 x5 z0 u := by
  refine f_wp_X9_count_2 (fun r12 u13 rr2 hh1 => ?_) h
  have rr3 : RM u u13 := RM_tr (RM_rf u) rr2
  refine ⟨fun cc4 => ?_, fun cc5 => ?_⟩
  · have hh6 := hh1.1 cc4
    refine ⟨fun cc7 => ?_, fun cc8 => ?_⟩
    · have hh9 := hh6.1 cc7
      exact f_wj_X9_pairs_89 (fun _ v_ rv_ h_ => hp _ v_ (RM_tr rr3 rv_) h_) hh9
    · have hh10 := hh6.2 cc8
      exact hp _ _ rr3 hh10
  · have hh11 := hh1.2 cc5
    intro y16 ee12
    have hh13 := hh11 y16 ee12
    refine ⟨fun cc14 => ?_, fun cc15 => ?_⟩
    · have hh16 := hh13.1 cc14
      exact f_wj_X9_pairs_89 (fun _ v_ rv_ h_ => hp _ v_ (RM_tr rr3 rv_) h_) hh16
    · have hh17 := hh13.2 cc15
      exact hp _ _ rr3 hh17
theorem f_wp_X9_pairs {x1 : Int32} {x2 : Int32} {x3 : Int32} {x4 : Int32} {u : mS} {post post_ : Int32 → mS → Prop} (hp : ∀ (b0_ : Int32) (b1_ : mS), RM u b1_ → post b0_ b1_ → post_ b0_ b1_) (h : wp_X9_pairs x1 x2 x3 x4 u post) : wp_X9_pairs x1 x2 x3 x4 u post_ := by
  refine f_wp_X9_kind_2 (fun r1 u2 rr2 hh1 => ?_) h
  have rr3 : RM u u2 := RM_tr (RM_rf u) rr2
  refine ⟨fun cc4 => ?_, fun cc5 => ?_⟩
  · have hh6 := hh1.1 cc4
    exact hp _ _ rr3 hh6
  · have hh7 := hh1.2 cc5
    refine f_wp_X9_dots_2 (fun r4 u5 rr9 hh8 => ?_) hh7
    have rr10 : RM u u5 := RM_tr rr3 rr9
    refine ⟨fun cc11 => ?_, fun cc12 => ?_⟩
    · have hh13 := hh8.1 cc11
      refine f_wp_X9_count_4 (fun r7 u8 rr15 hh14 => ?_) hh13
      have rr16 : RM u u8 := RM_tr rr10 rr15
      refine f_wp_X9_dots_4 (fun r9 u10 rr18 hh17 => ?_) hh14
      have rr19 : RM u u10 := RM_tr rr16 rr18
      refine ⟨fun cc20 => ?_, fun cc21 => ?_⟩
      · have hh22 := hh17.1 cc20
        exact f_wj_X9_pairs_51 (fun _ v_ rv_ h_ => hp _ v_ (RM_tr rr19 rv_) h_) hh22
      · have hh23 := hh17.2 cc21
        exact f_wj_X9_pairs_51 (fun _ v_ rv_ h_ => hp _ v_ (RM_tr rr19 rv_) h_) hh23
    · have hh24 := hh8.2 cc12
      exact hp _ _ rr10 hh24
theorem f_wj_X9_matches_89 {K9 K9_ : Int32 → mS → Prop} {post post_ : Int32 → mS → Prop} {x3 : Int32} {u : mS} (hK9 : ∀ (b0_ : Int32) (b1_ : mS), RM u b1_ → K9 b0_ b1_ → K9_ b0_ b1_) (hp : ∀ (b0_ : Int32) (b1_ : mS), RM u b1_ → post b0_ b1_ → post_ b0_ b1_) (h : wj_X9_matches_89 K9 post x3 u) : wj_X9_matches_89 K9_ post_ x3 u := by
  exact hK9 _ _ (RM_rf u) h
theorem f_wj_X9_matches_72 {K9 K9_ : Int32 → mS → Prop} {post post_ : Int32 → mS → Prop} {x3 : Int32} {x4 : Int32} {x5 : Int32} {x6 : Int32} {u : mS} (hK9 : ∀ (b0_ : Int32) (b1_ : mS), RM u b1_ → K9 b0_ b1_ → K9_ b0_ b1_) (hp : ∀ (b0_ : Int32) (b1_ : mS), RM u b1_ → post b0_ b1_ → post_ b0_ b1_) (h : wj_X9_matches_72 K9 post x3 x4 x5 x6 u) : wj_X9_matches_72 K9_ post_ x3 x4 x5 x6 u := by
  refine ⟨fun cc1 => ?_, fun cc2 => ?_⟩
  · have hh3 := h.1 cc1
    exact f_wj_X9_matches_89 (fun _ v_ rv_ h_ => hK9 _ v_ (RM_tr (RM_rf u) rv_) h_) (fun _ v_ rv_ h_ => hp _ v_ (RM_tr (RM_rf u) rv_) h_) hh3
  · have hh4 := h.2 cc2
    refine f_wp_X9_pairs (fun r17 u18 rr6 hh5 => ?_) hh4
    have rr7 : RM u u18 := RM_tr (RM_rf u) rr6
    exact f_wj_X9_matches_89 (fun _ v_ rv_ h_ => hK9 _ v_ (RM_tr rr7 rv_) h_) (fun _ v_ rv_ h_ => hp _ v_ (RM_tr rr7 rv_) h_) hh5
theorem f_wj_X9_matches_9 {K9 K9_ : Int32 → mS → Prop} {post post_ : Int32 → mS → Prop} {x3 : Int32} {u : mS} (hK9 : ∀ (b0_ : Int32) (b1_ : mS), RM u b1_ → K9 b0_ b1_ → K9_ b0_ b1_) (hp : ∀ (b0_ : Int32) (b1_ : mS), RM u b1_ → post b0_ b1_ → post_ b0_ b1_) (h : wj_X9_matches_9 K9 post x3 u) : wj_X9_matches_9 K9_ post_ x3 u := by
  refine ⟨fun cc1 => ?_, fun cc2 => ?_⟩
  · have hh3 := h.1 cc1
    refine ⟨fun cc4 => ?_, fun cc5 => ?_⟩
    · have hh6 := hh3.1 cc4
      exact hp _ _ (RM_rf u) hh6
    · have hh7 := hh3.2 cc5
      exact hp _ _ (RM_rf u) hh7
  · have hh8 := h.2 cc2
    intro y5 ee9
    have hh10 := hh8 y5 ee9
    refine ⟨hh10.1, ?_⟩
    have hh11 := hh10.2
    intro y6 ee12
    have hh13 := hh11 y6 ee12
    intro y7 ee14
    have hh15 := hh13 y7 ee14
    refine ⟨hh15.1, ?_⟩
    have hh16 := hh15.2
    intro y8 ee17
    have hh18 := hh16 y8 ee17
    intro y9 ee19
    have hh20 := hh18 y9 ee19
    refine f_wp_X9_kind_4 (fun r10 u11 rr22 hh21 => ?_) hh20
    have rr23 : RM u u11 := RM_tr (RM_rf u) rr22
    refine ⟨fun cc24 => ?_, fun cc25 => ?_⟩
    · have hh26 := hh21.1 cc24
      exact f_wj_X9_matches_72 (fun _ v_ rv_ h_ => hK9 _ v_ (RM_tr rr23 rv_) h_) (fun _ v_ rv_ h_ => hp _ v_ (RM_tr rr23 rv_) h_) hh26
    · have hh27 := hh21.2 cc25
      refine ⟨hh27.1, ?_⟩
      have hh28 := hh27.2
      intro y13 ee29
      have hh30 := hh28 y13 ee29
      refine ⟨hh30.1, ?_⟩
      have hh31 := hh30.2
      intro y14 ee32
      have hh33 := hh31 y14 ee32
      refine ⟨fun cc34 => ?_, fun cc35 => ?_⟩
      · have hh36 := hh33.1 cc34
        exact f_wj_X9_matches_72 (fun _ v_ rv_ h_ => hK9 _ v_ (RM_tr rr23 rv_) h_) (fun _ v_ rv_ h_ => hp _ v_ (RM_tr rr23 rv_) h_) hh36
      · have hh37 := hh33.2 cc35
        exact hp _ _ rr23 hh37
theorem f_wp_X9_matches {x1 : Int32} {x2 : Int32} {u : mS} {post post_ : Int32 → mS → Prop} (hp : ∀ (b0_ : Int32) (b1_ : mS), RM u b1_ → post b0_ b1_ → post_ b0_ b1_) (h : wp_X9_matches x1 x2 u post) : wp_X9_matches x1 x2 u post_ := by
  refine f_wp_X9_pairs (fun r1 u2 rr2 hh1 => ?_) h
  have rr3 : RM u u2 := RM_tr (RM_rf u) rr2
  obtain ⟨nn4, hh5⟩ := hh1
  refine ⟨nn4, mL2_mo RM RM_rf ?_ nn4 _ _ (RM_rf _) hh5⟩
  intro K_ K2_ z_ hz_ hK_ _ h_
  exact f_wj_X9_matches_9 (fun _ v_ rv_ h_ => hK_ _ v_ (RM_tr hz_ rv_) h_) (fun _ v_ rv_ h_ => hp _ v_ (RM_tr rr3 (RM_tr hz_ rv_)) h_) h_
theorem f_wp_X9_isHeld {x1 : Int32} {u : mS} {post post_ : Int32 → mS → Prop} (hp : ∀ (b0_ : Int32) (b1_ : mS), RM u b1_ → post b0_ b1_ → post_ b0_ b1_) (h : wp_X9_isHeld x1 u post) : wp_X9_isHeld x1 u post_ := by
  intro y1 ee1
  have hh2 := h y1 ee1
  refine ⟨fun cc3 => ?_, fun cc4 => ?_⟩
  · have hh5 := hh2.1 cc3
    exact hp _ _ (RM_rf u) hh5
  · have hh6 := hh2.2 cc4
    intro y3 ee7
    have hh8 := hh6 y3 ee7
    intro y4 ee9
    have hh10 := hh8 y4 ee9
    refine ⟨hh10.1, ?_⟩
    have hh11 := hh10.2
    intro y5 ee12
    have hh13 := hh11 y5 ee12
    refine ⟨fun cc14 => ?_, fun cc15 => ?_⟩
    · have hh16 := hh13.1 cc14
      exact hp _ _ (RM_rf u) hh16
    · have hh17 := hh13.2 cc15
      exact hp _ _ (RM_rf u) hh17
theorem f_wj_X9_walk_168 {K9 K9_ : Int32 → Int32 → Int32 → Int32 → Int32 → mS → Prop} {post post_ : Int32 → mS → Prop} {x3 : Int32} {x4 : Int32} {x7 : Int32} {x8 : Int32} {x9 : Int32} {u : mS} (hK9 : ∀ (b0_ : Int32) (b1_ : Int32) (b2_ : Int32) (b3_ : Int32) (b4_ : Int32) (b5_ : mS), RM u b5_ → K9 b0_ b1_ b2_ b3_ b4_ b5_ → K9_ b0_ b1_ b2_ b3_ b4_ b5_) (hp : ∀ (b0_ : Int32) (b1_ : mS), RM u b1_ → post b0_ b1_ → post_ b0_ b1_) (h : wj_X9_walk_168 K9 post x3 x4 x7 x8 x9 u) : wj_X9_walk_168 K9_ post_ x3 x4 x7 x8 x9 u := by
  exact hK9 _ _ _ _ _ _ (RM_rf u) h
theorem f_wj_X9_walk_136 {K136 K136_ : Int32 → Int32 → Int32 → Int32 → Int32 → Int32 → mS → Prop} {K9 K9_ : Int32 → Int32 → Int32 → Int32 → Int32 → mS → Prop} {post post_ : Int32 → mS → Prop} {x3 : Int32} {x4 : Int32} {x7 : Int32} {x8 : Int32} {x9 : Int32} {x12 : Int32} {u : mS} (hK136 : ∀ (b0_ : Int32) (b1_ : Int32) (b2_ : Int32) (b3_ : Int32) (b4_ : Int32) (b5_ : Int32) (b6_ : mS), RM u b6_ → K136 b0_ b1_ b2_ b3_ b4_ b5_ b6_ → K136_ b0_ b1_ b2_ b3_ b4_ b5_ b6_) (hK9 : ∀ (b0_ : Int32) (b1_ : Int32) (b2_ : Int32) (b3_ : Int32) (b4_ : Int32) (b5_ : mS), RM u b5_ → K9 b0_ b1_ b2_ b3_ b4_ b5_ → K9_ b0_ b1_ b2_ b3_ b4_ b5_) (hp : ∀ (b0_ : Int32) (b1_ : mS), RM u b1_ → post b0_ b1_ → post_ b0_ b1_) (h : wj_X9_walk_136 K136 K9 post x3 x4 x7 x8 x9 x12 u) : wj_X9_walk_136 K136_ K9_ post_ x3 x4 x7 x8 x9 x12 u := by
  refine ⟨h.1, ?_⟩
  have hh1 := h.2
  intro y23 ee2
  have hh3 := hh1 y23 ee2
  refine ⟨fun cc4 => ?_, fun cc5 => ?_⟩
  · have hh6 := hh3.1 cc4
    intro y25 ee7
    have hh8 := hh6 y25 ee7
    exact f_wj_X9_walk_168 (fun _ _ _ _ _ v_ rv_ h_ => hK9 _ _ _ _ _ v_ (RM_tr (RM_rf u) rv_) h_) (fun _ v_ rv_ h_ => hp _ v_ (RM_tr (RM_rf u) rv_) h_) hh8
  · have hh9 := hh3.2 cc5
    refine f_wp_X9_end_2 (fun r26 u27 rr11 hh10 => ?_) hh9
    have rr12 : RM u u27 := RM_tr (RM_rf u) rr11
    intro y28 ee13
    have hh14 := hh10 y28 ee13
    exact hK136 _ _ _ _ _ _ _ rr12 hh14
theorem f_wj_X9_walk_93 {K93 K93_ : Int32 → Int32 → Int32 → Int32 → Int32 → Int32 → Int32 → mS → Prop} {K9 K9_ : Int32 → Int32 → Int32 → Int32 → Int32 → mS → Prop} {post post_ : Int32 → mS → Prop} {x3 : Int32} {x4 : Int32} {x7 : Int32} {x8 : Int32} {x9 : Int32} {x10 : Int32} {x11 : Int32} {u : mS} (hK93 : ∀ (b0_ : Int32) (b1_ : Int32) (b2_ : Int32) (b3_ : Int32) (b4_ : Int32) (b5_ : Int32) (b6_ : Int32) (b7_ : mS), RM u b7_ → K93 b0_ b1_ b2_ b3_ b4_ b5_ b6_ b7_ → K93_ b0_ b1_ b2_ b3_ b4_ b5_ b6_ b7_) (hK9 : ∀ (b0_ : Int32) (b1_ : Int32) (b2_ : Int32) (b3_ : Int32) (b4_ : Int32) (b5_ : mS), RM u b5_ → K9 b0_ b1_ b2_ b3_ b4_ b5_ → K9_ b0_ b1_ b2_ b3_ b4_ b5_) (hp : ∀ (b0_ : Int32) (b1_ : mS), RM u b1_ → post b0_ b1_ → post_ b0_ b1_) (h : wj_X9_walk_93 K93 K9 post x3 x4 x7 x8 x9 x10 x11 u) : wj_X9_walk_93 K93_ K9_ post_ x3 x4 x7 x8 x9 x10 x11 u := by
  refine f_wp_X9_kind_2 (fun r16 u17 rr2 hh1 => ?_) h
  have rr3 : RM u u17 := RM_tr (RM_rf u) rr2
  refine ⟨fun cc4 => ?_, fun cc5 => ?_⟩
  · have hh6 := hh1.1 cc4
    refine ⟨fun cc7 => ?_, fun cc8 => ?_⟩
    · have hh9 := hh6.1 cc7
      obtain ⟨nn10, hh11⟩ := hh9
      refine ⟨nn10, mL7_mo RM RM_rf ?_ nn10 _ _ _ _ _ _ _ (RM_rf _) hh11⟩
      intro K_ K2_ z_ hz_ hK_ _ _ _ _ _ _ h_
      exact f_wj_X9_walk_136 (fun _ _ _ _ _ _ v_ rv_ h_ => hK_ _ _ _ _ _ _ v_ (RM_tr hz_ rv_) h_) (fun _ _ _ _ _ v_ rv_ h_ => hK9 _ _ _ _ _ v_ (RM_tr rr3 (RM_tr hz_ rv_)) h_) (fun _ v_ rv_ h_ => hp _ v_ (RM_tr rr3 (RM_tr hz_ rv_)) h_) h_
    · have hh12 := hh6.2 cc8
      exact hp _ _ rr3 hh12
  · have hh13 := hh1.2 cc5
    refine f_wp_X9_end_2 (fun r20 u21 rr15 hh14 => ?_) hh13
    have rr16 : RM u u21 := RM_tr rr3 rr15
    intro y22 ee17
    have hh18 := hh14 y22 ee17
    exact hK93 _ _ _ _ _ _ _ _ rr16 hh18
theorem f_wj_X9_walk_27 {K27 K27_ : Int32 → Int32 → Int32 → Int32 → Int32 → mS → Prop} {K9 K9_ : Int32 → Int32 → Int32 → Int32 → Int32 → mS → Prop} {post post_ : Int32 → mS → Prop} {x3 : Int32} {x4 : Int32} {x7 : Int32} {x8 : Int32} {x9 : Int32} {u : mS} (hK27 : ∀ (b0_ : Int32) (b1_ : Int32) (b2_ : Int32) (b3_ : Int32) (b4_ : Int32) (b5_ : mS), RM u b5_ → K27 b0_ b1_ b2_ b3_ b4_ b5_ → K27_ b0_ b1_ b2_ b3_ b4_ b5_) (hK9 : ∀ (b0_ : Int32) (b1_ : Int32) (b2_ : Int32) (b3_ : Int32) (b4_ : Int32) (b5_ : mS), RM u b5_ → K9 b0_ b1_ b2_ b3_ b4_ b5_ → K9_ b0_ b1_ b2_ b3_ b4_ b5_) (hp : ∀ (b0_ : Int32) (b1_ : mS), RM u b1_ → post b0_ b1_ → post_ b0_ b1_) (h : wj_X9_walk_27 K27 K9 post x3 x4 x7 x8 x9 u) : wj_X9_walk_27 K27_ K9_ post_ x3 x4 x7 x8 x9 u := by
  refine f_wp_X9_end_4 (fun r4 u5 rr2 hh1 => ?_) h
  have rr3 : RM u u5 := RM_tr (RM_rf u) rr2
  refine ⟨fun cc4 => ?_, fun cc5 => ?_⟩
  · have hh6 := hh1.1 cc4
    refine f_wp_X9_end_4 (fun r7 u8 rr8 hh7 => ?_) hh6
    have rr9 : RM u u8 := RM_tr rr3 rr8
    refine f_wp_X9_kind_4 (fun r9 u10 rr11 hh10 => ?_) hh7
    have rr12 : RM u u10 := RM_tr rr9 rr11
    refine ⟨fun cc13 => ?_, fun cc14 => ?_⟩
    · have hh15 := hh10.1 cc13
      exact f_wj_X9_walk_168 (fun _ _ _ _ _ v_ rv_ h_ => hK9 _ _ _ _ _ v_ (RM_tr rr12 rv_) h_) (fun _ v_ rv_ h_ => hp _ v_ (RM_tr rr12 rv_) h_) hh15
    · have hh16 := hh10.2 cc14
      obtain ⟨nn17, hh18⟩ := hh16
      refine ⟨nn17, mL8_mo RM RM_rf ?_ nn17 _ _ _ _ _ _ _ _ (RM_rf _) hh18⟩
      intro K_ K2_ z_ hz_ hK_ _ _ _ _ _ _ _ h_
      exact f_wj_X9_walk_93 (fun _ _ _ _ _ _ _ v_ rv_ h_ => hK_ _ _ _ _ _ _ _ v_ (RM_tr hz_ rv_) h_) (fun _ _ _ _ _ v_ rv_ h_ => hK9 _ _ _ _ _ v_ (RM_tr rr12 (RM_tr hz_ rv_)) h_) (fun _ v_ rv_ h_ => hp _ v_ (RM_tr rr12 (RM_tr hz_ rv_)) h_) h_
  · have hh19 := hh1.2 cc5
    refine f_wp_X9_end_4 (fun r12 u13 rr21 hh20 => ?_) hh19
    have rr22 : RM u u13 := RM_tr rr3 rr21
    refine f_wp_X9_end_2 (fun r14 u15 rr24 hh23 => ?_) hh20
    have rr25 : RM u u15 := RM_tr rr22 rr24
    exact hK27 _ _ _ _ _ _ rr25 hh23
theorem f_wj_X9_walk_9 {K9 K9_ : Int32 → Int32 → Int32 → Int32 → Int32 → mS → Prop} {post post_ : Int32 → mS → Prop} {x3 : Int32} {x4 : Int32} {x5 : Int32} {x6 : Int32} {x7 : Int32} {u : mS} (hK9 : ∀ (b0_ : Int32) (b1_ : Int32) (b2_ : Int32) (b3_ : Int32) (b4_ : Int32) (b5_ : mS), RM u b5_ → K9 b0_ b1_ b2_ b3_ b4_ b5_ → K9_ b0_ b1_ b2_ b3_ b4_ b5_) (hp : ∀ (b0_ : Int32) (b1_ : mS), RM u b1_ → post b0_ b1_ → post_ b0_ b1_) (h : wj_X9_walk_9 K9 post x3 x4 x5 x6 x7 u) : wj_X9_walk_9 K9_ post_ x3 x4 x5 x6 x7 u := by
  refine ⟨fun cc1 => ?_, fun cc2 => ?_⟩
  · have hh3 := h.1 cc1
    exact hp _ _ (RM_rf u) hh3
  · have hh4 := h.2 cc2
    intro y2 ee5
    have hh6 := hh4 y2 ee5
    intro y3 ee7
    have hh8 := hh6 y3 ee7
    obtain ⟨nn9, hh10⟩ := hh8
    refine ⟨nn9, mL6_mo RM RM_rf ?_ nn9 _ _ _ _ _ _ (RM_rf _) hh10⟩
    intro K_ K2_ z_ hz_ hK_ _ _ _ _ _ h_
    exact f_wj_X9_walk_27 (fun _ _ _ _ _ v_ rv_ h_ => hK_ _ _ _ _ _ v_ (RM_tr hz_ rv_) h_) (fun _ _ _ _ _ v_ rv_ h_ => hK9 _ _ _ _ _ v_ (RM_tr (RM_rf u) (RM_tr hz_ rv_)) h_) (fun _ v_ rv_ h_ => hp _ v_ (RM_tr (RM_rf u) (RM_tr hz_ rv_)) h_) h_
theorem f_wp_X9_walk {x1 : Int32} {x2 : Int32} {x3 : Int32} {x4 : Int32} {u : mS} {post post_ : Int32 → mS → Prop} (hp : ∀ (b0_ : Int32) (b1_ : mS), RM u b1_ → post b0_ b1_ → post_ b0_ b1_) (h : wp_X9_walk x1 x2 x3 x4 u post) : wp_X9_walk x1 x2 x3 x4 u post_ := by
  obtain ⟨nn1, hh2⟩ := h
  refine ⟨nn1, mL6_mo RM RM_rf ?_ nn1 _ _ _ _ _ _ (RM_rf _) hh2⟩
  intro K_ K2_ z_ hz_ hK_ _ _ _ _ _ h_
  exact f_wj_X9_walk_9 (fun _ _ _ _ _ v_ rv_ h_ => hK_ _ _ _ _ _ v_ (RM_tr hz_ rv_) h_) (fun _ v_ rv_ h_ => hp _ v_ (RM_tr (RM_rf u) (RM_tr hz_ rv_)) h_) h_
theorem f_wj_X9_roundsOf_93 {K7 K7_ : Int32 → Int32 → Int32 → Int32 → Int32 → mS → Prop} {post post_ : Int32 → mS → Prop} {x1 : Int32} {x2 : Int32} {x4 : Int32} {x5 : Int32} {x6 : Int32} {u : mS} (hK7 : ∀ (b0_ : Int32) (b1_ : Int32) (b2_ : Int32) (b3_ : Int32) (b4_ : Int32) (b5_ : mS), RM u b5_ → K7 b0_ b1_ b2_ b3_ b4_ b5_ → K7_ b0_ b1_ b2_ b3_ b4_ b5_) (hp : ∀ (b0_ : Int32) (b1_ : mS), RM u b1_ → post b0_ b1_ → post_ b0_ b1_) (h : wj_X9_roundsOf_93 K7 post x1 x2 x4 x5 x6 u) : wj_X9_roundsOf_93 K7_ post_ x1 x2 x4 x5 x6 u := by
  intro y15 ee1
  have hh2 := h y15 ee1
  exact hK7 _ _ _ _ _ _ (RM_rf u) hh2
theorem f_wj_X9_roundsOf_91 {K7 K7_ : Int32 → Int32 → Int32 → Int32 → Int32 → mS → Prop} {post post_ : Int32 → mS → Prop} {x1 : Int32} {x2 : Int32} {x4 : Int32} {x6 : Int32} {z0 : Int32} {u : mS} (hK7 : ∀ (b0_ : Int32) (b1_ : Int32) (b2_ : Int32) (b3_ : Int32) (b4_ : Int32) (b5_ : mS), RM u b5_ → K7 b0_ b1_ b2_ b3_ b4_ b5_ → K7_ b0_ b1_ b2_ b3_ b4_ b5_) (hp : ∀ (b0_ : Int32) (b1_ : mS), RM u b1_ → post b0_ b1_ → post_ b0_ b1_) (h : wj_X9_roundsOf_91 K7 post x1 x2 x4 x6 z0 u) : wj_X9_roundsOf_91 K7_ post_ x1 x2 x4 x6 z0 u := by
  exact f_wj_X9_roundsOf_93 (fun _ _ _ _ _ v_ rv_ h_ => hK7 _ _ _ _ _ v_ (RM_tr (RM_rf u) rv_) h_) (fun _ v_ rv_ h_ => hp _ v_ (RM_tr (RM_rf u) rv_) h_) h
theorem f_wj_X9_roundsOf_85 {K7 K7_ : Int32 → Int32 → Int32 → Int32 → Int32 → mS → Prop} {post post_ : Int32 → mS → Prop} {x1 : Int32} {x2 : Int32} {x4 : Int32} {x6 : Int32} {x8 : Int32} {u : mS} (hK7 : ∀ (b0_ : Int32) (b1_ : Int32) (b2_ : Int32) (b3_ : Int32) (b4_ : Int32) (b5_ : mS), RM u b5_ → K7 b0_ b1_ b2_ b3_ b4_ b5_ → K7_ b0_ b1_ b2_ b3_ b4_ b5_) (hp : ∀ (b0_ : Int32) (b1_ : mS), RM u b1_ → post b0_ b1_ → post_ b0_ b1_) (h : wj_X9_roundsOf_85 K7 post x1 x2 x4 x6 x8 u) : wj_X9_roundsOf_85 K7_ post_ x1 x2 x4 x6 x8 u := by
  exact f_wj_X9_roundsOf_91 (fun _ _ _ _ _ v_ rv_ h_ => hK7 _ _ _ _ _ v_ (RM_tr (RM_rf u) rv_) h_) (fun _ v_ rv_ h_ => hp _ v_ (RM_tr (RM_rf u) rv_) h_) h
theorem f_wj_X9_roundsOf_50 {K7 K7_ : Int32 → Int32 → Int32 → Int32 → Int32 → mS → Prop} {post post_ : Int32 → mS → Prop} {x1 : Int32} {x2 : Int32} {x4 : Int32} {x5 : Int32} {x6 : Int32} {z0 : Int32} {u : mS} (hK7 : ∀ (b0_ : Int32) (b1_ : Int32) (b2_ : Int32) (b3_ : Int32) (b4_ : Int32) (b5_ : mS), RM u b5_ → K7 b0_ b1_ b2_ b3_ b4_ b5_ → K7_ b0_ b1_ b2_ b3_ b4_ b5_) (hp : ∀ (b0_ : Int32) (b1_ : mS), RM u b1_ → post b0_ b1_ → post_ b0_ b1_) (h : wj_X9_roundsOf_50 K7 post x1 x2 x4 x5 x6 z0 u) : wj_X9_roundsOf_50 K7_ post_ x1 x2 x4 x5 x6 z0 u := by
  refine ⟨fun cc1 => ?_, fun cc2 => ?_⟩
  · have hh3 := h.1 cc1
    exact f_wj_X9_roundsOf_93 (fun _ _ _ _ _ v_ rv_ h_ => hK7 _ _ _ _ _ v_ (RM_tr (RM_rf u) rv_) h_) (fun _ v_ rv_ h_ => hp _ v_ (RM_tr (RM_rf u) rv_) h_) hh3
  · have hh4 := h.2 cc2
    intro y10 ee5
    have hh6 := hh4 y10 ee5
    refine f_wp_X9_walk (fun r11 u12 rr8 hh7 => ?_) hh6
    have rr9 : RM u u12 := RM_tr (RM_rf u) rr8
    refine ⟨fun cc10 => ?_, fun cc11 => ?_⟩
    · have hh12 := hh7.1 cc10
      exact f_wj_X9_roundsOf_85 (fun _ _ _ _ _ v_ rv_ h_ => hK7 _ _ _ _ _ v_ (RM_tr rr9 rv_) h_) (fun _ v_ rv_ h_ => hp _ v_ (RM_tr rr9 rv_) h_) hh12
    · have hh13 := hh7.2 cc11
      refine ⟨fun cc14 => ?_, fun cc15 => ?_⟩
      · have hh16 := hh13.1 cc14
        exact f_wj_X9_roundsOf_91 (fun _ _ _ _ _ v_ rv_ h_ => hK7 _ _ _ _ _ v_ (RM_tr rr9 rv_) h_) (fun _ v_ rv_ h_ => hp _ v_ (RM_tr rr9 rv_) h_) hh16
      · have hh17 := hh13.2 cc15
        exact f_wj_X9_roundsOf_85 (fun _ _ _ _ _ v_ rv_ h_ => hK7 _ _ _ _ _ v_ (RM_tr rr9 rv_) h_) (fun _ v_ rv_ h_ => hp _ v_ (RM_tr rr9 rv_) h_) hh17
theorem f_wj_X9_roundsOf_7 {K7 K7_ : Int32 → Int32 → Int32 → Int32 → Int32 → mS → Prop} {post post_ : Int32 → mS → Prop} {x1 : Int32} {x2 : Int32} {x4 : Int32} {x5 : Int32} {x6 : Int32} {u : mS} (hK7 : ∀ (b0_ : Int32) (b1_ : Int32) (b2_ : Int32) (b3_ : Int32) (b4_ : Int32) (b5_ : mS), RM u b5_ → K7 b0_ b1_ b2_ b3_ b4_ b5_ → K7_ b0_ b1_ b2_ b3_ b4_ b5_) (hp : ∀ (b0_ : Int32) (b1_ : mS), RM u b1_ → post b0_ b1_ → post_ b0_ b1_) (h : wj_X9_roundsOf_7 K7 post x1 x2 x4 x5 x6 u) : wj_X9_roundsOf_7 K7_ post_ x1 x2 x4 x5 x6 u := by
  refine ⟨fun cc1 => ?_, fun cc2 => ?_⟩
  · have hh3 := h.1 cc1
    exact hp _ _ (RM_rf u) hh3
  · have hh4 := h.2 cc2
    refine f_wp_X9_kind_4 (fun r2 u3 rr6 hh5 => ?_) hh4
    have rr7 : RM u u3 := RM_tr (RM_rf u) rr6
    refine ⟨fun cc8 => ?_, fun cc9 => ?_⟩
    · have hh10 := hh5.1 cc8
      exact f_wj_X9_roundsOf_50 (fun _ _ _ _ _ v_ rv_ h_ => hK7 _ _ _ _ _ v_ (RM_tr rr7 rv_) h_) (fun _ v_ rv_ h_ => hp _ v_ (RM_tr rr7 rv_) h_) hh10
    · have hh11 := hh5.2 cc9
      refine ⟨hh11.1, ?_⟩
      have hh12 := hh11.2
      intro y5 ee13
      have hh14 := hh12 y5 ee13
      refine ⟨hh14.1, ?_⟩
      have hh15 := hh14.2
      intro y6 ee16
      have hh17 := hh15 y6 ee16
      refine f_wp_X9_variable (fun r7 u8 rr19 hh18 => ?_) hh17
      have rr20 : RM u u8 := RM_tr rr7 rr19
      exact f_wj_X9_roundsOf_50 (fun _ _ _ _ _ v_ rv_ h_ => hK7 _ _ _ _ _ v_ (RM_tr rr20 rv_) h_) (fun _ v_ rv_ h_ => hp _ v_ (RM_tr rr20 rv_) h_) hh18
theorem f_wp_X9_roundsOf {x1 : Int32} {x2 : Int32} {x3 : Int32} {x4 : Int32} {u : mS} {post post_ : Int32 → mS → Prop} (hp : ∀ (b0_ : Int32) (b1_ : mS), RM u b1_ → post b0_ b1_ → post_ b0_ b1_) (h : wp_X9_roundsOf x1 x2 x3 x4 u post) : wp_X9_roundsOf x1 x2 x3 x4 u post_ := by
  obtain ⟨nn1, hh2⟩ := h
  refine ⟨nn1, mL6_mo RM RM_rf ?_ nn1 _ _ _ _ _ _ (RM_rf _) hh2⟩
  intro K_ K2_ z_ hz_ hK_ _ _ _ _ _ h_
  exact f_wj_X9_roundsOf_7 (fun _ _ _ _ _ v_ rv_ h_ => hK_ _ _ _ _ _ v_ (RM_tr hz_ rv_) h_) (fun _ v_ rv_ h_ => hp _ v_ (RM_tr (RM_rf u) (RM_tr hz_ rv_)) h_) h_
theorem f_wj_X9_hold_31 {post post_ : Int32 → mS → Prop} {x3 : Int32} {x4 : Int32} {x5 : Int32} {u : mS} (hp : ∀ (b0_ : Int32) (b1_ : mS), RM u b1_ → post b0_ b1_ → post_ b0_ b1_) (h : wj_X9_hold_31 post x3 x4 x5 u) : wj_X9_hold_31 post_ x3 x4 x5 u := by
  refine ⟨fun cc1 => ?_, fun cc2 => ?_⟩
  · have hh3 := h.1 cc1
    intro y9 ee4
    have hh5 := hh3 y9 ee4
    refine ⟨hh5.1, ?_⟩
    have hh6 := hh5.2
    intro u10 ee7
    have hh8 := hh6 u10 ee7
    have rr9 : RM u u10 := by rw [ee7]; exact RM_put (RM_rf u) (by decide)
    intro y11 ee10
    have hh11 := hh8 y11 ee10
    refine ⟨hh11.1, ?_⟩
    have hh12 := hh11.2
    intro u12 ee13
    have hh14 := hh12 u12 ee13
    have rr15 : RM u u12 := by rw [ee13]; exact RM_put rr9 (by decide)
    intro y13 ee16
    have hh17 := hh14 y13 ee16
    refine ⟨hh17.1, ?_⟩
    have hh18 := hh17.2
    intro u14 ee19
    have hh20 := hh18 u14 ee19
    have rr21 : RM u u14 := by rw [ee19]; exact RM_put rr15 (by decide)
    intro y15 ee22
    have hh23 := hh20 y15 ee22
    intro y16 ee24
    have hh25 := hh23 y16 ee24
    intro u17 ee26
    have hh27 := hh25 u17 ee26
    have rr28 : RM u u17 := by rw [ee26]; exact RM_set rr21 (by decide)
    exact hp _ _ rr28 hh27
  · have hh29 := h.2 cc2
    intro y18 ee30
    have hh31 := hh29 y18 ee30
    exact hp _ _ (RM_rf u) hh31
theorem f_wp_X9_hold {x1 : Int32} {x2 : Int32} {x3 : Int32} {u : mS} {post post_ : Int32 → mS → Prop} (hp : ∀ (b0_ : Int32) (b1_ : mS), RM u b1_ → post b0_ b1_ → post_ b0_ b1_) (h : wp_X9_hold x1 x2 x3 u post) : wp_X9_hold x1 x2 x3 u post_ := by
  refine f_wp_X9_end_4 (fun r1 u2 rr2 hh1 => ?_) h
  have rr3 : RM u u2 := RM_tr (RM_rf u) rr2
  refine f_wp_X9_roundsOf (fun r3 u4 rr5 hh4 => ?_) hh1
  have rr6 : RM u u4 := RM_tr rr3 rr5
  refine ⟨fun cc7 => ?_, fun cc8 => ?_⟩
  · have hh9 := hh4.1 cc7
    exact f_wj_X9_hold_31 (fun _ v_ rv_ h_ => hp _ v_ (RM_tr rr6 rv_) h_) hh9
  · have hh10 := hh4.2 cc8
    refine f_wp_X9_fails (fun u7 rr12 hh11 => ?_) hh10
    have rr13 : RM u u7 := RM_tr rr6 rr12
    exact f_wj_X9_hold_31 (fun _ v_ rv_ h_ => hp _ v_ (RM_tr rr13 rv_) h_) hh11
theorem f_wp_X9_again {x1 : Int32} {u : mS} {post post_ : Int32 → mS → Prop} (hp : ∀ (b0_ : Int32) (b1_ : mS), RM u b1_ → post b0_ b1_ → post_ b0_ b1_) (h : wp_X9_again x1 u post) : wp_X9_again x1 u post_ := by
  intro y1 ee1
  have hh2 := h y1 ee1
  intro y2 ee3
  have hh4 := hh2 y2 ee3
  refine ⟨hh4.1, ?_⟩
  have hh5 := hh4.2
  intro y3 ee6
  have hh7 := hh5 y3 ee6
  intro y4 ee8
  have hh9 := hh7 y4 ee8
  refine ⟨hh9.1, ?_⟩
  have hh10 := hh9.2
  intro u5 ee11
  have hh12 := hh10 u5 ee11
  have rr13 : RM u u5 := by rw [ee11]; exact RM_put (RM_rf u) (by decide)
  intro y6 ee14
  have hh15 := hh12 y6 ee14
  intro y7 ee16
  have hh17 := hh15 y7 ee16
  refine ⟨hh17.1, ?_⟩
  have hh18 := hh17.2
  intro y8 ee19
  have hh20 := hh18 y8 ee19
  intro y9 ee21
  have hh22 := hh20 y9 ee21
  intro y10 ee23
  have hh24 := hh22 y10 ee23
  refine ⟨hh24.1, ?_⟩
  have hh25 := hh24.2
  intro y11 ee26
  have hh27 := hh25 y11 ee26
  refine ⟨fun cc28 => ?_, fun cc29 => ?_⟩
  · have hh30 := hh27.1 cc28
    intro y13 ee31
    have hh32 := hh30 y13 ee31
    intro y14 ee33
    have hh34 := hh32 y14 ee33
    intro u15 ee35
    have hh36 := hh34 u15 ee35
    have rr37 : RM u u15 := by rw [ee35]; exact RM_set rr13 (by decide)
    intro y16 ee38
    have hh39 := hh36 y16 ee38
    exact hp _ _ rr37 hh39
  · have hh40 := hh27.2 cc29
    intro y17 ee41
    have hh42 := hh40 y17 ee41
    intro y18 ee43
    have hh44 := hh42 y18 ee43
    refine ⟨hh44.1, ?_⟩
    have hh45 := hh44.2
    intro y19 ee46
    have hh47 := hh45 y19 ee46
    exact hp _ _ rr13 hh47
theorem f_wj_X9_add_26 {post post_ : mS → Prop} {x1 : Int32} {x2 : Int32} {u : mS} (hp : ∀ (b0_ : mS), RM u b0_ → post b0_ → post_ b0_) (h : wj_X9_add_26 post x1 x2 u) : wj_X9_add_26 post_ x1 x2 u := by
  intro y7 ee1
  have hh2 := h y7 ee1
  refine ⟨fun cc3 => ?_, fun cc4 => ?_⟩
  · have hh5 := hh2.1 cc3
    intro y9 ee6
    have hh7 := hh5 y9 ee6
    refine ⟨hh7.1, ?_⟩
    have hh8 := hh7.2
    intro u10 ee9
    have hh10 := hh8 u10 ee9
    have rr11 : RM u u10 := by rw [ee9]; exact RM_put (RM_rf u) (by decide)
    intro y11 ee12
    have hh13 := hh10 y11 ee12
    refine ⟨hh13.1, ?_⟩
    have hh14 := hh13.2
    intro u12 ee15
    have hh16 := hh14 u12 ee15
    have rr17 : RM u u12 := by rw [ee15]; exact RM_put rr11 (by decide)
    intro y13 ee18
    have hh19 := hh16 y13 ee18
    intro y14 ee20
    have hh21 := hh19 y14 ee20
    intro u15 ee22
    have hh23 := hh21 u15 ee22
    have rr24 : RM u u15 := by rw [ee22]; exact RM_set rr17 (by decide)
    exact hp _ rr24 hh23
  · have hh25 := hh2.2 cc4
    refine f_wp_X9_fails (fun u17 rr27 hh26 => ?_) hh25
    have rr28 : RM u u17 := RM_tr (RM_rf u) rr27
    exact hp _ rr28 hh26
theorem f_wp_X9_add {x1 : Int32} {x2 : Int32} {u : mS} {post post_ : mS → Prop} (hp : ∀ (b0_ : mS), RM u b0_ → post b0_ → post_ b0_) (h : wp_X9_add x1 x2 u post) : wp_X9_add x1 x2 u post_ := by
  intro y1 ee1
  have hh2 := h y1 ee1
  refine ⟨fun cc3 => ?_, fun cc4 => ?_⟩
  · have hh5 := hh2.1 cc3
    exact f_wj_X9_add_26 (fun v_ rv_ h_ => hp v_ (RM_tr (RM_rf u) rv_) h_) hh5
  · have hh6 := hh2.2 cc4
    refine ⟨fun cc7 => ?_, fun cc8 => ?_⟩
    · have hh9 := hh6.1 cc7
      exact f_wj_X9_add_26 (fun v_ rv_ h_ => hp v_ (RM_tr (RM_rf u) rv_) h_) hh9
    · have hh10 := hh6.2 cc8
      intro y4 ee11
      have hh12 := hh10 y4 ee11
      intro y5 ee13
      have hh14 := hh12 y5 ee13
      intro u6 ee15
      have hh16 := hh14 u6 ee15
      have rr17 : RM u u6 := by rw [ee15]; exact RM_set (RM_rf u) (by decide)
      exact f_wj_X9_add_26 (fun v_ rv_ h_ => hp v_ (RM_tr rr17 rv_) h_) hh16
theorem f_wj_X9_bring_11 {K11 K11_ : Int32 → Int32 → mS → Prop} {post post_ : mS → Prop} {x2 : Int32} {x3 : Int32} {u : mS} (hK11 : ∀ (b0_ : Int32) (b1_ : Int32) (b2_ : mS), RM u b2_ → K11 b0_ b1_ b2_ → K11_ b0_ b1_ b2_) (hp : ∀ (b0_ : mS), RM u b0_ → post b0_ → post_ b0_) (h : wj_X9_bring_11 K11 post x2 x3 u) : wj_X9_bring_11 K11_ post_ x2 x3 u := by
  refine ⟨fun cc1 => ?_, fun cc2 => ?_⟩
  · have hh3 := h.1 cc1
    exact hp _ (RM_rf u) hh3
  · have hh4 := h.2 cc2
    intro y4 ee5
    have hh6 := hh4 y4 ee5
    refine ⟨fun cc7 => ?_, fun cc8 => ?_⟩
    · have hh9 := hh6.1 cc7
      exact hp _ (RM_rf u) hh9
    · have hh10 := hh6.2 cc8
      refine ⟨hh10.1, ?_⟩
      have hh11 := hh10.2
      intro y6 ee12
      have hh13 := hh11 y6 ee12
      refine ⟨hh13.1, ?_⟩
      have hh14 := hh13.2
      intro y7 ee15
      have hh16 := hh14 y7 ee15
      refine f_wp_X9_add (fun u9 rr18 hh17 => ?_) hh16
      have rr19 : RM u u9 := RM_tr (RM_rf u) rr18
      intro y10 ee20
      have hh21 := hh17 y10 ee20
      exact hK11 _ _ _ rr19 hh21
theorem f_wp_X9_bring {x1 : Int32} {u : mS} {post post_ : mS → Prop} (hp : ∀ (b0_ : mS), RM u b0_ → post b0_ → post_ b0_) (h : wp_X9_bring x1 u post) : wp_X9_bring x1 u post_ := by
  refine f_wp_X9_end_2 (fun r1 u2 rr2 hh1 => ?_) h
  have rr3 : RM u u2 := RM_tr (RM_rf u) rr2
  obtain ⟨nn4, hh5⟩ := hh1
  refine ⟨nn4, mL3_mo RM RM_rf ?_ nn4 _ _ _ (RM_rf _) hh5⟩
  intro K_ K2_ z_ hz_ hK_ _ _ h_
  exact f_wj_X9_bring_11 (fun _ _ v_ rv_ h_ => hK_ _ _ v_ (RM_tr hz_ rv_) h_) (fun v_ rv_ h_ => hp v_ (RM_tr rr3 (RM_tr hz_ rv_)) h_) h_
theorem f_wj_X9_fill_223 {K37 K37_ : Int32 → Int32 → Int32 → Int32 → mS → Prop} {post post_ : mS → Prop} {x1 : Int32} {x2 : Int32} {x4 : Int32} {x5 : Int32} {u : mS} (hK37 : ∀ (b0_ : Int32) (b1_ : Int32) (b2_ : Int32) (b3_ : Int32) (b4_ : mS), RM u b4_ → K37 b0_ b1_ b2_ b3_ b4_ → K37_ b0_ b1_ b2_ b3_ b4_) (hp : ∀ (b0_ : mS), RM u b0_ → post b0_ → post_ b0_) (h : wj_X9_fill_223 K37 post x1 x2 x4 x5 u) : wj_X9_fill_223 K37_ post_ x1 x2 x4 x5 u := by
  intro y47 ee1
  have hh2 := h y47 ee1
  exact hK37 _ _ _ _ _ (RM_rf u) hh2
theorem f_wj_X9_fill_181 {K37 K37_ : Int32 → Int32 → Int32 → Int32 → mS → Prop} {post post_ : mS → Prop} {x1 : Int32} {x2 : Int32} {x4 : Int32} {x5 : Int32} {z0 : Int32} {u : mS} (hK37 : ∀ (b0_ : Int32) (b1_ : Int32) (b2_ : Int32) (b3_ : Int32) (b4_ : mS), RM u b4_ → K37 b0_ b1_ b2_ b3_ b4_ → K37_ b0_ b1_ b2_ b3_ b4_) (hp : ∀ (b0_ : mS), RM u b0_ → post b0_ → post_ b0_) (h : wj_X9_fill_181 K37 post x1 x2 x4 x5 z0 u) : wj_X9_fill_181 K37_ post_ x1 x2 x4 x5 z0 u := by
  refine ⟨fun cc1 => ?_, fun cc2 => ?_⟩
  · have hh3 := h.1 cc1
    refine f_wp_X9_walk (fun r39 u40 rr5 hh4 => ?_) hh3
    have rr6 : RM u u40 := RM_tr (RM_rf u) rr5
    refine f_wp_X9_bring (fun u42 rr8 hh7 => ?_) hh4
    have rr9 : RM u u42 := RM_tr rr6 rr8
    exact f_wj_X9_fill_223 (fun _ _ _ _ v_ rv_ h_ => hK37 _ _ _ _ v_ (RM_tr rr9 rv_) h_) (fun v_ rv_ h_ => hp v_ (RM_tr rr9 rv_) h_) hh7
  · have hh10 := h.2 cc2
    refine ⟨hh10.1, ?_⟩
    have hh11 := hh10.2
    intro y43 ee12
    have hh13 := hh11 y43 ee12
    refine ⟨hh13.1, ?_⟩
    have hh14 := hh13.2
    intro y44 ee15
    have hh16 := hh14 y44 ee15
    refine f_wp_X9_add (fun u46 rr18 hh17 => ?_) hh16
    have rr19 : RM u u46 := RM_tr (RM_rf u) rr18
    exact f_wj_X9_fill_223 (fun _ _ _ _ v_ rv_ h_ => hK37 _ _ _ _ v_ (RM_tr rr19 rv_) h_) (fun v_ rv_ h_ => hp v_ (RM_tr rr19 rv_) h_) hh17
theorem f_wj_X9_fill_152 {K37 K37_ : Int32 → Int32 → Int32 → Int32 → mS → Prop} {post post_ : mS → Prop} {x1 : Int32} {x2 : Int32} {x4 : Int32} {x5 : Int32} {x6 : Int32} {u : mS} (hK37 : ∀ (b0_ : Int32) (b1_ : Int32) (b2_ : Int32) (b3_ : Int32) (b4_ : mS), RM u b4_ → K37 b0_ b1_ b2_ b3_ b4_ → K37_ b0_ b1_ b2_ b3_ b4_) (hp : ∀ (b0_ : mS), RM u b0_ → post b0_ → post_ b0_) (h : wj_X9_fill_152 K37 post x1 x2 x4 x5 x6 u) : wj_X9_fill_152 K37_ post_ x1 x2 x4 x5 x6 u := by
  refine ⟨fun cc1 => ?_, fun cc2 => ?_⟩
  · have hh3 := h.1 cc1
    exact f_wj_X9_fill_181 (fun _ _ _ _ v_ rv_ h_ => hK37 _ _ _ _ v_ (RM_tr (RM_rf u) rv_) h_) (fun v_ rv_ h_ => hp v_ (RM_tr (RM_rf u) rv_) h_) hh3
  · have hh4 := h.2 cc2
    refine ⟨hh4.1, ?_⟩
    have hh5 := hh4.2
    intro y34 ee6
    have hh7 := hh5 y34 ee6
    refine ⟨hh7.1, ?_⟩
    have hh8 := hh7.2
    intro y35 ee9
    have hh10 := hh8 y35 ee9
    refine f_wp_X9_variable (fun r36 u37 rr12 hh11 => ?_) hh10
    have rr13 : RM u u37 := RM_tr (RM_rf u) rr12
    exact f_wj_X9_fill_181 (fun _ _ _ _ v_ rv_ h_ => hK37 _ _ _ _ v_ (RM_tr rr13 rv_) h_) (fun v_ rv_ h_ => hp v_ (RM_tr rr13 rv_) h_) hh11
theorem f_wj_X9_fill_37 {K37 K37_ : Int32 → Int32 → Int32 → Int32 → mS → Prop} {post post_ : mS → Prop} {x1 : Int32} {x2 : Int32} {x4 : Int32} {x5 : Int32} {u : mS} (hK37 : ∀ (b0_ : Int32) (b1_ : Int32) (b2_ : Int32) (b3_ : Int32) (b4_ : mS), RM u b4_ → K37 b0_ b1_ b2_ b3_ b4_ → K37_ b0_ b1_ b2_ b3_ b4_) (hp : ∀ (b0_ : mS), RM u b0_ → post b0_ → post_ b0_) (h : wj_X9_fill_37 K37 post x1 x2 x4 x5 u) : wj_X9_fill_37 K37_ post_ x1 x2 x4 x5 u := by
  refine ⟨fun cc1 => ?_, fun cc2 => ?_⟩
  · have hh3 := h.1 cc1
    exact hp _ (RM_rf u) hh3
  · have hh4 := h.2 cc2
    intro y9 ee5
    have hh6 := hh4 y9 ee5
    refine ⟨fun cc7 => ?_, fun cc8 => ?_⟩
    · have hh9 := hh6.1 cc7
      exact hp _ (RM_rf u) hh9
    · have hh10 := hh6.2 cc8
      refine f_wp_X9_kind_4 (fun r11 u12 rr12 hh11 => ?_) hh10
      have rr13 : RM u u12 := RM_tr (RM_rf u) rr12
      refine ⟨fun cc14 => ?_, fun cc15 => ?_⟩
      · have hh16 := hh11.1 cc14
        refine ⟨fun cc17 => ?_, fun cc18 => ?_⟩
        · have hh19 := hh16.1 cc17
          exact f_wj_X9_fill_152 (fun _ _ _ _ v_ rv_ h_ => hK37 _ _ _ _ v_ (RM_tr rr13 rv_) h_) (fun v_ rv_ h_ => hp v_ (RM_tr rr13 rv_) h_) hh19
        · have hh20 := hh16.2 cc18
          refine f_wp_X9_isHeld (fun r15 u16 rr22 hh21 => ?_) hh20
          have rr23 : RM u u16 := RM_tr rr13 rr22
          refine ⟨fun cc24 => ?_, fun cc25 => ?_⟩
          · have hh26 := hh21.1 cc24
            exact f_wj_X9_fill_152 (fun _ _ _ _ v_ rv_ h_ => hK37 _ _ _ _ v_ (RM_tr rr23 rv_) h_) (fun v_ rv_ h_ => hp v_ (RM_tr rr23 rv_) h_) hh26
          · have hh27 := hh21.2 cc25
            refine f_wp_X9_end_4 (fun r18 u19 rr29 hh28 => ?_) hh27
            have rr30 : RM u u19 := RM_tr rr23 rr29
            refine ⟨fun cc31 => ?_, fun cc32 => ?_⟩
            · have hh33 := hh28.1 cc31
              exact f_wj_X9_fill_152 (fun _ _ _ _ v_ rv_ h_ => hK37 _ _ _ _ v_ (RM_tr rr30 rv_) h_) (fun v_ rv_ h_ => hp v_ (RM_tr rr30 rv_) h_) hh33
            · have hh34 := hh28.2 cc32
              refine f_wp_X9_end_4 (fun r21 u22 rr36 hh35 => ?_) hh34
              have rr37 : RM u u22 := RM_tr rr30 rr36
              refine f_wp_X9_kind_4 (fun r23 u24 rr39 hh38 => ?_) hh35
              have rr40 : RM u u24 := RM_tr rr37 rr39
              refine ⟨fun cc41 => ?_, fun cc42 => ?_⟩
              · have hh43 := hh38.1 cc41
                exact f_wj_X9_fill_152 (fun _ _ _ _ v_ rv_ h_ => hK37 _ _ _ _ v_ (RM_tr rr40 rv_) h_) (fun v_ rv_ h_ => hp v_ (RM_tr rr40 rv_) h_) hh43
              · have hh44 := hh38.2 cc42
                refine f_wp_X9_hold (fun r26 u27 rr46 hh45 => ?_) hh44
                have rr47 : RM u u27 := RM_tr rr40 rr46
                refine f_wp_X9_isHeld (fun r28 u29 rr49 hh48 => ?_) hh45
                have rr50 : RM u u29 := RM_tr rr47 rr49
                refine ⟨fun cc51 => ?_, fun cc52 => ?_⟩
                · have hh53 := hh48.1 cc51
                  exact f_wj_X9_fill_152 (fun _ _ _ _ v_ rv_ h_ => hK37 _ _ _ _ v_ (RM_tr rr50 rv_) h_) (fun v_ rv_ h_ => hp v_ (RM_tr rr50 rv_) h_) hh53
                · have hh54 := hh48.2 cc52
                  exact hK37 _ _ _ _ _ rr50 hh54
      · have hh55 := hh11.2 cc15
        refine f_wp_X9_again (fun r31 u32 rr57 hh56 => ?_) hh55
        have rr58 : RM u u32 := RM_tr rr13 rr57
        exact hK37 _ _ _ _ _ rr58 hh56
theorem f_wp_X9_fill {x1 : Int32} {x2 : Int32} {u : mS} {post post_ : mS → Prop} (hp : ∀ (b0_ : mS), RM u b0_ → post b0_ → post_ b0_) (h : wp_X9_fill x1 x2 u post) : wp_X9_fill x1 x2 u post_ := by
  refine f_wp_X9_end_4 (fun r1 u2 rr2 hh1 => ?_) h
  have rr3 : RM u u2 := RM_tr (RM_rf u) rr2
  refine f_wp_X9_end_4 (fun r3 u4 rr5 hh4 => ?_) hh1
  have rr6 : RM u u4 := RM_tr rr3 rr5
  intro u5 ee7
  have hh8 := hh4 u5 ee7
  have rr9 : RM u u5 := by rw [ee7]; exact RM_set rr6 (by decide)
  intro u6 ee10
  have hh11 := hh8 u6 ee10
  have rr12 : RM u u6 := by rw [ee10]; exact RM_set rr9 (by decide)
  intro u7 ee13
  have hh14 := hh11 u7 ee13
  have rr15 : RM u u7 := by rw [ee13]; exact RM_set rr12 (by decide)
  obtain ⟨nn16, hh17⟩ := hh14
  refine ⟨nn16, mL5_mo RM RM_rf ?_ nn16 _ _ _ _ _ (RM_rf _) hh17⟩
  intro K_ K2_ z_ hz_ hK_ _ _ _ _ h_
  exact f_wj_X9_fill_37 (fun _ _ _ _ v_ rv_ h_ => hK_ _ _ _ _ v_ (RM_tr hz_ rv_) h_) (fun v_ rv_ h_ => hp v_ (RM_tr rr15 (RM_tr hz_ rv_)) h_) h_
theorem f_wp_X9_kind_13 {x1 : Int32} {u : mS} {post post_ : Int32 → mS → Prop} (hp : ∀ (b0_ : Int32) (b1_ : mS), RM u b1_ → post b0_ b1_ → post_ b0_ b1_) (h : wp_X9_kind_13 x1 u post) : wp_X9_kind_13 x1 u post_ := by
  refine ⟨h.1, ?_⟩
  have hh1 := h.2
  intro y1 ee2
  have hh3 := hh1 y1 ee2
  intro y2 ee4
  have hh5 := hh3 y2 ee4
  exact hp _ _ (RM_rf u) hh5
theorem f_wj_X9_turn_13_14_37 {K3 K3_ : Int32 → Int32 → Int32 → mS → Prop} {post post_ : mS → Prop} {x4 : Int32} {x5 : Int32} {x6 : Int32} {z0 : Int32} {z1 : Int32} {u : mS} (hK3 : ∀ (b0_ : Int32) (b1_ : Int32) (b2_ : Int32) (b3_ : mS), RM u b3_ → K3 b0_ b1_ b2_ b3_ → K3_ b0_ b1_ b2_ b3_) (hp : ∀ (b0_ : mS), RM u b0_ → post b0_ → post_ b0_) (h : wj_X9_turn_13_14_37 K3 post x4 x5 x6 z0 z1 u) : wj_X9_turn_13_14_37 K3_ post_ x4 x5 x6 z0 z1 u := by
  refine ⟨h.1, ?_⟩
  have hh1 := h.2
  intro u8 ee2
  have hh3 := hh1 u8 ee2
  have rr4 : RM u u8 := by rw [ee2]; exact RM_put (RM_rf u) (by decide)
  intro y9 ee5
  have hh6 := hh3 y9 ee5
  exact hK3 _ _ _ _ rr4 hh6
theorem f_wj_X9_turn_13_14_3 {K3 K3_ : Int32 → Int32 → Int32 → mS → Prop} {post post_ : mS → Prop} {x4 : Int32} {x5 : Int32} {x6 : Int32} {u : mS} (hK3 : ∀ (b0_ : Int32) (b1_ : Int32) (b2_ : Int32) (b3_ : mS), RM u b3_ → K3 b0_ b1_ b2_ b3_ → K3_ b0_ b1_ b2_ b3_) (hp : ∀ (b0_ : mS), RM u b0_ → post b0_ → post_ b0_) (h : wj_X9_turn_13_14_3 K3 post x4 x5 x6 u) : wj_X9_turn_13_14_3 K3_ post_ x4 x5 x6 u := by
  refine ⟨fun cc1 => ?_, fun cc2 => ?_⟩
  · have hh3 := h.1 cc1
    exact hp _ (RM_rf u) hh3
  · have hh4 := h.2 cc2
    refine f_wp_X9_kind_13 (fun r2 u3 rr6 hh5 => ?_) hh4
    have rr7 : RM u u3 := RM_tr (RM_rf u) rr6
    refine ⟨fun cc8 => ?_, fun cc9 => ?_⟩
    · have hh10 := hh5.1 cc8
      refine ⟨hh10.1, ?_⟩
      have hh11 := hh10.2
      intro y5 ee12
      have hh13 := hh11 y5 ee12
      exact f_wj_X9_turn_13_14_37 (fun _ _ _ v_ rv_ h_ => hK3 _ _ _ v_ (RM_tr rr7 rv_) h_) (fun v_ rv_ h_ => hp v_ (RM_tr rr7 rv_) h_) hh13
    · have hh14 := hh5.2 cc9
      refine ⟨hh14.1, ?_⟩
      have hh15 := hh14.2
      intro y6 ee16
      have hh17 := hh15 y6 ee16
      intro y7 ee18
      have hh19 := hh17 y7 ee18
      exact f_wj_X9_turn_13_14_37 (fun _ _ _ v_ rv_ h_ => hK3 _ _ _ v_ (RM_tr rr7 rv_) h_) (fun v_ rv_ h_ => hp v_ (RM_tr rr7 rv_) h_) hh19
theorem f_wp_X9_turn_13_14 {x3 : Int32} {x4 : Int32} {x5 : Int32} {u : mS} {post post_ : mS → Prop} (hp : ∀ (b0_ : mS), RM u b0_ → post b0_ → post_ b0_) (h : wp_X9_turn_13_14 x3 x4 x5 u post) : wp_X9_turn_13_14 x3 x4 x5 u post_ := by
  obtain ⟨nn1, hh2⟩ := h
  refine ⟨nn1, mL4_mo RM RM_rf ?_ nn1 _ _ _ _ (RM_rf _) hh2⟩
  intro K_ K2_ z_ hz_ hK_ _ _ _ h_
  exact f_wj_X9_turn_13_14_3 (fun _ _ _ v_ rv_ h_ => hK_ _ _ _ v_ (RM_tr hz_ rv_) h_) (fun v_ rv_ h_ => hp v_ (RM_tr (RM_rf u) (RM_tr hz_ rv_)) h_) h_
theorem f_wj_X9_use_182 {K182 K182_ : Int32 → mS → Prop} {post post_ : mS → Prop} {x5 : Int32} {u : mS} (hK182 : ∀ (b0_ : Int32) (b1_ : mS), RM u b1_ → K182 b0_ b1_ → K182_ b0_ b1_) (hp : ∀ (b0_ : mS), RM u b0_ → post b0_ → post_ b0_) (h : wj_X9_use_182 K182 post x5 u) : wj_X9_use_182 K182_ post_ x5 u := by
  intro y44 ee1
  have hh2 := h y44 ee1
  refine ⟨fun cc3 => ?_, fun cc4 => ?_⟩
  · have hh5 := hh2.1 cc3
    exact hp _ (RM_rf u) hh5
  · have hh6 := hh2.2 cc4
    intro y46 ee7
    have hh8 := hh6 y46 ee7
    intro y47 ee9
    have hh10 := hh8 y47 ee9
    refine ⟨hh10.1, ?_⟩
    have hh11 := hh10.2
    intro y48 ee12
    have hh13 := hh11 y48 ee12
    refine ⟨hh13.1, ?_⟩
    have hh14 := hh13.2
    intro u49 ee15
    have hh16 := hh14 u49 ee15
    have rr17 : RM u u49 := by rw [ee15]; exact RM_put (RM_rf u) (by decide)
    intro y50 ee18
    have hh19 := hh16 y50 ee18
    intro y51 ee20
    have hh21 := hh19 y51 ee20
    refine ⟨hh21.1, ?_⟩
    have hh22 := hh21.2
    intro y52 ee23
    have hh24 := hh22 y52 ee23
    refine ⟨hh24.1, ?_⟩
    have hh25 := hh24.2
    intro u53 ee26
    have hh27 := hh25 u53 ee26
    have rr28 : RM u u53 := by rw [ee26]; exact RM_put rr17 (by decide)
    intro y54 ee29
    have hh30 := hh27 y54 ee29
    exact hK182 _ _ rr28 hh30
theorem f_wj_X9_use_114 {post post_ : mS → Prop} {x1 : Int32} {x2 : Int32} {x3 : Int32} {x4 : Int32} {u : mS} (hp : ∀ (b0_ : mS), RM u b0_ → post b0_ → post_ b0_) (h : wj_X9_use_114 post x1 x2 x3 x4 u) : wj_X9_use_114 post_ x1 x2 x3 x4 u := by
  refine ⟨h.1, ?_⟩
  have hh1 := h.2
  intro y28 ee2
  have hh3 := hh1 y28 ee2
  refine ⟨fun cc4 => ?_, fun cc5 => ?_⟩
  · have hh6 := hh3.1 cc4
    intro y30 ee7
    have hh8 := hh6 y30 ee7
    intro y31 ee9
    have hh10 := hh8 y31 ee9
    refine f_wp_X9_fill (fun u33 rr12 hh11 => ?_) hh10
    have rr13 : RM u u33 := RM_tr (RM_rf u) rr12
    intro y34 ee14
    have hh15 := hh11 y34 ee14
    refine ⟨fun cc16 => ?_, fun cc17 => ?_⟩
    · have hh18 := hh15.1 cc16
      intro y36 ee19
      have hh20 := hh18 y36 ee19
      refine f_wp_X9_turn_13_14 (fun u38 rr22 hh21 => ?_) hh20
      have rr23 : RM u u38 := RM_tr rr13 rr22
      intro y39 ee24
      have hh25 := hh21 y39 ee24
      intro y40 ee26
      have hh27 := hh25 y40 ee26
      intro u41 ee28
      have hh29 := hh27 u41 ee28
      have rr30 : RM u u41 := by rw [ee28]; exact RM_set rr23 (by decide)
      obtain ⟨nn31, hh32⟩ := hh29
      refine ⟨nn31, mL2_mo RM RM_rf ?_ nn31 _ _ (RM_rf _) hh32⟩
      intro K_ K2_ z_ hz_ hK_ _ h_
      exact f_wj_X9_use_182 (fun _ v_ rv_ h_ => hK_ _ v_ (RM_tr hz_ rv_) h_) (fun v_ rv_ h_ => hp v_ (RM_tr rr30 (RM_tr hz_ rv_)) h_) h_
    · have hh33 := hh15.2 cc17
      exact hp _ rr13 hh33
  · have hh34 := hh3.2 cc5
    refine f_wp_X9_fails (fun u43 rr36 hh35 => ?_) hh34
    have rr37 : RM u u43 := RM_tr (RM_rf u) rr36
    exact hp _ rr37 hh35
theorem f_wj_X9_use_74 {K74 K74_ : Int32 → Int32 → Int32 → Int32 → mS → Prop} {post post_ : mS → Prop} {x1 : Int32} {x2 : Int32} {x3 : Int32} {x4 : Int32} {u : mS} (hK74 : ∀ (b0_ : Int32) (b1_ : Int32) (b2_ : Int32) (b3_ : Int32) (b4_ : mS), RM u b4_ → K74 b0_ b1_ b2_ b3_ b4_ → K74_ b0_ b1_ b2_ b3_ b4_) (hp : ∀ (b0_ : mS), RM u b0_ → post b0_ → post_ b0_) (h : wj_X9_use_74 K74 post x1 x2 x3 x4 u) : wj_X9_use_74 K74_ post_ x1 x2 x3 x4 u := by
  refine ⟨h.1, ?_⟩
  have hh1 := h.2
  intro y19 ee2
  have hh3 := hh1 y19 ee2
  refine ⟨fun cc4 => ?_, fun cc5 => ?_⟩
  · have hh6 := hh3.1 cc4
    exact f_wj_X9_use_114 (fun v_ rv_ h_ => hp v_ (RM_tr (RM_rf u) rv_) h_) hh6
  · have hh7 := hh3.2 cc5
    intro y21 ee8
    have hh9 := hh7 y21 ee8
    intro y22 ee10
    have hh11 := hh9 y22 ee10
    refine f_wp_X9_matches (fun r23 u24 rr13 hh12 => ?_) hh11
    have rr14 : RM u u24 := RM_tr (RM_rf u) rr13
    refine ⟨fun cc15 => ?_, fun cc16 => ?_⟩
    · have hh17 := hh12.1 cc15
      exact f_wj_X9_use_114 (fun v_ rv_ h_ => hp v_ (RM_tr rr14 rv_) h_) hh17
    · have hh18 := hh12.2 cc16
      refine f_wp_X9_end_4 (fun r26 u27 rr20 hh19 => ?_) hh18
      have rr21 : RM u u27 := RM_tr rr14 rr20
      exact hK74 _ _ _ _ _ rr21 hh19
theorem f_wp_X9_use {x1 : Int32} {u : mS} {post post_ : mS → Prop} (hp : ∀ (b0_ : mS), RM u b0_ → post b0_ → post_ b0_) (h : wp_X9_use x1 u post) : wp_X9_use x1 u post_ := by
  intro y1 ee1
  have hh2 := h y1 ee1
  refine ⟨fun cc3 => ?_, fun cc4 => ?_⟩
  · have hh5 := hh2.1 cc3
    intro y3 ee6
    have hh7 := hh5 y3 ee6
    intro y4 ee8
    have hh9 := hh7 y4 ee8
    intro u5 ee10
    have hh11 := hh9 u5 ee10
    have rr12 : RM u u5 := by rw [ee10]; exact RM_set (RM_rf u) (by decide)
    refine f_wp_X9_scope (fun r6 u7 rr14 hh13 => ?_) hh11
    have rr15 : RM u u7 := RM_tr rr12 rr14
    intro y8 ee16
    have hh17 := hh13 y8 ee16
    refine ⟨fun cc18 => ?_, fun cc19 => ?_⟩
    · have hh20 := hh17.1 cc18
      intro y10 ee21
      have hh22 := hh20 y10 ee21
      refine f_wp_X9_end_2 (fun r11 u12 rr24 hh23 => ?_) hh22
      have rr25 : RM u u12 := RM_tr rr15 rr24
      intro y13 ee26
      have hh27 := hh23 y13 ee26
      refine f_wp_X9_turn_2_3 (fun u15 rr29 hh28 => ?_) hh27
      have rr30 : RM u u15 := RM_tr rr25 rr29
      refine ⟨hh28.1, ?_⟩
      have hh31 := hh28.2
      intro y16 ee32
      have hh33 := hh31 y16 ee32
      obtain ⟨nn34, hh35⟩ := hh33
      refine ⟨nn34, mL5_mo RM RM_rf ?_ nn34 _ _ _ _ _ (RM_rf _) hh35⟩
      intro K_ K2_ z_ hz_ hK_ _ _ _ _ h_
      exact f_wj_X9_use_74 (fun _ _ _ _ v_ rv_ h_ => hK_ _ _ _ _ v_ (RM_tr hz_ rv_) h_) (fun v_ rv_ h_ => hp v_ (RM_tr rr30 (RM_tr hz_ rv_)) h_) h_
    · have hh36 := hh17.2 cc19
      exact hp _ rr15 hh36
  · have hh37 := hh2.2 cc4
    refine f_wp_X9_fails (fun u18 rr39 hh38 => ?_) hh37
    have rr40 : RM u u18 := RM_tr (RM_rf u) rr39
    exact hp _ rr40 hh38
theorem f_wj_X9_list_94 {post post_ : mS → Prop} {z0 : Int32} {u : mS} (hp : ∀ (b0_ : mS), RM u b0_ → post b0_ → post_ b0_) (h : wj_X9_list_94 post z0 u) : wj_X9_list_94 post_ z0 u := by
  refine f_wp_X9_fails (fun u31 rr2 hh1 => ?_) h
  have rr3 : RM u u31 := RM_tr (RM_rf u) rr2
  exact hp _ rr3 hh1
theorem f_wj_X9_list_150 {post post_ : mS → Prop} {u : mS} (hp : ∀ (b0_ : mS), RM u b0_ → post b0_ → post_ b0_) (h : wj_X9_list_150 post u) : wj_X9_list_150 post_ u := by
  refine f_wp_X9_putOpen (fun u38 rr2 hh1 => ?_) h
  have rr3 : RM u u38 := RM_tr (RM_rf u) rr2
  intro y39 ee4
  have hh5 := hh1 y39 ee4
  intro y40 ee6
  have hh7 := hh5 y40 ee6
  intro u41 ee8
  have hh9 := hh7 u41 ee8
  have rr10 : RM u u41 := by rw [ee8]; exact RM_set rr3 (by decide)
  intro y42 ee11
  have hh12 := hh9 y42 ee11
  intro y43 ee13
  have hh14 := hh12 y43 ee13
  intro u44 ee15
  have hh16 := hh14 u44 ee15
  have rr17 : RM u u44 := by rw [ee15]; exact RM_set rr10 (by decide)
  exact hp _ rr17 hh16
theorem f_wj_X9_list_127 {post post_ : mS → Prop} {x1 : Int32} {x2 : Int32} {u : mS} (hp : ∀ (b0_ : mS), RM u b0_ → post b0_ → post_ b0_) (h : wj_X9_list_127 post x1 x2 u) : wj_X9_list_127 post_ x1 x2 u := by
  refine ⟨fun cc1 => ?_, fun cc2 => ?_⟩
  · have hh3 := h.1 cc1
    exact f_wj_X9_list_150 (fun v_ rv_ h_ => hp v_ (RM_tr (RM_rf u) rv_) h_) hh3
  · have hh4 := h.2 cc2
    refine ⟨hh4.1, ?_⟩
    have hh5 := hh4.2
    intro y33 ee6
    have hh7 := hh5 y33 ee6
    refine ⟨fun cc8 => ?_, fun cc9 => ?_⟩
    · have hh10 := hh7.1 cc8
      exact f_wj_X9_list_150 (fun v_ rv_ h_ => hp v_ (RM_tr (RM_rf u) rv_) h_) hh10
    · have hh11 := hh7.2 cc9
      refine f_wp_X9_use (fun u36 rr13 hh12 => ?_) hh11
      have rr14 : RM u u36 := RM_tr (RM_rf u) rr13
      exact hp _ rr14 hh12
theorem f_wj_X9_list_78 {post post_ : mS → Prop} {x1 : Int32} {z0 : Int32} {u : mS} (hp : ∀ (b0_ : mS), RM u b0_ → post b0_ → post_ b0_) (h : wj_X9_list_78 post x1 z0 u) : wj_X9_list_78 post_ x1 z0 u := by
  refine ⟨fun cc1 => ?_, fun cc2 => ?_⟩
  · have hh3 := h.1 cc1
    refine ⟨fun cc4 => ?_, fun cc5 => ?_⟩
    · have hh6 := hh3.1 cc4
      exact f_wj_X9_list_127 (fun v_ rv_ h_ => hp v_ (RM_tr (RM_rf u) rv_) h_) hh6
    · have hh7 := hh3.2 cc5
      refine ⟨hh7.1, ?_⟩
      have hh8 := hh7.2
      intro y24 ee9
      have hh10 := hh8 y24 ee9
      refine ⟨fun cc11 => ?_, fun cc12 => ?_⟩
      · have hh13 := hh10.1 cc11
        exact f_wj_X9_list_127 (fun v_ rv_ h_ => hp v_ (RM_tr (RM_rf u) rv_) h_) hh13
      · have hh14 := hh10.2 cc12
        refine ⟨hh14.1, ?_⟩
        have hh15 := hh14.2
        intro y26 ee16
        have hh17 := hh15 y26 ee16
        refine f_wp_X9_form (fun u28 rr19 hh18 => ?_) hh17
        have rr20 : RM u u28 := RM_tr (RM_rf u) rr19
        exact hp _ rr20 hh18
  · have hh21 := h.2 cc2
    refine ⟨fun cc22 => ?_, fun cc23 => ?_⟩
    · have hh24 := hh21.1 cc22
      exact f_wj_X9_list_94 (fun v_ rv_ h_ => hp v_ (RM_tr (RM_rf u) rv_) h_) hh24
    · have hh25 := hh21.2 cc23
      exact f_wj_X9_list_94 (fun v_ rv_ h_ => hp v_ (RM_tr (RM_rf u) rv_) h_) hh25
theorem f_wp_X9_list {u : mS} {post post_ : mS → Prop} (hp : ∀ (b0_ : mS), RM u b0_ → post b0_ → post_ b0_) (h : wp_X9_list u post) : wp_X9_list u post_ := by
  intro y1 ee1
  have hh2 := h y1 ee1
  refine ⟨fun cc3 => ?_, fun cc4 => ?_⟩
  · have hh5 := hh2.1 cc3
    intro y3 ee6
    have hh7 := hh5 y3 ee6
    intro y4 ee8
    have hh9 := hh7 y4 ee8
    refine f_wp_X9_kind_2 (fun r5 u6 rr11 hh10 => ?_) hh9
    have rr12 : RM u u6 := RM_tr (RM_rf u) rr11
    refine ⟨fun cc13 => ?_, fun cc14 => ?_⟩
    · have hh15 := hh10.1 cc13
      refine ⟨fun cc16 => ?_, fun cc17 => ?_⟩
      · have hh18 := hh15.1 cc16
        exact f_wj_X9_list_78 (fun v_ rv_ h_ => hp v_ (RM_tr rr12 rv_) h_) hh18
      · have hh19 := hh15.2 cc17
        intro y9 ee20
        have hh21 := hh19 y9 ee20
        intro y10 ee22
        have hh23 := hh21 y10 ee22
        refine f_wp_X9_what_2 (fun r11 u12 rr25 hh24 => ?_) hh23
        have rr26 : RM u u12 := RM_tr rr12 rr25
        intro y13 ee27
        have hh28 := hh24 y13 ee27
        intro y14 ee29
        have hh30 := hh28 y14 ee29
        refine ⟨hh30.1, ?_⟩
        have hh31 := hh30.2
        intro y15 ee32
        have hh33 := hh31 y15 ee32
        refine f_wp_X9_means (fun r16 u17 rr35 hh34 => ?_) hh33
        have rr36 : RM u u17 := RM_tr rr26 rr35
        exact f_wj_X9_list_78 (fun v_ rv_ h_ => hp v_ (RM_tr rr36 rv_) h_) hh34
    · have hh37 := hh10.2 cc14
      refine f_wp_X9_fails (fun u19 rr39 hh38 => ?_) hh37
      have rr40 : RM u u19 := RM_tr rr12 rr39
      exact hp _ rr40 hh38
  · have hh41 := hh2.2 cc4
    refine f_wp_X9_fails (fun u21 rr43 hh42 => ?_) hh41
    have rr44 : RM u u21 := RM_tr (RM_rf u) rr43
    exact hp _ rr44 hh42
theorem f_wj_X9_step_125 {post post_ : mS → Prop} {u : mS} (hp : ∀ (b0_ : mS), RM u b0_ → post b0_ → post_ b0_) (h : wj_X9_step_125 post u) : wj_X9_step_125 post_ u := by
  intro y34 ee1
  have hh2 := h y34 ee1
  intro y35 ee3
  have hh4 := hh2 y35 ee3
  intro u36 ee5
  have hh6 := hh4 u36 ee5
  have rr7 : RM u u36 := by rw [ee5]; exact RM_set (RM_rf u) (by decide)
  intro y37 ee8
  have hh9 := hh6 y37 ee8
  intro y38 ee10
  have hh11 := hh9 y38 ee10
  intro u39 ee12
  have hh13 := hh11 u39 ee12
  have rr14 : RM u u39 := by rw [ee12]; exact RM_set rr7 (by decide)
  exact hp _ rr14 hh13
theorem f_wj_X9_step_116 {post post_ : mS → Prop} {x1 : Int32} {u : mS} (hp : ∀ (b0_ : mS), RM u b0_ → post b0_ → post_ b0_) (h : wj_X9_step_116 post x1 u) : wj_X9_step_116 post_ x1 u := by
  refine ⟨fun cc1 => ?_, fun cc2 => ?_⟩
  · have hh3 := h.1 cc1
    exact f_wj_X9_step_125 (fun v_ rv_ h_ => hp v_ (RM_tr (RM_rf u) rv_) h_) hh3
  · have hh4 := h.2 cc2
    refine f_wp_X9_putClose (fun u33 rr6 hh5 => ?_) hh4
    have rr7 : RM u u33 := RM_tr (RM_rf u) rr6
    exact f_wj_X9_step_125 (fun v_ rv_ h_ => hp v_ (RM_tr rr7 rv_) h_) hh5
theorem f_wj_X9_step_47 {post post_ : mS → Prop} {x1 : Int32} {u : mS} (hp : ∀ (b0_ : mS), RM u b0_ → post b0_ → post_ b0_) (h : wj_X9_step_47 post x1 u) : wj_X9_step_47 post_ x1 u := by
  intro y12 ee1
  have hh2 := h y12 ee1
  refine ⟨fun cc3 => ?_, fun cc4 => ?_⟩
  · have hh5 := hh2.1 cc3
    refine ⟨fun cc6 => ?_, fun cc7 => ?_⟩
    · have hh8 := hh5.1 cc6
      refine ⟨fun cc9 => ?_, fun cc10 => ?_⟩
      · have hh11 := hh8.1 cc9
        refine ⟨fun cc12 => ?_, fun cc13 => ?_⟩
        · have hh14 := hh11.1 cc12
          refine ⟨fun cc15 => ?_, fun cc16 => ?_⟩
          · have hh17 := hh14.1 cc15
            exact f_wj_X9_step_116 (fun v_ rv_ h_ => hp v_ (RM_tr (RM_rf u) rv_) h_) hh17
          · have hh18 := hh14.2 cc16
            refine ⟨fun cc19 => ?_, fun cc20 => ?_⟩
            · have hh21 := hh18.1 cc19
              refine f_wp_X9_fails (fun u20 rr23 hh22 => ?_) hh21
              have rr24 : RM u u20 := RM_tr (RM_rf u) rr23
              exact hp _ rr24 hh22
            · have hh25 := hh18.2 cc20
              exact f_wj_X9_step_116 (fun v_ rv_ h_ => hp v_ (RM_tr (RM_rf u) rv_) h_) hh25
        · have hh26 := hh11.2 cc13
          intro y21 ee27
          have hh28 := hh26 y21 ee27
          refine f_wp_X9_putToken (fun u23 rr30 hh29 => ?_) hh28
          have rr31 : RM u u23 := RM_tr (RM_rf u) rr30
          intro y24 ee32
          have hh33 := hh29 y24 ee32
          intro y25 ee34
          have hh35 := hh33 y25 ee34
          intro u26 ee36
          have hh37 := hh35 u26 ee36
          have rr38 : RM u u26 := by rw [ee36]; exact RM_set rr31 (by decide)
          exact hp _ rr38 hh37
      · have hh39 := hh8.2 cc10
        refine f_wp_X9_word (fun u28 rr41 hh40 => ?_) hh39
        have rr42 : RM u u28 := RM_tr (RM_rf u) rr41
        exact hp _ rr42 hh40
    · have hh43 := hh5.2 cc7
      refine f_wp_X9_list (fun u30 rr45 hh44 => ?_) hh43
      have rr46 : RM u u30 := RM_tr (RM_rf u) rr45
      exact hp _ rr46 hh44
  · have hh47 := hh2.2 cc4
    exact hp _ (RM_rf u) hh47
theorem f_wp_X9_step {u : mS} {post post_ : mS → Prop} (hp : ∀ (b0_ : mS), RM u b0_ → post b0_ → post_ b0_) (h : wp_X9_step u post) : wp_X9_step u post_ := by
  intro y1 ee1
  have hh2 := h y1 ee1
  refine f_wp_X9_kind_2 (fun r2 u3 rr4 hh3 => ?_) hh2
  have rr5 : RM u u3 := RM_tr (RM_rf u) rr4
  intro y4 ee6
  have hh7 := hh3 y4 ee6
  refine ⟨fun cc8 => ?_, fun cc9 => ?_⟩
  · have hh10 := hh7.1 cc8
    exact f_wj_X9_step_47 (fun v_ rv_ h_ => hp v_ (RM_tr rr5 rv_) h_) hh10
  · have hh11 := hh7.2 cc9
    refine ⟨fun cc12 => ?_, fun cc13 => ?_⟩
    · have hh14 := hh11.1 cc12
      exact f_wj_X9_step_47 (fun v_ rv_ h_ => hp v_ (RM_tr rr5 rv_) h_) hh14
    · have hh15 := hh11.2 cc13
      refine ⟨fun cc16 => ?_, fun cc17 => ?_⟩
      · have hh18 := hh15.1 cc16
        exact f_wj_X9_step_47 (fun v_ rv_ h_ => hp v_ (RM_tr rr5 rv_) h_) hh18
      · have hh19 := hh15.2 cc17
        refine ⟨fun cc20 => ?_, fun cc21 => ?_⟩
        · have hh22 := hh19.1 cc20
          exact f_wj_X9_step_47 (fun v_ rv_ h_ => hp v_ (RM_tr rr5 rv_) h_) hh22
        · have hh23 := hh19.2 cc21
          refine f_wp_X9_put (fun u10 rr25 hh24 => ?_) hh23
          have rr26 : RM u u10 := RM_tr rr5 rr25
          intro u11 ee27
          have hh28 := hh24 u11 ee27
          have rr29 : RM u u11 := by rw [ee27]; exact RM_set rr26 (by decide)
          exact f_wj_X9_step_47 (fun v_ rv_ h_ => hp v_ (RM_tr rr29 rv_) h_) hh28
theorem f_wj_X9_expand_10 {post post_ : Int32 → mS → Prop} {u : mS} (hp : ∀ (b0_ : Int32) (b1_ : mS), RM u b1_ → post b0_ b1_ → post_ b0_ b1_) (h : wj_X9_expand_10 post u) : wj_X9_expand_10 post_ u := by
  exact hp _ _ (RM_rf u) h
theorem f_wj_X9_expand_122 {post post_ : Int32 → mS → Prop} {u : mS} (hp : ∀ (b0_ : Int32) (b1_ : mS), RM u b1_ → post b0_ b1_ → post_ b0_ b1_) (h : wj_X9_expand_122 post u) : wj_X9_expand_122 post_ u := by
  intro y28 ee1
  have hh2 := h y28 ee1
  refine ⟨fun cc3 => ?_, fun cc4 => ?_⟩
  · have hh5 := hh2.1 cc3
    intro y30 ee6
    have hh7 := hh5 y30 ee6
    exact hp _ _ (RM_rf u) hh7
  · have hh8 := hh2.2 cc4
    intro y31 ee9
    have hh10 := hh8 y31 ee9
    intro y32 ee11
    have hh12 := hh10 y32 ee11
    exact hp _ _ (RM_rf u) hh12
theorem f_wj_X9_expand_110 {post post_ : Int32 → mS → Prop} {u : mS} (hp : ∀ (b0_ : Int32) (b1_ : mS), RM u b1_ → post b0_ b1_ → post_ b0_ b1_) (h : wj_X9_expand_110 post u) : wj_X9_expand_110 post_ u := by
  intro y25 ee1
  have hh2 := h y25 ee1
  refine ⟨fun cc3 => ?_, fun cc4 => ?_⟩
  · have hh5 := hh2.1 cc3
    exact f_wj_X9_expand_122 (fun _ v_ rv_ h_ => hp _ v_ (RM_tr (RM_rf u) rv_) h_) hh5
  · have hh6 := hh2.2 cc4
    intro u27 ee7
    have hh8 := hh6 u27 ee7
    have rr9 : RM u u27 := by rw [ee7]; exact RM_set (RM_rf u) (by decide)
    exact f_wj_X9_expand_122 (fun _ v_ rv_ h_ => hp _ v_ (RM_tr rr9 rv_) h_) hh8
theorem f_wj_X9_expand_86 {K86 K86_ : mS → Prop} {post post_ : Int32 → mS → Prop} {u : mS} (hK86 : ∀ (b0_ : mS), RM u b0_ → K86 b0_ → K86_ b0_) (hp : ∀ (b0_ : Int32) (b1_ : mS), RM u b1_ → post b0_ b1_ → post_ b0_ b1_) (h : wj_X9_expand_86 K86 post u) : wj_X9_expand_86 K86_ post_ u := by
  intro y19 ee1
  have hh2 := h y19 ee1
  refine ⟨fun cc3 => ?_, fun cc4 => ?_⟩
  · have hh5 := hh2.1 cc3
    exact f_wj_X9_expand_110 (fun _ v_ rv_ h_ => hp _ v_ (RM_tr (RM_rf u) rv_) h_) hh5
  · have hh6 := hh2.2 cc4
    intro y21 ee7
    have hh8 := hh6 y21 ee7
    refine ⟨fun cc9 => ?_, fun cc10 => ?_⟩
    · have hh11 := hh8.1 cc9
      exact f_wj_X9_expand_110 (fun _ v_ rv_ h_ => hp _ v_ (RM_tr (RM_rf u) rv_) h_) hh11
    · have hh12 := hh8.2 cc10
      refine f_wp_X9_step (fun u24 rr14 hh13 => ?_) hh12
      have rr15 : RM u u24 := RM_tr (RM_rf u) rr14
      exact hK86 _ rr15 hh13
theorem f_wj_X9_expand_64 {post post_ : Int32 → mS → Prop} {x2 : Int32} {z0 : Int32} {u : mS} (hp : ∀ (b0_ : Int32) (b1_ : mS), RM u b1_ → post b0_ b1_ → post_ b0_ b1_) (h : wj_X9_expand_64 post x2 z0 u) : wj_X9_expand_64 post_ x2 z0 u := by
  intro u13 ee1
  have hh2 := h u13 ee1
  have rr3 : RM u u13 := by rw [ee1]; exact RM_set (RM_rf u) (by decide)
  intro u14 ee4
  have hh5 := hh2 u14 ee4
  have rr6 : RM u u14 := by rw [ee4]; exact RM_set rr3 (by decide)
  refine f_wp_X9_beginning (fun u16 rr8 hh7 => ?_) hh5
  have rr9 : RM u u16 := RM_tr rr6 rr8
  refine ⟨fun cc10 => ?_, fun cc11 => ?_⟩
  · have hh12 := hh7.1 cc10
    obtain ⟨nn13, hh14⟩ := hh12
    refine ⟨nn13, mL1_mo RM RM_rf ?_ nn13 _ (RM_rf _) hh14⟩
    intro K_ K2_ z_ hz_ hK_  h_
    exact f_wj_X9_expand_86 (fun  v_ rv_ h_ => hK_ v_ (RM_tr hz_ rv_) h_) (fun _ v_ rv_ h_ => hp _ v_ (RM_tr rr9 (RM_tr hz_ rv_)) h_) h_
  · have hh15 := hh7.2 cc11
    intro y18 ee16
    have hh17 := hh15 y18 ee16
    exact hp _ _ rr9 hh17
theorem f_wp_X9_expand {x1 : Int32} {u : mS} {post post_ : Int32 → mS → Prop} (hp : ∀ (b0_ : Int32) (b1_ : mS), RM u b1_ → post b0_ b1_ → post_ b0_ b1_) (h : wp_X9_expand x1 u post) : wp_X9_expand x1 u post_ := by
  refine ⟨fun cc1 => ?_, fun cc2 => ?_⟩
  · have hh3 := h.1 cc1
    exact f_wj_X9_expand_10 (fun _ v_ rv_ h_ => hp _ v_ (RM_tr (RM_rf u) rv_) h_) hh3
  · have hh4 := h.2 cc2
    refine ⟨fun cc5 => ?_, fun cc6 => ?_⟩
    · have hh7 := hh4.1 cc5
      refine f_wp_X9_read (fun r3 u4 rr9 hh8 => ?_) hh7
      have rr10 : RM u u4 := RM_tr (RM_rf u) rr9
      intro u5 ee11
      have hh12 := hh8 u5 ee11
      have rr13 : RM u u5 := by rw [ee11]; exact RM_set rr10 (by decide)
      intro u6 ee14
      have hh15 := hh12 u6 ee14
      have rr16 : RM u u6 := by rw [ee14]; exact RM_set rr13 (by decide)
      intro u7 ee17
      have hh18 := hh15 u7 ee17
      have rr19 : RM u u7 := by rw [ee17]; exact RM_set rr16 (by decide)
      intro u8 ee20
      have hh21 := hh18 u8 ee20
      have rr22 : RM u u8 := by rw [ee20]; exact RM_set rr19 (by decide)
      intro u9 ee23
      have hh24 := hh21 u9 ee23
      have rr25 : RM u u9 := by rw [ee23]; exact RM_set rr22 (by decide)
      intro u10 ee26
      have hh27 := hh24 u10 ee26
      have rr28 : RM u u10 := by rw [ee26]; exact RM_set rr25 (by decide)
      intro u11 ee29
      have hh30 := hh27 u11 ee29
      have rr31 : RM u u11 := by rw [ee29]; exact RM_set rr28 (by decide)
      refine ⟨fun cc32 => ?_, fun cc33 => ?_⟩
      · have hh34 := hh30.1 cc32
        exact f_wj_X9_expand_64 (fun _ v_ rv_ h_ => hp _ v_ (RM_tr rr31 rv_) h_) hh34
      · have hh35 := hh30.2 cc33
        exact f_wj_X9_expand_64 (fun _ v_ rv_ h_ => hp _ v_ (RM_tr rr31 rv_) h_) hh35
    · have hh36 := hh4.2 cc6
      exact f_wj_X9_expand_10 (fun _ v_ rv_ h_ => hp _ v_ (RM_tr (RM_rf u) rv_) h_) hh36
