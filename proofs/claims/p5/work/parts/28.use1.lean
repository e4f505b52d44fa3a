-- 28: fill, turn, give, scope, bind, means of the reference
theorem fill_ok {pat n m0 lst m : Nat} {D : Nat → Nat → Prop} {u : mS} {post : mS → Prop} (hG : FG u pat n (pat + n) m0 lst m D) (hR : RD3 u) (he : u.1 12 = 0) (h1 : ∀ v k, FR [6, 7, 8, 12] [12, 13, 16, 17, 18] u v → RD3 v → v.1 12 = 0 → v.1 6 = nI k → 0 < k → k ≤ 300 → TL (v.2 12) 0 k → (∀ j, j < k → TOK (v.2 12 j)) → (∀ j, j < k → kd (v.2 12 j) = 6 → 0 < j ∧ ¬ kd (v.2 12 (j - 1)) = 1 ∧ ¬ kd (v.2 12 (j - 1)) = 6) → post v) (h0 : ∀ v, FR [6, 7, 8, 12] [12, 13, 16, 17, 18] u v → RD3 v → ¬ v.1 12 = 0 → post v) : wp_X9_fill (nI pat) (nI lst) u post := by
  have hFC := hG.1
  obtain ⟨⟨N, t, hPC⟩, -, -, hT, hTl, -⟩ := hFC
  refine end_4 hPC.1.1.2.1 (by omega) ?_
  refine end_4 hT (by omega) ?_
  rintro _ rfl _ rfl _ rfl
  refine fill_loop hG h1 h0 _ _ _ _ _ ⟨rfl, rfl, rfl, pat + n, rfl, by omega, by omega, FR_set (FR_set (FR_set FR.rf (by decide)) (by decide)) (by decide), hR, fun _ => ?_⟩
  refine ⟨0, 0, 0, fun l => (u.2 18 l).toNatClampNeg, fun _ => 0, fun _ => 0, ?_, ?_, by omega, ?_, by omega, fun l hl => ?_, fun l hl => by omega, ⟨fun l hl => by omega, fun l l' _ hl => by omega, fun c hc h _ => ?_⟩, ⟨fun j hj => by omega, fun j hj => by omega, rfl, ?_, fun j _ hj => by omega, fun h => by omega, fun _ => rfl⟩⟩
  · rw [mSet_other (by decide : (6 : Nat) ≠ 8), mSet_other (by decide : (6 : Nat) ≠ 7), mSet_same]; rfl
  · rw [mSet_other (by decide : (7 : Nat) ≠ 8), mSet_same]; rfl
  · rw [mSet_same]; rfl
  · obtain ⟨c, e, hc⟩ := hR l hl
    show u.2 18 l = nI (u.2 18 l).toNatClampNeg ∧ (u.2 18 l).toNatClampNeg < 2 ^ 20
    rw [e, nI_clamp (by omega)]
    exact ⟨rfl, hc⟩
  · have := hc.1; omega
  · rw [Nat.sub_self]; rfl
theorem kind_13 {i : Nat} {u : mS} {post : Int32 → mS → Prop} (hi : i < 310) (hp : post (kd (u.2 12 i)) u) : wp_X9_kind_13 (nI i) u post := by
  refine ⟨vp_in_nI hi (by omega), ?_⟩
  rintro _ rfl _ rfl
  rw [nI_clamp (by omega)]
  exact hp
theorem turn2_ok {a b : Nat} {x : Int32} {u : mS} {post : mS → Prop} (hab : a ≤ b) (hb : b ≤ 2600) (hp : ∀ w, FR [] [2] u w → post w) : wp_X9_turn_2_3 (nI a) (nI b) x u post := by
  refine mL4_in (fun x4 _ x6 w => x4 = nI b ∧ ∃ k, x6 = nI k ∧ k ≤ b ∧ FR [] [2] u w) (fun _ _ x6 _ => b - x6.toNatClampNeg) ?_ _ _ _ _ ⟨rfl, a, rfl, hab, FR.rf⟩
  rintro K x4 x5 x6 w ⟨rfl, k, rfl, hk, hF⟩ ih
  rcases Nat.lt_or_ge k b with hlt | hge
  · have go : ∀ z, wj_X9_turn_2_3_37 K post (nI b) x5 (nI k) z (nI k) w := by
      intro z
      refine ⟨vp_in_nI (by omega) (by omega), ?_⟩
      rintro _ rfl _ rfl
      rw [nI_1]
      refine ih _ _ _ _ ⟨rfl, k + 1, rfl, by omega, FR_put hF (by decide)⟩ ?_
      rw [nI_clamp (by omega), nI_clamp (by omega)]; omega
    refine ⟨fun h => absurd h (by rw [nI_leI (by omega) (by omega)]; omega), fun _ => kind_2 (by omega) ⟨fun _ => ⟨vp_in_nI (by omega) (by omega), ?_⟩, fun _ => ⟨vp_in_nI (by omega) (by omega), ?_⟩⟩⟩
    · rintro _ rfl; exact go _
    · rintro _ rfl _ rfl; exact go _
  · have : k = b := by omega
    subst this
    exact ⟨fun _ => hp w hF, fun h => absurd (Int32.le_refl _) h⟩
theorem turn13_ok {a b : Nat} {x : Int32} {u : mS} {post : mS → Prop} (hab : a ≤ b) (hb : b ≤ 310) (hp : ∀ w, FR [] [13] u w → post w) : wp_X9_turn_13_14 (nI a) (nI b) x u post := by
  refine mL4_in (fun x4 _ x6 w => x4 = nI b ∧ ∃ k, x6 = nI k ∧ k ≤ b ∧ FR [] [13] u w) (fun _ _ x6 _ => b - x6.toNatClampNeg) ?_ _ _ _ _ ⟨rfl, a, rfl, hab, FR.rf⟩
  rintro K x4 x5 x6 w ⟨rfl, k, rfl, hk, hF⟩ ih
  rcases Nat.lt_or_ge k b with hlt | hge
  · have go : ∀ z, wj_X9_turn_13_14_37 K post (nI b) x5 (nI k) z (nI k) w := by
      intro z
      refine ⟨vp_in_nI (by omega) (by omega), ?_⟩
      rintro _ rfl _ rfl
      rw [nI_1]
      refine ih _ _ _ _ ⟨rfl, k + 1, rfl, by omega, FR_put hF (by decide)⟩ ?_
      rw [nI_clamp (by omega), nI_clamp (by omega)]; omega
    refine ⟨fun h => absurd h (by rw [nI_leI (by omega) (by omega)]; omega), fun _ => kind_13 (by omega) ⟨fun _ => ⟨vp_in_nI (by omega) (by omega), ?_⟩, fun _ => ⟨vp_in_nI (by omega) (by omega), ?_⟩⟩⟩
    · rintro _ rfl; exact go _
    · rintro _ rfl _ rfl; exact go _
  · have : k = b := by omega
    subst this
    exact ⟨fun _ => hp w hF, fun h => absurd (Int32.le_refl _) h⟩
theorem give_ok {a b : Nat} {x : Int32} {u : mS} {post : mS → Prop} (hab : a ≤ b) (hb : b ≤ 2600) (hp : ∀ w, FR [] [2] u w → post w) : wp_X9_give (nI a) (nI b) x u post := by
  refine mL4_in (fun x4 _ x6 w => x4 = nI b ∧ ∃ k, x6 = nI k ∧ k ≤ b ∧ FR [] [2] u w) (fun _ _ x6 _ => b - x6.toNatClampNeg) ?_ _ _ _ _ ⟨rfl, a, rfl, hab, FR.rf⟩
  rintro K x4 x5 x6 w ⟨rfl, k, rfl, hk, hF⟩ ih
  rcases Nat.lt_or_ge k b with hlt | hge
  · have go : ∀ z, wj_X9_give_47 K post (nI b) x5 (nI k) z (nI k) w := by
      intro z
      refine ⟨vp_in_nI (by omega) (by omega), ?_⟩
      rintro _ rfl _ rfl
      rw [nI_1]
      refine ih _ _ _ _ ⟨rfl, k + 1, rfl, by omega, FR_put hF (by decide)⟩ ?_
      rw [nI_clamp (by omega), nI_clamp (by omega)]; omega
    refine ⟨fun h => absurd h (by rw [nI_leI (by omega) (by omega)]; omega), fun _ => kind_2 (by omega) ⟨fun _ => ⟨vp_in_nI (by omega) (by omega), ?_⟩, fun _ => ⟨vp_in_nI (by omega) (by omega), ?_⟩⟩⟩
    · rintro _ rfl; exact go _
    · rintro _ rfl _ rfl; exact go _
  · have : k = b := by omega
    subst this
    exact ⟨fun _ => hp w hF, fun h => absurd (Int32.le_refl _) h⟩
theorem what_2 {i : Nat} {u : mS} {post : Int32 → mS → Prop} (hi : i < 2600) (hp : ∀ r, post r u) : wp_X9_what_2 (nI i) u post := by
  refine ⟨vp_in_nI hi (by omega), ?_⟩
  rintro _ rfl _ rfl
  exact hp _
theorem scope_ok {u : mS} {post : Int32 → mS → Prop} (h1 : ∀ r v, FR [13] [] u v → post r v) (h0 : ∀ r v, FR [12] [] u v → ¬ v.1 12 = 0 → post r v) : wp_X9_scope u post := by
  rintro _ rfl
  refine ⟨fun _ => ?_, fun _ => fails_ok (by decide) (fun v hv he _ => h0 _ v hv he)⟩
  rintro _ rfl _ rfl _ rfl _ rfl _ rfl _ rfl
  exact h1 _ _ (FR_set FR.rf (by decide))
/-- the bindings: fewer than 41, each of them as P says of meaning, from, to -/
def BNS (P : Int32 → Int32 → Int32 → Prop) (w : mS) : Prop := ∃ nb, w.1 4 = nI nb ∧ nb ≤ 40 ∧ ∀ k, k < nb → P (w.2 9 k) (w.2 10 k) (w.2 11 k)
theorem BNS_fr {P : Int32 → Int32 → Int32 → Prop} {S A : List Nat} {u w : mS} (h : BNS P u) (hF : FR S A u w) (h4 : 4 ∉ S) (h9 : 9 ∉ A) (h10 : 10 ∉ A) (h11 : 11 ∉ A) : BNS P w := by
  obtain ⟨nb, e, hb, hP⟩ := h
  refine ⟨nb, (hF.1 4 h4).trans e, hb, fun k hk => ?_⟩
  rw [hF.2 9 h9, hF.2 10 h10, hF.2 11 h11]
  exact hP k hk
theorem bind_ok {P : Int32 → Int32 → Int32 → Prop} {x1 x2 x3 x4 x5 : Int32} {u : mS} {post : mS → Prop} (hB : BNS P u) (hP : P x3 x4 x5) (hp : ∀ v, FR [4, 12] [7, 8, 9, 10, 11] u v → BNS P v → post v) : wp_X9_bind x1 x2 x3 x4 x5 u post := by
  have hB' := hB
  obtain ⟨nb, e, hb, hA⟩ := hB
  rintro _ rfl
  refine ⟨fun h40 => ?_, fun _ => fails_ok (by decide) (fun v hv he _ => hp v (hv.wk (by decide) (by decide)) (BNS_fr hB' hv (by decide) (by decide) (by decide) (by decide)))⟩
  have nb40 : nb < 40 := by
    rcases Nat.lt_or_ge nb 40 with a | a
    · exact a
    · exact absurd (by rw [e, show nb = 40 from by omega]; rfl) h40
  intro y3 e3
  have e3 : y3 = nI nb := e3.trans e
  subst e3
  refine ⟨vp_in_nI nb40 (by omega), ?_⟩
  rintro _ rfl y5 e5
  have e5 : y5 = nI nb := e5.trans e
  subst e5
  refine ⟨vp_in_nI nb40 (by omega), ?_⟩
  rintro _ rfl y7 e7
  have e7 : y7 = nI nb := e7.trans e
  subst e7
  refine ⟨vp_in_nI nb40 (by omega), ?_⟩
  rintro _ rfl y9 e9
  have e9 : y9 = nI nb := e9.trans e
  subst e9
  refine ⟨vp_in_nI nb40 (by omega), ?_⟩
  rintro _ rfl y11 e11
  have e11 : y11 = nI nb := e11.trans e
  subst e11
  refine ⟨vp_in_nI nb40 (by omega), ?_⟩
  rintro _ rfl y13 e13
  have e13 : y13 = nI nb := e13.trans e
  subst e13
  rintro _ rfl _ rfl
  rw [nI_clamp (by omega), nI_1]
  refine hp _ (FR_set (FR_put (FR_put (FR_put (FR_put (FR_put FR.rf (by decide)) (by decide)) (by decide)) (by decide)) (by decide)) (by decide)) ⟨nb + 1, mSet_same _ _ _, by omega, fun k hk => ?_⟩
  rw [mSet_arr, mPut_same, mPut_other (by decide : (9 : Nat) ≠ 11), mPut_other (by decide : (10 : Nat) ≠ 11), mPut_same, mPut_other (by decide : (9 : Nat) ≠ 10), mPut_same, mPut_other (by decide : (11 : Nat) ≠ 10), mPut_other (by decide : (11 : Nat) ≠ 9), mPut_other (by decide : (11 : Nat) ≠ 8), mPut_other (by decide : (11 : Nat) ≠ 7), mPut_other (by decide : (10 : Nat) ≠ 9), mPut_other (by decide : (10 : Nat) ≠ 8), mPut_other (by decide : (10 : Nat) ≠ 7), mPut_other (by decide : (9 : Nat) ≠ 8), mPut_other (by decide : (9 : Nat) ≠ 7)]
  by_cases y : k = nb
  · subst y; rw [pk_us, pk_us, pk_us]; exact hP
  · rw [pk_un y, pk_un y, pk_un y]; exact hA k (by omega)
theorem means_ok {nb : Nat} {x1 x2 : Int32} {u : mS} {post : Int32 → mS → Prop} (hn : u.1 4 = nI nb) (hb : nb ≤ 40) (h1 : ∀ k, k < nb → post (nI k) u) (h0 : post (-1) u) (h2 : post (-2) u) : wp_X9_means x1 x2 u post := by
  refine mL5_in (fun _ _ x3 x4 w => w = u ∧ (x3 = -1 ∨ x3 = -2) ∧ ∃ k, x4 = nI k ∧ k ≤ nb) (fun _ _ _ x4 _ => nb - x4.toNatClampNeg) ?_ _ _ _ _ _ ⟨rfl, Or.inl rfl, 0, rfl, by omega⟩
  rintro K x1 x2 x3 x4 w ⟨rfl, h3, k, rfl, hk⟩ ih
  intro y1 e1
  have e1 : y1 = nI nb := e1.trans hn
  subst e1
  refine ⟨fun h => ?_, fun h => ?_⟩
  · rcases h3 with rfl | rfl
    · exact h0
    · exact h2
  · rw [nI_leI (by omega) (by omega)] at h
    have next : ∀ x1 x2 x3, (x3 = -1 ∨ x3 = -2) → wj_X9_means_143 K post x1 x2 x3 (nI k) w := by
      intro x1 x2 x3 h3
      rintro _ rfl
      rw [nI_1]
      refine ih _ _ _ _ _ ⟨rfl, h3, k + 1, rfl, by omega⟩ ?_
      rw [nI_clamp (by omega), nI_clamp (by omega)]; omega
    refine ⟨vp_in_nI (by omega) (by omega), ?_⟩
    rintro _ rfl
    refine ⟨fun _ => next _ _ _ h3, fun _ => ⟨vp_in_nI (by omega) (by omega), ?_⟩⟩
    rintro _ rfl _ rfl _ rfl
    refine ⟨fun _ => ?_, fun _ => next _ _ _ h3⟩
    refine mL6_in (fun _ _ z4 _ z6 v => v = w ∧ z4 = nI k ∧ ∃ q, z6 = nI q ∧ q ≤ nb) (fun _ _ _ _ z6 _ => nb - z6.toNatClampNeg) ?_ _ _ _ _ _ _ ⟨rfl, rfl, 0, rfl, by omega⟩
    rintro K6 z1 z2 z4 z5 z6 v ⟨rfl, rfl, q, rfl, hq⟩ ih6
    intro y9 e9
    have e9 : y9 = nI nb := e9.trans hn
    subst e9
    refine ⟨fun _ => ⟨fun _ => next _ _ _ (Or.inr rfl), fun _ => h1 k (by omega)⟩, fun g => ?_⟩
    rw [nI_leI (by omega) (by omega)] at g
    have n124 : ∀ z0, wj_X9_means_124 K K6 post z1 z2 (nI k) (nI q) z0 v := by
      intro z0
      rintro _ rfl
      rw [nI_1]
      refine ih6 _ _ _ _ _ _ ⟨rfl, rfl, q + 1, rfl, by omega⟩ ?_
      rw [nI_clamp (by omega), nI_clamp (by omega)]; omega
    have n87 : ∀ z0, wj_X9_means_87 K K6 post z1 z2 (nI k) z5 (nI q) z0 v := by
      intro z0
      refine ⟨fun _ => n124 _, fun _ => ⟨fun _ => n124 _, fun _ => ⟨vp_in_nI (by omega) (by omega), ?_⟩⟩⟩
      rintro _ rfl
      refine ⟨vp_in_nI (by omega) (by omega), ?_⟩
      rintro _ rfl _ rfl _ rfl
      exact ⟨fun _ => n124 _, fun _ => n124 _⟩
    refine ⟨vp_in_nI (by omega) (by omega), ?_⟩
    rintro _ rfl
    refine ⟨fun _ => n87 _, fun _ => ⟨vp_in_nI (by omega) (by omega), ?_⟩⟩
    rintro _ rfl _ rfl _ rfl
    exact ⟨fun _ => n87 _, fun _ => n87 _⟩
