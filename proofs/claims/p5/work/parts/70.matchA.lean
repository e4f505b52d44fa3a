-- 70: a pattern matches a tree, on the class's side
theorem hasRoom_ok {a b c d p t0 n N t : Nat} {u : mS} {post : Int32 → mS → Prop} (hA : AR u a b) (hA2 : AR u c d) (hP : PL (ra u) p n N t) (hap : a ≤ p) (hpb : p + n ≤ b) (hct : c ≤ t0) (htd : t0 < d) (hy : FTS (ra u) N t t0 → post 1 u) (hn : ¬ FTS (ra u) N t t0 → post 0 u) : wp_X1_hasRoomFor (nI p) (nI t0) u post := by
  have hb := AR_b hA
  have hd := AR_b hA2
  have tN := PL_t hP
  obtain ⟨pcn, pdn⟩ := PL_cn hP
  have bN := LI_at hP.1 (Nat.le_refl N)
  have rest : ∀ x : Int32, (∀ M m, LI (ra u) t0 m M → dn (ra u) t0 M = 0 → x = nI M) → ((¬ ∃ M m, LI (ra u) t0 m M ∧ dn (ra u) t0 M = 0) → x = -1) → ∀ y3 : Int32, y3 = (nI p + (1 : Int32)) → wp_X5_itemsFrom y3 u (fun r4 u5 => wp_X5_hasDots (nI p) u5 (fun r6 u7 => ((r6 = 0) → ((¬ x = r4) → post (0 : Int32) u7) ∧ ((x = r4) → post (1 : Int32) u7)) ∧ ((¬ r6 = 0) → ∀ y10 : Int32, y10 = (r4 - (2 : Int32)) → ((x < y10) → post (0 : Int32) u7) ∧ ((¬ x < y10) → post (1 : Int32) u7)))) := by
    intro x hx1 hx2
    rintro _ rfl
    rw [nI_1]
    refine itemsFrom_ok (k := 0) hA hP.1 hap hpb (by omega) ?_
    rw [Nat.sub_zero]
    refine hasDots_ok hA hP.1 hap hpb (fun q => ⟨fun z => absurd z (by decide), fun _ => ?_⟩) (fun q => ⟨fun _ => ?_, fun z => absurd rfl z⟩)
    · have eN : N = t + 1 := by
        rcases hP.2.2 with z | ⟨z, _⟩
        · omega
        · exact z
      have t1 : 1 ≤ t := by
        rcases hP.2.2 with z | ⟨_, z, _⟩
        · omega
        · exact z
      rintro _ rfl
      rw [show (2 : Int32) = nI 2 from rfl, pk_sub (by omega)]
      rcases Classical.em (∃ M m, LI (ra u) t0 m M ∧ dn (ra u) t0 M = 0) with ⟨M, m, d1, d2⟩ | d1
      · have bM := LI_at d1 (Nat.le_refl M)
        have lm := (hA2.2 t0 hct htd)
        have em := tl_eq d1.2.1
        rw [em] at lm
        have lm2 := lm.2.2.1
        rw [hx1 M m d1 d2]
        refine ⟨fun z => hn ?_, fun z => hy ⟨m, M, d1, dn_0 d2, fun y => by omega, fun _ => ?_⟩⟩
        · rw [nI_ltI (by omega) (by omega)] at z
          rintro ⟨m', M', e1, e2, e3, e4⟩
          obtain ⟨-, e⟩ := LI_uniq d1 e1
          subst e
          have := e4 eN
          omega
        · rw [nI_ltI (by omega) (by omega)] at z
          omega
      · rw [hx2 d1]
        refine ⟨fun _ => hn ?_, fun z => absurd ?_ z⟩
        · rintro ⟨m', M', e1, e2, -⟩
          exact d1 ⟨M', m', e1, dn_z e2⟩
        · refine Int32.lt_iff_toInt_lt.mpr ?_
          rw [nI_toInt (by omega), show (-1 : Int32).toInt = -1 from by decide]
          omega
    · have eN : N = t := by
        rcases hP.2.2 with z | ⟨z, _⟩
        · exact z
        · omega
      rcases Classical.em (∃ M m, LI (ra u) t0 m M ∧ dn (ra u) t0 M = 0) with ⟨M, m, d1, d2⟩ | d1
      · have bM := LI_at d1 (Nat.le_refl M)
        have lm := (hA2.2 t0 hct htd)
        have em := tl_eq d1.2.1
        rw [em] at lm
        have lm2 := lm.2.2.1
        rw [hx1 M m d1 d2]
        refine ⟨fun z => hn ?_, fun z => hy ⟨m, M, d1, dn_0 d2, fun _ => ?_, fun y => by omega⟩⟩
        · rintro ⟨m', M', e1, e2, e3, e4⟩
          obtain ⟨-, e⟩ := LI_uniq d1 e1
          subst e
          exact z (by rw [e3 eN, eN])
        · rw [nI_eq (by omega) (by omega)] at z
          omega
      · rw [hx2 d1]
        refine ⟨fun _ => hn ?_, fun z => absurd z.symm (nI_ng (by omega) (by decide))⟩
        rintro ⟨m', M', e1, e2, -⟩
        exact d1 ⟨M', m', e1, dn_z e2⟩
  refine plainLength_ok hA2 hct htd (fun k1 => rest _ (fun M m d1 _ => absurd d1.1 k1) (fun _ => rfl)) (fun m M d1 _ d2 => rest _ (fun M' m' e1 e2 => ?_) (fun _ => rfl)) (fun m M d1 _ d2 => rest _ (fun M' m' e1 e2 => ?_) (fun q => absurd ⟨M, m, d1, d2⟩ q))
  · obtain ⟨-, e⟩ := LI_uniq d1 e1
    subst e
    exact absurd e2 d2
  · obtain ⟨-, e⟩ := LI_uniq d1 e1
    subst e
    rfl
-- the rounds
theorem hasInner_ok {l : Nat} {u : mS} {post : Int32 → mS → Prop} (h : u.1 15 = nI l) (hl : l ≤ 2) (h1 : 0 < l → post 1 u) (h0 : l = 0 → post 0 u) : wp_X4_hasInner u post := by
  intro y1 e1
  rw [h] at e1; subst e1
  refine ⟨fun q => h0 ?_, fun q => ?_⟩
  · have q : nI l ≤ nI 0 := q
    rw [nI_leI (by omega) (by omega)] at q; omega
  · have q : ¬ nI l ≤ nI 0 := q
    rw [nI_leI (by omega) (by omega)] at q
    intro y3 e3
    rw [h] at e3; subst e3
    refine ⟨fun z => absurd z ?_, fun _ => h1 (by omega)⟩
    rw [show (2 : Int32) = nI 2 from rfl, nI_ltI (by omega) (by omega)]; omega
theorem isIn_ok {l p : Nat} {u : mS} {post : Int32 → mS → Prop} (h : u.1 15 = nI l) (hl : l ≤ 2) (h1 : 0 < l → u.2 10 (l - 1) = nI p → post 1 u) (h0 : (l = 0 ∨ ¬ u.2 10 (l - 1) = nI p) → post 0 u) : wp_X4_isIn (nI p) u post := by
  refine hasInner_ok h hl (fun l0 => ⟨fun q => absurd q (by decide), fun _ => ?_⟩) (fun l0 => ⟨fun _ => h0 (Or.inl l0), fun q => absurd rfl q⟩)
  intro y4 e4
  rw [h] at e4; subst e4
  rintro _ rfl
  obtain ⟨l', rfl⟩ : ∃ l', l = l' + 1 := ⟨l - 1, by omega⟩
  rw [nI_pred]
  refine ⟨vp_in_nI (by omega) (by omega), ?_⟩
  rintro _ rfl
  rw [nI_clamp (by omega)]
  exact ⟨fun q => h0 (Or.inr q), fun q => h1 (by omega) q⟩
theorem enter_ok {l p R : Nat} {u : mS} {post : mS → Prop} (h : u.1 15 = nI l) (hl : l < 2) (hp : ∀ w, FR [15] [10, 11, 12] u w → w.1 15 = nI (l + 1) → w.2 10 = upd (u.2 10) l (nI p) → w.2 11 = upd (u.2 11) l 0 → w.2 12 = upd (u.2 12) l (nI R) → post w) : wp_X4_enter (nI p) (nI R) u post := by
  intro y1 e1
  rw [h] at e1; subst e1
  refine ⟨fun q => absurd q (nI_pos (by omega)), fun _ => ?_⟩
  intro y3 e3
  rw [h] at e3; subst e3
  refine ⟨fun q => absurd q (by rw [show (2 : Int32) = nI 2 from rfl, nI_leI (by omega) (by omega)]; omega), fun _ => ?_⟩
  intro y5 e5
  rw [h] at e5; subst e5
  refine ⟨vp_in_nI (by omega) (by omega), ?_⟩
  rintro _ rfl y7 e7
  have e7 : y7 = nI l := e7.trans h
  subst e7
  refine ⟨vp_in_nI (by omega) (by omega), ?_⟩
  rintro _ rfl y9 e9
  have e9 : y9 = nI l := e9.trans h
  subst e9
  refine ⟨vp_in_nI (by omega) (by omega), ?_⟩
  rintro _ rfl y11 e11
  have e11 : y11 = nI l := e11.trans h
  subst e11
  rintro _ rfl _ rfl
  rw [nI_1, nI_clamp (by omega)]
  refine hp _ (FR_set (FR_put (FR_put (FR_put FR.rf (by decide)) (by decide)) (by decide)) (by decide)) (mSet_same _ _ _) ?_ ?_ ?_
  · show (mPut (mPut (mPut u 10 l (nI p)) 11 l 0) 12 l (nI R)).2 10 = _
    rw [mPut_other (by decide : (10 : Nat) ≠ 12), mPut_other (by decide : (10 : Nat) ≠ 11), mPut_same]
  · show (mPut (mPut (mPut u 10 l (nI p)) 11 l 0) 12 l (nI R)).2 11 = _
    rw [mPut_other (by decide : (11 : Nat) ≠ 12), mPut_same, mPut_other (by decide : (11 : Nat) ≠ 10)]
  · show (mPut (mPut (mPut u 10 l (nI p)) 11 l 0) 12 l (nI R)).2 12 = _
    rw [mPut_same, mPut_other (by decide : (12 : Nat) ≠ 11), mPut_other (by decide : (12 : Nat) ≠ 10)]
theorem leave_ok {l i p rd R : Nat} {u : mS} {post : Int32 → mS → Prop} (h : u.1 15 = nI (l + 1)) (hl : l < 2) (h10 : u.2 10 l = nI p) (h11 : u.2 11 l = nI rd) (h12 : u.2 12 l = nI R) (b1 : rd < 2 ^ 30) (b2 : R < 2 ^ 30) (h1 : ∀ w, FR [] [11] u w → w.2 11 = upd (u.2 11) l (nI (rd + 1)) → rd + 1 < R → post (nI p) w) (h0 : ∀ w, FR [15] [11] u w → w.2 11 = upd (u.2 11) l (nI (rd + 1)) → w.1 15 = nI l → R ≤ rd + 1 → post (nI (i + 1)) w) : wp_X4_leave (nI i) u post := by
  refine hasInner_ok h (by omega) (fun _ => ⟨fun _ => ?_, fun q => absurd q (by decide)⟩) (fun q => by omega)
  intro y4 e4
  rw [h] at e4; subst e4
  rintro _ rfl
  rw [nI_pred]
  refine ⟨vp_in_nI (by omega) (by omega), ?_⟩
  intro y6 e6
  rw [nI_clamp (by omega), h11] at e6; subst e6
  rintro _ rfl
  rw [nI_1]
  refine ⟨vp_in_nI (by omega) (by omega), ?_⟩
  rintro _ rfl
  rw [nI_clamp (by omega)]
  intro y9 e9
  have e9 : y9 = nI (l + 1) := e9.trans h
  subst e9
  rintro _ rfl
  rw [nI_pred]
  refine ⟨vp_in_nI (by omega) (by omega), ?_⟩
  intro y11 e11
  rw [nI_clamp (by omega), mPut_same, pk_us] at e11; subst e11
  intro y12 e12
  have e12 : y12 = nI (l + 1) := e12.trans h
  subst e12
  rintro _ rfl
  rw [nI_pred]
  refine ⟨vp_in_nI (by omega) (by omega), ?_⟩
  intro y14 e14
  rw [nI_clamp (by omega), mPut_other (by decide : (12 : Nat) ≠ 11), h12] at e14; subst e14
  refine ⟨fun q => ?_, fun q => ?_⟩
  · rw [nI_leI (by omega) (by omega)] at q
    intro y16 e16
    have e16 : y16 = nI (l + 1) := e16.trans h
    subst e16
    rintro _ rfl _ rfl _ rfl
    rw [nI_pred, nI_1]
    exact h0 _ (FR_set (FR_put FR.rf (by decide)) (by decide)) (by show (mPut u 11 l (nI (rd + 1))).2 11 = _; rw [mPut_same]) (mSet_same _ _ _) q
  · rw [nI_leI (by omega) (by omega)] at q
    intro y20 e20
    have e20 : y20 = nI (l + 1) := e20.trans h
    subst e20
    rintro _ rfl
    rw [nI_pred]
    refine ⟨vp_in_nI (by omega) (by omega), ?_⟩
    intro y22 e22
    rw [nI_clamp (by omega), mPut_other (by decide : (10 : Nat) ≠ 11), h10] at e22; subst e22
    exact h1 _ (FR_put FR.rf (by decide)) (mPut_same _ _ _ _) (by omega)
/-- the loop of matches from a place on -/
def LA (post : Int32 → mS → Prop) (e p t s : Nat) (u : mS) : Prop := ∃ k, mL5 (fun K => wj_X1_matches_54 K post) k (nI e) (nI p) (nI t) (nI s) u
/-- .. behind its look at .. -/
def LW (post : Int32 → mS → Prop) (e p t s : Nat) (u : mS) : Prop := ∃ k, wj_X1_matches_134 (mL5 (fun K => wj_X1_matches_54 K post) k) post (nI e) (nI p) (nI t) (nI s) u
theorem LA_end {post : Int32 → mS → Prop} {e t s : Nat} {u : mS} (he : e ≤ 3000) (hs : s < 1000000) (h : post 1 u) : LA post e e t s u := by
  refine ⟨1, ?_⟩
  show wj_X1_matches_54 _ post _ _ _ _ u
  exact ⟨fun _ => h, fun _ => ⟨fun _ => h, fun q => absurd (Int32.le_refl _) q⟩⟩
theorem LA_in0 {post : Int32 → mS → Prop} {a b e p t s : Nat} {u : mS} (hA : AR u a b) (hap : a ≤ p) (hpb : p + tl (ra u) p < b) (hpe : p < e) (he : e ≤ 3000) (hs : s < 1000000) (hn : kd (ra u p) = 2 ∨ ¬ kd (ra u (p + tl (ra u) p)) = 6) (h : LW post e p t s u) : LA post e p t s u := by
  obtain ⟨k, hk⟩ := h
  refine ⟨k + 1, ?_⟩
  show wj_X1_matches_54 _ post _ _ _ _ u
  refine ⟨fun q => absurd q (by rw [show (1000000 : Int32) = nI 1000000 from rfl, nI_leI (by omega) (by omega)]; omega), fun _ => ⟨fun q => absurd q (by rw [nI_leI (by omega) (by omega)]; omega), fun _ => ?_⟩⟩
  refine heldA hA hap hpb (fun q1 q2 => ?_) (fun _ => ⟨fun _ => hk, fun q => absurd rfl q⟩)
  rcases hn with z | z
  · exact absurd z q1
  · exact absurd q2 z
theorem LA_in1 {post : Int32 → mS → Prop} {a b e p t s l : Nat} {u : mS} (hA : AR u a b) (hap : a ≤ p) (hpb : p + tl (ra u) p < b) (hpe : p < e) (he : e ≤ 3000) (hs : s < 1000000) (hl : u.1 15 = nI l) (hl2 : l ≤ 2) (hl0 : 0 < l) (hin : u.2 10 (l - 1) = nI p) (h : LW post e p t s u) : LA post e p t s u := by
  obtain ⟨k, hk⟩ := h
  refine ⟨k + 1, ?_⟩
  show wj_X1_matches_54 _ post _ _ _ _ u
  refine ⟨fun q => absurd q (by rw [show (1000000 : Int32) = nI 1000000 from rfl, nI_leI (by omega) (by omega)]; omega), fun _ => ⟨fun q => absurd q (by rw [nI_leI (by omega) (by omega)]; omega), fun _ => ?_⟩⟩
  refine heldA hA hap hpb (fun q1 q2 => ⟨fun q => absurd q (by decide), fun _ => isIn_ok hl hl2 (fun _ _ => ⟨fun _ => hk, fun q => absurd q (by decide)⟩) (fun z => ?_)⟩) (fun _ => ⟨fun _ => hk, fun q => absurd rfl q⟩)
  rcases z with z | z
  · omega
  · exact absurd hin z
/-- a held tree that isn't gone into yet -/
theorem LA_held {post : Int32 → mS → Prop} {a b c d e p t s l x m M k : Nat} {u : mS} (hA : AR u a b) (hA2 : AR u c d) (hap : a ≤ p) (hpb : p + tl (ra u) p < b) (hpe : p < e) (he : e ≤ 3000) (hs : s < 1000000) (hc : ¬ kd (ra u p) = 2) (h6 : kd (ra u (p + tl (ra u) p)) = 6) (hl : u.1 15 = nI l) (hl2 : l < 2) (hin : l = 0 ∨ ¬ u.2 10 (l - 1) = nI p) (hL : LI (ra u) x m M) (hcx : c ≤ x) (hxd : x + m ≤ d) (hk : k ≤ M) (et : t = it (ra u) x k) (h0 : k = M → LA post e (p + tl (ra u) p + 1) t (s + 1) u) (h1 : k < M → ∀ w, FR [15] [10, 11, 12] u w → w.1 15 = nI (l + 1) → w.2 10 = upd (u.2 10) l (nI p) → w.2 11 = upd (u.2 11) l 0 → w.2 12 = upd (u.2 12) l (nI (M - k)) → LW post e p t s w) : LA post e p t s u := by
  have hd := AR_b hA2
  have bM := LI_at hL (Nat.le_refl M)
  subst et
  have outer : ∀ (K : Int32 → Int32 → Int32 → Int32 → mS → Prop), (k = M → K (nI e) (nI (p + tl (ra u) p + 1)) (nI (it (ra u) x k)) (nI (s + 1)) u) → (k < M → ∀ w, FR [15] [10, 11, 12] u w → w.1 15 = nI (l + 1) → w.2 10 = upd (u.2 10) l (nI p) → w.2 11 = upd (u.2 11) l 0 → w.2 12 = upd (u.2 12) l (nI (M - k)) → wj_X1_matches_134 K post (nI e) (nI p) (nI (it (ra u) x k)) (nI s) w) → wj_X1_matches_54 K post (nI e) (nI p) (nI (it (ra u) x k)) (nI s) u := by
    intro K g0 g1
    refine ⟨fun q => absurd q (by rw [show (1000000 : Int32) = nI 1000000 from rfl, nI_leI (by omega) (by omega)]; omega), fun _ => ⟨fun q => absurd q (by rw [nI_leI (by omega) (by omega)]; omega), fun _ => ?_⟩⟩
    refine heldA hA hap hpb (fun _ _ => ⟨fun q => absurd q (by decide), fun _ => isIn_ok hl (by omega) (fun q1 q2 => ?_) (fun _ => ⟨fun q => absurd rfl q, fun _ => ?_⟩)⟩) (fun z => ?_)
    · rcases hin with z | z
      · omega
      · exact absurd q2 z
    · refine itemsFrom_ok hA2 hL hcx hxd hk ⟨fun q => ?_, fun q => ?_⟩
      · have kM : k < M := by
          rcases Nat.lt_or_ge k M with z | z
          · exact z
          · exact absurd (by rw [show M - k = 0 from by omega]; rfl) q
        exact enter_ok hl hl2 (fun w f1 f2 f3 f4 f5 => g1 kM w f1 f2 f3 f4 f5)
      · have q : nI (M - k) = nI 0 := q
        rw [nI_eq (by omega) (by omega)] at q
        refine after_ok hA hap (by omega) ?_
        rintro _ rfl
        rw [nI_1]
        rintro _ rfl
        rw [nI_1]
        exact g0 (by omega)
    · rcases z with z | z
      · exact absurd z hc
      · exact absurd h6 z
  rcases Nat.lt_or_ge k M with kM | kM
  · have E : wp_X4_enter (nI p) (nI (M - k)) u (fun w => FR [15] [10, 11, 12] u w ∧ w.1 15 = nI (l + 1) ∧ w.2 10 = upd (u.2 10) l (nI p) ∧ w.2 11 = upd (u.2 11) l 0 ∧ w.2 12 = upd (u.2 12) l (nI (M - k))) := enter_ok hl hl2 (fun w f1 f2 f3 f4 f5 => ⟨f1, f2, f3, f4, f5⟩)
    refine d_wp_X4_enter E (fun w hw w6 => ?_)
    obtain ⟨w1, w2, w3, w4, w5⟩ := hw
    obtain ⟨K, hK⟩ := h1 kM w w1 w2 w3 w4 w5
    refine ⟨K + 1, ?_⟩
    show wj_X1_matches_54 _ post _ _ _ _ u
    refine ⟨fun q => absurd q (by rw [show (1000000 : Int32) = nI 1000000 from rfl, nI_leI (by omega) (by omega)]; omega), fun _ => ⟨fun q => absurd q (by rw [nI_leI (by omega) (by omega)]; omega), fun _ => ?_⟩⟩
    refine heldA hA hap hpb (fun _ _ => ⟨fun q => absurd q (by decide), fun _ => isIn_ok hl (by omega) (fun q1 q2 => ?_) (fun _ => ⟨fun q => absurd rfl q, fun _ => ?_⟩)⟩) (fun z => ?_)
    · rcases hin with z | z
      · omega
      · exact absurd q2 z
    · refine itemsFrom_ok hA2 hL hcx hxd hk ⟨fun _ => w6 _ hK, fun q => ?_⟩
      have q : nI (M - k) = nI 0 := q
      rw [nI_eq (by omega) (by omega)] at q
      omega
    · rcases z with z | z
      · exact absurd z hc
      · exact absurd h6 z
  · obtain ⟨K, hK⟩ := h0 (by omega)
    exact ⟨K + 1, outer _ (fun _ => hK) (fun q => by omega)⟩
-- the tokens of a pattern
theorem LW_any {post : Int32 → mS → Prop} {a b c d e p t s : Nat} {u : mS} (hA : AR u a b) (hA2 : AR u c d) (hap : a ≤ p) (hpb : p < b) (hct : c ≤ t) (htd : t < d) (hk : kd (ra u p) = 3 ∨ kd (ra u p) = 5) (h : LA post e (p + 1) (t + tl (ra u) t) (s + 1) u) : LW post e p t s u := by
  obtain ⟨k, hkk⟩ := h
  refine ⟨k, ?_⟩
  obtain ⟨hw, -⟩ := hA.2 p hap hpb
  have go : wj_X1_matches_181 (mL5 (fun K => wj_X1_matches_54 K post) k) post (nI e) (nI p) (nI t) (nI s) u := by
    rintro _ rfl
    rw [nI_1]
    refine after_ok hA2 hct htd ?_
    rintro _ rfl
    rw [nI_1]
    exact hkk
  refine wordAR hA hpb ⟨fun n6 => isName_ok hw (fun k3 => ⟨fun _ => go, fun q => absurd q (by decide)⟩) (fun k3 => ⟨fun q => absurd rfl q, fun _ => ⟨fun n5 => ?_, fun _ => go⟩⟩), fun e6 => ?_⟩
  · rcases hk with z | z
    · exact absurd z k3
    · exact absurd ((AW_5 hw).mpr z) n5
  · have := (AW_6 hw).mp e6
    rcases hk with z | z
    · rw [z] at this; exact absurd this (by decide)
    · rw [z] at this; exact absurd this (by decide)
theorem LW_eq {post : Int32 → mS → Prop} {a b c d e p t s : Nat} {u : mS} (hA : AR u a b) (hA2 : AR u c d) (hap : a ≤ p) (hpb : p < b) (hct : c ≤ t) (htd : t < d) (hk : kd (ra u p) = 4 ∨ kd (ra u p) = 2) (h1 : ra u p = ra u t → LA post e (p + 1) (t + 1) (s + 1) u) (h0 : ¬ ra u p = ra u t → post 0 u) : LW post e p t s u := by
  obtain ⟨hw, -⟩ := hA.2 p hap hpb
  obtain ⟨hw2, -⟩ := hA2.2 t hct htd
  have main : ∀ k, (ra u p = ra u t → mL5 (fun K => wj_X1_matches_54 K post) k (nI e) (nI (p + 1)) (nI (t + 1)) (nI (s + 1)) u) → wj_X1_matches_134 (mL5 (fun K => wj_X1_matches_54 K post) k) post (nI e) (nI p) (nI t) (nI s) u := by
    intro k hkk
    refine wordAR hA hpb ⟨fun n6 => isName_ok hw (fun k3 => ?_) (fun k3 => ⟨fun q => absurd rfl q, fun _ => ⟨fun n5 => ⟨fun n1 => wordAR hA2 htd ⟨fun ne => h0 (fun q => ne ((AW_inj hw hw2).mpr q).symm), fun eq => ?_⟩, fun e1 => ?_⟩, fun e5 => ?_⟩⟩), fun e6 => ?_⟩
    · rcases hk with z | z
      · rw [z] at k3; exact absurd k3 (by decide)
      · rw [z] at k3; exact absurd k3 (by decide)
    · rintro _ rfl _ rfl _ rfl
      rw [nI_1, nI_1, nI_1]
      exact hkk ((AW_inj hw hw2).mp eq.symm)
    · have := (AW_1 hw).mp e1
      rcases hk with z | z
      · rw [z] at this; exact absurd this (by decide)
      · rw [z] at this; exact absurd this (by decide)
    · have := (AW_5 hw).mp e5
      rcases hk with z | z
      · rw [z] at this; exact absurd this (by decide)
      · rw [z] at this; exact absurd this (by decide)
    · have := (AW_6 hw).mp e6
      rcases hk with z | z
      · rw [z] at this; exact absurd this (by decide)
      · rw [z] at this; exact absurd this (by decide)
  by_cases q : ra u p = ra u t
  · obtain ⟨k, hkk⟩ := h1 q
    exact ⟨k, main k (fun _ => hkk)⟩
  · exact ⟨0, main 0 (fun z => absurd z q)⟩
theorem LW_open {post : Int32 → mS → Prop} {a b c d e p t s n N t0 : Nat} {u : mS} (hA : AR u a b) (hA2 : AR u c d) (hP : PL (ra u) p n N t0) (hap : a ≤ p) (hpb : p + n ≤ b) (hct : c ≤ t) (htd : t < d) (h1 : FTS (ra u) N t0 t → LA post e (p + 1) (t + 1) (s + 1) u) (h0 : ¬ FTS (ra u) N t0 t → post 0 u) : LW post e p t s u := by
  have n0 := hP.1.2.1.1
  obtain ⟨hw, -⟩ := hA.2 p hap (by omega)
  have hk := hP.1.1
  have main : ∀ k, (FTS (ra u) N t0 t → mL5 (fun K => wj_X1_matches_54 K post) k (nI e) (nI (p + 1)) (nI (t + 1)) (nI (s + 1)) u) → wj_X1_matches_134 (mL5 (fun K => wj_X1_matches_54 K post) k) post (nI e) (nI p) (nI t) (nI s) u := by
    intro k hkk
    refine wordAR hA (by omega) ⟨fun n6 => isName_ok hw (fun k3 => ?_) (fun k3 => ⟨fun q => absurd rfl q, fun _ => ⟨fun n5 => ⟨fun n1 => absurd ((AW_1 hw).mpr hk) n1, fun _ => ?_⟩, fun e5 => ?_⟩⟩), fun e6 => ?_⟩
    · rw [hk] at k3; exact absurd k3 (by decide)
    · refine hasRoom_ok hA hA2 hP hap hpb hct htd (fun q => ⟨fun z => absurd z (by decide), fun _ => ?_⟩) (fun q => ⟨fun _ => h0 q, fun z => absurd rfl z⟩)
      rintro _ rfl _ rfl _ rfl
      rw [nI_1, nI_1, nI_1]
      exact hkk q
    · have := (AW_5 hw).mp e5
      rw [hk] at this; exact absurd this (by decide)
    · have := (AW_6 hw).mp e6
      rw [hk] at this; exact absurd this (by decide)
  by_cases q : FTS (ra u) N t0 t
  · obtain ⟨k, hkk⟩ := h1 q
    exact ⟨k, main k (fun _ => hkk)⟩
  · exact ⟨0, main 0 (fun z => absurd z q)⟩
/-- .. is come to -/
theorem LW_dots {post : Int32 → mS → Prop} {a b e i t s l p rd R : Nat} {u : mS} (hA : AR u a b) (hai : a ≤ i) (hib : i < b) (hk : kd (ra u i) = 6) (hl : u.1 15 = nI (l + 1)) (hl2 : l < 2) (h10 : u.2 10 l = nI p) (h11 : u.2 11 l = nI rd) (h12 : u.2 12 l = nI R) (b1 : rd < 2 ^ 30) (b2 : R < 2 ^ 30) (h1 : ∀ w, FR [] [11] u w → w.2 11 = upd (u.2 11) l (nI (rd + 1)) → rd + 1 < R → LA post e p t (s + 1) w) (h0 : ∀ w, FR [15] [11] u w → w.2 11 = upd (u.2 11) l (nI (rd + 1)) → w.1 15 = nI l → R ≤ rd + 1 → LA post e (i + 1) t (s + 1) w) : LW post e i t s u := by
  obtain ⟨hw, -⟩ := hA.2 i hai hib
  have E : wp_X4_leave (nI i) u (fun r w => (r = nI p ∧ FR [] [11] u w ∧ w.2 11 = upd (u.2 11) l (nI (rd + 1)) ∧ rd + 1 < R) ∨ (r = nI (i + 1) ∧ FR [15] [11] u w ∧ w.2 11 = upd (u.2 11) l (nI (rd + 1)) ∧ w.1 15 = nI l ∧ R ≤ rd + 1)) := leave_ok hl hl2 h10 h11 h12 b1 b2 (fun w q1 q2 q3 => Or.inl ⟨rfl, q1, q2, q3⟩) (fun w q1 q2 q3 q4 => Or.inr ⟨rfl, q1, q2, q3, q4⟩)
  have main : ∀ (r : Int32) (w : mS) (k : Nat), (∀ Q : Int32 → mS → Prop, Q r w → wp_X4_leave (nI i) u Q) → mL5 (fun K => wj_X1_matches_54 K post) k (nI e) r (nI t) (nI (s + 1)) w → wj_X1_matches_134 (mL5 (fun K => wj_X1_matches_54 K post) k) post (nI e) (nI i) (nI t) (nI s) u := by
    intro r w k reb hkk
    refine wordAR hA hib ⟨fun n6 => absurd ((AW_6 hw).mpr hk) n6, fun _ => reb _ ?_⟩
    rintro _ rfl
    rw [nI_1]
    exact hkk
  refine d_wp_X4_leave E (fun r w hw reb => ?_)
  rcases hw with ⟨rfl, q1, q2, q3⟩ | ⟨rfl, q1, q2, q3, q4⟩
  · obtain ⟨k, hkk⟩ := h1 w q1 q2 q3
    exact ⟨k, main _ w k reb hkk⟩
  · obtain ⟨k, hkk⟩ := h0 w q1 q2 q3 q4
    exact ⟨k, main _ w k reb hkk⟩
