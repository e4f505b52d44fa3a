-- 94: one step of the reference; the expansion of single tokens
/-- the space that the reference owes -/
noncomputable def gpV (v : mS) : mS := if v.1 10 = 0 then v else mSet (pM 32 v) 10 0
theorem gpV_fr {v : mS} : FR [9, 10, 12] [19] v (gpV v) := by
  unfold gpV
  split
  · exact FR.rf
  · exact FR_set (pM_fr.wk (by decide) (by decide)) (by decide)
theorem gpV_gap {v : mS} : (gpV v).1 10 = 0 := by
  unfold gpV
  split
  · assumption
  · exact mSet_same _ _ _
theorem TXP_g {u v : mS} (h : TXP u v) : TX u (gpV v) := by
  unfold gpV
  rcases h with ⟨h1, h2⟩ | ⟨h1, h2⟩
  · rw [if_pos h1]; exact h2
  · rw [if_neg (by rw [h1]; decide)]; exact TX_gap h2
theorem stepM1 {v : mS} {h : Nat} (h1 : v.1 1 = nI h) (hh : h < 2600) (hL : LMo v) (n2 : ¬ kd (v.2 1 h) = 2) (n7 : ¬ kd (v.2 1 h) = 7) (n6 : ¬ kd (v.2 1 h) = 6) {Q : mS → Prop} (hq : wj_X9_step_47 Q (kd (v.2 1 h)) (gpV v)) : wp_X9_step v Q := by
  intro y1 e1
  rw [h1] at e1; subst e1
  refine kind_2 hh ?_
  rintro _ rfl
  unfold gpV at hq
  refine ⟨fun q => ?_, fun q => ⟨fun a => absurd a n2, fun _ => ⟨fun a => absurd a n7, fun _ => ⟨fun a => absurd a n6, fun _ => put_M hL ?_⟩⟩⟩⟩
  · rw [if_pos q] at hq; exact hq
  · rw [if_neg q] at hq
    rintro _ rfl; exact hq
theorem stepM6 {v : mS} {h : Nat} (h1 : v.1 1 = nI h) (hh : h < 2600) (n6 : kd (v.2 1 h) = 2 ∨ kd (v.2 1 h) = 7 ∨ kd (v.2 1 h) = 6) {Q : mS → Prop} (hq : wj_X9_step_47 Q (kd (v.2 1 h)) v) : wp_X9_step v Q := by
  intro y1 e1
  rw [h1] at e1; subst e1
  refine kind_2 hh ?_
  rintro _ rfl
  rcases n6 with e | e | e
  · exact ⟨fun _ => hq, fun _ => ⟨fun _ => hq, fun q => absurd e q⟩⟩
  · exact ⟨fun _ => hq, fun _ => ⟨fun _ => hq, fun _ => ⟨fun _ => hq, fun q => absurd e q⟩⟩⟩
  · exact ⟨fun _ => hq, fun _ => ⟨fun _ => hq, fun _ => ⟨fun _ => hq, fun _ => ⟨fun _ => hq, fun q => absurd e q⟩⟩⟩⟩
theorem RES_txt {u v u' v' : mS} {p n h st c f : Nat} (hR : REL u v st c f) (hu : FR [6, 7] [9] u u') (hv : FR [1, 9, 10, 12] [19] v v') (hM : MIN v') (hT : TX u' v') (h1 : v'.1 12 = 0 → v'.1 1 = nI (h + n)) (h10 : v'.1 12 = 0 → v'.1 10 = 1) : RES u v u' v' p n h st c f := by
  have hR' : REL u' v' st c f := REL_fr hR hu hv (by decide) (by decide) (by decide) (by decide)
  have e1 : u.1 1 = nI st ∧ st + 300 * f ≤ 3000 := by
    obtain ⟨nv, nb, b0, ke, k1, k2, k3, k4, e1, e2, e3, e4, e5, e6, e7, e8, e9, e10, e11, e12, -⟩ := hR
    exact ⟨e11, e12⟩
  refine ⟨FRX_rf hu hv (by decide) (by decide) (by decide) (by decide) e1.1 (by omega), hM, ?_⟩
  rcases hT with ⟨t1, t2, t3⟩ | ⟨t1, t2⟩
  · refine Or.inr ⟨st, c, f, Or.inl ⟨t1, t2, t3⟩, t1, t2, Nat.le_refl _, Nat.le_refl _, Nat.le_refl _, hR', h1 t2, hv.1 11 (by decide), h10 t2, fun l _ => by rw [hv.2 1 (by decide), hv.2 2 (by decide)]; exact ⟨rfl, rfl⟩, fun i i1 i2 => ?_⟩
    rw [nbA_fr hu (by decide)] at i2
    omega
  · exact Or.inl ⟨t1, t2, REL_CN hR'⟩
theorem RO_tree {r : Nat → Int32} {k h n : Nat} (hr : RO r k h) (hT : TL r h n) (hh : h + n ≤ 2600) (n2 : ¬ kd (r h) = 2) (n7 : ¬ kd (r h) = 7) : n ≤ 310 ∧ (∀ j, h ≤ j → j < h + n → TOK (r j)) ∧ DTS r h (h + n) ∧ ∃ k', RO r k' (h + n) := by
  have n0 := hT.1
  cases k with
  | zero => exact absurd hr (by show ¬ h = 2600; omega)
  | succ k =>
    obtain ⟨h1, ⟨h2, h3⟩ | ⟨m, a1, a2, a3, a4, a5, a6, a7⟩⟩ := hr
    · rcases h2 with q | q
      · exact absurd q n2
      · exact absurd q n7
    · have := TL_uniq a2 hT
      subst this
      exact ⟨a4, a5, a6, k, a7⟩
theorem AW_n7 {w c : Int32} (h : AW w c) : ¬ kd c = 7 := by
  rcases AW_k h with ⟨-, e⟩ | ⟨-, e⟩ | ⟨-, e⟩ | ⟨-, e⟩ | ⟨_, -, -, e⟩ | ⟨_, -, -, -, e⟩ <;> (rw [e]; decide)
theorem kindOf_ok {k : Nat} {u : mS} {post : Int32 → mS → Prop} (hk : k < 40) (hp : post (u.2 7 k) u) : wp_X7_kindOf (nI k) u post := by
  refine ⟨fun q => absurd q (nI_pos (by omega)), fun _ => ⟨fun q => absurd q (by rw [show (40 : Int32) = nI 40 from rfl, nI_leI (by omega) (by omega)]; omega), fun _ => ⟨vp_in_nI hk (by omega), ?_⟩⟩⟩
  rintro _ rfl
  rw [nI_clamp (by omega)]; exact hp
theorem valueOf_ok {k : Nat} {u : mS} {post : Int32 → mS → Prop} (hk : k < 40) (hp : post (u.2 8 k) u) : wp_X7_valueOf (nI k) u post := by
  refine ⟨fun q => absurd q (nI_pos (by omega)), fun _ => ⟨fun q => absurd q (by rw [show (40 : Int32) = nI 40 from rfl, nI_leI (by omega) (by omega)]; omega), fun _ => ⟨vp_in_nI hk (by omega), ?_⟩⟩⟩
  rintro _ rfl
  rw [nI_clamp (by omega)]; exact hp
/-- a name means the same on both sides -/
theorem meansX {u v : mS} {nb x y c st ke : Nat} {s r : Int32} {Q : Int32 → mS → Prop} (hb : nb ≤ 40) (h4 : v.1 4 = nI nb) (hB : ∀ i, i < nb → BND u v c st ke i) (hN : NM x y) (hr : MEA (u.2 5) (u.2 6) nb (nI x) s r) (hq : Q r v) : wp_X9_means (nI y) s v Q := by
  refine meansM h4 hb (fun r' hr' => ?_)
  have : MEA (v.2 7) (v.2 8) nb (nI y) s r := MEA_congr (fun k hk => by
    obtain ⟨⟨x', y', g1, g2, g3⟩, g4, -⟩ := hB k hk
    have b1 := NM_bd hN
    have b2 := NM_bd g1
    rw [g2, g3, nI_eq (by omega) (by omega), nI_eq (by omega) (by omega)]
    exact ⟨NM_inj g1 hN, g4.symm⟩) hr
  rw [MEA_uniq hb hr' this]
  exact hq
/-- the class's meaning of the name at p -/
theorem meaningOfA {a b p nb : Nat} {u : mS} {post : Int32 → mS → Prop} (hA : AR u a b) (hp : p < b) (h4 : u.1 4 = nI nb) (hb : nb ≤ 40) (h1 : ∀ k, k < nb → MEA (u.2 5) (u.2 6) nb (u.2 1 p) (u.2 2 p) (nI k) → u.2 5 k = u.2 1 p → post (nI k) u) (h0 : ∀ r, (r = -1 ∨ r = -2) → MEA (u.2 5) (u.2 6) nb (u.2 1 p) (u.2 2 p) r → ∀ w, FR [7] [] u w → ¬ w.1 7 = 0 → post (-1) w) : wp_X0_meaningOf (nI p) u post := by
  refine wordAR hA hp (marksAR hA hp (meaningA h4 hb (fun r hr => ?_)))
  have hr' := hr
  rcases hr with ⟨rfl, -⟩ | ⟨rfl, -⟩ | ⟨k, hk, rfl, hm, -⟩
  · exact ⟨fun q => absurd q (by decide), fun _ => ⟨fun _ => failA (by decide) (fun w wF we => h0 _ (Or.inl rfl) hr' w wF we), fun q => absurd q (by decide)⟩⟩
  · exact ⟨fun q => absurd q (by decide), fun _ => ⟨fun q => absurd rfl q, fun _ => failA (by decide) (fun w wF we => h0 _ (Or.inr rfl) hr' w wF we)⟩⟩
  · exact ⟨fun _ => h1 k hk hr' hm.1, fun q => absurd (nI_pos' (by omega)) q⟩
theorem NM_of3 {w c : Int32} (h : AW w c) (k : kd c = 3) : ∃ x y, NM x y ∧ w = nI x ∧ c = nI (65536 * 3 + y) := by
  rcases h with ⟨rfl, rfl⟩ | ⟨rfl, rfl⟩ | ⟨rfl, rfl⟩ | ⟨rfl, rfl⟩ | ⟨n, hn, rfl, rfl⟩ | ⟨x, y, h, e1, e2⟩
  · exact absurd k (by decide)
  · exact absurd k (by decide)
  · exact absurd k (by decide)
  · exact absurd k (by decide)
  · exact absurd k (by
      have : kd (nI (262144 + n)) = nI 4 := by
        rw [kd_nI (by omega), show (262144 + n) / 65536 = 4 from by omega]
      rw [this]; decide)
  · exact ⟨x, y, h, e1, e2⟩
theorem NU_of4 {w c : Int32} (h : AW w c) (k : kd c = 4) : ∃ n, n < 100 ∧ w = nI n ∧ c = nI (65536 * 4 + n) := by
  rcases h with ⟨rfl, rfl⟩ | ⟨rfl, rfl⟩ | ⟨rfl, rfl⟩ | ⟨rfl, rfl⟩ | ⟨n, hn, rfl, rfl⟩ | ⟨x, y, h, e1, e2⟩
  · exact absurd k (by decide)
  · exact absurd k (by decide)
  · exact absurd k (by decide)
  · exact absurd k (by decide)
  · exact ⟨n, hn, rfl, rfl⟩
  · exact absurd k (by
      have b := NM_bd h
      have : kd (nI (196608 + y)) = nI 3 := by
        rw [kd_nI (by omega), show (196608 + y) / 65536 = 3 from by omega]
      rw [e2, this]; decide)
theorem s47_e {v : mS} {k : Int32} {Q : mS → Prop} (he : ¬ v.1 12 = 0) (hq : Q v) : wj_X9_step_47 Q k v := fun _ e => ⟨fun q => absurd (e.symm.trans q) he, fun _ => hq⟩
theorem s47_1 {v : mS} {Q : mS → Prop} (he : v.1 12 = 0) (hq : wp_X9_list v Q) : wj_X9_step_47 Q 1 v := fun _ e => ⟨fun _ => ⟨fun q => absurd rfl q, fun _ => hq⟩, fun q => absurd (e.trans he) q⟩
theorem s47_3 {v : mS} {Q : mS → Prop} (he : v.1 12 = 0) (hq : wp_X9_word v Q) : wj_X9_step_47 Q 3 v := fun _ e => ⟨fun _ => ⟨fun _ => ⟨fun q => absurd rfl q, fun _ => hq⟩, fun q => absurd q (by decide)⟩, fun q => absurd (e.trans he) q⟩
theorem s47_4 {v : mS} {Q : mS → Prop} (he : v.1 12 = 0) (hq : ∀ y21 : Int32, y21 = (v.1 1) → wp_X9_putToken y21 v (fun u23 => ∀ y24 : Int32, y24 = (u23.1 1) → ∀ y25 : Int32, y25 = (y24 + (1 : Int32)) → ∀ u26 : mS, u26 = mSet u23 1 y25 → Q u26)) : wj_X9_step_47 Q 4 v := fun _ e => ⟨fun _ => ⟨fun _ => ⟨fun _ => ⟨fun q => absurd rfl q, fun _ => hq⟩, fun q => absurd q (by decide)⟩, fun q => absurd q (by decide)⟩, fun q => absurd (e.trans he) q⟩
theorem s47_f {v : mS} {k : Int32} {Q : mS → Prop} (he : v.1 12 = 0) (hk : k = 5 ∨ k = 6) (hq : wp_X9_fails 3 v Q) : wj_X9_step_47 Q k v := by
  rcases hk with rfl | rfl
  · exact fun _ e => ⟨fun _ => ⟨fun _ => ⟨fun _ => ⟨fun _ => ⟨fun q => absurd q (by decide), fun _ => ⟨fun _ => hq, fun q => absurd q (by decide)⟩⟩, fun q => absurd q (by decide)⟩, fun q => absurd q (by decide)⟩, fun q => absurd q (by decide)⟩, fun q => absurd (e.trans he) q⟩
  · exact fun _ e => ⟨fun _ => ⟨fun _ => ⟨fun _ => ⟨fun _ => ⟨fun q => absurd q (by decide), fun _ => ⟨fun _ => hq, fun q => absurd q (by decide)⟩⟩, fun q => absurd q (by decide)⟩, fun q => absurd q (by decide)⟩, fun q => absurd q (by decide)⟩, fun q => absurd (e.trans he) q⟩
theorem s47_2 {v : mS} {Q : mS → Prop} (he : v.1 12 = 0) (hq : wj_X9_step_116 Q 2 v) : wj_X9_step_47 Q 2 v := fun _ e => ⟨fun _ => ⟨fun _ => ⟨fun _ => ⟨fun _ => ⟨fun _ => hq, fun q => absurd rfl q⟩, fun q => absurd q (by decide)⟩, fun q => absurd q (by decide)⟩, fun q => absurd q (by decide)⟩, fun q => absurd (e.trans he) q⟩
theorem s47_7 {v : mS} {Q : mS → Prop} (he : v.1 12 = 0) (hq : wj_X9_step_116 Q 7 v) : wj_X9_step_47 Q 7 v := fun _ e => ⟨fun _ => ⟨fun _ => ⟨fun _ => ⟨fun _ => ⟨fun q => absurd q (by decide), fun _ => ⟨fun q => absurd rfl q, fun _ => hq⟩⟩, fun q => absurd q (by decide)⟩, fun q => absurd q (by decide)⟩, fun q => absurd q (by decide)⟩, fun q => absurd (e.trans he) q⟩
theorem spM_0 {v : mS} (h : v.1 10 = 0) : spM v = mSet v 10 1 := by unfold spM; rw [if_pos h]
theorem spM_fr {v : mS} : FR [9, 10, 12] [19] v (spM v) := by
  unfold spM
  split
  · exact FR_set FR.rf (by decide)
  · exact FR_set (pM_fr.wk (by decide) (by decide)) (by decide)
/-- the end of a text and a token further on -/
theorem txt_end {u v : mS} {cs : List Int32} {h : Nat} (g0 : v.1 10 = 0) (h1 : v.1 1 = nI h) (hT : TX u v) : ∃ w, w = mSet (pMs cs (spM v)) 1 (nI (h + 1)) ∧ FR [1, 9, 10, 12] [19] v w ∧ TX (pAs cs u) w ∧ w.1 1 = nI (h + 1) ∧ w.1 10 = 1 ∧ (pMs cs (spM v)).1 1 = nI h := by
  have F : FR [9, 10, 12] [19] v (pMs cs (spM v)) := spM_fr.tr ((pMs_fr cs).wk (by decide) (by decide))
  refine ⟨_, rfl, FR_set (F.wk (by decide) (by decide)) (by decide), ?_, mSet_same _ _ _, ?_, (F.1 1 (by decide)).trans h1⟩
  · have : TX (pAs cs u) (pMs cs (spM v)) := TX_puts cs (by rw [spM_0 g0]; exact TX_gap hT)
    exact this
  · rw [mSet_other (by decide : (10 : Nat) ≠ 1), (pMs_fr cs).1 10 (by decide), spM_0 g0, mSet_same]
theorem isNum_ok {w c : Int32} {u : mS} {post : Int32 → mS → Prop} (hw : AW w c) (h1 : kd c = 4 → post 1 u) (h0 : ¬ kd c = 4 → post 0 u) : wp_X8_isNumber w u post := ⟨fun q => h0 (fun k => ((AW_4 hw).mpr k).1 q), fun a => ⟨fun q => h0 (fun k => ((AW_4 hw).mpr k).2 q), fun b => h1 ((AW_4 hw).mp ⟨a, b⟩)⟩⟩
/-- the reference's word, its beginning -/
theorem wordM {v : mS} {h y : Nat} {r : Int32} {Q : mS → Prop} (h1 : v.1 1 = nI h) (hh : h < 2600) (hy : y < 65536) (e : v.2 1 h = nI (65536 * 3 + y)) (hm : ∀ Q' : Int32 → mS → Prop, Q' r v → wp_X9_means (nI y) (v.2 2 h) v Q') (hr : r = -1 ∨ r = -2 ∨ ∃ k, k < 40 ∧ r = nI k) (h0 : (r = -1 ∨ r = -2) → ∀ z : Int32, ¬ z = 0 → wp_X9_fails z v (fun u27 => wj_X9_word_106 Q u27)) (hk : ∀ k, k < 40 → r = nI k → (v.2 9 k = 1 → wp_X9_space v (fun u19 => ∀ y20 : Int32, y20 = (u19.1 1) → wp_X9_what_2 y20 u19 (fun r21 u22 => wp_X9_putName r21 u22 (fun u24 => wj_X9_word_106 Q u24)))) ∧ (v.2 9 k = 2 → wp_X9_putVariable (v.2 10 k) v (fun u17 => wj_X9_word_106 Q u17)) ∧ (¬ v.2 9 k = 1 → ¬ v.2 9 k = 2 → wp_X9_fails 3 v (fun u14 => wj_X9_word_106 Q u14))) : wp_X9_word v Q := by
  intro y1 e1
  rw [h1] at e1; subst e1
  refine what_2x hh e (by decide) hy ?_
  intro y4 e4
  rw [h1] at e4; subst e4
  refine ⟨vp_in_nI hh (by omega), ?_⟩
  rintro _ rfl
  rw [nI_clamp (by omega)]
  refine hm _ ?_
  rcases hr with rfl | rfl | ⟨k, hk40, rfl⟩
  · exact ⟨fun q => absurd q (by decide), fun _ => ⟨fun q => absurd rfl q, fun _ => h0 (Or.inl rfl) 1 (by decide)⟩⟩
  · exact ⟨fun q => absurd q (by decide), fun _ => ⟨fun _ => h0 (Or.inr rfl) 2 (by decide), fun q => absurd q (by decide)⟩⟩
  · obtain ⟨c1, c2, c3⟩ := hk k hk40 rfl
    refine ⟨fun _ => ⟨vp_in_nI hk40 (by omega), ?_⟩, fun q => absurd (nI_pos' (by omega)) q⟩
    rintro _ rfl
    rw [nI_clamp (by omega)]
    refine ⟨fun q1 => ⟨vp_in_nI hk40 (by omega), ?_⟩, fun q1 => c1 q1⟩
    rintro _ rfl
    refine ⟨fun q2 => c3 q1 q2, fun q2 => ⟨vp_in_nI hk40 (by omega), ?_⟩⟩
    rintro _ rfl
    exact c2 q2
theorem word_end {v : mS} {h : Nat} {Q : mS → Prop} (h1 : v.1 1 = nI h) (hq : Q (mSet v 1 (nI (h + 1)))) : wj_X9_word_106 Q v := by
  intro y e
  rw [h1] at e; subst e
  rintro _ rfl _ rfl
  rw [nI_1]; exact hq
theorem atomX {X : Int32 → Int32 → mS → (mS → Prop) → Prop} {u v : mS} {p n h st c f ar : Nat} {post : mS → Prop} (hP : PRE u v p n h st c f ar) (k1 : ¬ kd (v.2 1 h) = 1) (fin : ∀ u' v', MGo v v' → RES u v u' v' p n h st c f → post u') : wp_X0_expandTree X (nI p) (nI ar) u post := by
  obtain ⟨hR, hE, hL, he, h11, hTX, ⟨⟨a2, b2, A1, A2, A3, A4, A5⟩, h26, hT, n2, hl⟩, hDJ⟩ := hP
  have n1 : n = 1 := TL_uniq hT (TL_atom k1)
  subst n1
  obtain ⟨w1, w2, w3⟩ := hl 0 (by omega)
  rw [Nat.add_zero, Nat.add_zero] at w1 w2
  have hAW : AW (u.2 1 p) (v.2 1 h) := by rw [← w1]; exact (A1.2 p (by omega) (by omega)).1
  have hh : h < 2600 := by omega
  have h1 := hE.1
  have hLM : LMo v := fun _ => by
    obtain ⟨s, e, hs⟩ := hL.2.2.1
    exact ⟨s, hs, e⟩
  have n7 := AW_n7 hAW
  have gT := TXP_g hTX
  have gF := gpV_fr (v := v)
  have g0 := gpV_gap (v := v)
  have gRow : (gpV v).2 1 = v.2 1 := gF.2 1 (by decide)
  have gSet : (gpV v).2 2 = v.2 2 := gF.2 2 (by decide)
  have gh : (gpV v).1 1 = nI h := (gF.1 1 (by decide)).trans h1
  have bad : ∀ (u' : mS) (w : mS), FR [6, 7] [9] u u' → ¬ u'.1 7 = 0 → FR [1, 9, 10, 12] [19] v w → ¬ w.1 12 = 0 → (∀ Q : mS → Prop, Q w → wp_X9_step v Q) → post u' := by
    intro u' w uF ue wF we hw
    obtain ⟨x1, x2⟩ := stepGo hE hL he hh hw
    exact fin u' w x1 (RES_txt hR uF wF x2 (Or.inr ⟨ue, we⟩) (fun q => absurd q we) (fun q => absurd q we))
  intro y1 e1
  refine ⟨fun z => ?_, fun z => ?_⟩
  · have z' : u.1 7 = 0 := by rw [← e1]; exact z
    have gE : (gpV v).1 12 = 0 := by
      rcases gT with ⟨-, t, -⟩ | ⟨t, -⟩
      · exact t
      · exact absurd z' t
    have go1 : ¬ kd (v.2 1 h) = 6 → ∀ w, (∀ Q : mS → Prop, Q w → wj_X9_step_47 Q (kd (v.2 1 h)) (gpV v)) → ∀ Q : mS → Prop, Q w → wp_X9_step v Q := fun k6 w hw Q q => stepM1 h1 hh hLM n2 n7 k6 (hw Q q)
    refine wordAR A1 (by omega) ⟨fun _ => isName_ok hAW (fun k3 => ⟨fun q => absurd q (by decide), fun _ => ?_⟩) (fun k3 => ⟨fun _ => isNum_ok hAW (fun k4 => ⟨fun q => absurd q (by decide), fun _ => ?_⟩) (fun k4 => ⟨fun _ => failA (by decide) (fun u' uF ue => ?_), fun q => absurd rfl q⟩), fun q => absurd rfl q⟩), fun q => absurd ((AW_1 hAW).mp q) k1⟩
    · -- a name
      have k6 : ¬ kd (v.2 1 h) = 6 := by rw [k3]; decide
      obtain ⟨x, y, hNM, ew, ec⟩ := NM_of3 hAW k3
      have hby := NM_bd hNM
      obtain ⟨nv, nb, b0, ke, r1, r2, r3, r4, r5, r6, r7, r8, r9, r10, r11, r12, r13, r14, r15, r16, r17, r18, r19⟩ := id hR
      have g4 : (gpV v).1 4 = nI nb := (gF.1 4 (by decide)).trans r12
      have rB : ∀ i, i < nb → BND u (gpV v) c st ke i := by
        have hR1 : REL u (gpV v) st c f := REL_fr (S := []) (A := []) hR FR.rf gF (by decide) (by decide) (by decide) (by decide)
        obtain ⟨nv', nb', b0', ke', q1, q2, q3, q4, q5, q6, q7, q8, q9, q10, q11, q12, q13, q14, q15, q16, q17, q18, q19⟩ := hR1
        have e1 : nb' = nb := by rw [r11, nI_eq (by omega) (by omega)] at q11; exact q11.symm
        have e2 : ke' = ke := by rw [gF.1 2 (by decide), r17, nI_eq (by omega) (by omega)] at q17; exact q17.symm
        subst e1; subst e2
        exact q19
      have hm : ∀ r, MEA (u.2 5) (u.2 6) nb (u.2 1 p) (u.2 2 p) r → ∀ Q' : Int32 → mS → Prop, Q' r (gpV v) → wp_X9_means (nI y) ((gpV v).2 2 h) (gpV v) Q' := by
        intro r hr Q' q
        rw [ew] at hr
        rw [gSet, ← w2]
        exact meansX r3 g4 rB hNM hr q
      have ge : (gpV v).2 1 h = nI (65536 * 3 + y) := by rw [gRow]; exact ec
      obtain ⟨fy, fyF, fye, -⟩ := failM (c := 3) (v := gpV v) (by decide)
      have fails : ∀ (u' : mS), FR [7] [] u u' → ¬ u'.1 7 = 0 → ∀ r, MEA (u.2 5) (u.2 6) nb (u.2 1 p) (u.2 2 p) r → (r = -1 ∨ r = -2 ∨ ∃ k, k < 40 ∧ r = nI k ∧ ¬ (gpV v).2 9 k = 1 ∧ ¬ (gpV v).2 9 k = 2) → post u' := by
        intro u' uF ue r hr hc
        have hc' : r = -1 ∨ r = -2 ∨ ∃ k, k < 40 ∧ r = nI k := by
          rcases hc with q | q | ⟨k, q1, q2, -⟩
          · exact Or.inl q
          · exact Or.inr (Or.inl q)
          · exact Or.inr (Or.inr ⟨k, q1, q2⟩)
        have one : wp_X9_step v (fun w => FR [1, 9, 10, 12] [19] v w ∧ ¬ w.1 12 = 0) := by
          refine stepM1 h1 hh hLM n2 n7 k6 ?_
          rw [k3]
          have lst : ∀ z : Int32, ¬ z = 0 → wp_X9_fails z (gpV v) (fun x => wj_X9_word_106 (fun w => FR [1, 9, 10, 12] [19] v w ∧ ¬ w.1 12 = 0) x) := fun z hz => fails_ok hz (fun x xF xe _ => word_end ((xF.1 1 (by decide)).trans gh) ⟨FR_set ((gF.wk (by decide) (by decide)).tr (xF.wk (by decide) (by decide))) (by decide), xe⟩)
          refine s47_3 gE (wordM gh hh (by omega) ge (hm r hr) hc' (fun _ z hz => lst z hz) (fun k k40 ek => ?_))
          rcases hc with q | q | ⟨k', q1, q2, q3, q4⟩
          · rw [ek] at q; exact absurd q (nI_ng (by omega) (by decide))
          · rw [ek] at q; exact absurd q (nI_ng (by omega) (by decide))
          · have : k = k' := by rw [ek, nI_eq (by omega) (by omega)] at q2; exact q2
            subst this
            exact ⟨fun q => absurd q q3, fun q => absurd q q4, fun _ _ => lst 3 (by decide)⟩
        exact d_wp_X9_step one (fun w hw reb => bad u' w (uF.wk (by decide) (by decide)) ue hw.1 hw.2 reb)
      refine meaningOfA A1 (by omega) r11 r3 (fun k hk hM hnm => ⟨fun _ => kindOf_ok (by omega) ?_, fun q => absurd (nI_pos' (by omega)) q⟩) (fun r hr hM u' uF ue => ⟨fun q => absurd q (by decide), fun _ => fails u' uF ue r hM (by rcases hr with q | q; exact Or.inl q; exact Or.inr (Or.inl q))⟩)
      obtain ⟨-, -, -, hkd⟩ := rB k hk
      have val : (gpV v).2 9 k = 1 → wp_X5_wordAt (nI p) u (fun r14 u15 => wp_X2_putName r14 u15 (fun u17 => post u17)) := by
        intro v9
        refine wordAR A1 (by omega) ?_
        rw [ew]
        obtain ⟨cs, hcs⟩ := NCH_ex hNM
        obtain ⟨w, ew', wF, wT, wh, wg, wh0⟩ := txt_end (cs := cs) g0 gh gT
        refine putName_A hcs (TX_A gT) ?_
        obtain ⟨x1, x2⟩ := stepGo hE hL he hh (go1 k6 w (fun Q q => by
          rw [k3]
          refine s47_3 gE (wordM gh hh (by omega) ge (hm _ hM) (Or.inr (Or.inr ⟨k, by omega, rfl⟩)) (fun q => by rcases q with q | q <;> exact absurd q (nI_ng (by omega) (by decide))) (fun k' k40 ek => ?_))
          have : k = k' := by rw [nI_eq (by omega) (by omega)] at ek; exact ek
          subst this
          refine ⟨fun _ => space_M (TX_M gT) ?_, fun q => absurd (v9.symm.trans q) (by decide), fun q => absurd v9 q⟩
          intro y20 e20
          have e20 : y20 = nI h := e20.trans ((spM_fr.1 1 (by decide)).trans gh)
          subst e20
          refine what_2x hh (by rw [spM_fr.2 1 (by decide)]; exact ge) (by decide) (by omega) ?_
          refine putName_M hcs (LMo_sp (TX_M gT)) (word_end wh0 ?_)
          rw [← ew']; exact q))
        exact fin _ w x1 (RES_txt hR (pAs_fr cs) ((gF.wk (by decide) (by decide)).tr wF) x2 wT (fun _ => wh) (fun _ => wg))
      have vr : (gpV v).2 9 k = 2 → ∀ m, m < 40 → (gpV v).2 10 k = nI m → wp_X2_putVariable (nI m) u (fun u13 => post u13) := by
        intro v9 m hm40 v10
        obtain ⟨w, ew', wF, wT, wh, wg, wh0⟩ := txt_end (cs := 118 :: NUC m) g0 gh gT
        refine putVar_A (by omega) (TX_A gT) ?_
        obtain ⟨x1, x2⟩ := stepGo hE hL he hh (go1 k6 w (fun Q q => by
          rw [k3]
          refine s47_3 gE (wordM gh hh (by omega) ge (hm _ hM) (Or.inr (Or.inr ⟨k, by omega, rfl⟩)) (fun q => by rcases q with q | q <;> exact absurd q (nI_ng (by omega) (by decide))) (fun k' k40 ek => ?_))
          have : k = k' := by rw [nI_eq (by omega) (by omega)] at ek; exact ek
          subst this
          refine ⟨fun q => absurd (v9.symm.trans q) (by decide), fun _ => ?_, fun _ q => absurd v9 q⟩
          rw [v10]
          refine space_M (TX_M gT) (put_M (LMo_sp (TX_M gT)) (putNum_M (by omega) (LMo_put (LMo_sp (TX_M gT))) (word_end wh0 ?_)))
          rw [ew'] at q; exact q))
        exact fin _ w x1 (RES_txt hR (pAs_fr (118 :: NUC m)) ((gF.wk (by decide) (by decide)).tr wF) x2 wT (fun _ => wh) (fun _ => wg))
      have no : ∀ x9 : Int32, (gpV v).2 9 k = x9 → ¬ x9 = 1 → ¬ x9 = 2 → wp_X2_fail 3 u (fun u9 => post u9) := fun x9 v9 n1 n2' => failA (by decide) (fun u' uF ue => fails u' uF ue _ hM (Or.inr (Or.inr ⟨k, by omega, rfl, by rw [v9]; exact n1, by rw [v9]; exact n2'⟩)))
      rcases hkd with ⟨d1, d2, -⟩ | ⟨d1, d2, -⟩ | ⟨d1, d2, -⟩ | ⟨d1, d2, -⟩ | ⟨d1, d2⟩ | ⟨d1, d2, d3, m, d4, d5⟩ | ⟨d1, d2, -⟩
      · rw [d1]; exact ⟨fun _ => ⟨fun _ => no _ d2 (by decide) (by decide), fun q => absurd q (by decide)⟩, fun q => absurd q (by decide)⟩
      · rw [d1]; exact ⟨fun _ => ⟨fun _ => no _ d2 (by decide) (by decide), fun q => absurd q (by decide)⟩, fun q => absurd q (by decide)⟩
      · rw [d1]; exact ⟨fun _ => ⟨fun _ => no _ d2 (by decide) (by decide), fun q => absurd q (by decide)⟩, fun q => absurd q (by decide)⟩
      · rw [d1]; exact ⟨fun _ => ⟨fun _ => no _ d2 (by decide) (by decide), fun q => absurd q (by decide)⟩, fun q => absurd q (by decide)⟩
      · rw [d1]; exact ⟨fun q => absurd rfl q, fun _ => val d2⟩
      · rw [d1]
        refine ⟨fun _ => ⟨fun q => absurd rfl q, fun _ => valueOf_ok (by omega) ?_⟩, fun q => absurd q (by decide)⟩
        rw [d3, d5]
        exact vr d2 m d4 d5
      · rw [d1]; exact ⟨fun _ => ⟨fun _ => no _ d2 (by decide) (by decide), fun q => absurd q (by decide)⟩, fun q => absurd q (by decide)⟩
    · -- a number
      have k6 : ¬ kd (v.2 1 h) = 6 := by rw [k4]; decide
      obtain ⟨m, hm, ew, ec⟩ := NU_of4 hAW k4
      obtain ⟨w, ew', wF, wT, wh, wg, wh0⟩ := txt_end (cs := NUC m) g0 gh gT
      rw [ew]
      refine putNum_A (by omega) (TX_A gT) ?_
      obtain ⟨x1, x2⟩ := stepGo hE hL he hh (go1 k6 w (fun Q q => by
        rw [k4]
        refine s47_4 gE ?_
        intro y21 e21
        rw [gh] at e21; subst e21
        refine kind_2 hh ?_
        rw [gRow, k4]
        refine ⟨fun _ => ⟨fun _ => space_M (TX_M gT) ⟨fun _ => ⟨fun q => absurd rfl q, fun _ => what_2x hh (by rw [spM_fr.2 1 (by decide), gRow]; exact ec) (by decide) (by omega) (putNum_M (by omega) (LMo_sp (TX_M gT)) ⟨fun _ => ⟨fun _ => ?_, fun q => absurd q (by decide)⟩, fun q => absurd q (by decide)⟩)⟩, fun q => absurd q (by decide)⟩, fun q => absurd q (by decide)⟩, fun q => absurd q (by decide)⟩
        intro y24 e24
        rw [wh0] at e24; subst e24
        rintro _ rfl _ rfl
        rw [nI_1, ← ew']; exact q))
      exact fin _ w x1 (RES_txt hR (pAs_fr (NUC m)) ((gF.wk (by decide) (by decide)).tr wF) x2 wT (fun _ => wh) (fun _ => wg))
    · by_cases k6 : kd (v.2 1 h) = 6
      · obtain ⟨y, yF, ye, yg⟩ := failM (c := 3) (v := v) (by decide)
        exact bad u' y (uF.wk (by decide) (by decide)) ue (yF.wk (by decide) (by decide)) ye (fun Q q => stepM6 h1 hh (Or.inr (Or.inr k6)) (s47_f he (Or.inr k6) (yg Q q)))
      · have k5 : kd (v.2 1 h) = 5 := by
          rcases AW_k hAW with ⟨-, e⟩ | ⟨-, e⟩ | ⟨-, e⟩ | ⟨-, e⟩ | ⟨_, -, -, e⟩ | ⟨_, -, -, -, e⟩
          · exact absurd e k1
          · exact absurd e n2
          · exact absurd e k6
          · exact e
          · exact absurd e k4
          · exact absurd e k3
        obtain ⟨y, yF, ye, yg⟩ := failM (c := 3) (v := gpV v) (by decide)
        exact bad u' y (uF.wk (by decide) (by decide)) ue ((gF.wk (by decide) (by decide)).tr (yF.wk (by decide) (by decide))) ye (go1 k6 y (fun Q q => s47_f gE (Or.inl k5) (yg Q q)))
  · have z' : ¬ u.1 7 = 0 := by rw [← e1]; exact z
    by_cases k6 : kd (v.2 1 h) = 6
    · obtain ⟨y, yF, ye, yg⟩ := failM (c := 3) (v := v) (by decide)
      exact bad u y FR.rf z' (yF.wk (by decide) (by decide)) ye (fun Q q => stepM6 h1 hh (Or.inr (Or.inr k6)) (s47_f he (Or.inr k6) (yg Q q)))
    · have gE : ¬ (gpV v).1 12 = 0 := by
        rcases gT with ⟨t, -, -⟩ | ⟨-, t⟩
        · exact absurd t z'
        · exact t
      exact bad u (gpV v) FR.rf z' (gF.wk (by decide) (by decide)) gE (fun Q q => stepM1 h1 hh hLM n2 n7 k6 (s47_e gE q))
