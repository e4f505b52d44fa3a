-- 96h: lists and trees: the expansion of both sides
theorem listX {X : Int32 → Int32 → mS → (mS → Prop) → Prop} {d : Nat} {v u g : mS} {p m N h st c f ar : Nat} {post : mS → Prop} (hX : XOK X d) (hXE : XER X) (hC : CTX u g p m N h st c f ar) (hd : 12 + f ≤ d + (ar + 1)) (har : ar ≤ 10) (go : ∀ w, (∀ Q : mS → Prop, Q w → wp_X9_list g Q) → MGo v w ∧ MIN w) (fin : ∀ u' v', MGo v v' → RES u g u' v' p m h st c f → post u') : wp_X0_expandList X (nI p) (nI ar) u post := by
  have hTX := CTX_tx hC
  have hC' := hC
  obtain ⟨⟨hR, hE, hL, he, h11, -, ⟨⟨a2, b2, A1, A2, A3, A4, A5⟩, h26, hT, n2, hl⟩, hDJ⟩, u7, g10, hLI⟩ := hC
  obtain ⟨nv, nb, b0, ke, q1, q2, q3, q4, r1, r2, r3, r4, r5, r6, r7, r8, r9, r10, r11, r12, r13, r14, r15⟩ := id hR
  have hnb : nbA u = nb := nbA_of r7 (by omega)
  have h1 := hE.1
  have m2 := (TL_open hLI.1 hLI.2.1)
  obtain ⟨z1, z2, z3⟩ := hl 1 (by omega)
  have hAW : AW (u.2 1 (p + 1)) (g.2 1 (h + 1)) := by rw [← z1]; exact (A1.2 (p + 1) (by omega) (by omega)).1
  rintro _ rfl
  rw [nI_1]
  refine wordAR A1 (by omega) ⟨fun h9 => ?_, fun h9 => ?_⟩
  · have ar9 : ar ≤ 9 := by
      rw [show (9 : Int32) = nI 9 from rfl, nI_leI (by omega) (by omega)] at h9
      exact h9
    have beg : ∀ Q : mS → Prop, wp_X9_kind_2 (nI (h + 1)) g (fun r5 u6 => ((¬ r5 = (2 : Int32)) → ((¬ r5 = (3 : Int32)) → wj_X9_list_78 Q r5 (0 : Int32) u6) ∧ ((r5 = (3 : Int32)) → ∀ y9 : Int32, y9 = (u6.1 1) → ∀ y10 : Int32, y10 = (y9 + (1 : Int32)) → wp_X9_what_2 y10 u6 (fun r11 u12 => ∀ y13 : Int32, y13 = (u12.1 1) → ∀ y14 : Int32, y14 = (y13 + (1 : Int32)) → vp_in y14 2600 ∧ ∀ y15 : Int32, y15 = u12.2 2 y14.toNatClampNeg → wp_X9_means r11 y15 u12 (fun r16 u17 => wj_X9_list_78 Q r5 r16 u17)))) ∧ ((r5 = (2 : Int32)) → wp_X9_fails (3 : Int32) u6 (fun u19 => Q u19))) → wp_X9_list g Q := by
      intro Q q
      intro y1 e1
      rw [h11] at e1; subst e1
      refine ⟨fun _ => ?_, fun z => absurd h9 z⟩
      intro y3 e3
      rw [h1] at e3; subst e3
      rintro _ rfl
      rw [nI_1]
      exact q
    refine ⟨fun c2 => ?_, fun c2 => ?_⟩
    · have c2' : ¬ kd (g.2 1 (h + 1)) = 2 := fun z => c2 ((AW_2 hAW).mpr z)
      have hm3 : 3 ≤ m := by
        rcases Nat.lt_or_ge 2 m with z | z
        · omega
        · have : m = 2 := by omega
          have z := m2.2.2
          rw [this] at z
          exact absurd z c2'
      refine isName_ok hAW (fun k3 => ⟨fun z => absurd z (by decide), fun _ => ?_⟩) (fun k3 => ⟨fun _ => ?_, fun z => absurd rfl z⟩)
      · obtain ⟨x, y, hNM, ewx, ec⟩ := NM_of3 hAW k3
        have hby := NM_bd hNM
        have toL : ∀ r, MEA (u.2 5) (u.2 6) nb (u.2 1 (p + 1)) (u.2 2 (p + 1)) r → ∀ Q : mS → Prop, wj_X9_list_78 Q 3 r g → wp_X9_list g Q := by
          intro r hr Q q
          refine beg Q (kind_2 (by omega) ?_)
          rw [k3]
          refine ⟨fun _ => ⟨fun z => absurd rfl z, fun _ => ?_⟩, fun z => absurd z (by decide)⟩
          intro y9 e9
          rw [h1] at e9; subst e9
          rintro _ rfl
          rw [nI_1]
          refine what_2x (by omega) ec (by decide) (by omega) ?_
          intro y13 e13
          rw [h1] at e13; subst e13
          rintro _ rfl
          rw [nI_1]
          refine ⟨vp_in_nI (by omega) (by omega), ?_⟩
          rintro _ rfl
          rw [nI_clamp (by omega), ← z2]
          rw [ewx] at hr
          exact meansX q3 r8 r15 hNM hr q
        rintro _ rfl
        refine meaningOfA A1 (by omega) r7 q3 (fun k hk hM hnm => ?_) (fun r hr hM u' uF ue => ?_)
        · have l78 : ∀ Q : mS → Prop, (¬ g.2 9 k = 0 → wj_X9_list_127 Q 3 (nI k) g) → (g.2 9 k = 0 → wp_X9_form (g.2 10 k) g Q) → wp_X9_list g Q := by
            intro Q qa qb
            refine toL _ hM Q ⟨fun _ => ⟨fun z => absurd rfl z, fun _ => ⟨vp_in_nI (by omega) (by omega), ?_⟩⟩, fun z => absurd (nI_pos' (by omega)) z⟩
            rintro _ rfl
            rw [nI_clamp (by omega)]
            refine ⟨fun z => qa z, fun z => ⟨vp_in_nI (by omega) (by omega), ?_⟩⟩
            rintro _ rfl
            exact qb z
          have l127 : ∀ Q : mS → Prop, (¬ g.2 9 k = 3 → wj_X9_list_150 Q g) → (g.2 9 k = 3 → wp_X9_use (nI k) g Q) → wj_X9_list_127 Q 3 (nI k) g := by
            intro Q qa qb
            refine ⟨fun z => absurd rfl z, fun _ => ⟨vp_in_nI (by omega) (by omega), ?_⟩⟩
            rintro _ rfl
            rw [nI_clamp (by omega)]
            exact ⟨qa, qb⟩
          obtain ⟨-, -, -, hkd⟩ := r15 k hk
          intro y16 e16
          refine ⟨fun _ => kindOf_ok (by omega) ?_, fun z => absurd (e16.trans u7) z⟩
          rcases hkd with ⟨d1, d2, d3, d4⟩ | ⟨d1, d2, d3, d4⟩ | ⟨d1, d2, d3⟩ | ⟨d1, d2, d3⟩ | ⟨d1, d2⟩ | ⟨d1, d2, -⟩ | ⟨d1, d2, -⟩
          · rw [d1]
            exact ⟨fun _ => fnX hX hXE hC' hd ar9 (hnm.symm.trans d4) k3 hm3 (fun w hw => go w (fun Q q => l78 Q (fun z => absurd d2 z) (fun _ => by rw [d3]; exact hw Q q))) fin, fun z => absurd z (by decide), fun z => absurd z (by decide), fun z => absurd z (by decide), fun z => absurd z (by decide), fun z => absurd rfl z⟩
          · rw [d1]
            exact ⟨fun z => absurd z (by decide), fun _ => ifX hX hXE hC' hd ar9 (hnm.symm.trans d4) k3 hm3 (fun w hw => go w (fun Q q => l78 Q (fun z => absurd d2 z) (fun _ => by rw [d3]; exact hw Q q))) fin, fun z => absurd z (by decide), fun z => absurd z (by decide), fun z => absurd z (by decide), fun _ z => absurd rfl z⟩
          · rw [d1]
            exact ⟨fun z => absurd z (by decide), fun z => absurd z (by decide), fun _ => qX hC' (fun w hw => go w (fun Q q => l78 Q (fun z => absurd d2 z) (fun _ => by rw [d3]; exact hw Q q))) fin, fun z => absurd z (by decide), fun z => absurd z (by decide), fun _ _ z => absurd rfl z⟩
          · rw [d1]
            exact ⟨fun z => absurd z (by decide), fun z => absurd z (by decide), fun z => absurd z (by decide), fun _ => lsX hX hC' hd ar9 k3 hm3 (fun w hw => go w (fun Q q => l78 Q (fun z => absurd d2 z) (fun _ => by rw [d3]; exact hw Q q))) fin, fun z => absurd z (by decide), fun _ _ _ z => absurd rfl z⟩
          · rw [d1]
            exact ⟨fun z => absurd z (by decide), fun z => absurd z (by decide), fun z => absurd z (by decide), fun z => absurd z (by decide), fun z => absurd z (by decide), fun _ _ _ _ _ => eachX hX hC' hd ar9 (fun w hw => go w (fun Q q => l78 Q (fun _ => l127 Q (fun _ => hw Q q) (fun z => absurd (d2.symm.trans z) (by decide))) (fun z => absurd (d2.symm.trans z) (by decide)))) fin⟩
          · rw [d1]
            exact ⟨fun z => absurd z (by decide), fun z => absurd z (by decide), fun z => absurd z (by decide), fun z => absurd z (by decide), fun z => absurd z (by decide), fun _ _ _ _ _ => eachX hX hC' hd ar9 (fun w hw => go w (fun Q q => l78 Q (fun _ => l127 Q (fun _ => hw Q q) (fun z => absurd (d2.symm.trans z) (by decide))) (fun z => absurd (d2.symm.trans z) (by decide)))) fin⟩
          · rw [d1]
            exact ⟨fun z => absurd z (by decide), fun z => absurd z (by decide), fun z => absurd z (by decide), fun z => absurd z (by decide), fun _ => valueOf_ok (by omega) (useX hX hC' hd ar9 (by rw [hnb]; exact hk) d1 (fun w hw => go w (fun Q q => l78 Q (fun _ => l127 Q (fun z => absurd d2 z) (fun _ => hw Q q)) (fun z => absurd (d2.symm.trans z) (by decide)))) fin), fun _ _ _ _ z => absurd rfl z⟩
        · have bad : ∀ z : Int32, ¬ z = 0 → (∀ Q : mS → Prop, wp_X9_fails z g Q → wp_X9_list g Q) → post u' := by
            intro z hz hh
            obtain ⟨yb, ybF, ybe, ybg⟩ := failM (c := z) (v := g) hz
            exact failX hC' uF ybF (by decide) (by decide) (by decide) (by decide) ue ybe (go yb (fun Q q => hh Q (ybg Q q))) fin
          intro y16 e16
          refine ⟨fun z => absurd (e16.symm.trans z) ue, fun _ => ?_⟩
          rcases hr with rfl | rfl
          · exact bad 1 (by decide) (fun Q q => toL _ hM Q ⟨fun z => absurd z (by decide), fun _ => ⟨fun z => absurd rfl z, fun _ => q⟩⟩)
          · exact bad 2 (by decide) (fun Q q => toL _ hM Q ⟨fun z => absurd z (by decide), fun _ => ⟨fun _ => q, fun z => absurd z (by decide)⟩⟩)
      · intro y16 e16
        refine ⟨fun _ => ⟨fun _ => ?_, fun z => absurd (by decide) z⟩, fun z => absurd (e16.trans u7) z⟩
        refine ⟨fun z => absurd z (by decide), fun z => absurd z (by decide), fun z => absurd z (by decide), fun z => absurd z (by decide), fun z => absurd z (by decide), fun _ _ _ _ _ => eachX hX hC' hd ar9 (fun w hw => go w (fun Q q => beg Q (kind_2 (by omega) ⟨fun _ => ⟨fun _ => ⟨fun _ => ⟨fun _ => ⟨fun _ => hw Q q, fun z => absurd z k3⟩, fun z => absurd z k3⟩, fun z => absurd (Int32.le_refl _) z⟩, fun z => absurd z k3⟩, fun z => absurd z c2'⟩))) fin⟩
    · have c2' : kd (g.2 1 (h + 1)) = 2 := (AW_2 hAW).mp c2
      obtain ⟨yb, ybF, ybe, ybg⟩ := failM (c := 3) (v := g) (by decide)
      exact failA (by decide) (fun u' uF ue => failX hC' uF ybF (by decide) (by decide) (by decide) (by decide) ue ybe (go yb (fun Q q => beg Q (kind_2 (by omega) ⟨fun z => absurd c2' z, fun _ => ybg Q q⟩))) fin)
  · obtain ⟨yb, ybF, ybe, ybg⟩ := failM (c := 6) (v := g) (by decide)
    refine failA (by decide) (fun u' uF ue => failX hC' uF ybF (by decide) (by decide) (by decide) (by decide) ue ybe (go yb (fun Q q => ?_)) fin)
    intro y1 e1
    rw [h11] at e1; subst e1
    exact ⟨fun z => absurd z h9, fun _ => ybg Q q⟩
theorem treeX {X : Int32 → Int32 → mS → (mS → Prop) → Prop} {d : Nat} {u v : mS} {p n h st c f ar : Nat} {post : mS → Prop} (hX : XOK X d) (hXE : XER X) (hd : 12 + f ≤ d + 1 + ar) (har : ar ≤ 10) (hP : PRE u v p n h st c f ar) (fin : ∀ u' v', MGo v v' → RES u v u' v' p n h st c f → post u') : wp_X0_expandTree X (nI p) (nI ar) u post := by
  by_cases k1 : kd (v.2 1 h) = 1
  · obtain ⟨hR, hE, hL, he, h11, hTX, ⟨⟨a2, b2, A1, A2, A3, A4, A5⟩, h26, hT, n2, hl⟩, hDJ⟩ := hP
    obtain ⟨t1, t2, t3, t4⟩ := REL_top hR
    have n0 := hT.1
    have hh : h < 2600 := by omega
    have h1 := hE.1
    have hLM : LMo v := fun _ => by
      obtain ⟨s, e, hs⟩ := hL.2.2.1
      exact ⟨s, hs, e⟩
    have gT := TXP_g hTX
    have gF := gpV_fr (v := v)
    have g0 := gpV_gap (v := v)
    obtain ⟨w1, -, -⟩ := hl 0 (by omega)
    rw [Nat.add_zero, Nat.add_zero] at w1
    have hAW : AW (u.2 1 p) (v.2 1 h) := by rw [← w1]; exact (A1.2 p (by omega) (by omega)).1
    have go47 : ∀ w, (∀ Q : mS → Prop, Q w → wj_X9_step_47 Q 1 (gpV v)) → MGo v w ∧ MIN w := fun w hw => stepGo hE hL he hh (fun Q q => stepM1 h1 hh hLM n2 (by rw [k1]; decide) (by rw [k1]; decide) (by rw [k1]; exact hw Q q))
    intro y1 e1
    rcases gT with ⟨t1', t2', t3'⟩ | ⟨t1', t2'⟩
    · refine ⟨fun _ => ?_, fun z => absurd (e1.trans t1') z⟩
      refine wordAR A1 (by omega) ⟨fun z => absurd ((AW_1 hAW).mpr k1) z, fun _ => ?_⟩
      have gr : (gpV v).2 1 = v.2 1 := gF.2 1 (by decide)
      have gs : (gpV v).2 2 = v.2 2 := gF.2 2 (by decide)
      obtain ⟨N, hLI⟩ := LI_ex k1 hT
      have gT : TX u (gpV v) := Or.inl ⟨t1', t2', t3'⟩
      have hRg : REL u (gpV v) st c f := REL_fr (S := []) (A := []) hR FR.rf gF (by decide) (by decide) (by decide) (by decide)
      obtain ⟨ro, hro⟩ := hE.2.2.2.2.1
      have gE : EXI (gpV v) h f := EXI_mv hE gF ((gF.1 1 (by decide)).trans h1) (Nat.le_refl _) (by omega) ⟨ro, by rw [gr]; exact hro⟩ (by decide) (by decide) (by decide) (by decide) (fun P hB => BNS_fr hB gF (by decide) (by decide) (by decide) (by decide))
      have gL : LST 0 (gpV v) := LST_pq hL ⟨gF, by
        obtain ⟨L, l1, l2, l3, -⟩ := t3'
        exact ⟨L, l3, l1⟩⟩
      have hC : CTX u (gpV v) p n N h st c f ar := ⟨⟨hRg, gE, gL, t2', (gF.1 11 (by decide)).trans h11, Or.inl ⟨g0, gT⟩, ⟨⟨a2, b2, A1, A2, A3, A4, A5⟩, h26, by rw [gr]; exact hT, by rw [gr]; exact n2, fun j hj => by rw [gr, gs]; exact hl j hj⟩, hDJ⟩, t1', g0, by rw [gr]; exact hLI⟩
      refine listX (v := v) hX hXE hC (by omega) har (fun w hw => go47 w (fun Q q => s47_1 t2' (hw Q q))) (fun u' v' gg hr => fin u' v' gg ?_)
      exact RES_tr (u0 := u) (v0 := gpV v) (FRX_rf (S := []) (A := []) FR.rf gF (by decide) (by decide) (by decide) (by decide) t1 (by omega)) (Nat.le_refl _) (Nat.le_refl _) (Nat.le_refl _) (fun z => by omega) (fun z => by omega) rfl (gF.1 11 (by decide)) (fun l _ => by rw [gr, gs]; exact ⟨rfl, rfl⟩) (fun i i1 i2 => by omega) (REL_reg hR) hr
    · refine ⟨fun z => absurd (e1.symm.trans z) t1', fun _ => ?_⟩
      obtain ⟨x1, x2⟩ := go47 (gpV v) (fun Q q => s47_e t2' q)
      exact fin u (gpV v) x1 (RES_txt hR FR.rf (gF.wk (by decide) (by decide)) x2 (Or.inr ⟨t1', t2'⟩) (fun z => absurd z t2') (fun z => absurd z t2'))
  · exact atomX hP k1 fin
theorem wpT_er : ∀ d, XER (wpT (d + 1)) := fun d t a u post ue hp => fun _ e => ⟨fun z => absurd (e.symm.trans z) ue, fun _ => hp⟩
theorem wpT_ok : ∀ d, XOK (wpT d) d := by
  intro d
  induction d with
  | zero =>
    intro u v p n h st c f ar post hd har
    omega
  | succ d ih =>
    intro u v p n h st c f ar post hd har hP fin
    obtain ⟨d', rfl⟩ : ∃ d', d = d' + 1 := ⟨d - 1, by omega⟩
    exact treeX ih (wpT_er d') (by omega) har hP fin
