-- 27: fill of the reference
def RD3 (w : mS) : Prop := ∀ l, l < 3 → ∃ c, w.2 18 l = nI c ∧ c < 2 ^ 20
def FI (b w : mS) (pat T m0 lst i : Nat) : Prop := ∃ (k ty h : Nat) (rd be ro : Nat → Nat), w.1 6 = nI k ∧ w.1 7 = nI ty ∧ ty ≤ 100 ∧ w.1 8 = nI h ∧ h ≤ 2 ∧ (∀ l, l < 3 → w.2 18 l = nI (rd l) ∧ rd l < 2 ^ 20) ∧ (∀ l, l < h → w.2 16 l = nI (be l) ∧ w.2 17 l = nI (ro l)) ∧ SK (b.2 3) (b.2 4) (b.2 1) pat T (T + m0) lst rd be ro i h ∧ MD (b.2 3) (w.2 12) T i k ty
/-- what a fill needs of its rule and its list -/
def FG (b : mS) (pat n T m0 lst m : Nat) (D : Nat → Nat → Prop) : Prop := FC (b.2 3) (b.2 4) (b.2 1) pat n T m0 lst m D ∧ DTS (b.2 3) T (T + m0) ∧ ¬ kd (b.2 3 T) = 2 ∧ ¬ kd (b.2 3 T) = 6 ∧ (∀ j, T ≤ j → j < T + m0 → TOK (b.2 3 j)) ∧ (∀ j, lst ≤ j → j < lst + m → TOK (b.2 1 j)) ∧ DTS (b.2 1) lst (lst + m)
theorem fill_loop {pat n T m0 lst m : Nat} {D : Nat → Nat → Prop} {b : mS} {post : mS → Prop} (hG : FG b pat n T m0 lst m D) (h1 : ∀ v k, FR [6, 7, 8, 12] [12, 13, 16, 17, 18] b v → RD3 v → v.1 12 = 0 → v.1 6 = nI k → 0 < k → k ≤ 300 → TL (v.2 12) 0 k → (∀ j, j < k → TOK (v.2 12 j)) → (∀ j, j < k → kd (v.2 12 j) = 6 → 0 < j ∧ ¬ kd (v.2 12 (j - 1)) = 1 ∧ ¬ kd (v.2 12 (j - 1)) = 6) → post v) (h0 : ∀ v, FR [6, 7, 8, 12] [12, 13, 16, 17, 18] b v → RD3 v → ¬ v.1 12 = 0 → post v) : ∀ (x1 x2 x4 x5 : Int32) (w : mS), (x1 = nI pat ∧ x2 = nI lst ∧ x4 = nI (T + m0) ∧ ∃ i, x5 = nI i ∧ T ≤ i ∧ i ≤ T + m0 ∧ FR [6, 7, 8, 12] [12, 13, 16, 17, 18] b w ∧ RD3 w ∧ (w.1 12 = 0 → FI b w pat T m0 lst i)) → ∃ c, mL5 (fun K => wj_X9_fill_37 K post) c x1 x2 x4 x5 w := by
  obtain ⟨hFC, hDT, hT2, hT6, htok, hrtok, hrdt⟩ := hG
  have hFC' := hFC
  obtain ⟨⟨N, t, hPC⟩, hPAT, hpT, hT, hTl, hTEM, hLl, hl2, hm, hTop, hD⟩ := hFC
  have hL := hPC.1.1
  have htN : t ≤ N := by rcases hPC.1.2.2 with a | ⟨a, _⟩ <;> omega
  have hN : 0 < N := by have := hPC.2.1; omega
  have etp := tl_eq hL.2.1
  have ett := tl_eq hT
  have m00 := hT.1
  have hiT : TL (b.2 3) (pat + 1) (tl (b.2 3) (pat + 1)) := (hL.2.2.1 0 hN).2
  have hb1 : pat + 1 + tl (b.2 3) (pat + 1) < pat + n := (LI_at hL (k := 1) (by omega)).2.1
  refine mL5_in _ (fun _ _ _ x5 w => if w.1 12 = 0 then (400 - (w.1 6).toNatClampNeg) * 8000 + (if x5.toNatClampNeg < T + m0 ∧ kd (b.2 3 x5.toNatClampNeg) = 6 then 4000 else 0) + (3300 - x5.toNatClampNeg) + 1 else 0) ?_
  rintro K x1 x2 x4 x5 w ⟨rfl, rfl, rfl, i, rfl, hTi, hiT2, hF, hR, hI⟩ ih
  have r1 : w.2 1 = b.2 1 := hF.2 1 (by decide)
  have r3 : w.2 3 = b.2 3 := hF.2 3 (by decide)
  have r4 : w.2 4 = b.2 4 := hF.2 4 (by decide)
  have fin0 : ¬ w.1 12 = 0 → post w := fun he => h0 w hF hR he
  by_cases he : w.1 12 = 0
  · obtain ⟨k, ty, h, rd, be, ro, ek, ety, ty100, eh, hh2, hrd, hbe, hSK, hMD⟩ := hI he
    -- the measure here
    have mu : (if w.1 12 = 0 then (400 - (w.1 6).toNatClampNeg) * 8000 + (if (nI i).toNatClampNeg < T + m0 ∧ kd (b.2 3 (nI i).toNatClampNeg) = 6 then 4000 else 0) + (3300 - (nI i).toNatClampNeg) + 1 else 0) = (400 - (nI k).toNatClampNeg) * 8000 + (if i < T + m0 ∧ kd (b.2 3 i) = 6 then 4000 else 0) + (3300 - i) + 1 := by
      rw [if_pos he, nI_clamp (by omega), ek]
    rcases Nat.lt_or_ge i (T + m0) with hlt | hge
    · have kb := md_room hT hMD hTi hlt
      have mu : _ = _ := mu
      rw [nI_clamp (show k < 2 ^ 31 from by omega)] at mu
      -- going on in a state with an error
      have errK : ∀ (v : mS) (i' : Nat), T ≤ i' → i' ≤ T + m0 → FR [6, 7, 8, 12] [12, 13, 16, 17, 18] b v → RD3 v → ¬ v.1 12 = 0 → K (nI pat) (nI lst) (nI (T + m0)) (nI i') v := by
        intro v i' a1 a2 a3 a4 a5
        refine ih _ _ _ _ _ ⟨rfl, rfl, rfl, i', rfl, a1, a2, a3, a4, fun q => absurd q a5⟩ ?_
        rw [mu, if_neg a5]; omega
      -- a token or a tree is put at the end
      have g152 : ∀ (v : mS) (h' : Nat) (rd' be' ro' : Nat → Nat), FR [6, 7, 8, 12] [12, 13, 16, 17, 18] b v → RD3 v → v.1 12 = 0 → v.1 6 = nI k → v.1 7 = nI ty → v.1 8 = nI h' → h' ≤ 2 → (∀ l, l < 3 → v.2 18 l = nI (rd' l) ∧ rd' l < 2 ^ 20) → (∀ l, l < h' → v.2 16 l = nI (be' l) ∧ v.2 17 l = nI (ro' l)) → SK (b.2 3) (b.2 4) (b.2 1) pat T (T + m0) lst rd' be' ro' i h' → MD (b.2 3) (v.2 12) T i k ty → ¬ kd (b.2 3 i) = 6 → (HL (b.2 3) T (T + m0) i → ∃ l, l < h' ∧ be' l = i) → wj_X9_fill_152 K post (nI pat) (nI lst) (nI (T + m0)) (nI i) (kd (b.2 3 i)) v := by
        intro v h' rd' be' ro' vF vR ve vk vty vh vh2 vrd vbe vSK vMD n6 ent
        have q1 : v.2 1 = b.2 1 := vF.2 1 (by decide)
        have q3 : v.2 3 = b.2 3 := vF.2 3 (by decide)
        have q4 : v.2 4 = b.2 4 := vF.2 4 (by decide)
        have nextSK := sk_next vSK n6 ent
        have lastK : ∀ (u : mS) (k' ty' : Nat), FR [6, 7] [12, 13] v u → u.1 6 = nI k' → k < k' → u.1 7 = nI ty' → ty' ≤ 100 → MD (b.2 3) (u.2 12) T (i + 1) k' ty' → K (nI pat) (nI lst) (nI (T + m0)) (nI (i + 1)) u := by
          intro u k' ty' uF uk ukk uty uty2 uMD
          have ue : u.1 12 = 0 := (uF.1 12 (by decide)).trans ve
          have u16 : u.2 16 = v.2 16 := uF.2 16 (by decide)
          have u17 : u.2 17 = v.2 17 := uF.2 17 (by decide)
          have u18 : u.2 18 = v.2 18 := uF.2 18 (by decide)
          refine ih _ _ _ _ _ ⟨rfl, rfl, rfl, i + 1, rfl, by omega, by omega, vF.tr (uF.wk (by decide) (by decide)), fun l hl => by rw [u18]; exact vR l hl, fun _ => ⟨k', ty', h', rd', be', ro', uk, uty, uty2, (uF.1 8 (by decide)).trans vh, vh2, fun l hl => by rw [u18]; exact vrd l hl, fun l hl => by rw [u16, u17]; exact vbe l hl, nextSK, uMD⟩⟩ ?_
          rw [mu, if_pos ue, uk, nI_clamp (show i + 1 < 2 ^ 31 from by omega)]
          rw [if_neg (fun z : i < T + m0 ∧ kd (b.2 3 i) = 6 => n6 z.2)]
          have kk : k' < 2 ^ 31 ∨ 2 ^ 31 ≤ k' := by omega
          have hle : (400 - (nI k').toNatClampNeg) * 8000 + 8000 ≤ (400 - k) * 8000 := by
            have k400 : k ≤ 300 := by omega
            have : (nI k').toNatClampNeg = k' := by
              have := row_counts k' uMD.2.1
              have e3 := uMD.2.2.1
              have : k' ≤ 3 * ty' + 3 := by
                have d0 : dep (u.2 12) 0 k' = dep (b.2 3) T (i + 1 - T) := uMD.2.2.2.1
                have dge : 0 ≤ dep (b.2 3) T (i + 1 - T) := by
                  rcases Nat.lt_or_ge (i + 1) (T + m0) with c | c
                  · have := hT.2.2 (i + 1 - T) (by omega) (by omega); omega
                  · have ee : i + 1 - T = m0 := by omega
                    rw [ee, TL_0 hT hT2]; exact Int.le_refl 0
                have := row_room uMD.2.1 (by omega)
                rw [← e3] at this
                omega
              exact nI_clamp (by omega)
            rw [this]; omega
          split <;> omega
        have errE : ∀ u : mS, FR [6, 7, 12] [12, 13] v u → ¬ u.1 12 = 0 → K (nI pat) (nI lst) (nI (T + m0)) (nI (i + 1)) u := by
          intro u uF ue
          have u18 : u.2 18 = v.2 18 := uF.2 18 (by decide)
          exact errK u (i + 1) (by omega) (by omega) (vF.tr (uF.wk (by decide) (by decide))) (fun l hl => by rw [u18]; exact vR l hl) ue
        have addT : wj_X9_fill_181 K post (nI pat) (nI lst) (nI (T + m0)) (nI i) (-1) v := by
          refine ⟨fun q => absurd q (by decide), fun _ => ⟨vp_in_nI (by omega) (by omega), ?_⟩⟩
          rintro _ rfl
          refine ⟨vp_in_nI (by omega) (by omega), ?_⟩
          rintro _ rfl
          rw [nI_clamp (by omega), q3]
          refine add_ok vk vty (by omega) ty100 (fun u uF uk uty uty2 u12 _ => ?_) (fun u uF ue => ?_)
          · rintro _ rfl
            rw [nI_1]
            refine lastK u (k + 1) _ uF uk (by omega) uty uty2 ?_
            rw [u12]
            exact md_add hT vMD hTi hlt n6 (htok i hTi hlt)
          · rintro _ rfl
            rw [nI_1]
            exact errE u (uF.wk (by decide) (by decide)) ue
        refine ⟨fun _ => addT, fun k3 => ⟨vp_in_nI (by omega) (by omega), ?_⟩⟩
        rintro _ rfl
        refine ⟨vp_in_nI (by omega) (by omega), ?_⟩
        rintro _ rfl
        rw [nI_clamp (by omega)]
        refine variable_ok (by rw [q3]; exact hL.2.1) (by rw [q3]; exact hiT) (by omega) (by omega) ?_
        rw [q3, q4]
        rcases VR_cases (s := b.2 4) hL hN (by omega) (b.2 3 i) (b.2 4 i) with g | ⟨j, g1, g2, g3, -⟩
        · rw [g]; exact addT
        · have hu : USE (b.2 3) (b.2 4) pat i j := ⟨k3, g3, by omega⟩
          rw [g3]
          refine ⟨fun _ => ?_, fun q => absurd (nI_pos' (by omega)) q⟩
          have hHB := sk_HB vSK hTi n6 ent
          have hcc : ∀ l, l < HB (b.2 3) T (T + m0) i → rd' l < CNT (b.2 3) (b.2 1) rd' pat lst j l := by
            intro l hl
            rw [hHB] at hl
            obtain ⟨c1, c2, c3, c4, c5, c6⟩ := vSK.1 l hl
            have ne : i ≠ be' l + tl (b.2 3) (be' l) := by
              intro z
              rw [z] at n6
              exact n6 c1.2.2.2.2
            rw [c6 i j c2 (by omega) hu]
            exact c4
          obtain ⟨f1, f2, f3⟩ := FC_use hFC' hTi hlt hu
          have hWS : wkS (b.2 3) (b.2 1) rd' j 9 (j - pat + 1) pat lst 0 := wkS_of _ _ _ 0 (by omega) (by omega) (fun l _ _ hl => hcc l (by rw [Nat.zero_add, f2] at hl; exact hl))
          have hnode := wkV_node (stop := 9) (rd := rd') hTop hD f1 (j - pat + 1) pat lst 0 (Or.inl ⟨rfl, rfl⟩) (by have := f1.1; omega) (fun _ => ⟨by rw [etp]; exact f1.2.1, hL.1⟩) (Nat.le_refl _) (by omega) hWS
          refine walkU_ok (w := v) (rd := rd') (stop := 9) (by rw [q3, q4, q1]; exact hFC') hTi hlt (by rw [q3, q4]; exact hu) vrd (by omega) (fun l _ hl => by rw [q3] at hl; rw [q3, q1]; exact hcc l hl) ?_
          rw [q3, q1]
          have hDU : D j (CNT (b.2 3) (b.2 1) rd' pat lst j 9) := by
            rcases hnode with q | q
            · exact q
            · have := f1.1; omega
          obtain ⟨-, hVU, -⟩ := hD _ _ hDU
          generalize CNT (b.2 3) (b.2 1) rd' pat lst j 9 = U at hVU ⊢
          obtain ⟨u1, u2, u3, u4, u5⟩ := hVU
          have dtU : ∀ x, 0 < x → x < tl (b.2 1) U → kd (b.2 1 (U + x)) = 6 → ¬ kd (b.2 1 (U + (x - 1))) = 1 ∧ ¬ kd (b.2 1 (U + (x - 1))) = 6 := by
            intro x x0 xz x6
            have := hrdt (U + x) (by omega) (by omega) x6
            rw [show U + x - 1 = U + (x - 1) from by omega] at this
            exact this
          have room2 := md_room2 hT vMD hTi hlt u1 u5 dtU
          refine bring_ok (w := v) (z := tl (b.2 1) U) (by rw [q1]; exact u1) (by omega) vk vty ty100 ve (by rw [q1]; exact room2) (fun u uF uk uty uty2 ulow unew => ?_) (fun u uF ue => ?_)
          · rintro _ rfl
            rw [nI_1]
            rw [q1] at uty uty2 unew
            have zz := u1.1
            refine lastK u _ _ uF uk (by omega) uty uty2 ?_
            exact md_bring hT vMD hTi hlt k3 u1 u4 u5 (fun x hx => hrtok (U + x) (by omega) (by omega)) dtU ulow unew
          · rintro _ rfl
            rw [nI_1]
            exact errE u uF ue
      refine ⟨fun q => absurd q (by rw [nI_leI (by omega) (by omega)]; omega), fun _ => ?_⟩
      intro y9 e9
      refine ⟨fun q => absurd (e9.trans he) q, fun _ => ?_⟩
      refine kind_4 (by omega) ?_
      rw [r3]
      refine ⟨fun n6 => ⟨fun c2 => ?_, fun c2 => ?_⟩, fun c6 => ?_⟩
      · exact g152 w h rd be ro hF hR he ek ety eh hh2 hrd hbe hSK hMD n6 (fun q => absurd c2 q.2.1)
      · obtain ⟨Ti, hTi2⟩ := inTree0 hT hTi hlt c2
        have ti0 := Ti.1
        refine isHeld_ok eh (by omega) (fun hp0 hbi => ⟨fun _ => ?_, fun q => absurd q (by decide)⟩) (fun hno => ⟨fun q => absurd rfl q, fun _ => ?_⟩)
        · refine g152 w h rd be ro hF hR he ek ety eh hh2 hrd hbe hSK hMD n6 (fun _ => ⟨h - 1, by omega, ?_⟩)
          have e1 := (hbe (h - 1) (by omega)).1
          have b2 := (hSK.1 (h - 1) (by omega)).2.1
          exact (nI_eq (by omega) (by omega)).mp (e1.symm.trans hbi)
        · have notin : ∀ l, l < h → be l ≠ i := by
            intro l hl q
            rcases hno with z | z
            · omega
            · have b2 : l = h - 1 := by
                rcases Nat.lt_or_ge l (h - 1) with c | c
                · have := hSK.2.1 l (h - 1) c (by omega)
                  have := (hSK.1 (h - 1) (by omega)).2.1
                  omega
                · omega
              subst b2
              exact z (by rw [(hbe (h - 1) hl).1, q])
          have nh : ¬ HL (b.2 3) T (T + m0) i → wj_X9_fill_152 K post (nI pat) (nI lst) (nI (T + m0)) (nI i) (kd (b.2 3 i)) w := fun q => g152 w h rd be ro hF hR he ek ety eh hh2 hrd hbe hSK hMD n6 (fun z => absurd z q)
          refine end_4 (by rw [r3]; exact Ti) (by omega) ⟨fun q => nh (fun z => ?_), fun q => end_4 (by rw [r3]; exact Ti) (by omega) ?_⟩
          · rw [nI_leI (by omega) (by omega)] at q
            have := z.2.2.2.1
            omega
          · rw [nI_leI (by omega) (by omega)] at q
            refine kind_4 (by omega) ?_
            rw [r3]
            refine ⟨fun z => nh (fun y => z y.2.2.2.2), fun z => ?_⟩
            have hHL : HL (b.2 3) T (T + m0) i := ⟨hTi, c2, n6, by omega, z⟩
            have hcond : ∀ j v, i ≤ j → j < i + tl (b.2 3) i → USE (b.2 3) (b.2 4) pat j v → h < HB (b.2 3) T (T + m0) j ∧ ∀ l, l < h → rd l < CNT (b.2 3) (b.2 1) rd pat lst v l := by
              intro j v j1 j2 hu
              have inl : ∀ l, l < h → i + tl (b.2 3) i < be l + tl (b.2 3) (be l) := by
                intro l hl
                obtain ⟨d1, d2, d3, -⟩ := hSK.1 l hl
                have d4 := notin l hl
                have d5 : i ≠ be l + tl (b.2 3) (be l) := by
                  intro y
                  have := d1.2.2.2.2
                  rw [← y] at this
                  exact n6 this
                exact HL_in hT d1 (i := i) (by omega) (by omega) c2
              refine ⟨?_, fun l hl => ?_⟩
              · refine HB_ge (h := h + 1) (be := fun l => if l = h then i else be l) (fun l hl => ?_) (fun l l' hl hl' e => ?_) (by omega)
                · show HL (b.2 3) T (T + m0) (if l = h then i else be l) ∧ (if l = h then i else be l) ≤ j ∧ j < (if l = h then i else be l) + tl (b.2 3) (if l = h then i else be l)
                  by_cases c : l = h
                  · rw [if_pos c]; exact ⟨hHL, j1, j2⟩
                  · rw [if_neg c]
                    obtain ⟨d1, d2, d3, -⟩ := hSK.1 l (by omega)
                    have := inl l (by omega)
                    exact ⟨d1, by omega, by omega⟩
                · have e : (if l = h then i else be l) = (if l' = h then i else be l') := e
                  by_cases c : l = h
                  · by_cases c' : l' = h
                    · omega
                    · rw [if_pos c, if_neg c'] at e
                      exact absurd e.symm (notin l' (by omega))
                  · by_cases c' : l' = h
                    · rw [if_neg c, if_pos c'] at e
                      exact absurd e (notin l (by omega))
                    · rw [if_neg c, if_neg c'] at e
                      rcases Nat.lt_trichotomy l l' with y | y | y
                      · have := hSK.2.1 l l' y (by omega); omega
                      · exact y
                      · have := hSK.2.1 l' l y (by omega); omega
              · obtain ⟨d1, d2, d3, d4, d5, d6⟩ := hSK.1 l hl
                have := inl l hl
                rw [d6 j v (by omega) (by omega) hu]
                exact d4
            have use2 : h + 1 ≤ 2 := by
              have hne := hTEM.2 i hTi (by rw [ett]; exact hlt) c2 n6 (by rw [ett]; omega) z
              obtain ⟨j, j1, j2, j3, j4⟩ := usF_ex hne
              rcases VR_cases (s := b.2 4) hL hN (by omega) (b.2 3 j) (b.2 4 j) with g | ⟨v, g1, g2, g3, -⟩
              · rw [g] at j4; exact absurd (by decide) j4
              · have hu : USE (b.2 3) (b.2 4) pat j v := ⟨j3, g3, by omega⟩
                have a := (hcond j v j1 j2 hu).1
                obtain ⟨f1, f2, f3⟩ := FC_use hFC' (i := j) (by omega) (by omega) hu
                omega
            have dskip : ¬ (i + tl (b.2 3) i + 1 < T + m0 ∧ kd (b.2 3 (i + tl (b.2 3) i + 1)) = 6) := by
              rintro ⟨y1, y2⟩
              have := (hDT (i + tl (b.2 3) i + 1) (by omega) y1 y2).2
              rw [show i + tl (b.2 3) i + 1 - 1 = i + tl (b.2 3) i from by omega] at this
              exact this z
            have depi : dep (b.2 3) T (i + tl (b.2 3) i + 1 - T) = dep (b.2 3) T (i - T) := by
              rw [show i + tl (b.2 3) i + 1 - T = (i - T) + tl (b.2 3) i + 1 from by omega, dep_s, dep_add, show T + (i - T) = i from by omega, show T + (i - T + tl (b.2 3) i) = i + tl (b.2 3) i from by omega, TL_0 Ti c2, sg_else (by rw [z]; decide) (by rw [z]; decide)]
              omega
            -- behind the hold: whether it was entered
            have noHeld : ∀ (v : mS) (P : Int32 → mS → Prop), v.1 8 = nI h → (∀ l, l < h → v.2 16 l = nI (be l)) → P 0 v → wp_X9_isHeld (nI (i + tl (b.2 3) i + 1)) v P := by
              intro v P vh vb hP
              refine isHeld_ok vh (by omega) (fun p0 e => ?_) (fun _ => hP)
              rw [vb (h - 1) (by omega)] at e
              have b2 := (hSK.1 (h - 1) (by omega)).2.1
              have := (nI_eq (by omega) (by omega)).mp e
              omega
            refine hold_ok (w := w) (z := tl (b.2 3) i) (rd := rd) (by rw [r3, r4, r1]; exact hFC') hTi (by rw [r3]; exact Ti) (by omega) eh (by omega) hrd (by rw [r3, r4, r1]; exact hcond) (fun c v c0 c1 cc vF vh v16 v17 v18 => ?_) ?_ (fun v vF ve => ?_)
            · rw [r3, r4, r1] at cc
              have vF' : FR [6, 7, 8, 12] [12, 13, 16, 17, 18] b v := hF.tr (vF.wk (by decide) (by decide))
              refine isHeld_ok vh (by omega) (fun _ _ => ⟨fun _ => ?_, fun q => absurd q (by decide)⟩) (fun q => ?_)
              · refine g152 v (h + 1) (fun l => if l = h then 0 else rd l) (fun l => if l = h then i else be l) (fun l => if l = h then c else ro l) vF' (fun l hl => ?_) ((vF.1 12 (by decide)).trans he) ((vF.1 6 (by decide)).trans ek) ((vF.1 7 (by decide)).trans ety) vh use2 (fun l hl => ?_) (fun l hl => ?_) (sk_enter hSK hHL notin c0 c1 cc) (by rw [vF.2 12 (by decide)]; exact hMD) n6 (fun _ => ⟨h, by omega, ?_⟩)
                · rw [v18]
                  by_cases y : l = h
                  · rw [y, pk_us]; exact ⟨0, rfl, by omega⟩
                  · rw [pk_un y]; exact hR l hl
                · rw [v18]
                  show upd (w.2 18) h 0 l = nI (if l = h then 0 else rd l) ∧ (if l = h then 0 else rd l) < 2 ^ 20
                  by_cases y : l = h
                  · rw [y, pk_us, if_pos rfl]; exact ⟨rfl, by omega⟩
                  · rw [pk_un y, if_neg y]; exact hrd l hl
                · rw [v16, v17]
                  show upd (w.2 16) h (nI i) l = nI (if l = h then i else be l) ∧ upd (w.2 17) h (nI c) l = nI (if l = h then c else ro l)
                  by_cases y : l = h
                  · rw [y, pk_us, pk_us, if_pos rfl, if_pos rfl]; exact ⟨rfl, rfl⟩
                  · rw [pk_un y, pk_un y, if_neg y, if_neg y]; exact hbe l (by omega)
                · show (if h = h then i else be h) = i
                  rw [if_pos rfl]
              · exfalso
                rcases q with q | q
                · omega
                · exact q (by rw [v16, show h + 1 - 1 = h from by omega, pk_us])
            · refine noHeld w _ eh (fun l hl => (hbe l hl).1) ⟨fun q => absurd rfl q, fun _ => ?_⟩
              refine ih _ _ _ _ _ ⟨rfl, rfl, rfl, i + tl (b.2 3) i + 1, rfl, by omega, by omega, hF, hR, fun _ => ⟨k, ty, h, rd, be, ro, ek, ety, ty100, eh, hh2, hrd, hbe, sk_skip hT hSK hHL notin, ?_⟩⟩ ?_
              · obtain ⟨a1, a2, a3, a4, a5, a6, a7⟩ := hMD
                refine ⟨a1, a2, a3, by rw [depi]; exact a4, a5, fun _ => ?_, fun y => by omega⟩
                have : i ≠ T := by
                  intro y
                  subst y
                  rw [ett] at q; omega
                exact a6 (by omega)
              · rw [mu, if_pos he, ek, nI_clamp (show k < 2 ^ 31 from by omega), nI_clamp (show i + tl (b.2 3) i + 1 < 2 ^ 31 from by omega), if_neg dskip]
                omega
            · have vh : v.1 8 = nI h := (vF.1 8 (by decide)).trans eh
              have v16 : v.2 16 = w.2 16 := vF.2 16 (by decide)
              have v18 : v.2 18 = w.2 18 := vF.2 18 (by decide)
              refine noHeld v _ vh (fun l hl => by rw [v16]; exact (hbe l hl).1) ⟨fun q => absurd rfl q, fun _ => ?_⟩
              exact errK v _ (by omega) (by omega) (hF.tr (vF.wk (by decide) (by decide))) (fun l hl => by rw [v18]; exact hR l hl) ve
      · have iT : T < i := by
          rcases Nat.lt_or_ge T i with c | c
          · exact c
          · have : i = T := by omega
            subst this
            exact absurd c6 hT6
        obtain ⟨g, rfl, ge1, ge2⟩ := sk_top hT hSK iT hlt hDT c6
        obtain ⟨s1, s2, s3, s4, s5, -⟩ := hSK.1 g (by omega)
        obtain ⟨Tg, -⟩ := inTree0 hT s1.1 (by omega) s1.2.1
        have bT : T < be g := by
          rcases Nat.lt_or_ge T (be g) with c | c
          · exact c
          · have e : be g = T := by have := s1.1; omega
            have := s1.2.2.2.1
            rw [e, ett] at this; omega
        obtain ⟨a1, a2, a3, a4, a5, a6, a7⟩ := id hMD
        refine again_ok eh (by omega) (hrd g (by omega)).1 (hbe g (by omega)).2 (hbe g (by omega)).1 (hrd g (by omega)).2 (by omega) (fun v vF v18 hr => ?_) (fun v vF v18 vh hr => ?_)
        · refine ih _ _ _ _ _ ⟨rfl, rfl, rfl, be g, rfl, by omega, by omega, hF.tr (vF.wk (by decide) (by decide)), fun l hl => ?_, fun _ => ⟨k, ty, g + 1, fun l => if l = g then rd g + 1 else rd l, be, ro, (vF.1 6 (by decide)).trans ek, (vF.1 7 (by decide)).trans ety, ty100, (vF.1 8 (by decide)).trans eh, hh2, fun l hl => ?_, fun l hl => ?_, sk_back hT hSK ge1 ge2 hr, ?_⟩⟩ ?_
          · rw [v18]
            by_cases y : l = g
            · rw [y, pk_us]; exact ⟨rd g + 1, rfl, by omega⟩
            · rw [pk_un y]; exact hR l hl
          · rw [v18]
            show upd (w.2 18) g (nI (rd g + 1)) l = nI (if l = g then rd g + 1 else rd l) ∧ (if l = g then rd g + 1 else rd l) < 2 ^ 20
            by_cases y : l = g
            · rw [y, pk_us, if_pos rfl]; exact ⟨rfl, by omega⟩
            · rw [pk_un y, if_neg y]; exact hrd l hl
          · rw [vF.2 16 (by decide), vF.2 17 (by decide)]; exact hbe l hl
          · rw [vF.2 12 (by decide)]
            refine ⟨a1, a2, a3, ?_, a5, fun _ => a6 iT, fun y => by omega⟩
            rw [a4, ← ge1, show be g + tl (b.2 3) (be g) - T = (be g - T) + tl (b.2 3) (be g) from by omega, dep_add, show T + (be g - T) = be g from by omega, TL_0 Tg s1.2.1]
            omega
          · have ve : v.1 12 = 0 := (vF.1 12 (by decide)).trans he
            have vk : v.1 6 = nI k := (vF.1 6 (by decide)).trans ek
            rw [mu, if_pos ve, vk, nI_clamp (show k < 2 ^ 31 from by omega), nI_clamp (show be g < 2 ^ 31 from by omega), if_neg (fun y : be g < T + m0 ∧ kd (b.2 3 (be g)) = 6 => s1.2.2.1 y.2), if_pos (show i < T + m0 ∧ kd (b.2 3 i) = 6 from ⟨hlt, c6⟩)]
            omega
        · have dl : ¬ (i + 1 < T + m0 ∧ kd (b.2 3 (i + 1)) = 6) := by
            rintro ⟨y1, y2⟩
            have := (hDT (i + 1) (by omega) y1 y2).2
            rw [show i + 1 - 1 = i from by omega] at this
            exact this c6
          refine ih _ _ _ _ _ ⟨rfl, rfl, rfl, i + 1, rfl, by omega, by omega, hF.tr (vF.wk (by decide) (by decide)), fun l hl => ?_, fun _ => ⟨k, ty, g, fun l => if l = g then rd g + 1 else rd l, be, ro, (vF.1 6 (by decide)).trans ek, (vF.1 7 (by decide)).trans ety, ty100, vh, by omega, fun l hl => ?_, fun l hl => ?_, sk_leave hT hSK ge1 ge2 c6 (fun l hl => by rw [if_neg (by omega)]), ?_⟩⟩ ?_
          · rw [v18]
            by_cases y : l = g
            · rw [y, pk_us]; exact ⟨rd g + 1, rfl, by omega⟩
            · rw [pk_un y]; exact hR l hl
          · rw [v18]
            show upd (w.2 18) g (nI (rd g + 1)) l = nI (if l = g then rd g + 1 else rd l) ∧ (if l = g then rd g + 1 else rd l) < 2 ^ 20
            by_cases y : l = g
            · rw [y, pk_us, if_pos rfl]; exact ⟨rfl, by omega⟩
            · rw [pk_un y, if_neg y]; exact hrd l hl
          · rw [vF.2 16 (by decide), vF.2 17 (by decide)]; exact hbe l (by omega)
          · rw [vF.2 12 (by decide)]
            refine ⟨a1, a2, a3, ?_, a5, fun _ => a6 iT, fun y => by omega⟩
            rw [a4, show i + 1 - T = (i - T) + 1 from by omega, dep_s, show T + (i - T) = i from by omega, sg_else (by rw [c6]; decide) (by rw [c6]; decide)]
            omega
          · have ve : v.1 12 = 0 := (vF.1 12 (by decide)).trans he
            have vk : v.1 6 = nI k := (vF.1 6 (by decide)).trans ek
            rw [mu, if_pos ve, vk, nI_clamp (show k < 2 ^ 31 from by omega), nI_clamp (show i + 1 < 2 ^ 31 from by omega), if_neg dl, if_pos (show i < T + m0 ∧ kd (b.2 3 i) = 6 from ⟨hlt, c6⟩)]
            omega
    · have ei : i = T + m0 := by omega
      subst ei
      obtain ⟨a1, a2, a3, a4, a5, a6, a7⟩ := hMD
      have k0 := a6 (by omega)
      have d0 : dep (w.2 12) 0 k = 0 := by rw [a4, show T + m0 - T = m0 from by omega]; exact TL_0 hT hT2
      have := row_room a2 (by omega)
      refine ⟨fun _ => h1 w k hF hR he ek k0 (by rw [← a3] at this; omega) ⟨k0, by omega, a5⟩ a1 a2, fun q => absurd (Int32.le_refl _) q⟩
  · refine ⟨fun _ => fin0 he, fun _ => ?_⟩
    intro y9 e9
    exact ⟨fun _ => fin0 he, fun q => absurd (e9.symm.trans q) he⟩
