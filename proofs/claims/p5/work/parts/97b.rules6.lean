-- 97b: rules on both sides, with what they keep
def TXL (u v : mS) : Prop := ∃ L, L ≤ 200 ∧ u.1 6 = nI L ∧ v.1 9 = nI L ∧ ∀ i, i < L → u.2 9 i = v.2 19 i
def OW6 (o : Nat) (u v : mS) : Prop := (∀ i, i < 8 → u.2 6 i = 0 ∧ u.2 7 i = tabK i) ∧ ∀ k, k < o → OWK u v k
def R6 (u v : mS) : Prop := CN u v ∧ TXL u v ∧ ∃ o, o ≤ 4 ∧ u.1 5 = nI o ∧ OW6 o u v
theorem CT_fr {S A S' A' : List Nat} {u v w z : mS} (h : CN u v ∧ TXL u v) (uF : FR S A u w) (vF : FR S' A' v z) (s : ∀ k ∈ [6, 8, 9, 10, 11], k ∉ S) (a : 9 ∉ A) (s' : ∀ k ∈ [4, 5, 9, 13, 14, 15], k ∉ S') (a' : 19 ∉ A') : CN w z ∧ TXL w z := by
  obtain ⟨⟨c1, c2, c3, c4⟩, L, l1, l2, l3, l4⟩ := h
  refine ⟨⟨?_, ?_, ?_, ?_⟩, L, l1, (uF.1 6 (s 6 (by decide))).trans l2, (vF.1 9 (s' 9 (by decide))).trans l3, fun i hi => by rw [uF.2 9 a, vF.2 19 a']; exact l4 i hi⟩
  · rw [uF.1 8 (s 8 (by decide)), vF.1 13 (s' 13 (by decide))]; exact c1
  · rw [uF.1 10 (s 10 (by decide)), vF.1 14 (s' 14 (by decide))]; exact c2
  · rw [uF.1 11 (s 11 (by decide)), vF.1 15 (s' 15 (by decide))]; exact c3
  · rw [uF.1 9 (s 9 (by decide)), vF.1 4 (s' 4 (by decide)), vF.1 5 (s' 5 (by decide))]; exact c4
theorem OW6_sm {u v w z : mS} {o : Nat} (h : OW6 o u v) (ho : o ≤ 4) (h6 : w.2 6 = u.2 6) (h7 : w.2 7 = u.2 7) (h8 : w.2 8 = u.2 8) (hv : z.2 6 = v.2 6) (hw : ∀ x, x < 480 → w.2 1 x = u.2 1 x ∧ w.2 2 x = u.2 2 x ∧ w.2 3 x = u.2 3 x ∧ w.2 4 x = u.2 4 x) (hk : ∀ j, j < 480 → z.2 3 j = v.2 3 j ∧ z.2 4 j = v.2 4 j) : OW6 o w z := ⟨fun i hi => by rw [h6, h7]; exact h.1 i hi, fun k k1 => OWK_sm (h.2 k k1) (by omega) (by rw [h6]) (by rw [h7]) (by rw [h8]) (by rw [hv]) (fun x x1 x2 => hw x (by omega)) (fun j j1 j2 => hk j (by omega))⟩
theorem cpy_in {f g : Nat → Int32} {sp dp n j : Nat} (hj : j < n) : va_cpy f g sp dp n (dp + j) = f (sp + j) := by
  unfold va_cpy
  rw [if_pos ⟨by omega, by omega⟩, show sp + (dp + j - dp) = sp + j from by omega]
theorem cpy_out {f g : Nat → Int32} {sp dp n k : Nat} (hk : k < dp ∨ dp + n ≤ k) : va_cpy f g sp dp n k = g k := by
  unfold va_cpy
  rw [if_neg (by omega)]
theorem rulesRel6 {u v : mS} {len o : Nat} (hu : u.1 0 = nI len) (hv : v.1 0 = nI len) (hlen : len ≤ 120) (hT : u.2 0 = v.2 0) (ho : o ≤ 4) (hvo : v.1 3 = nI o) (hO : OWNN o u v) (hC : CN u v ∧ TXL u v) (h6 : OW6 o u v) : wp_X8_rules u (fun r w => wp_X9_rules v (fun q z => R6 w z)) := by
  intro y1 e1
  rw [hu] at e1; subst e1
  refine readRel hu hv hlen hT (fun p w z hp wF wL zF go => ?_) (fun n w z wF wL zF hR hA hwT hc go => ?_)
  · rintro _ rfl
    refine ⟨fun h => absurd h (nI_pos (by omega)), fun _ => ?_⟩
    rintro _ rfl
    refine go _ ?_
    rintro _ rfl
    refine ⟨fun h => absurd h (nI_pos (by omega)), fun _ => ?_⟩
    rintro _ rfl
    have W : FR [0, 1, 2, 3] [1, 2, 3, 4] u (mSet w 0 0) := FR_set (wF.wk (by decide) (by decide)) (by decide)
    have Z : FR [0, 1] [1, 2] v (mSet z 0 0) := FR_set (zF.wk (by decide) (by decide)) (by decide)
    obtain ⟨c1, c2⟩ := CT_fr hC W Z (by decide) (by decide) (by decide) (by decide)
    exact ⟨c1, c2, o, ho, (W.1 5 (by decide)).trans hO.1, OW6_sm h6 ho (W.2 6 (by decide)) (W.2 7 (by decide)) (W.2 8 (by decide)) (Z.2 6 (by decide)) wL (fun j _ => by rw [Z.2 3 (by decide), Z.2 4 (by decide)]; exact ⟨rfl, rfl⟩)⟩
  · rintro W rfl
    have hR' := hR
    obtain ⟨r0, r1, r2, r3, r4, r5⟩ := hR'
    have WF : FR [0, 1, 2, 3] [1, 2, 3, 4] u (mSet w 0 0) := FR_set (wF.wk (by decide) (by decide)) (by decide)
    have wr : ra (mSet w 0 0) = ra w := ra_fr rfl
    have hAW : AR (mSet w 0 0) 480 (480 + n) := AR_fr hA (mSet_other (by decide)) rfl rfl
    have hm : (mSet w 0 0).2 2 = w.2 2 := rfl
    have h1W : (mSet w 0 0).2 1 = w.2 1 := rfl
    have hWL : ∀ k, k < 480 → (mSet w 0 0).2 1 k = u.2 1 k ∧ (mSet w 0 0).2 2 k = u.2 2 k ∧ (mSet w 0 0).2 3 k = u.2 3 k ∧ (mSet w 0 0).2 4 k = u.2 4 k := wL
    generalize mSet w 0 0 = W at WF wr hAW hm h1W hWL ⊢
    rw [← wr, ← hm] at hc
    have zo : z.1 3 = nI o := (zF.1 3 (by decide)).trans hvo
    have TLA : TL (ra W) 480 n := TL_copy (r := z.2 1) (i := 2600 - n) (fun k hk => by rw [(hc k hk).1]) r3
    have cpA : ∀ j, j < n → z.2 1 (2600 - n + j) = ra W (480 + j) ∧ z.2 2 (2600 - n + j) = W.2 2 (480 + j) := fun j hj => ⟨(hc j hj).1.symm, by rw [(hc j hj).2.1, (hc j hj).2.2]⟩
    have cpM : ∀ j, j < n → ra W (480 + j) = z.2 1 (2600 - n + j) ∧ W.2 2 (480 + j) = z.2 2 (2600 - n + j) := fun j hj => ⟨(cpA j hj).1.symm, (cpA j hj).2.symm⟩
    have eqN : NWR (ra W) (W.2 2) 480 ↔ NWR (z.2 1) (z.2 2) (2600 - n) := ⟨fun q => NWR_sh cpA TLA (by omega) (by omega) q, fun q => NWR_sh cpM r3 (by omega) (by omega) q⟩
    have hD : DR (ra W) 480 (480 + n) := by
      intro i i1 i2 i6
      have e1 := (hc (i - 480) (by omega)).1
      rw [show 480 + (i - 480) = i from by omega] at e1
      rw [e1] at i6
      obtain ⟨d1, d2, d3⟩ := r5 (i - 480) (by omega) i6
      have e2 := (hc (i - 480 - 1) (by omega)).1
      rw [show 480 + (i - 480 - 1) = i - 1 from by omega] at e2
      rw [e2]
      exact ⟨by omega, d2, d3⟩
    -- nothing kept: as it was
    have same : ∀ {w' z' : mS}, FR [0, 1, 2, 3] [1, 2, 3, 4] u w' → (∀ k, k < 480 → w'.2 1 k = u.2 1 k ∧ w'.2 2 k = u.2 2 k ∧ w'.2 3 k = u.2 3 k ∧ w'.2 4 k = u.2 4 k) → FR [0] [3, 4] z z' → (∀ j, j < 480 → z'.2 3 j = z.2 3 j ∧ z'.2 4 j = z.2 4 j) → R6 w' z' := by
      intro w' z' f1 f2 f3 f4
      have Z : FR [0, 1] [1, 2, 3, 4] v z' := (zF.wk (by decide) (by decide)).tr (f3.wk (by decide) (by decide))
      obtain ⟨c1, c2⟩ := CT_fr hC f1 Z (by decide) (by decide) (by decide) (by decide)
      exact ⟨c1, c2, o, ho, (f1.1 5 (by decide)).trans hO.1, OW6_sm h6 ho (f1.2 6 (by decide)) (f1.2 7 (by decide)) (f1.2 8 (by decide)) (Z.2 6 (by decide)) f2 (fun j hj => by rw [(f4 j hj).1, (f4 j hj).2, zF.2 3 (by decide), zF.2 4 (by decide)]; exact ⟨rfl, rfl⟩)⟩
    refine ⟨fun _ => ?_, fun q => absurd (by decide) q⟩
    rw [show (480 : Int32) = nI 480 from rfl]
    refine isNWRB hAW hD (Nat.le_refl 480) (by omega) (fun hN w1 w1F w1O w1L => ⟨fun _ => ?_, fun q => absurd q (by decide)⟩) (fun hN w1 w1F w1O => ⟨fun q => absurd rfl q, fun _ => ?_⟩)
    · have F1 : FR [0, 1, 2, 3] [1, 2, 3, 4] u w1 := WF.tr (w1F.wk (by decide) (by decide))
      have L1 : ∀ k, k < 480 → w1.2 1 k = u.2 1 k ∧ w1.2 2 k = u.2 2 k ∧ w1.2 3 k = u.2 3 k ∧ w1.2 4 k = u.2 4 k := fun k hk => by
        rw [w1F.2 1 (by decide), w1F.2 2 (by decide), w1F.2 3 (by decide), w1O k (Or.inl hk)]
        exact hWL k hk
      have hA1 : AR w1 480 (480 + n) := AR_fr hAW (w1F.1 1 (by decide)) (w1F.2 1 (by decide)) (w1F.2 3 (by decide))
      have ra1 : ra w1 = ra W := ra_fr (w1F.2 1 (by decide))
      obtain ⟨n', N, hL, g1, g2, g3, g4⟩ := id hN
      have n2 := (TL_open hL.1 TLA).1
      have hw1 := (hA1.2 481 (by omega) (by omega)).1
      rw [ra1] at hw1
      obtain ⟨x, y, hxy, ex, ey⟩ := AW_name hw1 g3
      have hxb := NM_bd hxy
      have ey' : z.2 1 (2600 - n + 1) = nI (196608 + y) := by rw [(cpA 1 (by omega)).1]; exact ey
      have yu : ∀ y', y' < 65536 → z.2 1 (2600 - n + 1) = nI (196608 + y') → y' = y := by
        intro y' q1 q2
        rw [ey', nI_eq (by omega) (by omega)] at q2
        omega
      have hN' := eqN.mp hN
      rw [show (481 : Int32) = nI 481 from rfl]
      refine wordAR hA1 (by omega) ?_
      rw [ex]
      have o1 : OWNN o w1 z := OWNN_fr hO (F1.1 5 (by decide)) (F1.1 4 (by decide)) (F1.2 5 (by decide)) (zF.2 5 (by decide))
      obtain ⟨p5, p4, p8, pk⟩ := id o1
      have eqk : ∀ k, k < o → (w1.2 5 (8 + k) = nI x ↔ z.2 5 k = nI y) := by
        intro k hk
        obtain ⟨x', y', q1, q2, q3, q4⟩ := pk k hk
        have := NM_bd q1
        rw [q2, q3, nI_eq (by omega) (by omega), nI_eq (by omega) (by omega)]
        exact NM_inj q1 hxy
      have core : ¬ FREE y → wp_X9_rules v (fun q z' => R6 w1 z') := by
        intro hf
        exact rulesM6 go hR zo ho (fun q => absurd hN' q) (fun _ y' _ _ _ z' z'F z'K _ => same F1 L1 z'F z'K) (fun _ y' s' q1 q2 q3 => absurd q3 (by rw [yu y' q1 q2]; exact hf))
      refine ownSlot_ok p5 ho (fun h8 => ⟨fun q => absurd q (by decide), fun _ => core ?_⟩) (fun h8 s hs hsj hss => ⟨fun s4 => ⟨fun _ => ?_, fun q => absurd (nI_pos' (by omega)) q⟩, fun s4 => ⟨fun q => absurd q (by decide), fun _ => ?_⟩⟩)
      · obtain ⟨i, i1, i2⟩ := h8
        refine (tabN_free hxy).mp ⟨i, i1, ?_⟩
        rw [← p8 i i1]; exact i2
      · have hf : FREE y := by
          apply Classical.byContradiction
          intro q
          obtain ⟨i, i1, i2⟩ := (tabN_free hxy).mpr q
          exact h8 i i1 (by rw [p8 i i1]; exact i2)
        have hsj' : ∀ j, j < s → ¬ z.2 5 j = nI y := fun j q1 q2 => hsj j q1 ((eqk j (by omega)).mpr q2)
        have hss' : s < o → z.2 5 s = nI y := fun q => (eqk s q).mp (hss q)
        have tl1 : tl (ra w1) 480 = n := by rw [ra1]; exact tl_eq TLA
        refine keepA hA1 tl1 (by omega) (by omega) s4 (fun w2 w2F w2C => ?_)
        have p52 : w2.1 5 = nI o := (w2F.1 5 (by decide)).trans p5
        obtain ⟨o', hoo⟩ : ∃ o', (s = o ∧ o' = o + 1) ∨ (s < o ∧ o' = o) := by
          rcases Nat.lt_or_ge s o with c | c
          · exact ⟨o, Or.inr ⟨c, rfl⟩⟩
          · exact ⟨o + 1, Or.inl ⟨by omega, rfl⟩⟩
        refine bindOwn_ok p52 s4 ho hoo (fun w3 w3F b5 b4 ba bs bk bv => ?_)
        intro y16 e16
        rw [b5] at e16; subst e16
        have so : ∀ s', s' ≤ o → (∀ j, j < s' → ¬ z.2 5 j = nI y) → (s' < o → z.2 5 s' = nI y) → s' = s := by
          intro s' q1 q2 q3
          rcases Nat.lt_trichotomy s' s with c | c | c
          · exact absurd (q3 (by omega)) (hsj' s' c)
          · exact c
          · exact absurd (hss' (by omega)) (q2 s c)
        refine rulesM6 go hR zo ho (fun q => absurd hN' q) (fun _ y' q1 q2 q3 => absurd (by rw [yu y' q1 q2]; exact hf) q3) (fun _ y' s' q1 q2 q3 q4 q5 q6 => ?_)
        have ye := yu y' q1 q2
        subst ye
        have se := so s' q4 q5 q6
        subst se
        refine ⟨fun q => by omega, fun _ o'' z' hoo' z'F z0 z3 z5 z6 zC zO n3 => ?_⟩
        have oe : o'' = o' := by omega
        subst oe
        have W3 : FR [0, 1, 2, 3, 4, 5] [1, 2, 3, 4, 5, 6, 7, 8] u w3 := ((F1.wk (by decide) (by decide)).tr (w2F.wk (by decide) (by decide))).tr (w3F.wk (by decide) (by decide))
        have Z3 : FR [0, 1, 3] [1, 2, 3, 4, 5, 6] v z' := (zF.wk (by decide) (by decide)).tr (z'F.wk (by decide) (by decide))
        obtain ⟨c1, c2⟩ := CT_fr hC W3 Z3 (by decide) (by decide) (by decide) (by decide)
        have row : ∀ q, 1 ≤ q → q ≤ 4 → w3.2 q = va_cpy (w1.2 q) (w1.2 q) 480 (120 * s') n := by
          intro q h1 h2
          rw [w3F.2 q (by revert h1 h2; revert q; intro q h1 h2; have : q = 1 ∨ q = 2 ∨ q = 3 ∨ q = 4 := by omega
                          rcases this with rfl | rfl | rfl | rfl <;> decide)]
          exact w2C q h1 h2
        refine ⟨c1, c2, o'', by omega, b5, fun i hi => ?_, fun k hk => ?_⟩
        · rw [bs, bk, pk_un (by omega), pk_un (by omega), w2F.2 6 (by decide), w2F.2 7 (by decide), F1.2 6 (by decide), F1.2 7 (by decide)]
          exact h6.1 i hi
        · by_cases c : k = s'
          · subst c
            have hLn : n' = n := TL_uniq hL.2.1 TLA
            subst hLn
            -- the rules at 480, told by the reference's row
            have rg0 : RGN w1 (z.1, fun q => if q = 3 then z.2 1 else if q = 4 then z.2 2 else z.2 q) 480 n' N (2600 - n' + 2) (2600 - n' + 2 + (n' - 3)) 480 (480 + n') := by
              refine ⟨hA1, by rw [ra1]; exact hD, Nat.le_refl _, Nat.le_refl _, by rw [ra1]; exact hL, by rw [ra1]; exact g1, g2, by rw [ra1]; exact g3, fun q q0 qN => ?_, by omega, fun j hj => ?_⟩
              · rw [ra1, w1F.2 2 (by decide)]
                exact ⟨g4 q q0 qN, w1L n' N hL q q0 qN⟩
              · have := cpM (2 + j) (by omega)
                rw [ra1, w1F.2 2 (by decide), show 480 + 2 + j = 480 + (2 + j) from by omega, this.1, this.2, show 2600 - n' + (2 + j) = 2600 - n' + 2 + j from by omega]
                exact ⟨rfl, rfl⟩
            refine ⟨by rw [bs, pk_us], by rw [bk, pk_us], by rw [bv, pk_us], n', N, 120 * k + (n' - 3), by rw [z6, pk_us], by omega, ?_, fun j j1 j2 => ?_⟩
            · have := RGN_sh (u' := mSet w3 1 480) (v' := z') (L' := 120 * k) (a' := 120 * k) (T := 480) rg0 (mSet_same _ _ _) (by omega) (by omega) (fun j hj => ?_) (fun j hj => zC j (by omega))
              · rw [show 2600 - n' + 2 + (n' - 3) - (2600 - n' + 2) = n' - 3 from by omega] at this
                exact this
              · rw [mSet_arr, row 1 (by omega) (by omega), row 2 (by omega) (by omega), row 3 (by omega) (by omega), row 4 (by omega) (by omega), cpy_in hj, cpy_in hj, cpy_in hj, cpy_in hj]
                exact ⟨rfl, rfl, rfl, rfl⟩
            · have := (zC (j - 120 * k) (by omega)).2
              rw [show 120 * k + (j - 120 * k) = j from by omega] at this
              rw [this]
              have := (hc (2 + (j - 120 * k)) (by omega)).2.2
              rw [show 2600 - n' + (2 + (j - 120 * k)) = 2600 - n' + 2 + (j - 120 * k) from by omega] at this
              exact this
          · refine OWK_sm (h6.2 k (by omega)) (by omega) ?_ ?_ ?_ ?_ (fun x x1 x2 => ?_) (fun j j1 j2 => ?_)
            · rw [bs, pk_un (by omega), w2F.2 6 (by decide), F1.2 6 (by decide)]
            · rw [bk, pk_un (by omega), w2F.2 7 (by decide), F1.2 7 (by decide)]
            · rw [bv, pk_un (by omega), w2F.2 8 (by decide), F1.2 8 (by decide)]
            · rw [z6, pk_un c, zF.2 6 (by decide)]
            · rw [row 1 (by omega) (by omega), row 2 (by omega) (by omega), row 3 (by omega) (by omega), row 4 (by omega) (by omega), cpy_out (by omega), cpy_out (by omega), cpy_out (by omega), cpy_out (by omega)]
              exact L1 x (by omega)
            · obtain ⟨k1, k2⟩ := zO j (by omega) (by omega)
              rw [k1, k2, zF.2 3 (by decide), zF.2 4 (by decide)]
              exact ⟨rfl, rfl⟩
      · have hf : FREE y := by
          apply Classical.byContradiction
          intro q
          obtain ⟨i, i1, i2⟩ := (tabN_free hxy).mpr q
          exact h8 i i1 (by rw [p8 i i1]; exact i2)
        refine rulesM6 go hR zo ho (fun q => absurd hN' q) (fun _ y' q1 q2 q3 => absurd (by rw [yu y' q1 q2]; exact hf) q3) (fun _ y' s' q1 q2 q3 q4 q5 q6 => ?_)
        have ye := yu y' q1 q2
        subst ye
        have s'4 : s' = 4 := by
          rcases Nat.lt_or_ge s' o with c | c
          · exact absurd (q6 c) (fun q => hsj s' (by omega) ((eqk s' c).mpr q))
          · omega
        exact ⟨fun _ z' z'F z'K z0 => same F1 L1 z'F z'K, fun q => by omega⟩
    · have F1 : FR [0, 1, 2, 3] [1, 2, 3, 4] u w1 := WF.tr (w1F.wk (by decide) (by decide))
      have L1 : ∀ k, k < 480 → w1.2 1 k = u.2 1 k ∧ w1.2 2 k = u.2 2 k ∧ w1.2 3 k = u.2 3 k ∧ w1.2 4 k = u.2 4 k := fun k hk => by
        rw [w1F.2 1 (by decide), w1F.2 2 (by decide), w1F.2 3 (by decide), w1O k (Or.inl hk)]
        exact hWL k hk
      exact rulesM6 go hR zo ho (fun _ z' z'F z'K _ => same F1 L1 z'F z'K) (fun q => absurd (eqN.mpr q) hN) (fun q => absurd (eqN.mpr q) hN)
