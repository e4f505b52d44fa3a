-- 97c: both sides read a text alike (and it is no closing bracket)
theorem readRel2 {len : Nat} {u v : mS} {post : Int32 → mS → Prop} (hu : u.1 0 = nI len) (hv : v.1 0 = nI len) (hlen : len ≤ 120) (hT : u.2 0 = v.2 0) (hF : ∀ p w z, p ≤ 120 → FR [1, 2, 3] [1, 2, 3, 4] u w → (∀ k, k < 480 → w.2 1 k = u.2 1 k ∧ w.2 2 k = u.2 2 k ∧ w.2 3 k = u.2 3 k ∧ w.2 4 k = u.2 4 k) → FR [1] [1, 2] v z → (∀ Q : Int32 → mS → Prop, Q (nI p) z → wp_X9_read v Q) → post (nI p) w) (hS : ∀ n w z, FR [1, 2, 3] [1, 2, 3, 4] u w → (∀ k, k < 480 → w.2 1 k = u.2 1 k ∧ w.2 2 k = u.2 2 k ∧ w.2 3 k = u.2 3 k ∧ w.2 4 k = u.2 4 k) → FR [1] [1, 2] v z → ROW1 z n → ¬ kd (z.2 1 (2600 - n)) = 2 → AR w 480 (480 + n) → w.1 1 = nI (480 + n) → (∀ k, k < n → ra w (480 + k) = z.2 1 (2600 - n + k) ∧ w.2 2 (480 + k) = 0 ∧ z.2 2 (2600 - n + k) = 0) → (∀ Q : Int32 → mS → Prop, Q (-1) z → wp_X9_read v Q) → post (-1) w) : wp_X3_read_1 (nI len) u post := by
  rintro u1 rfl u2 rfl
  rintro u3 rfl
  rw [show (if (120 : Int32) < nI len then (120 : Int32) else nI len) = nI len from by rw [if_neg]; rw [show (120 : Int32) = nI 120 from rfl, nI_ltI (by omega) (by omega)]; omega]
  rintro _ rfl
  have s1 : (mSet (mSet (mSet u 1 480) 2 (-1)) 3 0).1 1 = nI 480 := by
    rw [mSet_other (by decide : (1 : Nat) ≠ 3), mSet_other (by decide : (1 : Nat) ≠ 2), mSet_same]; rfl
  have s2 : (mSet (mSet (mSet u 1 480) 2 (-1)) 3 0).1 2 = -1 := by
    rw [mSet_other (by decide : (2 : Nat) ≠ 3), mSet_same]
  have s3 : (mSet (mSet (mSet u 1 480) 2 (-1)) 3 0).1 3 = nI 0 := mSet_same _ _ _
  have F0 : FR [1, 2, 3] [1, 2, 3, 4] u (mSet (mSet (mSet u 1 480) 2 (-1)) 3 0) := FR_set (FR_set (FR_set FR.rf (by decide)) (by decide)) (by decide)
  have A0 : (mSet (mSet (mSet u 1 480) 2 (-1)) 3 0).2 = u.2 := rfl
  generalize mSet (mSet (mSet u 1 480) 2 (-1)) 3 0 = u0 at s1 s2 s3 F0 A0 ⊢
  refine mL4_in (fun x3 x4 x5 w => x3 = nI len ∧ ∃ (i st n o : Nat) (b : Int32) (z : mS), x4 = nI i ∧ x5 = nI st ∧ st ≤ i ∧ i ≤ len ∧ n ≤ i ∧ RST w n o b ∧ FR [1, 2, 3] [1, 2, 3, 4] u w ∧ (∀ k, k < 480 → w.2 1 k = u.2 1 k ∧ w.2 2 k = u.2 2 k ∧ w.2 3 k = u.2 3 k ∧ w.2 4 k = u.2 4 k) ∧ FR [] [1] v z ∧ RDI (z.2 1) n o b ∧ (∀ k, k < n → ra w (480 + k) = z.2 1 k ∧ w.2 2 (480 + k) = 0) ∧ ∀ Q, LPM Q n o b i z → wp_X9_read v Q) (fun _ x4 _ _ => 200 - x4.toNatClampNeg) ?_ _ _ _ _ ⟨rfl, 0, 0, 0, 0, 0, v, rfl, rfl, by omega, by omega, by omega, ?_, F0, fun k _ => by rw [A0]; exact ⟨rfl, rfl, rfl, rfl⟩, FR.rf, ⟨rfl, fun k _ h => by omega, fun k h => by omega, fun k h => by omega, fun _ => rfl, fun h => by omega⟩, fun k hk => by omega, fun Q h => h⟩
  · rintro K x3 x4 x5 w ⟨rfl, i, st, n, o, b, z, rfl, rfl, hst, hi, hni, hR, wF, wL, zF, zR, wz, go⟩ ih
    have hwT : w.2 0 = v.2 0 := (wF.2 0 (by decide)).trans hT
    have hzT : z.2 0 = v.2 0 := zF.2 0 (by decide)
    have hzl : z.1 0 = nI len := (zF.1 0 (by decide)).trans hv
    have zF1 : FR [1] [1, 2] v z := zF.wk (by decide) (by decide)
    obtain ⟨hB, hd, ho, hdep, hb0, hb1⟩ := id hR
    have mu : ∀ j : Nat, i < j → j ≤ len → 200 - (nI j).toNatClampNeg < 200 - (nI i).toNatClampNeg := by
      intro j h1 h2
      rw [nI_clamp (by omega), nI_clamp (by omega)]; omega
    have fault : ∀ Q : Int32 → mS → Prop, BD (w.2 0) len i o b → i < len → ¬ z.2 0 i = 32 → Q (nI i) z → wp_X9_read v Q := by
      intro Q q1 q2 q3 q4
      refine go Q (LPM_bad hzl hlen q2 q3 ho ?_ q4)
      rw [hwT, ← hzT] at q1
      exact q1
    have fin : len ≤ i → wj_X3_read_1_82 post (nI len) w := by
      intro hle
      have hil : i = len := by omega
      have short : (0 < o ∨ n = 0) → post (nI len) w := by
        intro q
        refine hF len w z hlen wF wL zF1 (fun Q hq => go _ (LPM_short hzl hlen hle (by omega) ho ?_ hq))
        rcases q with q | q
        · exact Or.inl q
        · exact Or.inr (hb0 q)
      intro y1 e1
      rw [hd] at e1; subst e1
      refine ⟨fun h0 => ⟨fun _ => short (Or.inl ?_), fun h => absurd rfl h⟩, fun h0 => ?_⟩
      · have h0 : ¬ nI o = nI 0 := h0
        rw [nI_eq (by omega) (by omega)] at h0
        omega
      · have h0 : nI o = nI 0 := h0
        rw [nI_eq (by omega) (by omega)] at h0
        subst h0
        intro y3 e3
        rw [hB.1] at e3; subst e3
        refine ⟨fun h => ⟨fun _ => short (Or.inr ?_), fun h => absurd rfl h⟩, fun h => ⟨fun q => absurd q (by decide), fun _ => ?_⟩⟩
        · have h : nI (480 + n) ≤ nI 480 := h
          rw [nI_leI (by omega) (by omega)] at h
          omega
        · have h : ¬ nI (480 + n) ≤ nI 480 := h
          rw [nI_leI (by omega) (by omega)] at h
          have n0 : 0 < n := by omega
          have H : wp_X9_read v (fun q z' => q = -1 ∧ FR [1] [1, 2] z z' ∧ z'.1 1 = nI (2600 - n) ∧ ∀ j, j < n → z'.2 1 (2600 - n + j) = z.2 1 j ∧ z'.2 2 (2600 - n + j) = 0) := go _ (LPM_whole hzl hlen hle (by omega) (by omega) n0 (hb1 n0).2 (fun z' F' h' c' => ⟨rfl, F', h', c'⟩))
          refine d_wp_X9_read H (fun q z' hz reb => ?_)
          obtain ⟨rfl, F', h', c'⟩ := hz
          obtain ⟨d1, d2, d3, d4, -, -⟩ := zR
          have agk : ∀ k, k < n → z'.2 1 (2600 - n + k) = z.2 1 (0 + k) := fun k hk => by rw [Nat.zero_add]; exact (c' k hk).1
          have aga : ∀ k, k < n → ra w (480 + k) = z.2 1 (0 + k) := fun k hk => by rw [Nat.zero_add]; exact (wz k hk).1
          have ROW : ROW1 z' n := by
            refine ⟨n0, by omega, h', ?_, fun k hk => ?_, fun k hk hk6 => ?_⟩
            · exact TL_copy (r := z.2 1) (i := 0) (fun k hk => by rw [agk k hk]) ⟨by omega, by rw [d1]; exact Int.le_refl 0, d2⟩
            · rw [(c' k hk).1]; exact d3 k hk
            · rw [(c' k hk).1] at hk6
              obtain ⟨f1, f2, f3⟩ := d4 k hk hk6
              rw [(c' (k - 1) (by omega)).1]
              exact ⟨f1, f2, f3⟩
          have dd : ∀ j, j ≤ n → dep (ra w) 480 j = dep (z.2 1) 0 j := fun j hj => dep_copy j (fun k hk => by rw [aga k (by omega)])
          have nc : ¬ kd (z'.2 1 (2600 - n)) = 2 := by
            intro q
            have e0 := agk 0 (by omega)
            rw [Nat.add_zero, Nat.add_zero] at e0
            rw [e0] at q
            have e1 : dep (z.2 1) 0 1 = -1 := by
              rw [show (1 : Nat) = 0 + 1 from rfl, dep_s, Nat.zero_add, sg_close q]; rfl
            rcases Nat.lt_or_ge 1 n with c | c
            · have := d2 1 (by omega) c
              omega
            · have c1 : n = 1 := by omega
              rw [c1, e1] at d1
              exact absurd d1 (by decide)
          refine hS n w z' wF wL (zF1.tr F') ROW nc (RB_done hB (fun j hj => ?_) ?_) hB.1 (fun k hk => ⟨?_, (wz k hk).2, (c' k hk).2⟩) (fun Q hq => reb Q hq)
          · rw [dd j (by omega)]
            rcases Nat.eq_zero_or_pos j with q | q
            · subst q; exact Int.le_refl 0
            · rcases Nat.lt_or_ge j n with q2 | q2
              · have := d2 j q q2
                omega
              · have : j = n := by omega
                rw [this, d1]; exact Int.le_refl 0
          · rw [show 480 + n - 480 = n from by omega, hdep]; exact Int.le_refl 0
          · rw [(wz k hk).1, (c' k hk).1]
    refine ⟨fun h => absurd h (by rw [show (1000000 : Int32) = nI 1000000 from rfl, nI_leI (by omega) (by omega)]; omega), fun _ => ⟨fun hge => fin ?_, fun hlt => ?_⟩⟩
    · rw [nI_leI (by omega) (by omega)] at hge; exact hge
    rw [nI_leI (by omega) (by omega)] at hlt
    have hil : i < len := by omega
    refine ⟨vp_in_nI (by omega) (by omega), ?_⟩
    intro y7 e7
    rw [nI_clamp (by omega)] at e7; subst e7
    refine ⟨fun h32 => ?_, fun h32 => ⟨fun _ => ?_, fun q => absurd q (by decide)⟩⟩
    · have z32 : ¬ z.2 0 i = 32 := by rw [hzT, ← hwT]; exact h32
      refine tokA hR hlen hil hni (fun hbd => ⟨fun q => absurd rfl q, fun _ => ?_⟩) (fun m w' hg => ?_)
      · exact hF i w z (by omega) wF wL zF1 (fun Q hq => fault Q hbd hil z32 hq)
      · obtain ⟨v', x, p, g1, g2, g3, g4, g5, g6, g7, g8, g9, g10, g11, g12⟩ := hg
        have hlm := TK_len hil g1
        refine ⟨fun _ => ?_, fun q => absurd q (nI_ne0 (by omega) (by omega))⟩
        rintro _ rfl _ rfl
        rw [nI_add, nI_1]
        have er : ra w' = upd (ra w) (480 + n) v' := ra_upd g9 g4
        have p8 : p ≤ 8 := by
          rcases g5 with ⟨q1, q2, q3⟩ | ⟨q1, q2⟩ | ⟨q1, q2, _⟩ | ⟨q1, q2, q3, q4⟩
          · rw [sg_open q1] at g6; omega
          · rw [sg_close q1] at g6; omega
          · rw [sg_else (by rw [q1]; decide) (by rw [q1]; decide)] at g6; omega
          · rw [sg_else q1 q2] at g6; omega
        have hTOK : TOK v' := by
          obtain ⟨C, e1, e2, e3⟩ := AW_n g4
          refine ⟨C / 65536, C % 65536, ?_, ?_, by omega, by rw [e1]; congr 1; omega⟩
          · rcases e3 with q | q | q | q | q | ⟨a1, a2, a3, a4, a5⟩
            all_goals first | omega | (have := NM_bd a3; omega)
          · rcases e3 with q | q | q | q | q | ⟨a1, a2, a3, a4, a5⟩
            all_goals first | omega | (have := NM_bd a3; omega)
        refine ih _ _ _ _ ⟨rfl, i + m, st + 1, n + 1, p, kd v', mPut z 1 n v', rfl, rfl, by omega, by omega, by omega, ⟨?_, g11, p8, ?_, fun q => by omega, fun _ => ⟨?_, TOK_ne0 hTOK⟩⟩, wF.tr g8, fun k hk => ?_, FR_put zF (by decide), ?_, fun k hk => ?_, fun Q hQ => ?_⟩ (mu _ (by omega) (by omega))
        · rw [show 480 + (n + 1) = 480 + n + 1 from by omega]; exact g7
        · rw [er]
          have := upd_dep1 (r := ra w) (t := 480 + n) (c := v') (k := 480) (by omega)
          rw [show 480 + n + 1 - 480 = n + 1 from by omega, show 480 + n - 480 = n from by omega] at this
          rw [this, hdep, g6]
        · rw [er, show 480 + (n + 1) - 1 = 480 + n from by omega, pk_us]
        · obtain ⟨a1, a2, a3, a4⟩ := wL k hk
          rw [g9, g10, pk_un (by omega), pk_un (by omega), (g12 k hk).1, (g12 k hk).2]
          exact ⟨a1, a2, a3, a4⟩
        · rw [mPut_same]
          exact RDI_step zR hTOK g5 g6
        · rw [er, g10, mPut_same]
          rcases Nat.lt_or_ge k n with q | q
          · rw [pk_un (by omega), pk_un (by omega), pk_un (by omega)]
            exact wz k q
          · have : k = n := by omega
            subst this
            rw [pk_us, pk_us, pk_us]
            exact ⟨rfl, rfl⟩
        · refine go Q (LPM_tok (m := m) (v := v') (p := p) hzl hlen hil z32 hni ho ?_ g2 ?_ g5 g6 hQ)
          · rw [hzT, ← hwT]; exact g1
          · rw [hzT, ← hwT]; exact g3
    · rintro _ rfl _ rfl
      rw [nI_1, nI_1]
      refine ih _ _ _ _ ⟨rfl, i + 1, st + 1, n, o, b, z, rfl, rfl, by omega, by omega, by omega, hR, wF, wL, zF, zR, wz, fun Q hQ => go Q (LPM_space hzl hlen hil ?_ hQ)⟩ (mu _ (by omega) (by omega))
      rw [hzT, ← hwT]; exact h32
  · refine ⟨⟨s1, by omega, by omega, fun k k1 k2 => by omega, fun k k1 k2 => by omega, Or.inl ⟨s2, fun k _ q => ?_⟩, fun k q => ?_⟩, s3, by omega, rfl, fun _ => rfl, fun q => by omega⟩
    · have := q.1
      have := q.2.1
      omega
    · have := q.1
      have := q.2.1
      omega
