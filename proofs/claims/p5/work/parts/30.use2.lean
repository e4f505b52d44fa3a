-- 30: rules that hold, and use
/-- the places a to b of kept hold rules -/
def RS (kp ks : Nat → Int32) (a b : Nat) : Prop := b ≤ 3000 ∧ (∃ N, SQ kp a b N ∧ ∀ k, k < N → RUL kp ks (nx kp a k)) ∧ (∀ j, a ≤ j → j < b → TOK (kp j)) ∧ DTS kp a b
theorem RS_copy {r s q t : Nat → Int32} {a c L : Nat} (h : RS r s a (a + L)) (hc : c + L ≤ 3000) (hA : ∀ j, j < L → q (c + j) = r (a + j) ∧ t (c + j) = s (a + j)) : RS q t c (c + L) := by
  obtain ⟨hb, ⟨N, hS, hR⟩, hT, hD⟩ := h
  obtain ⟨hS', hn⟩ := sh_SQ hA hS
  refine ⟨hc, ⟨N, hS', fun k hk => ?_⟩, fun j h1 h2 => ?_, fun k h1 h2 h6 => ?_⟩
  · obtain ⟨c2, cT⟩ := hS.1 k hk
    have m0 := SQ_mono hS (j := 0) (k := k) (by omega) (by omega)
    have m1 := SQ_mono hS (j := k + 1) (k := N) (by omega) (by omega)
    have e1 : nx r a (k + 1) = nx r a k + tl r (nx r a k) := rfl
    have e2 := hS.2
    have e3 : nx r a 0 = a := rfl
    obtain ⟨x, hx⟩ : ∃ x, nx r a k = a + x := ⟨nx r a k - a, by omega⟩
    have g := hn k (by omega)
    have : nx q c k = c + x := by omega
    rw [this]
    have hk' := hR k hk
    rw [hx] at hk' cT e1
    exact sh_RUL hA hk' cT (by omega) (by omega) (by omega)
  · have := (hA (j - c) (by omega)).1
    rw [show c + (j - c) = j from by omega] at this
    rw [this]; exact hT _ (by omega) (by omega)
  · have e1 := (hA (k - c) (by omega)).1
    have e2 := (hA (k - 1 - c) (by omega)).1
    rw [show c + (k - c) = k from by omega] at e1
    rw [show c + (k - 1 - c) = k - 1 from by omega] at e2
    rw [e1] at h6
    have := hD (a + (k - c)) (by omega) (by omega) h6
    rw [e2]
    rw [show a + (k - c) - 1 = a + (k - 1 - c) from by omega] at this
    exact this
theorem RS_same {r s q t : Nat → Int32} {a b : Nat} (h : RS r s a b) (hA : ∀ j, a ≤ j → j < b → q j = r j ∧ t j = s j) : RS q t a b := by
  obtain ⟨N, hS, -⟩ := h.2.1
  have e2 := hS.2
  have m0 := SQ_mono hS (j := 0) (k := N) (by omega) (by omega)
  have e3 : nx r a 0 = a := rfl
  have hb := h.1
  obtain ⟨L, rfl⟩ : ∃ L, b = a + L := ⟨b - a, by omega⟩
  exact RS_copy h hb (fun j hj => hA (a + j) (by omega) (by omega))
theorem RUL_parts {kp ks : Nat → Int32} {a b i n : Nat} (hR : RUL kp ks i) (hT : TL kp i n) (ha : a ≤ i) (hb : i + n ≤ b) (hk : ∀ j, a ≤ j → j < b → TOK (kp j)) (hD : DTS kp a b) : ∃ n1 m0, (∃ N t, PC kp (i + 1) n1 N t) ∧ PAT kp ks (i + 1) ∧ TL kp (i + 1 + n1) m0 ∧ i + 1 + n1 + m0 < i + n ∧ TEM kp ks (i + 1) (i + 1 + n1) ∧ DTS kp (i + 1 + n1) (i + 1 + n1 + m0) ∧ ¬ kd (kp (i + 1 + n1)) = 2 ∧ ¬ kd (kp (i + 1 + n1)) = 6 ∧ ∀ j, i + 1 + n1 ≤ j → j < i + 1 + n1 + m0 → TOK (kp j) := by
  obtain ⟨h6, ⟨n', hL, hd⟩, hp, ht⟩ := hR
  have en := TL_uniq hL.2.1 hT
  subst en
  have pT : TL kp (i + 1) (tl kp (i + 1)) := (hL.2.2.1 0 (by omega)).2
  have t2 : ¬ kd (kp (i + 1 + tl kp (i + 1))) = 2 := (hL.2.2.1 1 (by omega)).1
  have tT : TL kp (i + 1 + tl kp (i + 1)) (tl kp (i + 1 + tl kp (i + 1))) := (hL.2.2.1 1 (by omega)).2
  have b2 : it kp i 2 < i + n' := (LI_at hL (k := 2) (by omega)).2.1
  have b2 : i + 1 + tl kp (i + 1) + tl kp (i + 1 + tl kp (i + 1)) < i + n' := b2
  have p0 := pT.1
  have t0 := tT.1
  have d1 : ¬ kd (kp (it kp i 1)) = 6 := dn_0 hd 1 (by omega)
  have d1 : ¬ kd (kp (i + 1 + tl kp (i + 1))) = 6 := d1
  refine ⟨tl kp (i + 1), tl kp (i + 1 + tl kp (i + 1)), PC_of hp pT (fun k g1 g2 => hD k (by omega) (by omega)), hp, tT, b2, ht, fun k g1 g2 => hD k (by omega) (by omega), t2, d1, fun j g1 g2 => hk j (by omega) (by omega)⟩
theorem RD3_fr {S A : List Nat} {u w : mS} (h : RD3 u) (hF : FR S A u w) (h18 : 18 ∉ A) : RD3 w := by
  intro l hl
  rw [hF.2 18 h18]
  exact h l hl
theorem use_ok {bi a b h m f : Nat} {u : mS} {post : mS → Prop} (hbi : bi < 40) (hfrom : u.2 10 bi = nI a) (hto : u.2 11 bi = nI b) (hRS : RS (u.2 3) (u.2 4) a b) (hh : u.1 1 = nI h) (hT : TL (u.2 1) h m) (hl : h + m ≤ 2600) (hm : m ≤ 310) (hroom : 0 < f → 300 ≤ h + m) (htok : ∀ j, h ≤ j → j < h + m → TOK (u.2 1 j)) (hdt : DTS (u.2 1) h (h + m)) (hR : RD3 u) (he : u.1 12 = 0) (hf : u.1 15 = nI f) (hf8 : f ≤ 8) (h0 : ∀ v, FR [6, 7, 8, 12, 13, 15] [2, 12, 13, 14, 15, 16, 17, 18] u v → RD3 v → ¬ v.1 12 = 0 → post v) (h1 : ∀ v k f', FR [1, 6, 7, 8, 12, 13, 15] [1, 2, 12, 13, 14, 15, 16, 17, 18] u v → RD3 v → v.1 12 = 0 → f = f' + 1 → v.1 15 = nI f' → v.1 1 = nI (h + m - k) → 0 < k → k ≤ 300 → TL (v.2 1) (h + m - k) k → (∀ j, h + m - k ≤ j → j < h + m → TOK (v.2 1 j)) → DTS (v.2 1) (h + m - k) (h + m) → (∀ j, h + m ≤ j → v.2 1 j = u.2 1 j) → post v) : wp_X9_use (nI bi) u post := by
  rintro _ rfl
  refine ⟨fun hf0 => ?_, fun _ => fails_ok (by decide) (fun v hv hv2 _ => h0 v (hv.wk (by decide) (by decide)) (RD3_fr hR hv (by decide)) hv2)⟩
  intro y3 e3
  have e3 : y3 = nI f := e3.trans hf
  subst e3
  obtain ⟨f', rfl⟩ : ∃ f', f = f' + 1 := by
    rcases Nat.eq_zero_or_pos f with q | q
    · subst q; exact absurd hf hf0
    · exact ⟨f - 1, by omega⟩
  have hroom := hroom (by omega)
  rintro _ rfl _ rfl
  rw [nI_pred]
  refine scope_ok (fun s v hv => ?_) (fun s v hv hv2 => ?_)
  · have vF : FR [13, 15] [] u v := (FR_set (FR.rf (S := [13, 15]) (A := [])) (by decide)).tr (hv.wk (by decide) (by decide))
    have v15 : v.1 15 = nI f' := (hv.1 15 (by decide)).trans (mSet_same _ _ _)
    rintro _ rfl
    refine ⟨fun _ => ?_, fun q => absurd ((vF.1 12 (by decide)).trans he) q⟩
    intro y10 e10
    have e10 : y10 = nI h := e10.trans ((vF.1 1 (by decide)).trans hh)
    subst e10
    refine end_2 (by rw [vF.2 1 (by decide)]; exact hT) hl ?_
    intro y13 e13
    have e13 : y13 = nI h := e13.trans ((vF.1 1 (by decide)).trans hh)
    subst e13
    refine turn2_ok (by omega) (by omega) (fun w hw => ?_)
    have wF : FR [13, 15] [2, 14, 15] u w := (vF.wk (by decide) (by decide)).tr (hw.wk (by decide) (by decide))
    refine ⟨vp_in_nI hbi (by omega), ?_⟩
    rintro _ rfl
    rw [nI_clamp (by omega), wF.2 10 (by decide), hfrom]
    obtain ⟨hb, ⟨N, hS, hRu⟩, hTk, hDk⟩ := hRS
    refine mL5_in (fun z1 _ z3 z4 z => z1 = nI bi ∧ z3 = nI (h + m) ∧ (∃ k, k ≤ N ∧ z4 = nI (nx (u.2 3) a k)) ∧ FR [13, 15] [2, 14, 15] u z ∧ z.1 15 = nI f') (fun _ _ _ z4 _ => b - z4.toNatClampNeg) ?_ _ _ _ _ _ ⟨rfl, rfl, ⟨0, by omega, rfl⟩, wF, (hw.1 15 (by decide)).trans v15⟩
    rintro K z1 x2 z3 z4 z ⟨rfl, rfl, ⟨k, hk, rfl⟩, zF, z15⟩ ih
    have k1 := SQ_mono hS (j := k) (k := N) hk (Nat.le_refl N)
    have k0 := SQ_mono hS (j := 0) (k := k) (by omega) hk
    have e0 : nx (u.2 3) a 0 = a := rfl
    have e2 := hS.2
    have hto' : z.2 11 bi = nI b := by rw [zF.2 11 (by decide)]; exact hto
    have ze : z.1 12 = 0 := (zF.1 12 (by decide)).trans he
    have zR : RD3 z := RD3_fr hR zF (by decide)
    refine ⟨vp_in_nI hbi (by omega), ?_⟩
    rintro _ rfl
    rw [nI_clamp (show bi < 2 ^ 31 from by omega), hto']
    rcases Nat.lt_or_ge k N with hlt | hge
    · have k2 := SQ_mono hS (j := k + 1) (k := N) (by omega) (Nat.le_refl N)
      have e1 : nx (u.2 3) a (k + 1) = nx (u.2 3) a k + tl (u.2 3) (nx (u.2 3) a k) := rfl
      obtain ⟨c2, cT⟩ := hS.1 k hlt
      have c0 := cT.1
      obtain ⟨n1, m0, ⟨N', t', hPC⟩, hPAT, hT0, hlen, hTEM, hD0, d2, d6, htk⟩ := RUL_parts (hRu k hlt) cT (a := a) (b := b) (by omega) (by omega) hTk hDk
      have kk := ih (nI bi) x2 (nI (h + m)) (nI (nx (u.2 3) a (k + 1)))
      rw [e1] at kk
      have e1' := e1
      rw [e1] at k2
      generalize hi : nx (u.2 3) a k = i at *
      refine ⟨fun q => absurd q (by rw [nI_leI (by omega) (by omega)]; omega), fun _ => ?_⟩
      rintro _ rfl y22 e22
      have e22 : y22 = nI h := e22.trans ((zF.1 1 (by decide)).trans hh)
      subst e22
      rw [nI_1]
      have g1 : z.2 1 = u.2 1 := zF.2 1 (by decide)
      have g3 : z.2 3 = u.2 3 := zF.2 3 (by decide)
      refine matches_ok (w := z) (pat := i + 1) (n := n1) (N := N') (t := t') (lst := h) (m := m) (by rw [g3]; exact hPC) (by omega) (by rw [g1]; exact hT) hl hm (fun v' hv' => ⟨fun q => absurd rfl q, fun _ => ?_⟩) (fun v' hv' hM => ⟨fun _ => ?_, fun q => absurd q (by decide)⟩)
      · have vF' : FR [13, 15] [2, 14, 15] u v' := zF.tr (hv'.wk (by decide) (by decide))
        refine end_4 (n := tl (u.2 3) i) (by rw [vF'.2 3 (by decide)]; exact cT) (by omega) ?_
        refine kk _ ⟨rfl, rfl, ⟨k + 1, by omega, by rw [e1']⟩, vF', (hv'.1 15 (by decide)).trans z15⟩ ?_
        rw [nI_clamp (by omega), nI_clamp (by omega)]; omega
      · have vF' : FR [13, 15] [2, 14, 15] u v' := zF.tr (hv'.wk (by decide) (by decide))
        have v15' : v'.1 15 = nI f' := (hv'.1 15 (by decide)).trans z15
        refine ⟨vp_in_nI hbi (by omega), ?_⟩
        rintro _ rfl
        rw [nI_clamp (show bi < 2 ^ 31 from by omega), vF'.2 11 (by decide), hto]
        refine ⟨fun _ => ?_, fun q => absurd (by rw [nI_ltI (by omega) (by omega)]; omega) q⟩
        rintro _ rfl y31 e31
        have e31 : y31 = nI h := e31.trans ((vF'.1 1 (by decide)).trans hh)
        subst e31
        rw [nI_1]
        obtain ⟨D, hTop, hDD⟩ := hM
        rw [g1, g3] at hTop hDD
        have q1 : v'.2 1 = u.2 1 := vF'.2 1 (by decide)
        have q3 : v'.2 3 = u.2 3 := vF'.2 3 (by decide)
        have q4 : v'.2 4 = u.2 4 := vF'.2 4 (by decide)
        have hG : FG v' (i + 1) n1 (i + 1 + n1) m0 h m D := by
          unfold FG
          rw [q1, q3, q4]
          exact ⟨⟨⟨N', t', hPC⟩, hPAT, Nat.le_refl _, hT0, by omega, hTEM, hT, hl, hm, hTop, hDD⟩, hD0, d2, d6, htk, htok, hdt⟩
        refine fill_ok hG (RD3_fr hR vF' (by decide)) ((vF'.1 12 (by decide)).trans he) (fun w2 c p1 p2 p3 p4 p5 p6 p7 p8 p9 => ?_) (fun w2 p1 p2 p3 => ?_)
        · rintro _ rfl
          refine ⟨fun _ => ?_, fun q => absurd p3 q⟩
          intro y36 e36
          have e36 : y36 = nI c := e36.trans p4
          subst e36
          refine turn13_ok (a := 0) (by omega) (by omega) (fun w3 h3 => ?_)
          intro y39 e39
          have e39 : y39 = nI c := e39.trans ((h3.1 6 (by decide)).trans p4)
          subst e39
          rintro _ rfl _ rfl
          rw [pk_sub (by omega)]
          have q12 : w3.2 12 = w2.2 12 := h3.2 12 (by decide)
          have w3F : FR [1, 6, 7, 8, 12, 13, 15] [1, 2, 12, 13, 14, 15, 16, 17, 18] u (mSet w3 1 (nI (h + m - c))) := FR_set ((vF'.wk (by decide) (by decide)).tr ((p1.wk (by decide) (by decide)).tr (h3.wk (by decide) (by decide)))) (by decide)
          refine mL2_in (fun x zz => ∃ j, x = nI j ∧ j ≤ c ∧ FR [] [1, 2] (mSet w3 1 (nI (h + m - c))) zz ∧ (∀ l, l < j → zz.2 1 (h + m - c + l) = w2.2 12 l) ∧ ∀ l, h + m ≤ l → zz.2 1 l = u.2 1 l) (fun x _ => c - x.toNatClampNeg) ?_ _ _ ⟨0, rfl, by omega, FR.rf, fun l hl => by omega, fun l _ => ?_⟩
          · rintro K2 x zz ⟨j, rfl, hj, zzF, hlow, hhigh⟩ ih2
            have z6 : zz.1 6 = nI c := (zzF.1 6 (by decide)).trans ((mSet_other (by decide : (6 : Nat) ≠ 1)).trans ((h3.1 6 (by decide)).trans p4))
            have z1 : zz.1 1 = nI (h + m - c) := (zzF.1 1 (by decide)).trans (mSet_same _ _ _)
            intro y44 e44
            have e44 : y44 = nI c := e44.trans z6
            subst e44
            refine ⟨fun q => ?_, fun q => ?_⟩
            · rw [nI_leI (by omega) (by omega)] at q
              have hjc : j = c := by omega
              subst hjc
              have allF := w3F.tr (zzF.wk (by decide) (by decide))
              refine h1 zz j f' allF ?_ ?_ rfl ?_ z1 p5 p6 ?_ (fun l l1 l2 => ?_) (fun l l1 l2 l6 => ?_) hhigh
              · intro l hl
                rw [zzF.2 18 (by decide), mSet_arr, h3.2 18 (by decide)]
                exact p2 l hl
              · exact (zzF.1 12 (by decide)).trans ((mSet_other (by decide : (12 : Nat) ≠ 1)).trans ((h3.1 12 (by decide)).trans p3))
              · exact (zzF.1 15 (by decide)).trans ((mSet_other (by decide : (15 : Nat) ≠ 1)).trans ((h3.1 15 (by decide)).trans ((p1.1 15 (by decide)).trans v15')))
              · exact TL_copy (fun l hl => by rw [hlow l hl, Nat.zero_add]) p7
              · have := hlow (l - (h + m - j)) (by omega)
                rw [show h + m - j + (l - (h + m - j)) = l from by omega] at this
                rw [this]; exact p8 _ (by omega)
              · have a1 := hlow (l - (h + m - j)) (by omega)
                have a2 := hlow (l - 1 - (h + m - j)) (by omega)
                rw [show h + m - j + (l - (h + m - j)) = l from by omega] at a1
                rw [show h + m - j + (l - 1 - (h + m - j)) = l - 1 from by omega] at a2
                rw [a1] at l6
                rw [a2]
                have := (p9 _ (by omega) l6).2
                rw [show l - (h + m - j) - 1 = l - 1 - (h + m - j) from by omega] at this
                exact this
            · rw [nI_leI (by omega) (by omega)] at q
              intro y46 e46
              have e46 : y46 = nI (h + m - c) := e46.trans z1
              subst e46
              rintro _ rfl
              rw [nI_add]
              refine ⟨vp_in_nI (by omega) (by omega), ?_⟩
              rintro _ rfl
              refine ⟨vp_in_nI (by omega) (by omega), ?_⟩
              rintro _ rfl y50 e50
              have e50 : y50 = nI (h + m - c) := e50.trans z1
              subst e50
              rintro _ rfl
              rw [nI_add]
              refine ⟨vp_in_nI (by omega) (by omega), ?_⟩
              rintro _ rfl
              refine ⟨vp_in_nI (by omega) (by omega), ?_⟩
              rintro _ rfl _ rfl
              rw [nI_1, nI_clamp (show j < 2 ^ 31 from by omega), nI_clamp (show h + m - c + j < 2 ^ 31 from by omega)]
              refine ih2 _ _ ⟨j + 1, rfl, by omega, FR_put (FR_put zzF (by decide)) (by decide), fun l hl => ?_, fun l hl => ?_⟩ ?_
              · rw [mPut_other (by decide : (1 : Nat) ≠ 2), mPut_same]
                by_cases y : l = j
                · subst y
                  rw [pk_us, zzF.2 12 (by decide), mSet_arr, q12]
                · rw [pk_un (by omega)]; exact hlow l (by omega)
              · rw [mPut_other (by decide : (1 : Nat) ≠ 2), mPut_same, pk_un (by omega)]
                exact hhigh l hl
              · rw [nI_clamp (by omega), nI_clamp (by omega)]; omega
          · rw [mSet_arr, h3.2 1 (by decide), p1.2 1 (by decide), q1]
        · rintro _ rfl
          refine ⟨fun q => absurd q p3, fun _ => h0 w2 ((vF'.wk (by decide) (by decide)).tr (p1.wk (by decide) (by decide))) p2 p3⟩
    · have hkN : k = N := by omega
      subst hkN
      rw [e2]
      refine ⟨fun _ => ⟨vp_in_nI hbi (by omega), ?_⟩, fun q => absurd (Int32.le_refl _) q⟩
      rintro _ rfl
      rw [nI_clamp (show bi < 2 ^ 31 from by omega), hto']
      refine ⟨fun q => absurd q (by rw [nI_ltI (by omega) (by omega)]; omega), fun _ => fails_ok (by decide) (fun v hv hv2 _ => h0 v ((zF.wk (by decide) (by decide)).tr (hv.wk (by decide) (by decide))) (RD3_fr zR hv (by decide)) hv2)⟩
  · rintro _ rfl
    refine ⟨fun q => absurd q hv2, fun _ => h0 v ?_ ?_ hv2⟩
    · exact (FR_set (FR.rf (S := [6, 7, 8, 12, 13, 15]) (A := [2, 12, 13, 14, 15, 16, 17, 18])) (by decide)).tr (hv.wk (by decide) (by decide))
    · intro l hl
      rw [hv.2 18 (by decide), mSet_arr]
      exact hR l hl
