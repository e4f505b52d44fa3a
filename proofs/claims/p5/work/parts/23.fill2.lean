-- 23: roundsOf and hold of the reference
theorem wkV_cnt {kp rw : Nat → Int32} {rd : Nat → Nat} {D : Nat → Nat → Prop} {pat n lst m v stop : Nat} (hT : TL rw lst m) (hTop : MT kp rw D 1 pat lst) (hD : ∀ p u, D p u → VP kp pat n p ∧ VU rw lst m u ∧ (kd (kp p) = 1 → MT kp rw D 0 p u)) (hv : VP kp pat n v) : ∀ (F p u lev : Nat), ((p = pat ∧ u = lst) ∨ D p u) → p ≤ v → (p ≠ v → v < p + tl kp p - 1 ∧ kd (kp p) = 1) → v - p + 1 ≤ F → lev ≤ stop → stop < lev + lvF kp v F p → wkS kp rw rd v stop F p u lev → wkV kp rw rd v stop F p u lev ≤ m := by
  intro F
  induction F with
  | zero => intro p u lev _ _ _ hF; omega
  | succ F ih =>
    intro p u lev hnd hpv hin hF hls hlev hS
    by_cases hne : p = v
    · have e : lvF kp v (F + 1) p = 0 := by
        show (if p = v then 0 else _) = 0
        rw [if_pos hne]
      omega
    · obtain ⟨hin1, hin2⟩ := hin hne
      have hMT : ∃ s, MT kp rw D s p u ∧ it kp p s ≤ v := by
        rcases hnd with ⟨rfl, rfl⟩ | hd
        · exact ⟨1, hTop, hv.1⟩
        · exact ⟨0, (hD p u hd).2.2 hin2, by show p + 1 ≤ v; omega⟩
      obtain ⟨s, hMT, hs⟩ := hMT
      have hpv2 : p < v := Nat.lt_of_le_of_ne hpv hne
      obtain ⟨n', N', t', m', M, hPL', hL', jt, sj, jM, hheld, hfree⟩ := step_ok hMT hpv2 hin1 ⟨hv.2.2.1, hv.2.2.2⟩ hs
      have hm' : m' ≤ m := by
        rcases hnd with ⟨_, rfl⟩ | hd
        · have := TL_uniq hL'.2.1 hT; omega
        · have a := (hD p u hd).2.1
          have := TL_uniq hL'.2.1 a.1
          have := a.2.2.1
          have := a.2.1
          omega
      have hMm : M ≤ m' := by have b := LI_at hL' (Nat.le_refl M); omega
      have en' := tl_eq hPL'.1.2.1
      obtain ⟨jN, j2, j3⟩ := chj_ok hPL'.1 (v := v) hpv2 (by rw [en'] at hin1; exact hin1)
      obtain ⟨hS1, hS2⟩ := hS hne
      have eL : lvF kp v (F + 1) p = (if kd (kp (it kp p (chj kp p v + 1))) = 6 then 1 else 0) + lvF kp v F (it kp p (chj kp p v)) := by
        show (if p = v then 0 else _) = _
        rw [if_neg hne]
      rw [eL] at hlev
      have eV : wkV kp rw rd v stop (F + 1) p u lev = (if kd (kp (it kp p (chj kp p v + 1))) = 6 then (if lev = stop then nit rw u - chj kp p v else wkV kp rw rd v stop F (it kp p (chj kp p v)) (it rw u (chj kp p v + rd lev)) (lev + 1)) else wkV kp rw rd v stop F (it kp p (chj kp p v)) (it rw u (chj kp p v)) lev) := by
        show (if p = v then u else _) = _
        rw [if_neg hne]
      rw [eV]
      rw [nit_eq hL'] at hS1 ⊢
      have Tj := (hPL'.1.2.2.1 (chj kp p v) jN).2
      have bj := LI_at hPL'.1 (k := chj kp p v) (by omega)
      have ej1 : it kp p (chj kp p v + 1) = it kp p (chj kp p v) + tl kp (it kp p (chj kp p v)) := rfl
      generalize chj kp p v = j at jt sj jM hheld hfree j2 j3 hS1 hS2 hlev Tj bj ej1 ⊢
      have inq : it kp p j ≠ v → v < it kp p j + tl kp (it kp p j) - 1 ∧ kd (kp (it kp p j)) = 1 := by
        intro hne2
        have kq : kd (kp (it kp p j)) = 1 := by
          apply Classical.byContradiction
          intro hn
          have := tl_eq (TL_atom hn)
          omega
        refine ⟨?_, kq⟩
        have := (TL_open kq Tj).2.2
        rcases Nat.lt_or_ge v (it kp p j + tl kp (it kp p j) - 1) with c | c
        · exact c
        · have ev : v = it kp p j + (tl kp (it kp p j) - 1) := by omega
          rw [← ev] at this
          exact absurd this hv.2.2.1
      by_cases h6 : kd (kp (it kp p (j + 1))) = 6
      · rw [if_pos h6] at hlev ⊢
        by_cases hls2 : lev = stop
        · rw [if_pos hls2]; omega
        · obtain ⟨l3, lr, lS⟩ := hS1 h6 hls2
          rw [if_neg hls2]
          exact ih _ _ _ (Or.inr (hheld h6 _ lr)) j2 inq (by omega) (by omega) (by omega) lS
      · rw [if_neg h6] at hlev ⊢
        exact ih _ _ _ (Or.inr (hfree h6).2) j2 inq (by omega) hls (by omega) (hS2 h6)
theorem CNT_le {kp ks rw : Nat → Int32} {pat n T m0 lst m v i stop : Nat} {rd : Nat → Nat} {D : Nat → Nat → Prop} (h : FC kp ks rw pat n T m0 lst m D) (h1 : T ≤ i) (h2 : i < T + m0) (hu : USE kp ks pat i v) (hst : stop < HB kp T (T + m0) i) (hc : ∀ l, l < stop → rd l < CNT kp rw rd pat lst v l) : CNT kp rw rd pat lst v stop ≤ 310 := by
  obtain ⟨f1, f2, f3⟩ := FC_use h h1 h2 hu
  obtain ⟨⟨N, t, hPC⟩, hPAT, hT1, hT, hT2, hTEM, hTl, hl2, hm, hTop, hD⟩ := h
  have etp := tl_eq hPC.1.1.2.1
  refine Nat.le_trans ?_ hm
  refine wkV_cnt hTl hTop hD f1 _ _ _ 0 (Or.inl ⟨rfl, rfl⟩) (by have := f1.1; omega) (fun _ => ⟨by rw [etp]; exact f1.2.1, hPC.1.1.1⟩) (Nat.le_refl _) (by omega) (by rw [Nat.zero_add, f2]; exact hst) ?_
  refine wkS_of _ _ _ 0 (by omega) (by omega) (fun l _ hl _ => hc l hl)
theorem roundsOf_ok {pat n T m0 lst m a b h : Nat} {rd : Nat → Nat} {D : Nat → Nat → Prop} {w : mS} {post : Int32 → mS → Prop} (hF : FC (w.2 3) (w.2 4) (w.2 1) pat n T m0 lst m D) (ha : T ≤ a) (hab : a ≤ b) (hb : b ≤ T + m0) (hh : w.1 8 = nI h) (hh3 : h ≤ 3) (hrd : ∀ l, l < 3 → w.2 18 l = nI (rd l) ∧ rd l < 2 ^ 20) (hcond : ∀ j v, a ≤ j → j < b → USE (w.2 3) (w.2 4) pat j v → h < HB (w.2 3) T (T + m0) j ∧ ∀ l, l < h → rd l < CNT (w.2 3) (w.2 1) rd pat lst v l) (h1 : ∀ c, c ≤ 310 → (∀ j v, a ≤ j → j < b → USE (w.2 3) (w.2 4) pat j v → CNT (w.2 3) (w.2 1) rd pat lst v h = c) → (∃ j v, a ≤ j ∧ j < b ∧ USE (w.2 3) (w.2 4) pat j v) → post (nI c) w) (h0 : ∀ x : Int32, x < 0 → post x w) : wp_X9_roundsOf (nI pat) (nI lst) (nI a) (nI b) w post := by
  have hF' := hF
  obtain ⟨⟨N, t, hPC⟩, hPAT, hT1, hT, hT2, hTEM, hTl, hl2, hm, hTop, hD⟩ := hF
  have hL := hPC.1.1
  have htN : t ≤ N := by rcases hPC.1.2.2 with q | ⟨q, _⟩ <;> omega
  have hN : 0 < N := by have := hPC.2.1; omega
  have hiT : TL (w.2 3) (pat + 1) (tl (w.2 3) (pat + 1)) := (hL.2.2.1 0 hN).2
  have hb1 : pat + 1 + tl (w.2 3) (pat + 1) < pat + n := (LI_at hL (k := 1) (by omega)).2.1
  have key : ∀ (d i : Nat) (x : Int32), i + d = b → a ≤ i → ((x = -2 ∧ ∀ j v, a ≤ j → j < i → ¬ USE (w.2 3) (w.2 4) pat j v) ∨ x = -1 ∨ ∃ c, x = nI c ∧ c ≤ 310 ∧ (∀ j v, a ≤ j → j < i → USE (w.2 3) (w.2 4) pat j v → CNT (w.2 3) (w.2 1) rd pat lst v h = c) ∧ ∃ j v, a ≤ j ∧ j < i ∧ USE (w.2 3) (w.2 4) pat j v) → mL6 (fun K => wj_X9_roundsOf_7 K post) (d + 1) (nI pat) (nI lst) (nI b) x (nI i) w := by
    intro d
    induction d with
    | zero =>
      intro i x hi hai hI
      have hi : i = b := by omega
      subst hi
      show wj_X9_roundsOf_7 _ post _ _ _ _ _ w
      refine ⟨fun _ => ?_, fun q => absurd (Int32.le_refl _) q⟩
      rcases hI with ⟨rfl, _⟩ | rfl | ⟨c, rfl, c1, c2, c3⟩
      · exact h0 _ (by decide)
      · exact h0 _ (by decide)
      · exact h1 c c1 c2 c3
    | succ d ih =>
      intro i x hi hai hI
      have skip : (∀ v, ¬ USE (w.2 3) (w.2 4) pat i v) → wj_X9_roundsOf_93 (mL6 (fun K => wj_X9_roundsOf_7 K post) (d + 1)) post (nI pat) (nI lst) (nI b) x (nI i) w := by
        intro hno
        rintro _ rfl
        rw [nI_1]
        refine ih (i + 1) x (by omega) (by omega) ?_
        have lt : ∀ j v, j < i + 1 → USE (w.2 3) (w.2 4) pat j v → j < i := fun j v hj hu => by
          rcases Nat.lt_or_ge j i with q | q
          · exact q
          · have : j = i := by omega
            subst this
            exact absurd hu (hno v)
        rcases hI with ⟨e, q⟩ | e | ⟨c, e, c1, c2, j, v, c3, c4, c5⟩
        · exact Or.inl ⟨e, fun j v h1 h2 hu => q j v h1 (lt j v h2 hu) hu⟩
        · exact Or.inr (Or.inl e)
        · exact Or.inr (Or.inr ⟨c, e, c1, fun j v h1 h2 hu => c2 j v h1 (lt j v h2 hu) hu, j, v, c3, by omega, c5⟩)
      have g50 : ∀ z0 : Int32, (z0 < 0 → ∀ v, ¬ USE (w.2 3) (w.2 4) pat i v) → (¬ z0 < 0 → ∃ v, z0 = nI v ∧ USE (w.2 3) (w.2 4) pat i v) → wj_X9_roundsOf_50 (mL6 (fun K => wj_X9_roundsOf_7 K post) (d + 1)) post (nI pat) (nI lst) (nI b) x (nI i) z0 w := by
        intro z0 z1 z2
        refine ⟨fun q => skip (z1 q), fun q => ?_⟩
        obtain ⟨v, rfl, hu⟩ := z2 q
        intro y10 e10
        rw [hh] at e10; subst e10
        obtain ⟨k1, k2⟩ := hcond i v hai (by omega) hu
        have cle := CNT_le hF' (by omega) (by omega) hu k1 k2
        refine walkU_ok hF' (i := i) (by omega) (by omega) hu hrd (by omega) (fun l hl _ => k2 l hl) ?_
        have uniq : ∀ v', USE (w.2 3) (w.2 4) pat i v' → v' = v := fun v' hu' => (nI_eq (by have := hu'.2.2; omega) (by have := hu.2.2; omega)).mp (hu'.2.1.symm.trans hu.2.1)
        have put : ∀ y : Int32, ((y = -1) ∨ ∃ c, y = nI c ∧ c ≤ 310 ∧ (∀ j v, a ≤ j → j < i + 1 → USE (w.2 3) (w.2 4) pat j v → CNT (w.2 3) (w.2 1) rd pat lst v h = c) ∧ ∃ j v, a ≤ j ∧ j < i + 1 ∧ USE (w.2 3) (w.2 4) pat j v) → wj_X9_roundsOf_91 (mL6 (fun K => wj_X9_roundsOf_7 K post) (d + 1)) post (nI pat) (nI lst) (nI b) (nI i) y w := by
          intro y hy
          rintro _ rfl
          rw [nI_1]
          refine ih (i + 1) y (by omega) (by omega) ?_
          rcases hy with hy | hy
          · exact Or.inr (Or.inl hy)
          · exact Or.inr (Or.inr hy)
        refine ⟨fun e => put _ (Or.inr ⟨_, rfl, cle, fun j v' a1 a2 a3 => ?_, i, v, hai, by omega, hu⟩), fun e => ⟨fun e2 => put _ (Or.inl rfl), fun e2 => put _ (Or.inr ⟨_, rfl, cle, fun j v' a1 a2 a3 => ?_, i, v, hai, by omega, hu⟩)⟩⟩
        · rcases Nat.lt_or_ge j i with q | q
          · rcases hI with ⟨_, q2⟩ | e3 | ⟨c, e3, c1, _⟩
            · exact absurd a3 (q2 j v' a1 q)
            · rw [e] at e3; exact absurd e3 (by decide)
            · rw [e] at e3
              have : ¬ nI c < 0 := nI_pos (by omega)
              rw [← e3] at this
              exact absurd (by decide) this
          · have : j = i := by omega
            subst this
            rw [uniq v' a3]
        · rcases Nat.lt_or_ge j i with q | q
          · rcases hI with ⟨e3, _⟩ | e3 | ⟨c, e3, c1, c2, _⟩
            · exact absurd e3 e
            · rw [e2] at e3
              have : ¬ nI (CNT (w.2 3) (w.2 1) rd pat lst v h) < 0 := nI_pos (by omega)
              rw [e3] at this
              exact absurd (by decide) this
            · rw [c2 j v' a1 q a3]
              exact (nI_eq (by omega) (by omega)).mp (e3.symm.trans e2)
          · have : j = i := by omega
            subst this
            rw [uniq v' a3]
      show wj_X9_roundsOf_7 _ post _ _ _ _ _ w
      refine ⟨fun q => absurd q (by rw [nI_leI (by omega) (by omega)]; omega), fun _ => ?_⟩
      refine kind_4 (by omega) ⟨fun k3 => g50 (-1) (fun _ v hu => k3 hu.1) (fun q => absurd (by decide) q), fun k3 => ⟨vp_in_nI (by omega) (by omega), ?_⟩⟩
      rintro _ rfl
      refine ⟨vp_in_nI (by omega) (by omega), ?_⟩
      rintro _ rfl
      rw [nI_clamp (by omega)]
      refine variable_ok hL.2.1 hiT (by omega) (by omega) (g50 _ (fun q v hu => ?_) (fun q => ?_))
      · rw [hu.2.1] at q
        have := hu.2.2
        exact absurd q (nI_pos (by omega))
      · rcases VR_cases (s := w.2 4) hL hN (by omega) (w.2 3 i) (w.2 4 i) with g | ⟨j, g1, g2, g3, -⟩
        · rw [g] at q; exact absurd (by decide) q
        · exact ⟨j, g3, k3, g3, by omega⟩
  exact ⟨b - a + 1, key (b - a) a (-2) (by omega) (Nat.le_refl a) (Or.inl ⟨rfl, fun j v h1 h2 => by omega⟩)⟩
theorem hold_ok {pat n T m0 lst m i z h : Nat} {rd : Nat → Nat} {D : Nat → Nat → Prop} {w : mS} {post : Int32 → mS → Prop} (hF : FC (w.2 3) (w.2 4) (w.2 1) pat n T m0 lst m D) (hi : T ≤ i) (hT : TL (w.2 3) i z) (hz : i + z < T + m0) (hh : w.1 8 = nI h) (hh3 : h < 3) (hrd : ∀ l, l < 3 → w.2 18 l = nI (rd l) ∧ rd l < 2 ^ 20) (hcond : ∀ j v, i ≤ j → j < i + z → USE (w.2 3) (w.2 4) pat j v → h < HB (w.2 3) T (T + m0) j ∧ ∀ l, l < h → rd l < CNT (w.2 3) (w.2 1) rd pat lst v l) (h1 : ∀ c v, 0 < c → c ≤ 310 → (∀ j v, i ≤ j → j < i + z → USE (w.2 3) (w.2 4) pat j v → CNT (w.2 3) (w.2 1) rd pat lst v h = c) → FR [8] [16, 17, 18] w v → v.1 8 = nI (h + 1) → v.2 16 = upd (w.2 16) h (nI i) → v.2 17 = upd (w.2 17) h (nI c) → v.2 18 = upd (w.2 18) h 0 → post (nI i) v) (h0 : post (nI (i + z + 1)) w) (he : ∀ v, FR [12] [] w v → ¬ v.1 12 = 0 → post (nI (i + z + 1)) v) : wp_X9_hold (nI pat) (nI lst) (nI i) w post := by
  have hT2 := hF.2.2.2.2.1
  refine end_4 hT (by omega) ?_
  refine roundsOf_ok hF hi (by omega) (by omega) hh (by omega) hrd hcond (fun c c1 c2 _ => ?_) (fun x hx => ?_)
  · refine ⟨fun _ => ?_, fun q => absurd (nI_pos' (by omega)) q⟩
    refine ⟨fun q => ?_, fun q => ?_⟩
    · have q : nI 0 < nI c := q
      rw [nI_ltI (by omega) (by omega)] at q
      intro y9 e9
      rw [hh] at e9; subst e9
      refine ⟨vp_in_nI hh3 (by omega), ?_⟩
      rintro _ rfl y11 e11
      have e11 : y11 = nI h := e11.trans hh
      subst e11
      refine ⟨vp_in_nI hh3 (by omega), ?_⟩
      rintro _ rfl y13 e13
      have e13 : y13 = nI h := e13.trans hh
      subst e13
      refine ⟨vp_in_nI hh3 (by omega), ?_⟩
      rintro _ rfl y15 e15
      have e15 : y15 = nI h := e15.trans hh
      subst e15
      rintro _ rfl _ rfl
      rw [nI_clamp (by omega), nI_1]
      refine h1 c _ q c1 c2 (FR_set (FR_put (FR_put (FR_put FR.rf (by decide)) (by decide)) (by decide)) (by decide)) (mSet_same _ _ _) ?_ ?_ ?_
      · rw [mSet_arr, mPut_other (by decide : (16 : Nat) ≠ 18), mPut_other (by decide : (16 : Nat) ≠ 17), mPut_same]
      · rw [mSet_arr, mPut_other (by decide : (17 : Nat) ≠ 18), mPut_same, mPut_other (by decide : (17 : Nat) ≠ 16)]
      · rw [mSet_arr, mPut_same, mPut_other (by decide : (18 : Nat) ≠ 17), mPut_other (by decide : (18 : Nat) ≠ 16)]
    · rintro _ rfl
      rw [nI_1]
      exact h0
  · have nx0 : ¬ 0 ≤ x := Int32.not_le.mpr hx
    refine ⟨fun q => absurd q nx0, fun _ => fails_ok (by decide) (fun v hv hne _ => ?_)⟩
    refine ⟨fun q => absurd (Int32.le_of_lt q) nx0, fun _ => ?_⟩
    rintro _ rfl
    rw [nI_1]
    exact he v hv hne
