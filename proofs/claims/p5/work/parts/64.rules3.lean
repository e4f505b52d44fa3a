-- 64: rules of both sides
theorem RUL_cp {r s q t : Nat → Int32} {a c L N : Nat} (hA : ∀ j, j < L → q (c + j) = r (a + j) ∧ t (c + j) = s (a + j)) (h : SQ r a (a + L) N) (ha : a + L < 2 ^ 31) (hc : c + L < 2 ^ 31) (hR : ∀ k, k < N → RUL r s (nx r a k)) : ∀ k, k < N → RUL q t (nx q c k) := by
  intro k hk
  have e := (sh_SQ hA h).2 k (by omega)
  have m1 := SQ_mono h (j := 0) (k := k) (by omega) (by omega)
  have m1 : a + (k - 0) ≤ nx r a k := m1
  have m2 := SQ_mono h (j := k + 1) (k := N) hk (Nat.le_refl N)
  have hN := h.2
  have b3 : nx r a (k + 1) = nx r a k + tl r (nx r a k) := rfl
  have T := (h.1 k hk).2
  have e1 : nx r a k = a + (nx r a k - a) := by omega
  have e2 : nx q c k = c + (nx r a k - a) := by omega
  have R' : RUL r s (a + (nx r a k - a)) := by rw [← e1]; exact hR k hk
  have T' : TL r (a + (nx r a k - a)) (tl r (nx r a k)) := by rw [← e1]; exact T
  rw [e2]
  exact sh_RUL hA R' T' (by omega) ha hc
theorem it_nx {r : Nat → Int32} {i : Nat} : ∀ k, nx r (it r i 1) k = it r i (k + 1) := by
  intro k
  induction k with
  | zero => rfl
  | succ k ih =>
    show nx r (it r i 1) k + tl r (nx r (it r i 1) k) = it r i (k + 1) + tl r (it r i (k + 1))
    rw [ih]
theorem NWR_sh {r s q t : Nat → Int32} {a c n : Nat} (hA : ∀ j, j < n → q (c + j) = r (a + j) ∧ t (c + j) = s (a + j)) (hT : TL r a n) (ha : a + n < 2 ^ 31) (hc : c + n < 2 ^ 31) (h : NWR r s a) : NWR q t c := by
  obtain ⟨n', N, hL, h1, h2, h3, h4⟩ := h
  have en := TL_uniq hT hL.2.1
  subst en
  have hL0 : LI r (a + 0) n N := hL
  have L2 : LI q (c + 0) n N := sh_LI hA hL0 (by omega)
  have n2 := (TL_open hL.1 hL.2.1).1
  refine ⟨n, N, L2, ?_, h2, ?_, fun k k1 k2 => ?_⟩
  · have := (sh_cn hA hL0 (by omega) N (Nat.le_refl N)).2
    have this : dn q c N = dn r a N := this
    rw [this]; exact h1
  · rw [(hA 1 (by omega)).1]; exact h3
  · have e : it q (c + 0) k + a = it r (a + 0) k + c := sh_it hA hL0 (by omega) k (by omega)
    have e : it q c k + a = it r a k + c := e
    have at1 := LI_at hL (k := k) (by omega)
    have at2 := LI_at hL (k := k + 1) (by omega)
    have b3 : it r a (k + 1) = it r a k + tl r (it r a k) := rfl
    have e1 : it r a k = a + (it r a k - a) := by omega
    have e2 : it q c k = c + (it r a k - a) := by omega
    have R' : RUL r s (a + (it r a k - a)) := by rw [← e1]; exact h4 k k1 k2
    have T' : TL r (a + (it r a k - a)) (tl r (it r a k)) := by rw [← e1]; exact (hL.2.2.1 k k2).2
    rw [e2]
    exact sh_RUL hA R' T' (by omega) ha hc
theorem what_2x {i k a : Nat} {u : mS} {post : Int32 → mS → Prop} (hi : i < 2600) (e : u.2 1 i = nI (65536 * k + a)) (hk : k < 16) (ha : a < 65536) (hp : post (nI a) u) : wp_X9_what_2 (nI i) u post := by
  refine ⟨vp_in_nI hi (by omega), ?_⟩
  intro y1 e1
  rw [nI_clamp (by omega), e] at e1; subst e1
  rintro _ rfl
  rw [show (65536 : Int32) = nI 65536 from rfl, pk_rem (by omega) (by omega) (by omega), show (65536 * k + a) % 65536 = a from by omega]
  exact hp
/-- a name's code that may have rules of its own -/
def FREE (y : Nat) : Prop := y ≠ 206 ∧ y ≠ 294 ∧ y ≠ 17 ∧ y ≠ 403 ∧ y < 40000
theorem coreM {y : Nat} {u : mS} {post : Int32 → mS → Prop} (hy : y < 65536) (hc : (y = 206 ∨ y = 294 ∨ y = 17 ∨ y = 403) → ∀ r : Int32, 0 ≤ r → post r u) (hn : ¬ (y = 206 ∨ y = 294 ∨ y = 17 ∨ y = 403) → post (-1) u) : wp_X9_core (nI y) u post := by
  have e : ∀ k : Nat, k < 2 ^ 20 → (nI y = nI k ↔ y = k) := fun k hk => nI_eq (by omega) (by omega)
  refine ⟨fun a => ⟨fun b => ⟨fun c => ⟨fun d => hn ?_, fun d => hc (Or.inr (Or.inr (Or.inr ((e 403 (by omega)).mp d)))) _ (by decide)⟩, fun c => hc (Or.inr (Or.inr (Or.inl ((e 17 (by omega)).mp c)))) _ (by decide)⟩, fun b => hc (Or.inr (Or.inl ((e 294 (by omega)).mp b))) _ (by decide)⟩, fun a => hc (Or.inl ((e 206 (by omega)).mp a)) _ (by decide)⟩
  rintro (q | q | q | q)
  · exact a ((e 206 (by omega)).mpr q)
  · exact b ((e 294 (by omega)).mpr q)
  · exact c ((e 17 (by omega)).mpr q)
  · exact d ((e 403 (by omega)).mpr q)
theorem rulesM3 {v z : mS} {n ow : Nat} {Q : Int32 → mS → Prop} (go : ∀ Q : Int32 → mS → Prop, Q (-1) z → wp_X9_read v Q) (hR : ROW1 z n) (hw3 : z.1 3 = nI ow) (how : ow ≤ 4) (hno : ¬ NWR (z.2 1) (z.2 2) (2600 - n) → ∀ w, FR [0] [3, 4] z w → w.1 0 = 0 → Q (-1000) w) (hco : NWR (z.2 1) (z.2 2) (2600 - n) → ∀ y, y < 65536 → z.2 1 (2600 - n + 1) = nI (196608 + y) → ¬ FREE y → ∀ w, FR [0] [3, 4] z w → w.1 0 = 0 → Q (-1001) w) (hsl : NWR (z.2 1) (z.2 2) (2600 - n) → ∀ y s, y < 65536 → z.2 1 (2600 - n + 1) = nI (196608 + y) → FREE y → s ≤ ow → (∀ j, j < s → ¬ z.2 5 j = nI y) → (s < ow → z.2 5 s = nI y) → (s = 4 → ∀ w, FR [0] [3, 4] z w → w.1 0 = 0 → Q (-1001) w) ∧ (s < 4 → ∀ o' w, ((s = ow ∧ o' = ow + 1) ∨ (s < ow ∧ o' = ow)) → FR [0, 3] [3, 4, 5, 6] z w → w.1 0 = 0 → w.1 3 = nI o' → w.2 5 = upd (z.2 5) s (nI y) → Q (nI o') w)) : wp_X9_rules v Q := by
  obtain ⟨r0, r1, r2, r3, r4, r5⟩ := hR
  generalize hh : 2600 - n = h at *
  have en : h + n = 2600 := by omega
  refine go _ ?_
  rintro _ rfl
  have vF : FR [0] [] z (mSet z 0 0) := FR_set FR.rf (by decide)
  have v0 : (mSet z 0 0).1 0 = 0 := mSet_same _ _ _
  have v1 : (mSet z 0 0).1 1 = nI h := (mSet_other (by decide : (1 : Nat) ≠ 0)).trans r2
  have v3 : (mSet z 0 0).1 3 = nI ow := (mSet_other (by decide : (3 : Nat) ≠ 0)).trans hw3
  have va : (mSet z 0 0).2 = z.2 := rfl
  generalize mSet z 0 0 = x at vF v0 v1 v3 va ⊢
  have xF : FR [0] [3, 4] z x := vF.wk (by decide) (by decide)
  refine ⟨fun _ => ?_, fun q => absurd (by decide) q⟩
  intro y5 q5
  rw [v1] at q5; subst q5
  refine kind_2 (by omega) ?_
  rw [va]
  refine ⟨fun k1 => hno (fun q => ?_) x xF v0, fun k1 => ?_⟩
  · obtain ⟨n', N', hL', -⟩ := q
    exact k1 hL'.1
  have m2 := TL_open k1 r3
  intro y9 q9
  rw [v1] at q9; subst q9
  rintro _ rfl
  rw [nI_1]
  refine kind_2 (by omega) ?_
  rw [va]
  refine ⟨fun k3 => hno (fun q => ?_) x xF v0, fun k3 => ?_⟩
  · obtain ⟨n', N', hL', a1, a2, a3, -⟩ := q
    exact k3 a3
  obtain ⟨N, hLI⟩ := LI_ex k1 r3
  have n3 : 3 ≤ n := by
    rcases Nat.lt_or_ge 2 n with a | a
    · omega
    · have : n = 2 := by omega
      have q := m2.2.2
      rw [this] at q
      rw [show h + (2 - 1) = h + 1 from rfl, k3] at q
      exact absurd q (by decide)
  have N0 : 0 < N := by
    rcases Nat.eq_zero_or_pos N with a | a
    · subst a
      have q : h + 1 = h + (n - 1) := hLI.2.2.2
      omega
    · exact a
  have hSQ := SQ_of_LI hLI N0
  have i1 := it1_name hLI N0 k3
  rw [i1] at hSQ
  have hSQ : SQ (z.2 1) (h + 2) (h + 2 + (2599 - (h + 2))) (N - 1) := by
    rw [show h + 2 + (2599 - (h + 2)) = h + (n - 1) from by omega]; exact hSQ
  intro y14 q14
  rw [v1] at q14; subst q14
  refine dots_2 (n := n) (N := N) (by rw [va]; exact hLI) (by omega) ?_
  rw [va]
  have dl := dn_le (z.2 1) h N
  have Nn := LI_at hLI (Nat.le_refl N)
  have nod : ¬ nI (dn (z.2 1) h N) ≤ 0 → ¬ NWR (z.2 1) (z.2 2) h := by
    rintro hd ⟨n', N', hL', a1, -⟩
    obtain ⟨-, e2⟩ := LI_uniq hLI hL'
    subst e2
    rw [a1] at hd
    exact hd (by decide)
  refine ⟨fun hd => ?_, fun hd => hno (nod hd) x xF v0⟩
  have hd0 : dn (z.2 1) h N = 0 := by
    have hd : nI (dn (z.2 1) h N) ≤ nI 0 := hd
    rw [nI_leI (by omega) (by omega)] at hd
    omega
  intro y18 q18
  rw [v1] at q18; subst q18
  rintro _ rfl
  rw [show (2 : Int32) = nI 2 from rfl, nI_add, show (2599 : Int32) = nI 2599 from rfl, show (480 : Int32) = nI 480 from rfl]
  refine keep_ok (a := h + 2) (b := 2599) (o := 480) (by omega) (by omega) (by omega) (fun w2 hw2 => ?_)
  obtain ⟨wF2, wC, wO⟩ := hw2
  rw [va] at wC
  have w2F : FR [0] [3, 4] z w2 := xF.tr (wF2.wk (by decide) (by decide))
  have w20 : w2.1 0 = 0 := (wF2.1 0 (by decide)).trans v0
  have hSQ' := (sh_SQ wC hSQ).1
  have wC' : ∀ j, j < 2599 - (h + 2) → z.2 1 (h + 2 + j) = w2.2 3 (480 + j) ∧ z.2 2 (h + 2 + j) = w2.2 4 (480 + j) := fun j hj => ⟨((wC j hj).1).symm, ((wC j hj).2).symm⟩
  have eqR : (∀ k, k < N - 1 → RUL (w2.2 3) (w2.2 4) (nx (w2.2 3) 480 k)) ↔ NWR (z.2 1) (z.2 2) h := by
    constructor
    · intro q
      have q2 := RUL_cp wC' hSQ' (by omega) (by omega) q
      refine ⟨n, N, hLI, hd0, N0, k3, fun k k1' k2' => ?_⟩
      have := q2 (k - 1) (by omega)
      rw [← i1, it_nx, show k - 1 + 1 = k from by omega] at this
      exact this
    · rintro ⟨n', N', hL', a1, a2, a3, a4⟩
      obtain ⟨-, e2⟩ := LI_uniq hLI hL'
      subst e2
      refine RUL_cp wC hSQ (by omega) (by omega) (fun k hk => ?_)
      rw [← i1, it_nx]
      exact a4 (k + 1) (by omega) (by omega)
  refine areRules_ok hSQ' (by omega) (fun hRu => ⟨fun _ => ?_, fun q => absurd q (by decide)⟩) (fun hRu => ⟨fun q => absurd rfl q, fun _ => hno (fun q => hRu (eqR.mpr q)) w2 w2F w20⟩)
  have hNW := eqR.mp hRu
  have w21 : w2.1 1 = nI h := (wF2.1 1 (by decide)).trans v1
  have w2r : w2.2 1 = z.2 1 := (wF2.2 1 (by decide)).trans (by rw [va])
  have w23 : w2.1 3 = nI ow := (wF2.1 3 (by decide)).trans v3
  have w25 : w2.2 5 = z.2 5 := (wF2.2 5 (by decide)).trans (by rw [va])
  intro y25 q25
  rw [w21] at q25; subst q25
  rintro _ rfl
  rw [nI_1]
  obtain ⟨y, hy, ey⟩ : ∃ y, y < 65536 ∧ z.2 1 (h + 1) = nI (196608 + y) := by
    obtain ⟨k, a, t1, t2, t3, t4⟩ := r4 1 (by omega)
    rw [t4] at k3
    rw [kd_nI (by omega), show (65536 * k + a) / 65536 = k from by omega, show (3 : Int32) = nI 3 from rfl, nI_eq (by omega) (by omega)] at k3
    subst k3
    exact ⟨a, t3, t4⟩
  refine what_2x (k := 3) (a := y) (by omega) (by rw [w2r, ey]) (by omega) hy ?_
  refine coreM hy (fun hc r hr => ⟨fun _ => ?_, fun q => absurd hr q⟩) (fun hc => ⟨fun q => absurd q (by decide), fun _ => ⟨fun h4 => ?_, fun h4 => ?_⟩⟩)
  · exact hco hNW y hy ey (fun q => by unfold FREE at q; omega) w2 w2F w20
  · have h4 : nI y < nI 40000 := h4
    rw [nI_ltI (by omega) (by omega)] at h4
    have hf : FREE y := by unfold FREE; omega
    refine mL3_in (fun x3 x4 z' => x3 = nI y ∧ z' = w2 ∧ ∃ k, x4 = nI k ∧ k ≤ ow ∧ ∀ j, j < k → ¬ z.2 5 j = nI y) (fun _ x4 _ => ow - x4.toNatClampNeg) ?_ _ _ _ ⟨rfl, rfl, 0, rfl, by omega, fun j hj => by omega⟩
    rintro K x3 x4 z' ⟨rfl, rfl, k, rfl, hk, hkj⟩ ih
    have j160 : (k < ow → z.2 5 k = nI y) → wj_X9_rules_160 Q (nI y) (nI k) z' := by
      intro hkk
      obtain ⟨g4, gs⟩ := hsl hNW y k hy ey hf hk hkj hkk
      refine ⟨fun n4 => ?_, fun k4 => g4 ?_ z' w2F w20⟩
      · have k4 : k < 4 := by
          rcases Nat.lt_or_ge k 4 with a | a
          · exact a
          · exact absurd (by rw [show k = 4 from by omega]; rfl) n4
        have j193 : ∀ o', ((k = ow ∧ o' = ow + 1) ∨ (k < ow ∧ o' = ow)) → wj_X9_rules_193 Q (nI y) (nI k) (nI o') z' := by
          intro o' ho'
          rintro _ rfl
          refine ⟨vp_in_nI (by omega) (by omega), ?_⟩
          rintro _ rfl y47 q47
          have q47 : y47 = nI h := q47.trans ((mSet_other (u := z') (v := nI o') (by decide : (1 : Nat) ≠ 3)).trans w21)
          subst q47
          rintro _ rfl _ rfl
          rw [show (2 : Int32) = nI 2 from rfl, nI_add, show (2599 : Int32) = nI 2599 from rfl, show (120 : Int32) = nI 120 from rfl, pk_mul, nI_clamp (by omega)]
          have G1 : FR [3] [5] z' (mPut (mSet z' 3 (nI o')) 5 k (nI y)) := FR_put (FR_set FR.rf (by decide)) (by decide)
          have G3 : (mPut (mSet z' 3 (nI o')) 5 k (nI y)).1 3 = nI o' := mSet_same z' 3 (nI o')
          have G5 : (mPut (mSet z' 3 (nI o')) 5 k (nI y)).2 5 = upd (z'.2 5) k (nI y) := mPut_same _ _ _ _
          generalize mPut (mSet z' 3 (nI o')) 5 k (nI y) = z1 at *
          refine keep_ok (a := h + 2) (b := 2599) (o := 120 * k) (by omega) (by omega) (by omega) (fun z2 hz2 => ?_)
          obtain ⟨F2, C2, O2⟩ := hz2
          refine ⟨vp_in_nI (by omega) (by omega), ?_⟩
          rintro _ rfl y53 q53
          have GA : FR [3] [3, 4, 5, 6] z' (mPut z2 6 k (nI (120 * k + (2599 - (h + 2))))) := FR_put ((G1.wk (by decide) (by decide)).tr (F2.wk (by decide) (by decide))) (by decide)
          have e3 : (mPut z2 6 k (nI (120 * k + (2599 - (h + 2))))).1 3 = nI o' := (F2.1 3 (by decide)).trans G3
          rw [e3] at q53; subst q53
          refine gs k4 o' _ ho' ((w2F.wk (by decide) (by decide)).tr (GA.wk (by decide) (by decide))) ((GA.1 0 (by decide)).trans w20) e3 ?_
          rw [mPut_other (by decide : (5 : Nat) ≠ 6), F2.2 5 (by decide), G5, w25]
        intro y40 q40
        rw [w23] at q40; subst q40
        refine ⟨fun hne => ?_, fun heq => ?_⟩
        · intro y42 q42
          rw [w23] at q42; subst q42
          have : k ≠ ow := fun q => hne (by rw [q])
          exact j193 ow (Or.inr ⟨by omega, rfl⟩)
        · rw [nI_eq (by omega) (by omega)] at heq
          intro y43 q43
          rw [w23] at q43; subst q43
          rintro _ rfl
          rw [nI_1]
          exact j193 (ow + 1) (Or.inl ⟨heq, rfl⟩)
      · have k4 : nI k = nI 4 := k4
        rw [nI_eq (by omega) (by omega)] at k4
        exact k4
    intro y34 q34
    rw [w23] at q34; subst q34
    refine ⟨fun q => j160 (fun q2 => ?_), fun q => ?_⟩
    · rw [nI_leI (by omega) (by omega)] at q; omega
    rw [nI_leI (by omega) (by omega)] at q
    refine ⟨vp_in_nI (by omega) (by omega), ?_⟩
    intro y36 q36
    rw [nI_clamp (by omega), w25] at q36; subst q36
    refine ⟨fun q2 => j160 (fun _ => q2), fun q2 => ?_⟩
    rintro _ rfl
    rw [nI_1]
    refine ih _ _ _ ⟨rfl, rfl, k + 1, rfl, by omega, fun j hj => ?_⟩ ?_
    · rcases Nat.lt_or_ge j k with c | c
      · exact hkj j c
      · have : j = k := by omega
        subst this; exact q2
    · rw [nI_clamp (by omega), nI_clamp (by omega)]; omega
  · have h4 : ¬ nI y < nI 40000 := h4
    rw [nI_ltI (by omega) (by omega)] at h4
    exact hco hNW y hy ey (fun q => by unfold FREE at q; omega) w2 w2F w20
-- the class
theorem AW_name {w c : Int32} (h : AW w c) (hk : kd c = 3) : ∃ x y : Nat, NM x y ∧ w = nI x ∧ c = nI (196608 + y) := by
  have h3 := (AW_3 h).mpr hk
  rcases h with ⟨rfl, rfl⟩ | ⟨rfl, rfl⟩ | ⟨rfl, rfl⟩ | ⟨rfl, rfl⟩ | ⟨n, hn, rfl, rfl⟩ | ⟨x, y, hN, rfl, rfl⟩
  · exact absurd (by decide) h3
  · exact absurd (by decide) h3
  · exact absurd (by decide) h3
  · exact absurd (by decide) h3
  · exact absurd (by rw [show (255 : Int32) = nI 255 from rfl, nI_leI (by omega) (by omega)]; omega) h3
  · exact ⟨x, y, hN, rfl, rfl⟩
theorem ownSlot_ok {o x : Nat} {u : mS} {post : Int32 → mS → Prop} (h5 : u.1 5 = nI o) (ho : o ≤ 4) (h8 : (∃ i, i < 8 ∧ u.2 5 i = nI x) → post (-1) u) (hs : (∀ i, i < 8 → ¬ u.2 5 i = nI x) → ∀ s, s ≤ o → (∀ j, j < s → ¬ u.2 5 (8 + j) = nI x) → (s < o → u.2 5 (8 + s) = nI x) → (s < 4 → post (nI s) u) ∧ (s = 4 → post (-1) u)) : wp_X7_ownSlot (nI x) u post := by
  have key : ∀ (d i : Nat), i + d = 8 + o → (∀ j, j < i → ¬ u.2 5 j = nI x) → mL4 (fun K => wj_X7_ownSlot_7 K post) (d + 1) (nI x) 8 (nI i) u := by
    intro d
    induction d with
    | zero =>
      intro i hi hj
      have ei : i = 8 + o := by omega
      have s52 : wj_X7_ownSlot_52 post u := by
        obtain ⟨a, b⟩ := hs (fun i hi => hj i (by omega)) o (Nat.le_refl o) (fun j q => hj (8 + j) (by omega)) (fun q => by omega)
        intro y10 e10
        rw [h5] at e10; subst e10
        refine ⟨fun q => b ?_, fun q => ?_⟩
        · have q : nI 4 ≤ nI o := q
          rw [nI_leI (by omega) (by omega)] at q
          omega
        · have q : ¬ nI 4 ≤ nI o := q
          rw [nI_leI (by omega) (by omega)] at q
          intro y12 e12
          rw [h5] at e12; subst e12
          exact a (by omega)
      show wj_X7_ownSlot_7 _ post _ _ _ u
      intro y1 e1
      rw [h5] at e1; subst e1
      rintro _ rfl
      refine ⟨fun _ => s52, fun q => absurd ?_ q⟩
      rw [show (8 : Int32) = nI 8 from rfl, nI_add, nI_leI (by omega) (by omega)]; omega
    | succ d ih =>
      intro i hi hj
      show wj_X7_ownSlot_7 _ post _ _ _ u
      intro y1 e1
      rw [h5] at e1; subst e1
      rintro _ rfl
      refine ⟨fun q => absurd q (by rw [show (8 : Int32) = nI 8 from rfl, nI_add, nI_leI (by omega) (by omega)]; omega), fun _ => ⟨fun q => absurd q (by rw [show (40 : Int32) = nI 40 from rfl, nI_leI (by omega) (by omega)]; omega), fun _ => ⟨vp_in_nI (by omega) (by omega), ?_⟩⟩⟩
      intro y5 e5
      rw [nI_clamp (by omega)] at e5; subst e5
      refine ⟨fun q => ?_, fun q => ⟨fun q8 => ?_, fun q8 => h8 ⟨i, ?_, q⟩⟩⟩
      · rintro _ rfl
        rw [nI_1]
        refine ih (i + 1) (by omega) (fun j hji => ?_)
        rcases Nat.lt_or_ge j i with c | c
        · exact hj j c
        · have : j = i := by omega
          subst this; exact q
      · have q8 : nI 8 ≤ nI i := q8
        rw [nI_leI (by omega) (by omega)] at q8
        rintro _ rfl
        rw [show (8 : Int32) = nI 8 from rfl, pk_sub q8]
        exact (hs (fun j hj8 => hj j (by omega)) (i - 8) (by omega) (fun j q2 => hj (8 + j) (by omega)) (fun _ => by rw [show 8 + (i - 8) = i from by omega]; exact q)).1 (by omega)
      · have q8 : ¬ nI 8 ≤ nI i := q8
        rw [nI_leI (by omega) (by omega)] at q8
        omega
  exact ⟨_, key (8 + o) 0 (by omega) (fun j hj => by omega)⟩
theorem mCpy_other {u : mS} {k sp dp n j : Nat} (h : j ≠ k) : (mCpy u k sp dp n).2 j = u.2 j := by
  show (if j = k then va_cpy (u.2 k) (u.2 k) sp dp n else u.2 j) = _
  rw [if_neg h]
theorem mCpy_same (u : mS) (k sp dp n : Nat) : (mCpy u k sp dp n).2 k = va_cpy (u.2 k) (u.2 k) sp dp n := by
  show (if k = k then va_cpy (u.2 k) (u.2 k) sp dp n else u.2 k) = _
  rw [if_pos rfl]
theorem FR_cpy {S A : List Nat} {u w : mS} {k sp dp n : Nat} (h : FR S A u w) (hk : k ∈ A) : FR S A u (mCpy w k sp dp n) := ⟨fun j hj => h.1 j hj, fun j hj => (mCpy_other (fun q => hj (by rw [q]; exact hk))).trans (h.2 j hj)⟩
theorem keepA {n s : Nat} {u : mS} {post : Int32 → mS → Prop} (hA : AR u 480 (480 + n)) (hn : tl (ra u) 480 = n) (hn0 : 0 < n) (hn1 : n ≤ 120) (hs : s < 4) (hp : ∀ w, FR [] [1, 2, 3, 4] u w → (∀ k, 1 ≤ k → k ≤ 4 → w.2 k = va_cpy (u.2 k) (u.2 k) 480 (120 * s) n) → post (nI (120 * s)) w) : wp_X5_keep (nI 480) (nI s) u post := by
  refine after_ok hA (Nat.le_refl 480) (by omega) ?_
  rw [hn]
  rintro _ rfl _ rfl
  rw [pk_sub (by omega), show 480 + n - 480 = n from by omega, show (120 : Int32) = nI 120 from rfl, pk_mul, Nat.mul_comm s 120]
  have cond : (¬ nI 480 < 0) ∧ (¬ nI (120 * s) < 0) ∧ (¬ nI n < 0) ∧ (nI 480).toNatClampNeg + (nI n).toNatClampNeg ≤ 3000 ∧ (nI (120 * s)).toNatClampNeg + (nI n).toNatClampNeg ≤ 3000 := by
    refine ⟨nI_pos (by omega), nI_pos (by omega), nI_pos (by omega), ?_, ?_⟩
    · rw [nI_clamp (by omega), nI_clamp (by omega)]; omega
    · rw [nI_clamp (by omega), nI_clamp (by omega)]; omega
  refine ⟨fun q => absurd q (nI_pos (by omega)), fun _ => ?_⟩
  rintro _ rfl
  rw [nI_add]
  refine ⟨fun q => absurd q (by rw [show (3000 : Int32) = nI 3000 from rfl, nI_ltI (by omega) (by omega)]; omega), fun _ => ⟨fun q => absurd q (by rw [nI_ltI (by omega) (by omega)]; omega), fun _ => ⟨fun q => absurd q (nI_pos (by omega)), fun _ => ⟨fun _ => ⟨cond, ?_⟩, fun q => absurd (by rw [show (4 : Int32) = nI 4 from rfl, nI_ltI (by omega) (by omega)]; omega) q⟩⟩⟩⟩
  rintro u11 rfl
  refine ⟨cond, ?_⟩
  rintro u12 rfl
  refine ⟨cond, ?_⟩
  rintro u13 rfl
  refine ⟨cond, ?_⟩
  rintro u14 rfl
  rw [nI_clamp (by omega), nI_clamp (by omega), nI_clamp (by omega)]
  refine hp _ (FR_cpy (FR_cpy (FR_cpy (FR_cpy FR.rf (by decide)) (by decide)) (by decide)) (by decide)) (fun k k1 k4 => ?_)
  rcases Nat.lt_or_ge k 2 with c | c
  · have : k = 1 := by omega
    subst this
    rw [mCpy_other (by decide), mCpy_other (by decide), mCpy_other (by decide), mCpy_same]
  rcases Nat.lt_or_ge k 3 with c | c
  · have : k = 2 := by omega
    subst this
    rw [mCpy_other (by decide), mCpy_other (by decide), mCpy_same, mCpy_other (by decide)]
  rcases Nat.lt_or_ge k 4 with c | c
  · have : k = 3 := by omega
    subst this
    rw [mCpy_other (by decide), mCpy_same, mCpy_other (by decide), mCpy_other (by decide)]
  · have : k = 4 := by omega
    subst this
    rw [mCpy_same, mCpy_other (by decide), mCpy_other (by decide), mCpy_other (by decide)]
theorem bindOwn_ok {o s o' : Nat} {x m : Int32} {u : mS} {post : mS → Prop} (h5 : u.1 5 = nI o) (h4 : s < 4) (ho : o ≤ 4) (ho' : (s = o ∧ o' = o + 1) ∨ (s < o ∧ o' = o)) (hp : ∀ w, FR [4, 5] [5, 6, 7, 8] u w → w.1 5 = nI o' → w.1 4 = nI (8 + o') → w.2 5 = upd (u.2 5) (8 + s) x → w.2 6 = upd (u.2 6) (8 + s) 0 → w.2 7 = upd (u.2 7) (8 + s) 6 → w.2 8 = upd (u.2 8) (8 + s) m → post w) : wp_X7_bindOwn (nI s) x m u post := by
  refine ⟨fun q => absurd q (nI_pos (by omega)), fun _ => ?_⟩
  intro y2 e2
  rw [h5] at e2; subst e2
  refine ⟨fun q => absurd q (by rw [nI_ltI (by omega) (by omega)]; omega), fun _ => ⟨fun _ => ?_, fun q => absurd (by rw [show (4 : Int32) = nI 4 from rfl, nI_ltI (by omega) (by omega)]; omega) q⟩⟩
  intro y5 e5
  rw [h5] at e5; subst e5
  rintro _ rfl y7 e7
  have e7 : y7 = nI o' := by
    rw [e7, nI_1]
    rcases ho' with ⟨q1, q2⟩ | ⟨q1, q2⟩
    · rw [if_pos (by rw [nI_ltI (by omega) (by omega)]; omega), q1, q2]
    · rw [if_neg (by rw [nI_ltI (by omega) (by omega)]; omega), q2]
  subst e7
  rintro u8 rfl _ rfl u10 rfl
  rw [show (8 : Int32) = nI 8 from rfl, nI_add]
  have F1 : FR [4, 5] [5, 6, 7, 8] u (mSet (mSet u 5 (nI o')) 4 (nI (8 + s))) := FR_set (FR_set FR.rf (by decide)) (by decide)
  have s5 : (mSet (mSet u 5 (nI o')) 4 (nI (8 + s))).1 5 = nI o' := (mSet_other (by decide : (5 : Nat) ≠ 4)).trans (mSet_same _ _ _)
  have s4 : (mSet (mSet u 5 (nI o')) 4 (nI (8 + s))).1 4 = nI (8 + s) := mSet_same _ _ _
  have ar : (mSet (mSet u 5 (nI o')) 4 (nI (8 + s))).2 = u.2 := rfl
  generalize mSet (mSet u 5 (nI o')) 4 (nI (8 + s)) = w at F1 s5 s4 ar ⊢
  intro y1 e1
  rw [s4] at e1; subst e1
  refine ⟨fun q => absurd q (nI_pos (by omega)), fun _ => ?_⟩
  intro y3 e3
  rw [s4] at e3; subst e3
  refine ⟨fun _ => ?_, fun q => absurd (by rw [show (40 : Int32) = nI 40 from rfl, nI_ltI (by omega) (by omega)]; omega) q⟩
  intro y5 e5
  rw [s4] at e5; subst e5
  refine ⟨vp_in_nI (by omega) (by omega), ?_⟩
  rintro u6 rfl y7 e7
  have e7 : y7 = nI (8 + s) := e7.trans s4
  subst e7
  refine ⟨vp_in_nI (by omega) (by omega), ?_⟩
  rintro u8 rfl y9 e9
  have e9 : y9 = nI (8 + s) := e9.trans s4
  subst e9
  refine ⟨vp_in_nI (by omega) (by omega), ?_⟩
  rintro u10 rfl y11 e11
  have e11 : y11 = nI (8 + s) := e11.trans s4
  subst e11
  refine ⟨vp_in_nI (by omega) (by omega), ?_⟩
  rintro u12 rfl y13 e13
  have e13 : y13 = nI (8 + s) := e13.trans s4
  subst e13
  rintro _ rfl u15 rfl
  rw [nI_clamp (by omega)]
  intro y1 e1
  have e1 : y1 = nI o' := e1.trans ((mSet_other (by decide : (5 : Nat) ≠ 4)).trans s5)
  subst e1
  rintro _ rfl u3 rfl
  rw [show (8 : Int32) = nI 8 from rfl, nI_add]
  refine hp _ (FR_set (FR_set (FR_put (FR_put (FR_put (FR_put F1 (by decide)) (by decide)) (by decide)) (by decide)) (by decide)) (by decide)) ?_ (mSet_same _ _ _) ?_ ?_ ?_ ?_
  · rw [mSet_other (by decide : (5 : Nat) ≠ 4), mSet_other (by decide : (5 : Nat) ≠ 4)]; exact s5
  · show (mPut (mPut (mPut (mPut w 5 (8 + s) x) 6 (8 + s) 0) 7 (8 + s) 6) 8 (8 + s) m).2 5 = _
    rw [mPut_other (by decide : (5 : Nat) ≠ 8), mPut_other (by decide : (5 : Nat) ≠ 7), mPut_other (by decide : (5 : Nat) ≠ 6), mPut_same, ar]
  · show (mPut (mPut (mPut (mPut w 5 (8 + s) x) 6 (8 + s) 0) 7 (8 + s) 6) 8 (8 + s) m).2 6 = _
    rw [mPut_other (by decide : (6 : Nat) ≠ 8), mPut_other (by decide : (6 : Nat) ≠ 7), mPut_same, mPut_other (by decide : (6 : Nat) ≠ 5), ar]
  · show (mPut (mPut (mPut (mPut w 5 (8 + s) x) 6 (8 + s) 0) 7 (8 + s) 6) 8 (8 + s) m).2 7 = _
    rw [mPut_other (by decide : (7 : Nat) ≠ 8), mPut_same, mPut_other (by decide : (7 : Nat) ≠ 6), mPut_other (by decide : (7 : Nat) ≠ 5), ar]
  · show (mPut (mPut (mPut (mPut w 5 (8 + s) x) 6 (8 + s) 0) 7 (8 + s) 6) 8 (8 + s) m).2 8 = _
    rw [mPut_same, mPut_other (by decide : (8 : Nat) ≠ 7), mPut_other (by decide : (8 : Nat) ≠ 6), mPut_other (by decide : (8 : Nat) ≠ 5), ar]
