-- 13: isPattern, isTemplate, areRules of the reference
theorem inTree {r : Nat → Int32} {p n j : Nat} (hk : kd (r p) = 1) (ht : TL r p n) (h1 : p < j) (h2 : j < p + n) (hc : ¬ kd (r j) = 2) : TL r j (tl r j) ∧ j + tl r j < p + n := by
  obtain ⟨m, hm, hlt, -⟩ := TL_in (k := j - p) hk ht (by omega) (by omega) (by rw [show p + (j - p) = j from by omega]; exact hc)
  rw [show p + (j - p) = j from by omega] at hm
  rw [tl_eq hm]
  exact ⟨hm, by omega⟩
theorem inTree0 {r : Nat → Int32} {p n j : Nat} (ht : TL r p n) (h1 : p ≤ j) (h2 : j < p + n) (hc : ¬ kd (r j) = 2) : TL r j (tl r j) ∧ j + tl r j ≤ p + n := by
  by_cases hk : kd (r p) = 1
  · rcases Nat.lt_or_ge p j with c | c
    · obtain ⟨a, b⟩ := inTree hk ht c h2 hc
      exact ⟨a, by omega⟩
    · have : j = p := by omega
      subst this
      rw [tl_eq ht]; exact ⟨ht, Nat.le_refl _⟩
  · have e := TL_uniq ht (TL_atom hk)
    subst e
    have : j = p := by omega
    subst this
    rw [tl_eq ht]; exact ⟨ht, Nat.le_refl _⟩
/-- a pattern as it must be -/
def PAT (r s : Nat → Int32) (p : Nat) : Prop := (∃ n N, LI r p n N ∧ cn r p N ≠ 0) ∧ ¬ kd (r (p + 1 + tl r (p + 1))) = 6 ∧ ∀ i, p + 1 + tl r (p + 1) ≤ i → i < p + tl r p - 1 → (kd (r i) = 6 → kd (r (i + 1)) = 2) ∧ (¬ kd (r i) = 2 → ¬ kd (r i) = 6 → HB r (p + 1) (p + tl r p - 1) i ≤ 2) ∧ (kd (r i) = 3 → VR r s p (r i) (s i) = nI i)
theorem isPattern_ok {p n : Nat} {u : mS} {post : Int32 → mS → Prop} (ht : TL (u.2 3) p n) (hl : p + n ≤ 3200) (h1 : PAT (u.2 3) (u.2 4) p → post 1 u) (h0 : ¬ PAT (u.2 3) (u.2 4) p → post 0 u) : wp_X9_isPattern (nI p) u post := by
  have hn0 := ht.1
  have etl := tl_eq ht
  refine kind_4 (by omega) ⟨fun hk => h0 (fun ⟨⟨_, _, q, _⟩, _⟩ => hk q.1), fun hk => ?_⟩
  obtain ⟨N, hN⟩ := LI_ex hk ht
  have hbN := LI_at hN (Nat.le_refl N)
  have hcl := cn_le (u.2 3) p N
  refine count_4 hN hl ⟨fun hct => ?_, fun hct => h0 ?_⟩
  · have hc0 : cn (u.2 3) p N ≠ 0 := fun q => hct (by rw [q]; rfl)
    have hN1 : 0 < N := by omega
    refine end_4 ht hl ?_
    rintro _ rfl _ rfl
    rw [show p + n = p + n - 1 + 1 from by omega, nI_pred, nI_1]
    obtain ⟨hi2, hiT⟩ := hN.2.2.1 0 hN1
    have hiT : TL (u.2 3) (p + 1) (tl (u.2 3) (p + 1)) := hiT
    have hb1 : it (u.2 3) p 1 < p + n := (LI_at hN (k := 1) (by omega)).2.1
    have hb1 : p + 1 + tl (u.2 3) (p + 1) < p + n := hb1
    have hb2 : it (u.2 3) p 1 + (N - 1) ≤ it (u.2 3) p N := LI_mono hN (by omega) (Nat.le_refl N)
    have hb2 : p + 1 + tl (u.2 3) (p + 1) + (N - 1) ≤ it (u.2 3) p N := hb2
    have hbe := hN.2.2.2
    refine end_4 hiT (by omega) (kind_4 (by omega) ⟨fun hk6 => ?_, fun hk6 => h0 (fun q => q.2.1 hk6)⟩)
    have key : ∀ (d i : Nat), i + d = p + n - 1 → p + 1 + tl (u.2 3) (p + 1) ≤ i → (∀ j, p + 1 + tl (u.2 3) (p + 1) ≤ j → j < i → (kd (u.2 3 j) = 6 → kd (u.2 3 (j + 1)) = 2) ∧ (¬ kd (u.2 3 j) = 2 → ¬ kd (u.2 3 j) = 6 → HB (u.2 3) (p + 1) (p + tl (u.2 3) p - 1) j ≤ 2) ∧ (kd (u.2 3 j) = 3 → VR (u.2 3) (u.2 4) p (u.2 3 j) (u.2 4 j) = nI j)) → mL4 (fun K => wj_X9_isPattern_65 K post) (d + 1) (nI p) (nI (p + n - 1)) (nI i) u := by
      intro d
      induction d with
      | zero =>
        intro i hi hf hall
        show wj_X9_isPattern_65 _ post _ _ _ u
        refine ⟨fun _ => h1 ⟨⟨n, N, hN, hc0⟩, hk6, fun j hj hj2 => hall j hj (by rw [etl] at hj2; omega)⟩, fun h => absurd ?_ h⟩
        rw [nI_leI (by omega) (by omega)]; omega
      | succ d ih =>
        intro i hi hf hall
        have hno : ∀ P : Prop, (PAT (u.2 3) (u.2 4) p → P) → ¬ P → post 0 u := fun P h hn => h0 (fun q => hn (h q))
        have hat : PAT (u.2 3) (u.2 4) p → (kd (u.2 3 i) = 6 → kd (u.2 3 (i + 1)) = 2) ∧ (¬ kd (u.2 3 i) = 2 → ¬ kd (u.2 3 i) = 6 → HB (u.2 3) (p + 1) (p + tl (u.2 3) p - 1) i ≤ 2) ∧ (kd (u.2 3 i) = 3 → VR (u.2 3) (u.2 4) p (u.2 3 i) (u.2 4 i) = nI i) := fun q => q.2.2 i hf (by rw [etl]; omega)
        have g165 : ((kd (u.2 3 i) = 6 → kd (u.2 3 (i + 1)) = 2) ∧ (¬ kd (u.2 3 i) = 2 → ¬ kd (u.2 3 i) = 6 → HB (u.2 3) (p + 1) (p + tl (u.2 3) p - 1) i ≤ 2) ∧ (kd (u.2 3 i) = 3 → VR (u.2 3) (u.2 4) p (u.2 3 i) (u.2 4 i) = nI i)) → wj_X9_isPattern_165 (mL4 (fun K => wj_X9_isPattern_65 K post) (d + 1)) post (nI p) (nI (p + n - 1)) (nI i) u := by
          intro hg
          rintro _ rfl
          rw [nI_1]
          refine ih (i + 1) (by omega) (by omega) (fun j hj hj2 => ?_)
          rcases Nat.lt_or_ge j i with c | c
          · exact hall j hj c
          · have : j = i := by omega
            subst this; exact hg
        have g133 : (kd (u.2 3 i) = 6 → kd (u.2 3 (i + 1)) = 2) → (¬ kd (u.2 3 i) = 2 → ¬ kd (u.2 3 i) = 6 → HB (u.2 3) (p + 1) (p + tl (u.2 3) p - 1) i ≤ 2) → wj_X9_isPattern_133 (mL4 (fun K => wj_X9_isPattern_65 K post) (d + 1)) post (nI p) (nI (p + n - 1)) (nI i) (kd (u.2 3 i)) u := by
          intro a1 a2
          refine ⟨fun h3 => g165 ⟨a1, a2, fun q => absurd q h3⟩, fun h3 => ⟨vp_in_nI (by omega) (by omega), ?_⟩⟩
          rintro _ rfl
          refine ⟨vp_in_nI (by omega) (by omega), ?_⟩
          rintro _ rfl
          rw [nI_clamp (by omega)]
          refine variable_ok ht hiT hl (by omega) ⟨fun hv => g165 ⟨a1, a2, fun _ => hv⟩, fun hv => h0 (fun q => hv ((hat q).2.2 h3))⟩
        have g106 : (kd (u.2 3 i) = 6 → kd (u.2 3 (i + 1)) = 2) → wj_X9_isPattern_106 (mL4 (fun K => wj_X9_isPattern_65 K post) (d + 1)) post (nI p) (nI (p + n - 1)) (nI i) (kd (u.2 3 i)) u := by
          intro a1
          refine ⟨fun h2 => g133 a1 (fun q => absurd h2 q), fun h2 => ⟨fun h6 => g133 a1 (fun _ q => absurd h6 q), fun h6 => ?_⟩⟩
          rintro _ rfl
          rw [nI_1]
          have hHB := hbS_le (u.2 3) (p + n - 1) i (p + 1) (i + 1 - (p + 1))
          refine heldBy_ok (a := p + 1) (b := p + n - 1) (x := i) (by omega) (by omega) (by omega) (fun j hj1 hj2 hjc _ => ?_) ⟨fun h => h0 (fun q => ?_), fun h => g133 a1 (fun _ _ => ?_)⟩
          · obtain ⟨b1, b2⟩ := inTree hk ht (by omega) (by omega) hjc
            exact ⟨b1, by omega⟩
          · have := (hat q).2.1 h2 h6
            rw [etl] at this
            have h : nI 2 < nI (HB (u.2 3) (p + 1) (p + n - 1) i) := h
            rw [nI_ltI (by omega) (by unfold HB; omega)] at h
            omega
          · rw [etl]
            have h : ¬ nI 2 < nI (HB (u.2 3) (p + 1) (p + n - 1) i) := h
            rw [nI_ltI (by omega) (by unfold HB; omega)] at h
            omega
        show wj_X9_isPattern_65 _ post _ _ _ u
        refine ⟨fun h => absurd h (by rw [nI_leI (by omega) (by omega)]; omega), fun _ => ?_⟩
        refine kind_4 (by omega) ⟨fun h6 => g106 (fun q => absurd q h6), fun h6 => ?_⟩
        rintro _ rfl
        rw [nI_1]
        exact kind_4 (by omega) ⟨fun h2 => g106 (fun _ => h2), fun h2 => h0 (fun q => h2 ((hat q).1 h6))⟩
    refine ⟨p + n - 1 - (p + 1 + tl (u.2 3) (p + 1)) + 1, ?_⟩
    exact key _ _ (by omega) (Nat.le_refl _) (fun j hj hj2 => by omega)
  · rintro ⟨⟨n', M, q1, q2⟩, -⟩
    have e := (LI_uniq hN q1).2
    subst e
    exact q2 ((nI_eq (a := cn (u.2 3) p N) (b := 0) (by omega) (by omega)).mp hct)
/-- a template as it must be, for the pattern at p -/
def TEM (r s : Nat → Int32) (p t : Nat) : Prop := (∀ i, t ≤ i → i < t + tl r t → kd (r i) = 3 → ¬ VR r s p (r i) (s i) < 0 → HB r t (t + tl r t) i = HB r (p + 1) (p + tl r p - 1) (VR r s p (r i) (s i)).toNatClampNeg) ∧ (∀ i, t ≤ i → i < t + tl r t → ¬ kd (r i) = 2 → ¬ kd (r i) = 6 → i + tl r i < t + tl r t → kd (r (i + tl r i)) = 6 → usF r s p (tl r i) i ≠ 0)
theorem VR_cases {r s : Nat → Int32} {p n N : Nat} (h : LI r p n N) (hN : 0 < N) (hl : p + n < 2 ^ 31) (v w : Int32) : VR r s p v w = -1 ∨ ∃ j, p + 1 + tl r (p + 1) ≤ j ∧ j < p + n - 1 ∧ VR r s p v w = nI j ∧ r j = v ∧ s j = w := by
  have hb1 : it r p 1 < p + n := (LI_at h (k := 1) (by omega)).2.1
  have hb1 : p + 1 + tl r (p + 1) < p + n := hb1
  have e := tl_eq h.2.1
  unfold VR
  rw [e]
  rcases vrF_cases r s v w (p + n - 1 - (p + 1 + tl r (p + 1))) (p + 1 + tl r (p + 1)) (by omega) with g | ⟨j, g1, g2, g3⟩
  · exact Or.inl g
  · exact Or.inr ⟨j, g1, by omega, g3⟩
theorem isTemplate_ok {p n N t m : Nat} {u : mS} {post : Int32 → mS → Prop} (hP : LI (u.2 3) p n N) (hN : 0 < N) (hl : p + n ≤ 3200) (ht : TL (u.2 3) t m) (hl2 : t + m ≤ 3200) (h1 : TEM (u.2 3) (u.2 4) p t → post 1 u) (h0 : ¬ TEM (u.2 3) (u.2 4) p t → post 0 u) : wp_X9_isTemplate (nI p) (nI t) u post := by
  have htp := hP.2.1
  have hk := hP.1
  have hn0 := htp.1
  have hm0 := ht.1
  have etp := tl_eq htp
  have ett := tl_eq ht
  obtain ⟨-, hiT⟩ := hP.2.2.1 0 hN
  have hiT : TL (u.2 3) (p + 1) (tl (u.2 3) (p + 1)) := hiT
  have hb1 : it (u.2 3) p 1 < p + n := (LI_at hP (k := 1) (by omega)).2.1
  have hb1 : p + 1 + tl (u.2 3) (p + 1) < p + n := hb1
  refine end_4 ht hl2 (end_4 htp hl ?_)
  rintro _ rfl
  rw [show p + n = p + n - 1 + 1 from by omega, nI_pred]
  -- the second loop
  have key2 : (∀ i, t ≤ i → i < t + tl (u.2 3) t → kd (u.2 3 i) = 3 → ¬ VR (u.2 3) (u.2 4) p (u.2 3 i) (u.2 4 i) < 0 → HB (u.2 3) t (t + tl (u.2 3) t) i = HB (u.2 3) (p + 1) (p + tl (u.2 3) p - 1) (VR (u.2 3) (u.2 4) p (u.2 3 i) (u.2 4 i)).toNatClampNeg) → ∀ (d i : Nat), i + d = t + m → t ≤ i → (∀ j, t ≤ j → j < i → ¬ kd (u.2 3 j) = 2 → ¬ kd (u.2 3 j) = 6 → j + tl (u.2 3) j < t + tl (u.2 3) t → kd (u.2 3 (j + tl (u.2 3) j)) = 6 → usF (u.2 3) (u.2 4) p (tl (u.2 3) j) j ≠ 0) → mL4 (fun K => wj_X9_isTemplate_106 K post) (d + 1) (nI p) (nI (t + m)) (nI i) u := by
    intro hA d
    induction d with
    | zero =>
      intro i hi hti hall
      show wj_X9_isTemplate_106 _ post _ _ _ u
      refine ⟨fun _ => h1 ⟨hA, fun j hj hj2 => hall j hj (by rw [ett] at hj2; omega)⟩, fun h => absurd ?_ h⟩
      rw [nI_leI (by omega) (by omega)]; omega
    | succ d ih =>
      intro i hi hti hall
      have go : (¬ kd (u.2 3 i) = 2 → ¬ kd (u.2 3 i) = 6 → i + tl (u.2 3) i < t + tl (u.2 3) t → kd (u.2 3 (i + tl (u.2 3) i)) = 6 → usF (u.2 3) (u.2 4) p (tl (u.2 3) i) i ≠ 0) → wj_X9_isTemplate_185 (mL4 (fun K => wj_X9_isTemplate_106 K post) (d + 1)) post (nI p) (nI (t + m)) (nI i) u := by
        intro hg
        rintro _ rfl
        rw [nI_1]
        refine ih (i + 1) (by omega) (by omega) (fun j hj hj2 => ?_)
        rcases Nat.lt_or_ge j i with c | c
        · exact hall j hj c
        · have : j = i := by omega
          subst this; exact hg
      have no : (kd (u.2 3 i) = 2 ∨ kd (u.2 3 i) = 6) → wj_X9_isTemplate_136 (mL4 (fun K => wj_X9_isTemplate_106 K post) (d + 1)) post (nI p) (nI (t + m)) (nI i) u := by
        intro h
        refine ⟨fun _ => go (fun a b => ?_), fun h9 => absurd (Int32.le_refl _) h9⟩
        rcases h with h | h
        · exact absurd h a
        · exact absurd h b
      show wj_X9_isTemplate_106 _ post _ _ _ u
      refine ⟨fun h => absurd h (by rw [nI_leI (by omega) (by omega)]; omega), fun _ => ?_⟩
      refine kind_4 (by omega) ⟨fun h2 => no (Or.inl h2), fun h2 => ⟨fun h6 => ?_, fun h6 => no (Or.inr h6)⟩⟩
      obtain ⟨a1, a2⟩ := inTree0 ht hti (by omega) h2
      have a0 := a1.1
      refine end_4 a1 (by omega) ⟨fun h => go (fun _ _ q => ?_), fun h => ?_⟩
      · rw [nI_leI (by omega) (by omega)] at h
        rw [ett] at q; omega
      · rw [nI_leI (by omega) (by omega)] at h
        refine kind_4 (by omega) ⟨fun h7 => go (fun _ _ _ q => absurd q h7), fun h7 => ?_⟩
        have hul := usF_le (u.2 3) (u.2 4) p (tl (u.2 3) i) i
        refine uses_ok htp hiT hl (by omega) (by omega) (by omega) ?_
        rw [show i + tl (u.2 3) i - i = tl (u.2 3) i from by omega]
        refine ⟨fun h8 => go (fun _ _ _ _ q => h8 (by rw [q]; rfl)), fun h8 => h0 (fun q => ?_)⟩
        exact q.2 i hti (by rw [ett]; omega) h2 h6 (by rw [ett]; omega) h7 ((nI_eq (a := usF (u.2 3) (u.2 4) p (tl (u.2 3) i) i) (b := 0) (by omega) (by omega)).mp h8)
  have key1 : ∀ (d i : Nat), i + d = t + m → t ≤ i → (∀ j, t ≤ j → j < i → kd (u.2 3 j) = 3 → ¬ VR (u.2 3) (u.2 4) p (u.2 3 j) (u.2 4 j) < 0 → HB (u.2 3) t (t + tl (u.2 3) t) j = HB (u.2 3) (p + 1) (p + tl (u.2 3) p - 1) (VR (u.2 3) (u.2 4) p (u.2 3 j) (u.2 4 j)).toNatClampNeg) → mL6 (fun K => wj_X9_isTemplate_24 K post) (d + 1) (nI p) (nI t) (nI (t + m)) (nI (p + n - 1)) (nI i) u := by
    intro d
    induction d with
    | zero =>
      intro i hi hti hall
      show wj_X9_isTemplate_24 _ post _ _ _ _ _ u
      refine ⟨fun _ => ⟨m + 1, key2 (fun j hj hj2 => hall j hj (by rw [ett] at hj2; omega)) m t rfl (Nat.le_refl t) (fun j hj hj2 => by omega)⟩, fun h => absurd ?_ h⟩
      rw [nI_leI (by omega) (by omega)]; omega
    | succ d ih =>
      intro i hi hti hall
      have go : (kd (u.2 3 i) = 3 → ¬ VR (u.2 3) (u.2 4) p (u.2 3 i) (u.2 4 i) < 0 → HB (u.2 3) t (t + tl (u.2 3) t) i = HB (u.2 3) (p + 1) (p + tl (u.2 3) p - 1) (VR (u.2 3) (u.2 4) p (u.2 3 i) (u.2 4 i)).toNatClampNeg) → wj_X9_isTemplate_97 (mL6 (fun K => wj_X9_isTemplate_24 K post) (d + 1)) post (nI p) (nI t) (nI (t + m)) (nI (p + n - 1)) (nI i) u := by
        intro hg
        rintro _ rfl
        rw [nI_1]
        refine ih (i + 1) (by omega) (by omega) (fun j hj hj2 => ?_)
        rcases Nat.lt_or_ge j i with c | c
        · exact hall j hj c
        · have : j = i := by omega
          subst this; exact hg
      show wj_X9_isTemplate_24 _ post _ _ _ _ _ u
      refine ⟨fun h => absurd h (by rw [nI_leI (by omega) (by omega)]; omega), fun _ => ?_⟩
      refine kind_4 (by omega) ⟨fun h3 => ⟨fun _ => go (fun q => absurd q h3), fun h => absurd (by decide) h⟩, fun h3 => ⟨vp_in_nI (by omega) (by omega), ?_⟩⟩
      rintro _ rfl
      refine ⟨vp_in_nI (by omega) (by omega), ?_⟩
      rintro _ rfl
      rw [nI_clamp (by omega)]
      refine variable_ok htp hiT hl (by omega) ⟨fun hv => go (fun _ q => absurd hv q), fun hv => ?_⟩
      rcases VR_cases (s := u.2 4) hP hN (by omega) (u.2 3 i) (u.2 4 i) with g | ⟨v, g1, g2, g3, -⟩
      · rw [g] at hv; exact absurd (by decide) hv
      · have hq := hbS_le (u.2 3) (t + m) i t (i + 1 - t)
        have hq2 := hbS_le (u.2 3) (p + n - 1) v (p + 1) (v + 1 - (p + 1))
        refine heldBy_ok (a := t) (b := t + m) (x := i) (by omega) (by omega) (by omega) (fun j hj1 hj2 hjc _ => ?_) ?_
        · obtain ⟨b1, b2⟩ := inTree0 ht hj1 (by omega) hjc
          exact ⟨b1, by omega⟩
        · rintro _ rfl
          rw [nI_1]
          show wp_X9_heldBy (nI (p + 1)) (nI (p + n - 1)) (VR (u.2 3) (u.2 4) p (u.2 3 i) (u.2 4 i)) u _
          rw [g3]
          refine heldBy_ok (a := p + 1) (b := p + n - 1) (x := v) (by omega) (by omega) (by omega) (fun j hj1 hj2 hjc _ => ?_) ⟨fun he => go (fun _ _ => ?_), fun he => h0 (fun q => he ?_)⟩
          · obtain ⟨b1, b2⟩ := inTree hk htp (by omega) (by omega) hjc
            exact ⟨b1, by omega⟩
          · have he := (nI_eq (by unfold HB; omega) (by unfold HB; omega)).mp he
            rw [ett, etp, g3, nI_clamp (by omega)]; exact he
          · have := q.1 i hti (by rw [ett]; omega) h3 hv
            rw [ett, etp, g3, nI_clamp (by omega)] at this
            rw [this]
  exact ⟨m + 1, key1 m t rfl (Nat.le_refl t) (fun j hj hj2 => by omega)⟩
/-- the places of trees and .. one behind another, from a on -/
noncomputable def nx (r : Nat → Int32) (a : Nat) : Nat → Nat
  | 0 => a
  | k + 1 => nx r a k + tl r (nx r a k)
def SQ (r : Nat → Int32) (a b N : Nat) : Prop := (∀ k, k < N → ¬ kd (r (nx r a k)) = 2 ∧ TL r (nx r a k) (tl r (nx r a k))) ∧ nx r a N = b
theorem SQ_mono {r : Nat → Int32} {a b N : Nat} (h : SQ r a b N) {j k : Nat} (hj : j ≤ k) (hk : k ≤ N) : nx r a j + (k - j) ≤ nx r a k := by
  induction k with
  | zero => have : j = 0 := by omega
            subst this; omega
  | succ k ih =>
    rcases Nat.lt_or_ge k j with c | c
    · have : j = k + 1 := by omega
      subst this; omega
    · have a1 := ih c (by omega)
      have b1 := (h.1 k (by omega)).2.1
      show nx r a j + (k + 1 - j) ≤ nx r a k + tl r (nx r a k)
      omega
/-- a rule as it must be -/
def RUL (r s : Nat → Int32) (i : Nat) : Prop := ¬ kd (r i) = 6 ∧ (∃ n, LI r i n 2 ∧ dn r i 2 = 0) ∧ PAT r s (i + 1) ∧ TEM r s (i + 1) (i + 1 + tl r (i + 1))
theorem areRules_ok {a b N : Nat} {u : mS} {post : Int32 → mS → Prop} (h : SQ (u.2 3) a b N) (hb : b ≤ 3200) (h1 : (∀ k, k < N → RUL (u.2 3) (u.2 4) (nx (u.2 3) a k)) → post 1 u) (h0 : ¬ (∀ k, k < N → RUL (u.2 3) (u.2 4) (nx (u.2 3) a k)) → post 0 u) : wp_X9_areRules (nI a) (nI b) u post := by
  have key : ∀ (d k : Nat), k + d = N → (∀ j, j < k → RUL (u.2 3) (u.2 4) (nx (u.2 3) a j)) → mL3 (fun K => wj_X9_areRules_2 K post) (d + 1) (nI b) (nI (nx (u.2 3) a k)) u := by
    intro d
    induction d with
    | zero =>
      intro k hk hall
      have hk : k = N := by omega
      subst hk
      show wj_X9_areRules_2 _ post _ _ u
      rw [h.2]
      exact ⟨fun _ => h1 hall, fun h9 => absurd (Int32.le_refl _) h9⟩
    | succ d ih =>
      intro k hk hall
      obtain ⟨c2, cT⟩ := h.1 k (by omega)
      have m1 := SQ_mono h (j := k) (k := k + 1) (by omega) (by omega)
      have m2 := SQ_mono h (j := k + 1) (k := N) (by omega) (Nat.le_refl N)
      have e1 : nx (u.2 3) a (k + 1) = nx (u.2 3) a k + tl (u.2 3) (nx (u.2 3) a k) := rfl
      have e2 := h.2
      have ihk := ih (k + 1) (by omega)
      have hno : ¬ RUL (u.2 3) (u.2 4) (nx (u.2 3) a k) → post 0 u := fun q => h0 (fun z => q (z k (by omega)))
      rw [e1] at ihk
      generalize ei : nx (u.2 3) a k = i at c2 cT m1 m2 e1 ihk hno ⊢
      show wj_X9_areRules_2 _ post _ _ u
      refine ⟨fun h9 => absurd h9 (by rw [nI_leI (by omega) (by omega)]; omega), fun _ => ?_⟩
      refine kind_4 (by omega) ⟨fun h6 => hno (fun q => q.1 h6), fun h6 => ?_⟩
      refine isPlain_4 (t := 2) cT (by omega) (by omega) (fun M hM hc hd => ?_) (fun hn => ⟨fun _ => hno (fun q => ?_), fun h9 => absurd rfl h9⟩)
      · have hM2 : M = 2 := by have := cn_dn (u.2 3) i M; omega
        subst hM2
        refine ⟨fun h9 => absurd h9 (by decide), fun _ => ?_⟩
        rintro _ rfl
        rw [nI_1]
        have pT : TL (u.2 3) (i + 1) (tl (u.2 3) (i + 1)) := (hM.2.2.1 0 (by omega)).2
        have tT : TL (u.2 3) (i + 1 + tl (u.2 3) (i + 1)) (tl (u.2 3) (i + 1 + tl (u.2 3) (i + 1))) := (hM.2.2.1 1 (by omega)).2
        have b2 : it (u.2 3) i 2 < i + tl (u.2 3) i := (LI_at hM (k := 2) (by omega)).2.1
        have b2 : i + 1 + tl (u.2 3) (i + 1) + tl (u.2 3) (i + 1 + tl (u.2 3) (i + 1)) < i + tl (u.2 3) i := b2
        have p0 := pT.1
        have t0 := tT.1
        refine isPattern_ok pT (by omega) (fun hp => ?_) (fun hp => ⟨fun _ => hno (fun q => hp q.2.2.1), fun h9 => absurd rfl h9⟩)
        refine ⟨fun h9 => absurd h9 (by decide), fun _ => ?_⟩
        rintro _ rfl _ rfl
        refine end_4 pT (by omega) ?_
        obtain ⟨⟨n', N', hL', hc'⟩, -⟩ := id hp
        have en := TL_uniq hL'.2.1 pT
        subst en
        have hN' : 0 < N' := by have := cn_le (u.2 3) (i + 1) N'; omega
        refine isTemplate_ok hL' hN' (by omega) tT (by omega) (fun htm => ⟨fun _ => ?_, fun h9 => absurd h9 (by decide)⟩) (fun htm => ⟨fun h9 => absurd rfl h9, fun _ => hno (fun q => htm q.2.2.2)⟩)
        refine end_4 cT (by omega) ?_
        refine ihk (fun j hj => ?_)
        rcases Nat.lt_or_ge j k with c | c
        · exact hall j c
        · have : j = k := by omega
          subst this
          rw [ei]
          exact ⟨h6, ⟨_, hM, hd⟩, hp, htm⟩
      · obtain ⟨n', q1, q2⟩ := q.2.1
        have en := TL_uniq q1.2.1 cT
        subst en
        exact hn ⟨2, q1, by have := cn_dn (u.2 3) i 2; omega, q2⟩
  exact ⟨N + 1, key N 0 (by omega) (fun j hj => by omega)⟩
