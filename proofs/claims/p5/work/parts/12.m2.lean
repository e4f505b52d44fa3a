-- 12: heldBy, variable, uses, isPattern, isTemplate, areRules of the reference
noncomputable def hb1 (r : Nat → Int32) (b x i : Nat) : Nat := if ¬ kd (r i) = 2 ∧ ¬ kd (r i) = 6 ∧ i + tl r i < b ∧ x < i + tl r i ∧ kd (r (i + tl r i)) = 6 then 1 else 0
noncomputable def hbS (r : Nat → Int32) (b x a : Nat) : Nat → Nat
  | 0 => 0
  | k + 1 => hbS r b x a k + hb1 r b x (a + k)
/-- how many .. within a .. b hold what is at x -/
noncomputable def HB (r : Nat → Int32) (a b x : Nat) : Nat := hbS r b x a (x + 1 - a)
theorem hbS_le (r : Nat → Int32) (b x a : Nat) : ∀ k, hbS r b x a k ≤ k := by
  intro k
  induction k with
  | zero => exact Nat.le_refl 0
  | succ k ih =>
    show hbS r b x a k + hb1 r b x (a + k) ≤ k + 1
    have : hb1 r b x (a + k) ≤ 1 := by unfold hb1; split <;> omega
    omega
theorem heldBy_ok {a b x : Nat} {u : mS} {post : Int32 → mS → Prop} (hax : a ≤ x + 1) (hx : x < 3200) (hb : b ≤ 3200) (hs : ∀ i, a ≤ i → i ≤ x → ¬ kd (u.2 3 i) = 2 → ¬ kd (u.2 3 i) = 6 → TL (u.2 3) i (tl (u.2 3) i) ∧ i + tl (u.2 3) i ≤ 3200) (hp : post (nI (HB (u.2 3) a b x)) u) : wp_X9_heldBy (nI a) (nI b) (nI x) u post := by
  have key : ∀ (d k : Nat), k + d = x + 1 - a → mL5 (fun K => wj_X9_heldBy_6 K post) (d + 1) (nI b) (nI x) (nI (hbS (u.2 3) b x a k)) (nI (a + k)) u := by
    intro d
    induction d with
    | zero =>
      intro k hk
      show wj_X9_heldBy_6 _ post _ _ _ _ u
      refine ⟨fun _ => ?_, fun h => absurd ?_ h⟩
      · have e : k = x + 1 - a := by omega
        have hp' := hp
        unfold HB at hp'
        rw [← e] at hp'; exact hp'
      · rw [nI_ltI (by omega) (by omega)]; omega
    | succ d ih =>
      intro k hk
      have go : ∀ c : Nat, hbS (u.2 3) b x a (k + 1) = c → wj_X9_heldBy_101 (mL5 (fun K => wj_X9_heldBy_6 K post) (d + 1)) post (nI b) (nI x) (nI (a + k)) (nI c) u := by
        rintro c rfl
        rintro _ rfl
        rw [nI_1]
        exact ih (k + 1) (by omega)
      have h0 : hb1 (u.2 3) b x (a + k) = 0 → wj_X9_heldBy_99 (mL5 (fun K => wj_X9_heldBy_6 K post) (d + 1)) post (nI b) (nI x) (nI (hbS (u.2 3) b x a k)) (nI (a + k)) u := by
        intro h
        exact go _ (by show hbS (u.2 3) b x a k + hb1 (u.2 3) b x (a + k) = _; omega)
      have hno : (kd (u.2 3 (a + k)) = 2 ∨ kd (u.2 3 (a + k)) = 6) → wj_X9_heldBy_43 (mL5 (fun K => wj_X9_heldBy_6 K post) (d + 1)) post (nI b) (nI x) (nI (hbS (u.2 3) b x a k)) (nI (a + k)) u := by
        intro h
        refine ⟨fun _ => ⟨fun _ => h0 ?_, fun h9 => absurd (Int32.le_refl _) h9⟩, fun h9 => absurd rfl h9⟩
        unfold hb1
        rw [if_neg]
        rintro ⟨q1, q2, -⟩
        rcases h with h | h
        · exact q1 h
        · exact q2 h
      show wj_X9_heldBy_6 _ post _ _ _ _ u
      refine ⟨fun h => absurd h (by rw [nI_ltI (by omega) (by omega)]; omega), fun _ => ?_⟩
      refine kind_4 (by omega) ⟨fun h2 => hno (Or.inl h2), fun h2 => kind_4 (by omega) ⟨fun h6 => hno (Or.inr h6), fun h6 => ?_⟩⟩
      refine ⟨fun h => absurd h (by decide), fun _ => ?_⟩
      obtain ⟨ht, hl⟩ := hs (a + k) (by omega) (by omega) h2 h6
      refine end_4 ht hl ⟨fun h => h0 ?_, fun hb2 => ⟨fun h => h0 ?_, fun hx2 => ?_⟩⟩
      · rw [nI_leI (by omega) (by omega)] at h
        unfold hb1
        rw [if_neg]
        rintro ⟨-, -, q, -⟩
        omega
      · rw [nI_leI (by omega) (by omega)] at h
        unfold hb1
        rw [if_neg]
        rintro ⟨-, -, -, q, -⟩
        omega
      · rw [nI_leI (by omega) (by omega)] at hb2 hx2
        refine kind_4 (by omega) ⟨fun h => h0 ?_, fun h => ?_⟩
        · unfold hb1
          rw [if_neg]
          rintro ⟨-, -, -, -, q⟩
          exact h q
        · rintro _ rfl
          rw [nI_1]
          refine go _ ?_
          show hbS (u.2 3) b x a k + hb1 (u.2 3) b x (a + k) = _
          unfold hb1
          rw [if_pos ⟨h2, h6, by omega, by omega, h⟩]
  refine ⟨x + 1 - a + 1, ?_⟩
  exact key (x + 1 - a) 0 (by omega)
def vrF (r s : Nat → Int32) (v w : Int32) : Nat → Nat → Int32
  | 0, _ => -1
  | n + 1, i => if r i = v ∧ s i = w then nI i else vrF r s v w n (i + 1)
theorem vrF_cases (r s : Nat → Int32) (v w : Int32) : ∀ (n i : Nat), i + n < 2 ^ 31 → vrF r s v w n i = -1 ∨ ∃ j, i ≤ j ∧ j < i + n ∧ vrF r s v w n i = nI j ∧ r j = v ∧ s j = w := by
  intro n
  induction n with
  | zero => intro i _; exact Or.inl rfl
  | succ n ih =>
    intro i hi
    show (if r i = v ∧ s i = w then nI i else vrF r s v w n (i + 1)) = -1 ∨ ∃ j, i ≤ j ∧ j < i + (n + 1) ∧ (if r i = v ∧ s i = w then nI i else vrF r s v w n (i + 1)) = nI j ∧ r j = v ∧ s j = w
    by_cases h : r i = v ∧ s i = w
    · rw [if_pos h]; exact Or.inr ⟨i, by omega, by omega, rfl, h⟩
    · rw [if_neg h]
      rcases ih (i + 1) (by omega) with g | ⟨j, g1, g2, g3⟩
      · exact Or.inl g
      · exact Or.inr ⟨j, by omega, by omega, g3⟩
/-- the variable of the pattern at p with that name and set: its place, -1 if there is none -/
noncomputable def VR (r s : Nat → Int32) (p : Nat) (v w : Int32) : Int32 := vrF r s v w (p + tl r p - 1 - (p + 1 + tl r (p + 1))) (p + 1 + tl r (p + 1))
theorem variable_ok {p n m : Nat} {v w : Int32} {u : mS} {post : Int32 → mS → Prop} (ht : TL (u.2 3) p n) (hm : TL (u.2 3) (p + 1) m) (hl : p + n ≤ 3200) (hl2 : p + 1 + m ≤ 3200) (hp : post (VR (u.2 3) (u.2 4) p v w) u) : wp_X9_variable (nI p) v w u post := by
  have hn0 := ht.1
  have e1 := tl_eq ht
  have e2 := tl_eq hm
  unfold VR at hp
  rw [e1, e2] at hp
  refine end_4 ht hl ?_
  rintro _ rfl _ rfl
  rw [show p + n = p + n - 1 + 1 from by omega, nI_pred, nI_1]
  refine end_4 hm hl2 ?_
  have key : ∀ (d i : Nat), i + d ≤ p + n - 1 → (d = 0 → p + n - 1 ≤ i) → (0 < d → i + d = p + n - 1) → post (vrF (u.2 3) (u.2 4) v w d i) u → i ≤ 3200 → mL5 (fun K => wj_X9_variable_24 K post) (d + 1) v w (nI (p + n - 1)) (nI i) u := by
    intro d
    induction d with
    | zero =>
      intro i _ h0 _ hq hi
      show wj_X9_variable_24 _ post _ _ _ _ u
      refine ⟨fun _ => hq, fun h => absurd ?_ h⟩
      rw [nI_leI (by omega) (by omega)]; exact h0 rfl
    | succ d ih =>
      intro i hid h0 h1 hq hi
      have hid2 := h1 (by omega)
      have nxt : (¬ (u.2 3 i = v ∧ u.2 4 i = w)) → wj_X9_variable_56 (mL5 (fun K => wj_X9_variable_24 K post) (d + 1)) post v w (nI (p + n - 1)) (nI i) u := by
        intro hne
        rintro _ rfl
        rw [nI_1]
        refine ih (i + 1) (by omega) (fun h => by omega) (fun _ => by omega) ?_ (by omega)
        have hq : post (if u.2 3 i = v ∧ u.2 4 i = w then nI i else vrF (u.2 3) (u.2 4) v w d (i + 1)) u := hq
        rw [if_neg hne] at hq
        exact hq
      show wj_X9_variable_24 _ post _ _ _ _ u
      refine ⟨fun h => absurd h (by rw [nI_leI (by omega) (by omega)]; omega), fun _ => ⟨vp_in_nI (by omega) (by omega), ?_⟩⟩
      rintro _ rfl
      rw [nI_clamp (by omega)]
      refine ⟨fun h => nxt (fun q => h q.1), fun h => ⟨vp_in_nI (by omega) (by omega), ?_⟩⟩
      rintro _ rfl
      refine ⟨fun h2 => nxt (fun q => h2 q.2), fun h2 => ?_⟩
      have hq : post (if u.2 3 i = v ∧ u.2 4 i = w then nI i else vrF (u.2 3) (u.2 4) v w d (i + 1)) u := hq
      rw [if_pos ⟨h, h2⟩] at hq
      exact hq
  refine ⟨p + n - 1 - (p + 1 + m) + 1, ?_⟩
  rcases Nat.lt_or_ge (p + 1 + m) (p + n - 1) with c | c
  · exact key _ _ (by omega) (fun h => by omega) (fun _ => by omega) hp (by omega)
  · have e : p + n - 1 - (p + 1 + m) = 0 := by omega
    rw [e] at hp ⊢
    show wj_X9_variable_24 _ post _ _ _ _ u
    refine ⟨fun _ => hp, fun h => absurd ?_ h⟩
    rw [nI_leI (by omega) (by omega)]; exact c
noncomputable def usF (r s : Nat → Int32) (p : Nat) : Nat → Nat → Nat
  | 0, _ => 0
  | n + 1, i => (if kd (r i) = 3 ∧ ¬ VR r s p (r i) (s i) < 0 then 1 else 0) + usF r s p n (i + 1)
theorem usF_ex {r s : Nat → Int32} {p : Nat} : ∀ {n i : Nat}, usF r s p n i ≠ 0 → ∃ j, i ≤ j ∧ j < i + n ∧ kd (r j) = 3 ∧ ¬ VR r s p (r j) (s j) < 0 := by
  intro n
  induction n with
  | zero => intro i h; exact absurd rfl h
  | succ n ih =>
    intro i h
    have h : (if kd (r i) = 3 ∧ ¬ VR r s p (r i) (s i) < 0 then 1 else 0) + usF r s p n (i + 1) ≠ 0 := h
    by_cases c : kd (r i) = 3 ∧ ¬ VR r s p (r i) (s i) < 0
    · exact ⟨i, by omega, by omega, c.1, c.2⟩
    · rw [if_neg c] at h
      obtain ⟨j, h1, h2, h3⟩ := ih (i := i + 1) (by omega)
      exact ⟨j, by omega, by omega, h3⟩
theorem usF_le (r s : Nat → Int32) (p : Nat) : ∀ (n i : Nat), usF r s p n i ≤ n := by
  intro n
  induction n with
  | zero => intro i; exact Nat.le_refl 0
  | succ n ih =>
    intro i
    show (if kd (r i) = 3 ∧ ¬ VR r s p (r i) (s i) < 0 then 1 else 0) + usF r s p n (i + 1) ≤ n + 1
    have := ih (i + 1)
    split <;> omega
theorem uses_ok {p n m a b : Nat} {u : mS} {post : Int32 → mS → Prop} (ht : TL (u.2 3) p n) (hm : TL (u.2 3) (p + 1) m) (hl : p + n ≤ 3200) (hl2 : p + 1 + m ≤ 3200) (hab : a ≤ b) (hb : b ≤ 3200) (hp : post (nI (usF (u.2 3) (u.2 4) p (b - a) a)) u) : wp_X9_uses (nI p) (nI a) (nI b) u post := by
  have key : ∀ (d i c : Nat), i + d = b → post (nI (c + usF (u.2 3) (u.2 4) p d i)) u → mL5 (fun K => wj_X9_uses_6 K post) (d + 1) (nI p) (nI b) (nI c) (nI i) u := by
    intro d
    induction d with
    | zero =>
      intro i c hi hq
      show wj_X9_uses_6 _ post _ _ _ _ u
      refine ⟨fun _ => hq, fun h => absurd ?_ h⟩
      rw [nI_leI (by omega) (by omega)]; omega
    | succ d ih =>
      intro i c hi hq
      have hq : post (nI (c + ((if kd (u.2 3 i) = 3 ∧ ¬ VR (u.2 3) (u.2 4) p (u.2 3 i) (u.2 4 i) < 0 then 1 else 0) + usF (u.2 3) (u.2 4) p d (i + 1)))) u := hq
      have no : ¬ (kd (u.2 3 i) = 3 ∧ ¬ VR (u.2 3) (u.2 4) p (u.2 3 i) (u.2 4 i) < 0) → wj_X9_uses_54 (mL5 (fun K => wj_X9_uses_6 K post) (d + 1)) post (nI p) (nI b) (nI c) (nI i) u := by
        intro h
        rintro _ rfl
        rw [nI_1]
        rw [if_neg h] at hq
        exact ih (i + 1) c (by omega) (by rw [Nat.zero_add] at hq; exact hq)
      show wj_X9_uses_6 _ post _ _ _ _ u
      refine ⟨fun h => absurd h (by rw [nI_leI (by omega) (by omega)]; omega), fun _ => ?_⟩
      refine kind_4 (by omega) ⟨fun h3 => no (fun q => h3 q.1), fun h3 => ⟨vp_in_nI (by omega) (by omega), ?_⟩⟩
      rintro _ rfl
      refine ⟨vp_in_nI (by omega) (by omega), ?_⟩
      rintro _ rfl
      rw [nI_clamp (by omega)]
      refine variable_ok ht hm hl hl2 ⟨fun hv => no (fun q => q.2 hv), fun hv => ?_⟩
      rintro _ rfl _ rfl
      rw [nI_1, nI_1]
      rw [if_pos ⟨h3, hv⟩] at hq
      exact ih (i + 1) (c + 1) (by omega) (by rw [show c + 1 + usF (u.2 3) (u.2 4) p d (i + 1) = c + (1 + usF (u.2 3) (u.2 4) p d (i + 1)) from by omega]; exact hq)
  refine ⟨b - a + 1, ?_⟩
  exact key (b - a) a 0 (by omega) (by rw [Nat.zero_add]; exact hp)
