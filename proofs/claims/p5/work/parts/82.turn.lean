-- 82: turns of scopes, new scopes, bindings: exactly
noncomputable def tnF (op : Int32 → Int32 → Int32) (r s : Nat → Int32) (x : Int32) (a b : Nat) : Nat → Int32 := fun i => if a ≤ i ∧ i < b ∧ kd (r i) = 3 then op (s i) x else s i
theorem tnF_out {op : Int32 → Int32 → Int32} {r s : Nat → Int32} {x : Int32} {a b i : Nat} (h : i < a ∨ b ≤ i) : tnF op r s x a b i = s i := if_neg (fun q => by omega)
theorem tnF_in {op : Int32 → Int32 → Int32} {r s : Nat → Int32} {x : Int32} {a b i : Nat} (h1 : a ≤ i) (h2 : i < b) : tnF op r s x a b i = if kd (r i) = 3 then op (s i) x else s i := by
  unfold tnF
  by_cases c : kd (r i) = 3
  · rw [if_pos ⟨h1, h2, c⟩, if_pos c]
  · rw [if_neg (fun q => c q.2.2), if_neg c]
theorem tnF_0 {op : Int32 → Int32 → Int32} {r s : Nat → Int32} {x : Int32} {a : Nat} : tnF op r s x a a = s := by
  funext i
  exact if_neg (fun q => by omega)
theorem tnF_step {op : Int32 → Int32 → Int32} {r s : Nat → Int32} {x z : Int32} {a k : Nat} (hk : a ≤ k) (hz : z = if kd (r k) = 3 then op (s k) x else s k) : upd (tnF op r s x a k) k z = tnF op r s x a (k + 1) := by
  funext i
  by_cases e : i = k
  · subst e
    rw [pk_us, tnF_in hk (by omega)]
    exact hz
  · rw [pk_un e]
    by_cases c : a ≤ i ∧ i < k
    · rw [tnF_in c.1 c.2, tnF_in c.1 (by omega)]
    · rw [tnF_out (by omega), tnF_out (by omega)]
theorem tnF_no {op : Int32 → Int32 → Int32} {r s : Nat → Int32} {x : Int32} {a k : Nat} (h : ¬ kd (r k) = 3) : tnF op r s x a (k + 1) = tnF op r s x a k := by
  funext i
  by_cases e : i = k
  · subst e
    rw [tnF_out (b := i) (by omega)]
    exact if_neg (fun q => h q.2.2)
  · by_cases c : a ≤ i ∧ i < k
    · rw [tnF_in c.1 c.2, tnF_in c.1 (by omega)]
    · rw [tnF_out (by omega), tnF_out (by omega)]
theorem mPut_row {w : mS} {k i : Nat} {v : Int32} : (mPut w k i v).2 k = upd (w.2 k) i v := mPut_same _ _ _ _
theorem turn2X {a b : Nat} {x : Int32} {u : mS} {post : mS → Prop} (hab : a ≤ b) (hb : b ≤ 2600) (hp : ∀ w, FR [] [2] u w → w.2 2 = tnF (fun s x => s ^^^ x) (u.2 1) (u.2 2) x a b → post w) : wp_X9_turn_2_3 (nI a) (nI b) x u post := by
  refine mL4_in (fun x4 x5 x6 w => x4 = nI b ∧ x5 = x ∧ ∃ k, x6 = nI k ∧ a ≤ k ∧ k ≤ b ∧ FR [] [2] u w ∧ w.2 2 = tnF (fun s x => s ^^^ x) (u.2 1) (u.2 2) x a k) (fun _ _ x6 _ => b - x6.toNatClampNeg) ?_ _ _ _ _ ⟨rfl, rfl, a, rfl, Nat.le_refl _, hab, FR.rf, tnF_0.symm⟩
  rintro K x4 x5 x6 w ⟨rfl, rfl, k, rfl, hak, hk, hF, hw⟩ ih
  rcases Nat.lt_or_ge k b with hlt | hge
  · have r1 : w.2 1 = u.2 1 := hF.2 1 (by decide)
    have wk : w.2 2 k = u.2 2 k := by rw [hw, tnF_out (by omega)]
    have go : ∀ z, z = (if kd (u.2 1 k) = 3 then (u.2 2 k) ^^^ x5 else u.2 2 k) → wj_X9_turn_2_3_37 K post (nI b) x5 (nI k) z (nI k) w := by
      intro z hz
      refine ⟨vp_in_nI (by omega) (by omega), ?_⟩
      rintro _ rfl _ rfl
      rw [nI_1]
      refine ih _ _ _ _ ⟨rfl, rfl, k + 1, rfl, by omega, by omega, FR_put hF (by decide), ?_⟩ ?_
      · rw [nI_clamp (by omega), mPut_row, hw]
        exact tnF_step hak hz
      · rw [nI_clamp (by omega), nI_clamp (by omega)]; omega
    refine ⟨fun h => absurd h (by rw [nI_leI (by omega) (by omega)]; omega), fun _ => kind_2 (by omega) ⟨fun n3 => ⟨vp_in_nI (by omega) (by omega), ?_⟩, fun n3 => ⟨vp_in_nI (by omega) (by omega), ?_⟩⟩⟩
    · rintro _ rfl
      rw [r1] at n3
      refine go _ ?_
      rw [nI_clamp (by omega), wk, if_neg n3]
    · rintro _ rfl _ rfl
      rw [r1] at n3
      refine go _ ?_
      rw [nI_clamp (by omega), wk, if_pos n3]
  · have : k = b := by omega
    subst this
    exact ⟨fun _ => hp w hF hw, fun h => absurd (Int32.le_refl _) h⟩
theorem turn13X {a b : Nat} {x : Int32} {u : mS} {post : mS → Prop} (hab : a ≤ b) (hb : b ≤ 310) (hp : ∀ w, FR [] [13] u w → w.2 13 = tnF (fun s x => s ^^^ x) (u.2 12) (u.2 13) x a b → post w) : wp_X9_turn_13_14 (nI a) (nI b) x u post := by
  refine mL4_in (fun x4 x5 x6 w => x4 = nI b ∧ x5 = x ∧ ∃ k, x6 = nI k ∧ a ≤ k ∧ k ≤ b ∧ FR [] [13] u w ∧ w.2 13 = tnF (fun s x => s ^^^ x) (u.2 12) (u.2 13) x a k) (fun _ _ x6 _ => b - x6.toNatClampNeg) ?_ _ _ _ _ ⟨rfl, rfl, a, rfl, Nat.le_refl _, hab, FR.rf, tnF_0.symm⟩
  rintro K x4 x5 x6 w ⟨rfl, rfl, k, rfl, hak, hk, hF, hw⟩ ih
  rcases Nat.lt_or_ge k b with hlt | hge
  · have r1 : w.2 12 = u.2 12 := hF.2 12 (by decide)
    have wk : w.2 13 k = u.2 13 k := by rw [hw, tnF_out (by omega)]
    have go : ∀ z, z = (if kd (u.2 12 k) = 3 then (u.2 13 k) ^^^ x5 else u.2 13 k) → wj_X9_turn_13_14_37 K post (nI b) x5 (nI k) z (nI k) w := by
      intro z hz
      refine ⟨vp_in_nI (by omega) (by omega), ?_⟩
      rintro _ rfl _ rfl
      rw [nI_1]
      refine ih _ _ _ _ ⟨rfl, rfl, k + 1, rfl, by omega, by omega, FR_put hF (by decide), ?_⟩ ?_
      · rw [nI_clamp (by omega), mPut_row, hw]
        exact tnF_step hak hz
      · rw [nI_clamp (by omega), nI_clamp (by omega)]; omega
    refine ⟨fun h => absurd h (by rw [nI_leI (by omega) (by omega)]; omega), fun _ => kind_13 (by omega) ⟨fun n3 => ⟨vp_in_nI (by omega) (by omega), ?_⟩, fun n3 => ⟨vp_in_nI (by omega) (by omega), ?_⟩⟩⟩
    · rintro _ rfl
      rw [r1] at n3
      refine go _ ?_
      rw [nI_clamp (by omega), wk, if_neg n3]
    · rintro _ rfl _ rfl
      rw [r1] at n3
      refine go _ ?_
      rw [nI_clamp (by omega), wk, if_pos n3]
  · have : k = b := by omega
    subst this
    exact ⟨fun _ => hp w hF hw, fun h => absurd (Int32.le_refl _) h⟩
theorem giveX {a b : Nat} {x : Int32} {u : mS} {post : mS → Prop} (hab : a ≤ b) (hb : b ≤ 2600) (hp : ∀ w, FR [] [2] u w → w.2 2 = tnF (fun s x => s ||| x) (u.2 1) (u.2 2) x a b → post w) : wp_X9_give (nI a) (nI b) x u post := by
  refine mL4_in (fun x4 x5 x6 w => x4 = nI b ∧ x5 = x ∧ ∃ k, x6 = nI k ∧ a ≤ k ∧ k ≤ b ∧ FR [] [2] u w ∧ w.2 2 = tnF (fun s x => s ||| x) (u.2 1) (u.2 2) x a k) (fun _ _ x6 _ => b - x6.toNatClampNeg) ?_ _ _ _ _ ⟨rfl, rfl, a, rfl, Nat.le_refl _, hab, FR.rf, tnF_0.symm⟩
  rintro K x4 x5 x6 w ⟨rfl, rfl, k, rfl, hak, hk, hF, hw⟩ ih
  rcases Nat.lt_or_ge k b with hlt | hge
  · have r1 : w.2 1 = u.2 1 := hF.2 1 (by decide)
    have wk : w.2 2 k = u.2 2 k := by rw [hw, tnF_out (by omega)]
    have go : ∀ z, z = (if kd (u.2 1 k) = 3 then (u.2 2 k) ||| x5 else u.2 2 k) → wj_X9_give_47 K post (nI b) x5 (nI k) z (nI k) w := by
      intro z hz
      refine ⟨vp_in_nI (by omega) (by omega), ?_⟩
      rintro _ rfl _ rfl
      rw [nI_1]
      refine ih _ _ _ _ ⟨rfl, rfl, k + 1, rfl, by omega, by omega, FR_put hF (by decide), ?_⟩ ?_
      · rw [nI_clamp (by omega), mPut_row, hw]
        exact tnF_step hak hz
      · rw [nI_clamp (by omega), nI_clamp (by omega)]; omega
    refine ⟨fun h => absurd h (by rw [nI_leI (by omega) (by omega)]; omega), fun _ => kind_2 (by omega) ⟨fun n3 => ⟨vp_in_nI (by omega) (by omega), ?_⟩, fun n3 => ⟨vp_in_nI (by omega) (by omega), ?_⟩⟩⟩
    · rintro _ rfl
      rw [r1] at n3
      refine go _ ?_
      rw [nI_clamp (by omega), wk, if_neg n3]
    · rintro _ rfl _ rfl
      rw [r1] at n3
      refine go _ ?_
      rw [nI_clamp (by omega), wk, if_pos n3]
  · have : k = b := by omega
    subst this
    exact ⟨fun _ => hp w hF hw, fun h => absurd (Int32.le_refl _) h⟩
/-- the class's turn of a tree -/
theorem turnA {a b p : Nat} {sc : Int32} {u : mS} {post : mS → Prop} (hA : AR u a b) (hap : a ≤ p) (hpb : p < b) (hp : ∀ w, FR [] [2] u w → w.2 2 = tnF (fun s x => s ^^^ x) (ra u) (u.2 2) ((1 : Int32) <<< (sc &&& 31)) p (p + tl (ra u) p) → post w) : wp_X5_turnScope (nI p) sc u post := by
  have hA' := hA
  obtain ⟨⟨T, hT, hbT, hT3⟩, hc⟩ := hA
  have te := (hc p hap hpb).2.2.1
  refine after_ok hA' hap hpb ⟨fun _ => ?_, fun q => absurd (nI_pos' (by omega)) q⟩
  obtain ⟨e, ee⟩ : ∃ e, e = p + tl (ra u) p := ⟨_, rfl⟩
  rw [← ee] at hp ⊢
  have main : ∀ (d k : Nat) (w : mS), k + d = e → p ≤ k → FR [] [2] u w → w.2 2 = tnF (fun s x => s ^^^ x) (ra u) (u.2 2) ((1 : Int32) <<< (sc &&& 31)) p k → mL4 (fun K => wj_X5_turnScope_17 K post) (d + 1) sc (nI e) (nI k) w := by
    intro d
    induction d with
    | zero =>
      intro k w hk hpk hF hw
      have : k = e := by omega
      subst this
      exact ⟨fun _ => hp w hF hw, fun q => absurd (Int32.le_refl _) q⟩
    | succ d ih =>
      intro k w hk hpk hF hw
      refine ⟨fun q => absurd q (by rw [nI_leI (by omega) (by omega)]; omega), fun _ => ?_⟩
      intro y5 e5
      rw [hF.1 1 (by decide), hT] at e5; subst e5
      refine ⟨fun q => absurd q (by rw [nI_leI (by omega) (by omega)]; omega), fun _ => ⟨fun q => absurd q (by rw [show (3000 : Int32) = nI 3000 from rfl, nI_leI (by omega) (by omega)]; omega), fun _ => ⟨vp_in_nI (by omega) (by omega), ?_⟩⟩⟩
      rintro _ rfl
      rw [nI_clamp (by omega), hF.2 1 (by decide)]
      refine isName_ok (hc k (by omega) (by omega)).1 (fun k3 => ⟨fun q => absurd q (by decide), fun _ => ⟨vp_in_nI (by omega) (by omega), ?_⟩⟩) (fun k3 => ⟨fun _ => ?_, fun q => absurd rfl q⟩)
      · rintro _ rfl _ rfl _ rfl
        refine ⟨vp_in_nI (by omega) (by omega), ?_⟩
        rintro _ rfl _ rfl
        rw [nI_1]
        refine ih (k + 1) _ (by omega) (by omega) (FR_put hF (by decide)) ?_
        rw [mPut_row, hw]
        refine tnF_step hpk ?_
        rw [if_pos k3, tnF_out (by omega)]
      · rintro _ rfl
        rw [nI_1]
        refine ih (k + 1) w (by omega) (by omega) hF ?_
        rw [hw, tnF_no k3]
  exact ⟨_, main (e - p) p u (by omega) (Nat.le_refl _) FR.rf tnF_0.symm⟩
/-- the class's failing -/
theorem failA {c : Int32} {u : mS} {post : mS → Prop} (hc : ¬ c = 0) (hp : ∀ v, FR [7] [] u v → ¬ v.1 7 = 0 → post v) : wp_X2_fail c u post := by
  intro y e
  refine ⟨fun q => hp u FR.rf (by rw [← e]; exact q), fun _ => ?_⟩
  rintro _ rfl
  exact hp _ (FR_set FR.rf (by decide)) (by rw [mSet_same]; exact hc)
theorem newScopeA {c : Nat} {u : mS} {post : Int32 → mS → Prop} (h8 : u.1 8 = nI c) (hc : c ≤ 30) (h1 : c < 30 → ∀ v, FR [8] [] u v → v.1 8 = nI (c + 1) → post (nI c) v) (h0 : c = 30 → ∀ v, FR [7] [] u v → ¬ v.1 7 = 0 → post (-1) v) : wp_X0_newScope u post := by
  intro y1 e1
  rw [h8] at e1; subst e1
  refine ⟨fun q => ?_, fun q => ?_⟩
  · rw [show (30 : Int32) = nI 30 from rfl, nI_ltI (by omega) (by omega)] at q
    intro y3 e3
    rw [h8] at e3; subst e3
    rintro _ rfl _ rfl _ rfl _ rfl
    rw [mSet_same, nI_1, nI_pred]
    exact h1 q _ (FR_set FR.rf (by decide)) (mSet_same _ _ _)
  · rw [show (30 : Int32) = nI 30 from rfl, nI_ltI (by omega) (by omega)] at q
    exact failA (by decide) (fun v vF ve => h0 (by omega) v vF ve)
theorem scopeX {c : Nat} {u : mS} {post : Int32 → mS → Prop} (h13 : u.1 13 = nI c) (hc : c ≤ 30) (h1 : c < 30 → ∀ v, FR [13] [] u v → v.1 13 = nI (c + 1) → post ((1 : Int32) <<< (nI c &&& 31)) v) (h0 : c = 30 → ∀ v, FR [12] [] u v → ¬ v.1 12 = 0 → post 0 v) : wp_X9_scope u post := by
  intro y1 e1
  rw [h13] at e1; subst e1
  refine ⟨fun q => ?_, fun q => ?_⟩
  · have c30 : c < 30 := by
      rcases Nat.lt_or_ge c 30 with z | z
      · exact z
      · exact absurd (by rw [show c = 30 from by omega]; rfl) q
    intro y3 e3
    rw [h13] at e3; subst e3
    rintro _ rfl _ rfl _ rfl _ rfl _ rfl
    rw [mSet_same, nI_1, nI_pred]
    exact h1 c30 _ (FR_set FR.rf (by decide)) (mSet_same _ _ _)
  · have c30 : c = 30 := by
      rw [show (30 : Int32) = nI 30 from rfl, nI_eq (by omega) (by omega)] at q
      exact q
    exact fails_ok (by decide) (fun v hv he _ => h0 c30 v hv he)
