-- 87: the reference's use of a rule: its ends
theorem failM {c : Int32} {v : mS} (hc : ¬ c = 0) : ∃ y, FR [12] [] v y ∧ ¬ y.1 12 = 0 ∧ ∀ Q : mS → Prop, Q y → wp_X9_fails c v Q := by
  have base : wp_X9_fails c v (fun y => FR [12] [] v y ∧ ¬ y.1 12 = 0) := fails_ok hc (fun y yF ye _ => ⟨yF, ye⟩)
  exact d_wp_X9_fails base (fun y hy reb => ⟨y, hy.1, hy.2, fun Q q => reb Q q⟩)
theorem useM_fin {bi b i h m c : Nat} {bit : Int32} {z w : mS} (hbi : bi < 40) (hto : z.2 11 bi = nI b) (hib : i < b) (hb : b ≤ 3200) (hh : z.1 1 = nI h) (go : ∀ Q : mS → Prop, Q w → wp_X9_fill (nI (i + 1)) (nI h) z Q) (we : w.1 12 = 0) (w6 : w.1 6 = nI c) (c3 : c ≤ 300) (hcl : c ≤ h + m) (hl : h + m ≤ 2600) : ∃ y, FR [1] [1, 2, 13] w y ∧ y.1 1 = nI (h + m - c) ∧ (∀ l, l < c → y.2 1 (h + m - c + l) = w.2 12 l ∧ y.2 2 (h + m - c + l) = tnF (fun s x => s ^^^ x) (w.2 12) (w.2 13) bit 0 c l) ∧ (∀ l, (l < h + m - c ∨ h + m ≤ l) → y.2 1 l = w.2 1 l ∧ y.2 2 l = w.2 2 l) ∧ ∀ Q : mS → Prop, Q y → wj_X9_use_114 Q (nI bi) bit (nI (h + m)) (nI i) z := by
  have mid : wp_X9_turn_13_14 (nI 0) (nI c) bit w (fun y => FR [] [13] w y ∧ y.2 13 = tnF (fun s x => s ^^^ x) (w.2 12) (w.2 13) bit 0 c) := turn13X (by omega) (by omega) (fun y yF y13 => ⟨yF, y13⟩)
  refine d_wp_X9_turn_13_14 mid (fun y hy reb => ?_)
  obtain ⟨yF, y13⟩ := hy
  have y6 : y.1 6 = nI c := (yF.1 6 (by decide)).trans w6
  obtain ⟨x, x1, x2, x3, x4⟩ := copyX (w := mSet y 1 (nI (h + m - c))) (H := h + m - c) (c := c) (mSet_same _ _ _) ((mSet_other (by decide : (6 : Nat) ≠ 1)).trans y6) (by omega) (by omega)
  have a1 : y.2 1 = w.2 1 := yF.2 1 (by decide)
  have a2 : y.2 2 = w.2 2 := yF.2 2 (by decide)
  have a12 : y.2 12 = w.2 12 := yF.2 12 (by decide)
  refine ⟨x, (FR_set (yF.wk (by decide) (by decide)) (by decide)).tr (x1.wk (by decide) (by decide)), (x1.1 1 (by decide)).trans (mSet_same _ _ _), fun l hl' => ?_, fun l hl' => ?_, fun Q hQ => ?_⟩
  · have := x2 l hl'
    rw [mSet_arr, a12, y13] at this
    exact this
  · have := x3 l (by omega)
    rw [mSet_arr, a1, a2] at this
    exact this
  · refine ⟨vp_in_nI hbi (by omega), ?_⟩
    rintro _ rfl
    rw [nI_clamp (by omega), hto]
    refine ⟨fun _ => ?_, fun q => absurd (by rw [nI_ltI (by omega) (by omega)]; omega) q⟩
    rintro _ rfl y31 e31
    rw [hh] at e31; subst e31
    rw [nI_1]
    refine go _ ?_
    intro y34 e34
    rw [we] at e34
    refine ⟨fun _ => ?_, fun q => absurd e34 q⟩
    intro y36 e36
    rw [w6] at e36; subst e36
    refine reb _ ?_
    intro y39 e39
    rw [y6] at e39; subst e39
    rintro _ rfl _ rfl
    rw [pk_sub (by omega)]
    exact x4 Q hQ
theorem useM_bad {bi b i h m : Nat} {bit : Int32} {z w : mS} (hbi : bi < 40) (hto : z.2 11 bi = nI b) (hib : i < b) (hb : b ≤ 3200) (hh : z.1 1 = nI h) (go : ∀ Q : mS → Prop, Q w → wp_X9_fill (nI (i + 1)) (nI h) z Q) (we : ¬ w.1 12 = 0) : ∀ Q : mS → Prop, Q w → wj_X9_use_114 Q (nI bi) bit (nI (h + m)) (nI i) z := by
  intro Q hQ
  refine ⟨vp_in_nI hbi (by omega), ?_⟩
  rintro _ rfl
  rw [nI_clamp (by omega), hto]
  refine ⟨fun _ => ?_, fun q => absurd (by rw [nI_ltI (by omega) (by omega)]; omega) q⟩
  rintro _ rfl y31 e31
  rw [hh] at e31; subst e31
  rw [nI_1]
  refine go _ ?_
  intro y34 e34
  exact ⟨fun q => absurd (e34.symm.trans q) we, fun _ => hQ⟩
theorem useM_none {bi b h m : Nat} {bit : Int32} {z : mS} (hbi : bi < 40) (hto : z.2 11 bi = nI b) : ∃ y, FR [12] [] z y ∧ ¬ y.1 12 = 0 ∧ ∀ Q : mS → Prop, Q y → wj_X9_use_114 Q (nI bi) bit (nI (h + m)) (nI b) z := by
  obtain ⟨y, y1, y2, y3⟩ := failM (c := 4) (v := z) (by decide)
  refine ⟨y, y1, y2, fun Q hQ => ⟨vp_in_nI hbi (by omega), ?_⟩⟩
  rintro _ rfl
  rw [nI_clamp (by omega), hto]
  exact ⟨fun q => (Int32.lt_irrefl q).elim, fun _ => y3 Q hQ⟩
theorem useM_fuel {bi : Nat} {v : mS} (hf : v.1 15 = 0) : ∃ y, FR [12] [] v y ∧ ¬ y.1 12 = 0 ∧ ∀ Q : mS → Prop, Q y → wp_X9_use (nI bi) v Q := by
  obtain ⟨y, y1, y2, y3⟩ := failM (c := 5) (v := v) (by decide)
  refine ⟨y, y1, y2, fun Q hQ => ?_⟩
  intro x e
  rw [hf] at e
  exact ⟨fun q => absurd e q, fun _ => y3 Q hQ⟩
theorem useM_scope {bi f : Nat} {v : mS} (hf : v.1 15 = nI (f + 1)) (f8 : f < 100) (h13 : v.1 13 = nI 30) : ∃ y, FR [12, 15] [] v y ∧ y.1 15 = nI f ∧ ¬ y.1 12 = 0 ∧ ∀ Q : mS → Prop, Q y → wp_X9_use (nI bi) v Q := by
  have mid : wp_X9_scope (mSet v 15 (nI f)) (fun r w => r = 0 ∧ FR [12, 15] [] v w ∧ w.1 15 = nI f ∧ ¬ w.1 12 = 0) := scopeX (c := 30) ((mSet_other (by decide : (13 : Nat) ≠ 15)).trans h13) (by omega) (fun q => by omega) (fun _ w wF we => ⟨rfl, (FR_set FR.rf (by decide)).tr (wF.wk (by decide) (by decide)), (wF.1 15 (by decide)).trans (mSet_same _ _ _), we⟩)
  refine d_wp_X9_scope mid (fun r w hw reb => ?_)
  obtain ⟨rfl, wF, w15, we⟩ := hw
  refine ⟨w, wF, w15, we, fun Q hQ => ?_⟩
  intro y1 e1'
  rw [hf] at e1'; subst e1'
  refine ⟨fun _ => ?_, fun q => absurd q (by
    intro q
    have q : nI (f + 1) = nI 0 := q
    rw [nI_eq (by omega) (by omega)] at q
    omega)⟩
  intro y3 e3'
  rw [hf] at e3'; subst e3'
  rintro _ rfl _ rfl
  rw [nI_pred]
  refine reb _ ?_
  intro y8 e8
  exact ⟨fun q => absurd (e8.symm.trans q) we, fun _ => hQ⟩
