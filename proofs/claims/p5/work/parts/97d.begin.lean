-- 97d: the reference's first bindings
def snm (v : mS) (i : Nat) : Int32 := if i = 0 then 206 else if i = 1 then 294 else if i = 2 then 17 else if i = 3 then 403 else if i = 4 then 40043 else if i = 5 then 40042 else if i = 6 then 40061 else if i = 7 then 40060 else v.2 5 (i - 8)
def sme (i : Nat) : Int32 := if i < 4 then 0 else if i < 8 then 1 else 3
def sfr (i : Nat) : Int32 := if i < 4 then nI i else if i < 8 then 0 else nI (120 * (i - 8))
def PBG (v : mS) (n : Nat) (w : mS) : Prop := FR [4] [7, 8, 9, 10, 11] v w ∧ w.1 4 = nI n ∧ ∀ i, i < n → w.2 7 i = snm v i ∧ w.2 8 i = 0 ∧ w.2 9 i = sme i ∧ w.2 10 i = sfr i ∧ (8 ≤ i → w.2 11 i = v.2 6 (i - 8))
theorem bgStep {v w : mS} {n : Nat} {x1 x3 x4 x5 : Int32} {post : mS → Prop} (h : PBG v n w) (hn : n < 40) (h1 : x1 = snm v n) (h3 : x3 = sme n) (h4 : x4 = sfr n) (h5 : 8 ≤ n → x5 = v.2 6 (n - 8)) (hp : ∀ w', PBG v (n + 1) w' → post w') : wp_X9_bind x1 0 x3 x4 x5 w post := by
  obtain ⟨a1, a2, a3⟩ := h
  refine bindX a2 (by omega) (fun _ w' wF w4 w7 w8 w9 w10 w11 => hp w' ⟨a1.tr wF, w4, fun i hi => ?_⟩) (fun e => by omega)
  rw [w7, w8, w9, w10, w11]
  by_cases c : i = n
  · subst c
    rw [pk_us, pk_us, pk_us, pk_us, pk_us]
    exact ⟨h1, rfl, h3, h4, h5⟩
  · rw [pk_un c, pk_un c, pk_un c, pk_un c, pk_un c]
    exact a3 i (by omega)
theorem beginX {v : mS} {o : Nat} (ho : o ≤ 4) (h3 : v.1 3 = nI o) : ∃ w, FR [4, 5] [7, 8, 9, 10, 11] v w ∧ w.1 4 = nI (8 + o) ∧ w.1 5 = nI (8 + o) ∧ (∀ i, i < 8 + o → w.2 7 i = snm v i ∧ w.2 8 i = 0 ∧ w.2 9 i = sme i ∧ w.2 10 i = sfr i ∧ (8 ≤ i → w.2 11 i = v.2 6 (i - 8))) ∧ ∀ Q : mS → Prop, Q w → wp_X9_beginning v Q := by
  have base : wp_X9_beginning v (fun w => FR [4, 5] [7, 8, 9, 10, 11] v w ∧ w.1 4 = nI (8 + o) ∧ w.1 5 = nI (8 + o) ∧ (∀ i, i < 8 + o → w.2 7 i = snm v i ∧ w.2 8 i = 0 ∧ w.2 9 i = sme i ∧ w.2 10 i = sfr i ∧ (8 ≤ i → w.2 11 i = v.2 6 (i - 8)))) := by
    rintro _ rfl
    have b0 : PBG v 0 (mSet v 4 0) := ⟨FR_set FR.rf (by decide), mSet_same _ _ _, fun i hi => by omega⟩
    refine bgStep b0 (by omega) rfl rfl rfl (fun z => by omega) (fun w1 b1 => ?_)
    refine bgStep b1 (by omega) rfl rfl rfl (fun z => by omega) (fun w2 b2 => ?_)
    refine bgStep b2 (by omega) rfl rfl rfl (fun z => by omega) (fun w3 b3 => ?_)
    refine bgStep b3 (by omega) rfl rfl rfl (fun z => by omega) (fun w4 b4 => ?_)
    refine bgStep b4 (by omega) rfl rfl rfl (fun z => by omega) (fun w5 b5 => ?_)
    refine bgStep b5 (by omega) rfl rfl rfl (fun z => by omega) (fun w6 b6 => ?_)
    refine bgStep b6 (by omega) rfl rfl rfl (fun z => by omega) (fun w7 b7 => ?_)
    refine bgStep b7 (by omega) rfl rfl rfl (fun z => by omega) (fun w8 b8 => ?_)
    have main : ∀ (dd k : Nat) (w : mS), k + dd = o → PBG v (8 + k) w → mL2 (fun K => wj_X9_beginning_90 K (fun w => FR [4, 5] [7, 8, 9, 10, 11] v w ∧ w.1 4 = nI (8 + o) ∧ w.1 5 = nI (8 + o) ∧ (∀ i, i < 8 + o → w.2 7 i = snm v i ∧ w.2 8 i = 0 ∧ w.2 9 i = sme i ∧ w.2 10 i = sfr i ∧ (8 ≤ i → w.2 11 i = v.2 6 (i - 8))))) (dd + 1) (nI k) w := by
      intro dd
      induction dd with
      | zero =>
        intro k w hk hb
        have : k = o := by omega
        subst this
        obtain ⟨a1, a2, a3⟩ := hb
        intro y18 e18
        rw [a1.1 3 (by decide), h3] at e18; subst e18
        refine ⟨fun _ => ?_, fun z => absurd (Int32.le_refl _) z⟩
        intro y20 e20
        rw [a2] at e20; subst e20
        rintro _ rfl
        exact ⟨FR_set (a1.wk (by decide) (by decide)) (by decide), (mSet_other (by decide : (4 : Nat) ≠ 5)).trans a2, mSet_same _ _ _, a3⟩
      | succ dd ih =>
        intro k w hk hb
        have hb' := hb
        obtain ⟨a1, a2, a3⟩ := hb'
        intro y18 e18
        rw [a1.1 3 (by decide), h3] at e18; subst e18
        refine ⟨fun z => absurd z (by rw [nI_leI (by omega) (by omega)]; omega), fun _ => ⟨vp_in_nI (by omega) (by omega), ?_⟩⟩
        rintro _ rfl _ rfl
        refine ⟨vp_in_nI (by omega) (by omega), ?_⟩
        rintro _ rfl
        rw [nI_clamp (by omega), a1.2 5 (by decide), a1.2 6 (by decide), show (120 : Int32) = nI 120 from rfl, pk_mul]
        refine bgStep hb (by omega) ?_ ?_ ?_ (fun _ => by rw [show 8 + k - 8 = k from by omega]) (fun w' hw' => ?_)
        · unfold snm
          rw [if_neg (by omega), if_neg (by omega), if_neg (by omega), if_neg (by omega), if_neg (by omega), if_neg (by omega), if_neg (by omega), if_neg (by omega), show 8 + k - 8 = k from by omega]
        · unfold sme
          rw [if_neg (by omega), if_neg (by omega)]
        · unfold sfr
          rw [if_neg (by omega), if_neg (by omega), show 8 + k - 8 = k from by omega]
        · rintro _ rfl
          rw [nI_1]
          exact ih (k + 1) w' (by omega) (by rw [show 8 + (k + 1) = 8 + k + 1 from by omega]; exact hw')
    exact ⟨_, main o 0 w8 (by omega) b8⟩
  exact d_wp_X9_beginning base (fun w hw reb => ⟨w, hw.1, hw.2.1, hw.2.2.1, hw.2.2.2, fun Q q => reb Q q⟩)
