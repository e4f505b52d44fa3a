-- 17: read of the reference
def RDI (r : Nat → Int32) (n o : Nat) (b : Int32) : Prop := dep r 0 n = (o : Int) ∧ (∀ k, 0 < k → k < n → 0 < dep r 0 k) ∧ (∀ k, k < n → TOK (r k)) ∧ (∀ k, k < n → kd (r k) = 6 → 0 < k ∧ ¬ kd (r (k - 1)) = 1 ∧ ¬ kd (r (k - 1)) = 6) ∧ (n = 0 → b = 0) ∧ (0 < n → b = kd (r (n - 1)))
theorem TOK_ne0 {x : Int32} (h : TOK x) : ¬ kd x = 0 := by
  obtain ⟨k, h1, h2, e⟩ := TOK_kd h
  rw [e, show (0 : Int32) = nI 0 from rfl, nI_eq (by omega) (by omega)]
  omega
theorem RDI_step {r : Nat → Int32} {n o p : Nat} {b v : Int32} (h : RDI r n o b) (hv : TOK v) (hf : FIT (kd v) o b) (hp : (p : Int) = o + sg v) : RDI (upd r n v) (n + 1) p (kd v) := by
  obtain ⟨h1, h2, h3, h4, h5, h6⟩ := h
  have ag : ∀ k, k < n → upd r n v (0 + k) = r (0 + k) := fun k hk => pk_un (by omega)
  have ag' : ∀ k, k < n → upd r n v k = r k := fun k hk => pk_un (by omega)
  have dc : ∀ k, k ≤ n → dep (upd r n v) 0 k = dep r 0 k := fun k hk => dep_copy k (fun j hj => by rw [ag j (by omega)])
  have hb0 : 0 < n → ¬ b = 0 := fun hn => by rw [h6 hn]; exact TOK_ne0 (h3 (n - 1) (by omega))
  have en : upd r n v n = v := pk_us
  refine ⟨?_, fun k hk hkn => ?_, fun k hk => ?_, fun k hk hk6 => ?_, fun h => by omega, fun _ => ?_⟩
  · rw [dep_s, dc n (Nat.le_refl n), h1, Nat.zero_add, en, hp]
  · rw [dc k (by omega)]
    rcases Nat.lt_or_ge k n with c | c
    · exact h2 k hk c
    · have : k = n := by omega
      subst this
      rw [h1]
      have hb := hb0 hk
      rcases hf with ⟨_, q, _⟩ | ⟨_, q⟩ | ⟨_, q, _⟩ | ⟨_, _, _, q⟩
      · rcases q with q | q
        · omega
        · exact absurd q hb
      · omega
      · omega
      · rcases q with q | q
        · omega
        · exact absurd q hb
  · rcases Nat.lt_or_ge k n with c | c
    · rw [ag' k c]; exact h3 k c
    · have : k = n := by omega
      subst this
      rw [en]; exact hv
  · rcases Nat.lt_or_ge k n with c | c
    · rw [ag' k c] at hk6
      obtain ⟨a1, a2, a3⟩ := h4 k c hk6
      rw [ag' (k - 1) (by omega)]
      exact ⟨a1, a2, a3⟩
    · have : k = n := by omega
      subst this
      rw [en] at hk6
      have hb : ¬ b = 1 ∧ ¬ b = 6 ∧ 0 < o := by
        rcases hf with ⟨q, _⟩ | ⟨q, _⟩ | ⟨_, q1, q2, q3⟩ | ⟨_, _, q, _⟩
        · rw [hk6] at q; exact absurd q (by decide)
        · rw [hk6] at q; exact absurd q (by decide)
        · exact ⟨q2, q3, q1⟩
        · exact absurd hk6 q
      have k0 : 0 < k := by
        rcases Nat.eq_zero_or_pos k with c | c
        · subst c
          have : dep r 0 0 = 0 := rfl
          omega
        · exact c
      rw [ag' (k - 1) (by omega), ← h6 k0]
      exact ⟨k0, hb.1, hb.2.1⟩
  · rw [show n + 1 - 1 = n from by omega, en]
/-- the row holds one whole tree of n tokens, at its end -/
def ROW1 (w : mS) (n : Nat) : Prop := 0 < n ∧ n ≤ 120 ∧ w.1 1 = nI (2600 - n) ∧ TL (w.2 1) (2600 - n) n ∧ (∀ k, k < n → TOK (w.2 1 (2600 - n + k))) ∧ ∀ k, k < n → kd (w.2 1 (2600 - n + k)) = 6 → 0 < k ∧ ¬ kd (w.2 1 (2600 - n + (k - 1))) = 1 ∧ ¬ kd (w.2 1 (2600 - n + (k - 1))) = 6
theorem prev_i (M : Nat) : (M = 0 ∧ nI M + (-1 : Int32) < 0) ∨ ∃ K, M = K + 1 ∧ nI M + (-1 : Int32) = nI K := by
  cases M with
  | zero => exact Or.inl ⟨rfl, by decide⟩
  | succ K => exact Or.inr ⟨K, rfl, pk_m1 K⟩
theorem readC {n : Nat} {r : Nat → Int32} {v : mS} {post : Int32 → mS → Prop} (hn : n ≤ 120) (hh : v.1 1 = nI (2600 - n)) (hp : ∀ w, FR [] [1, 2] v w → (∀ j, j < n → w.2 1 (2600 - n + j) = r j) → post (-1) w) : ∀ (k : Nat) (i : Int32) (w : mS), k ≤ n → ((k = 0 ∧ i < 0) ∨ ∃ K, k = K + 1 ∧ i = nI K) → FR [] [1, 2] v w → (∀ j, j < n → w.2 1 j = r j) → (∀ j, k ≤ j → j < n → w.2 1 (2600 - n + j) = r j) → mL2 (fun K => wj_X9_read_164 K post) (k + 1) i w := by
  intro k
  induction k with
  | zero =>
    intro i w _ hi hF ho hc
    have hi : i < 0 := by
      rcases hi with ⟨_, h⟩ | ⟨K, h, _⟩
      · exact h
      · omega
    show wj_X9_read_164 _ post i w
    exact ⟨fun _ => hp w hF (fun j hj => hc j (by omega) hj), fun h => absurd hi h⟩
  | succ k ih =>
    intro i w hk hi hF ho hc
    have hi : i = nI k := by
      rcases hi with ⟨h, _⟩ | ⟨K, h, e⟩
      · omega
      · have : K = k := by omega
        rw [← this]; exact e
    subst hi
    have hw : w.1 1 = nI (2600 - n) := (hF.1 1 (by decide)).trans hh
    show wj_X9_read_164 _ post (nI k) w
    refine ⟨fun h => absurd h (nI_pos (by omega)), fun _ => ?_⟩
    intro y30 e30
    rw [hw] at e30; subst e30
    rintro _ rfl
    rw [nI_add]
    refine ⟨vp_in_nI (by omega) (by omega), ?_⟩
    rintro _ rfl
    refine ⟨vp_in_nI (by omega) (by omega), ?_⟩
    rintro _ rfl y34 e34
    have e34 : y34 = nI (2600 - n) := e34.trans hw
    subst e34
    rintro _ rfl
    rw [nI_add]
    refine ⟨vp_in_nI (by omega) (by omega), ?_⟩
    rintro _ rfl _ rfl
    rw [nI_clamp (by omega), nI_clamp (by omega)]
    refine ih _ _ (by omega) (prev_i k) (FR_put (FR_put hF (by decide)) (by decide)) (fun j hj => ?_) (fun j hj hjn => ?_)
    · rw [mPut_other (by decide : (1 : Nat) ≠ 2), mPut_same, pk_un (by omega)]
      exact ho j hj
    · rw [mPut_other (by decide : (1 : Nat) ≠ 2), mPut_same]
      by_cases e : j = k
      · subst e; rw [pk_us]; exact ho j hjn
      · rw [pk_un (by omega)]; exact hc j (by omega) hjn
theorem read_ok {len : Nat} {u : mS} {post : Int32 → mS → Prop} (hl : u.1 0 = nI len) (hlen : len ≤ 120) (hF : ∀ p w, p ≤ 120 → FR [1] [1, 2] u w → post (nI p) w) (hS : ∀ n w, FR [1] [1, 2] u w → ROW1 w n → post (-1) w) : wp_X9_read u post := by
  refine mL5_in (fun a1 a2 a3 a4 w => ∃ n o i : Nat, a1 = nI n ∧ a2 = nI o ∧ a4 = nI i ∧ i ≤ len ∧ n ≤ i ∧ o ≤ 8 ∧ RDI (w.2 1) n o a3 ∧ FR [] [1] u w) (fun _ _ _ a4 _ => 200 - a4.toNatClampNeg) ?_ 0 0 0 0 u ⟨0, 0, 0, rfl, rfl, rfl, by omega, by omega, by omega, ⟨rfl, fun k _ h => by omega, fun k h => by omega, fun k h => by omega, fun _ => rfl, fun h => by omega⟩, FR.rf⟩
  rintro K a1 a2 a3 a4 w ⟨n, o, i, rfl, rfl, rfl, hi, hni, ho, hR, hw⟩ ih
  have hwl : w.1 0 = nI len := (hw.1 0 (by decide)).trans hl
  have hF1 : FR [1] [1, 2] u w := hw.wk (by decide) (by decide)
  have fault : post (nI i) w := hF i w (by omega) hF1
  have ex145 : wj_X9_read_145 post w := by
    intro y e
    rw [hwl] at e; subst e
    exact hF len w hlen hF1
  intro y1 e1
  rw [hwl] at e1; subst e1
  refine ⟨fun hge => ?_, fun hlt => ?_⟩
  · refine ⟨fun _ => ex145, fun h0 => ⟨fun hb => ?_, fun _ => ex145⟩⟩
    have ho0 : o = 0 := by
      have h0 : ¬ nI 0 < nI o := h0
      rw [nI_ltI (by omega) (by omega)] at h0
      omega
    subst ho0
    have hn0 : 0 < n := by
      rcases Nat.eq_zero_or_pos n with c | c
      · exact absurd (hR.2.2.2.2.1 c) hb
      · exact c
    rintro y5 rfl u6 rfl y7 rfl
    rw [show (2600 : Int32) = nI 2600 from rfl, pk_sub (by omega)]
    obtain ⟨m, rfl⟩ : ∃ m, n = m + 1 := ⟨n - 1, by omega⟩
    rw [nI_pred]
    refine ⟨m + 1 + 1, ?_⟩
    refine readC (n := m + 1) (r := w.2 1) (v := mSet w 1 (nI (2600 - (m + 1)))) (by omega) (mSet_same _ _ _) (fun x hx hc => ?_) (m + 1) (nI m) _ (Nat.le_refl _) (Or.inr ⟨m, rfl, rfl⟩) FR.rf (fun j _ => rfl) (fun j h1 h2 => by omega)
    have hx1 : x.1 1 = nI (2600 - (m + 1)) := (hx.1 1 (by decide)).trans (mSet_same _ _ _)
    have hFx : FR [1] [1, 2] u x := by
      refine FR.tr (FR_set hF1 (by decide)) (hx.wk (by decide) (by decide))
    obtain ⟨d1, d2, d3, d4, -, -⟩ := hR
    have agk : ∀ k, k < m + 1 → x.2 1 (2600 - (m + 1) + k) = w.2 1 (0 + k) := fun k hk => by rw [Nat.zero_add]; exact hc k hk
    refine hS (m + 1) x hFx ⟨by omega, by omega, hx1, ?_, fun k hk => ?_, fun k hk hk6 => ?_⟩
    · refine TL_copy (r := w.2 1) (i := 0) (fun k hk => by rw [agk k hk]) ⟨by omega, by rw [d1]; exact Int.le_refl 0, d2⟩
    · rw [hc k hk]; exact d3 k hk
    · rw [hc k hk] at hk6
      obtain ⟨f1, f2, f3⟩ := d4 k hk hk6
      rw [hc (k - 1) (by omega)]
      exact ⟨f1, f2, f3⟩
  · have hil : i < len := by
      rw [nI_leI (by omega) (by omega)] at hlt; omega
    have el : lk (w.2 0) len i = w.2 0 i := by unfold lk; rw [if_pos hil]
    have mu : ∀ j : Nat, i < j → j ≤ len → 200 - (nI j).toNatClampNeg < 200 - (nI i).toNatClampNeg := by
      intro j h1 h2
      rw [nI_clamp (by omega), nI_clamp (by omega)]; omega
    refine look_ok hwl hlen (by omega) ?_
    rw [el]
    refine ⟨fun h32 => ?_, fun h32 => ?_⟩
    · refine token_ok hwl hlen hil (fun m hm => ?_)
      have hb := TK_len hil hm
      refine ⟨fun h0 => ?_, fun h0 => ?_⟩
      · have m0 : m = 0 := by
          have h0 : nI m ≤ nI 0 := h0
          rw [nI_leI (by omega) (by omega)] at h0; omega
        subst m0
        rintro _ rfl
        exact ⟨fun _ => fault, fun q => absurd rfl q⟩
      · have m0 : 1 ≤ m := by
          have h0 : ¬ nI m ≤ nI 0 := h0
          rw [nI_leI (by omega) (by omega)] at h0; omega
        refine code_tok hwl hlen hil m0 hm (fun v hv => ?_)
        intro y17 e17
        have e17 : y17 = kd v := e17
        subst e17
        refine ⟨fun q => absurd q (by rw [show (0 : Int32) = nI 0 from rfl, nI_eq (by omega) (by omega)]; omega), fun _ => ?_⟩
        refine fits_ok (by omega) (fun hf => ⟨fun _ => ?_, fun q => absurd q (by decide)⟩) (fun hf => ⟨fun q => absurd rfl q, fun _ => fault⟩)
        refine ⟨vp_in_nI (by omega) (by omega), ?_⟩
        rintro _ rfl _ rfl
        rw [nI_clamp (by omega), nI_1]
        have go : ∀ p : Nat, (p : Int) = o + sg v → p ≤ 8 → wj_X9_read_123 K post (nI (n + 1)) (nI i) (nI m) (kd v) (nI p) (mPut w 1 n v) := by
          intro p hp hp8
          rintro _ rfl
          rw [nI_add]
          refine ih _ _ _ _ _ ⟨n + 1, p, i + m, rfl, rfl, rfl, hb.1, by omega, hp8, ?_, FR_put hw (by decide)⟩ (mu _ (by omega) hb.1)
          rw [mPut_same]
          exact RDI_step hR hv hf hp
        refine ⟨fun k1 => ⟨fun k2 => ?_, fun k2 => ?_⟩, fun k1 => ?_⟩
        · exact go o (by rw [sg_else k1 k2]; omega) ho
        · rintro _ rfl
          have o0 : 0 < o := by
            rcases hf with ⟨q, _⟩ | ⟨_, q⟩ | ⟨q, _⟩ | ⟨_, q, _⟩
            · exact absurd q k1
            · exact q
            · rw [k2] at q; exact absurd q (by decide)
            · exact absurd k2 q
          obtain ⟨o', rfl⟩ : ∃ o', o = o' + 1 := ⟨o - 1, by omega⟩
          rw [nI_pred]
          exact go o' (by rw [sg_close k2]; omega) (by omega)
        · rintro _ rfl
          rw [nI_1]
          have o7 : o ≤ 7 := by
            rcases hf with ⟨_, _, q⟩ | ⟨q, _⟩ | ⟨q, _⟩ | ⟨q, _⟩
            · exact q
            · rw [k1] at q; exact absurd q (by decide)
            · rw [k1] at q; exact absurd q (by decide)
            · exact absurd k1 q
          exact go (o + 1) (by rw [sg_open k1]; omega) (by omega)
    · rintro _ rfl
      rw [nI_1]
      exact ih _ _ _ _ _ ⟨n, o, i + 1, rfl, rfl, rfl, by omega, by omega, ho, hR, hw⟩ (mu _ (by omega) (by omega))
