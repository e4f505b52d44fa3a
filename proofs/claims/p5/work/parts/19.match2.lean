-- 19: matches of the reference
/-- places of a pattern at pat (of n tokens) that are matched: trees behind its first one -/
def VP (kp : Nat → Int32) (pat n q : Nat) : Prop := pat + 1 + tl kp (pat + 1) ≤ q ∧ q < pat + n - 1 ∧ ¬ kd (kp q) = 2 ∧ ¬ kd (kp q) = 6
def PC (kp : Nat → Int32) (pat n N t : Nat) : Prop := PL kp pat n N t ∧ 1 ≤ t ∧ (N = t + 1 → 2 ≤ t) ∧ (∀ k, 1 ≤ k → k < t → VP kp pat n (it kp pat k)) ∧ ∀ q, VP kp pat n q → kd (kp q) = 1 → ∃ n' N' t', PL kp q n' N' t' ∧ q + n' ≤ pat + n - 1 ∧ ∀ k, k < t' → VP kp pat n (it kp q k)
/-- .. never stands right behind an open bracket, nor behind .. -/
def DTS (kp : Nat → Int32) (a b : Nat) : Prop := ∀ k, a < k → k < b → kd (kp k) = 6 → ¬ kd (kp (k - 1)) = 1 ∧ ¬ kd (kp (k - 1)) = 6
theorem PC_of {kp ks : Nat → Int32} {pat n : Nat} (h : PAT kp ks pat) (hT : TL kp pat n) (hD : DTS kp pat (pat + n)) : ∃ N t, PC kp pat n N t := by
  obtain ⟨⟨n', N, hL, hcn⟩, h6, hall⟩ := h
  have en := TL_uniq hL.2.1 hT
  subst en
  have e1 := tl_eq hT
  have hN : 0 < N := by have := cn_le kp pat N; omega
  have first : it kp pat 1 = pat + 1 + tl kp (pat + 1) := rfl
  have nd1 : ¬ kd (kp (pat + 1)) = 6 := by
    intro q
    have b := LI_at hL (k := 0) (by omega)
    have b : pat + 1 + 0 ≤ pat + 1 ∧ pat + 1 < pat + n' ∧ _ := b
    have := (hD (pat + 1) (by omega) b.2.1 q).1
    rw [show pat + 1 - 1 = pat from by omega] at this
    exact this hL.1
  have endN := hL.2.2.2
  obtain ⟨t, ht⟩ := PL_of hL (fun k hk hk6 => by
    rcases Nat.eq_zero_or_pos k with c | c
    · subst c; exact absurd hk6 nd1
    · have m1 := LI_mono hL (j := 1) (k := k) c (by omega)
      have m2 := LI_mono hL (j := k) (k := N) (by omega) (Nat.le_refl N)
      exact (hall (it kp pat k) (by omega) (by rw [e1]; omega)).1 hk6) nd1
  have t1 : 1 ≤ t := by rcases ht.2.2 with a | ⟨_, a, _⟩ <;> omega
  have htN : t ≤ N := by rcases ht.2.2 with a | ⟨a, _⟩ <;> omega
  have t2 : N = t + 1 → 2 ≤ t := by
    intro e
    rcases ht.2.2 with a | ⟨_, _, a⟩
    · omega
    · rcases Nat.lt_or_ge t 2 with c | c
      · have : t = 1 := by omega
        subst this
        rw [first] at a
        exact absurd a h6
      · exact c
  refine ⟨N, t, ht, t1, t2, fun k hk hkt => ?_, fun q hq hk => ?_⟩
  · have m1 := LI_mono hL (j := 1) (k := k) hk (by omega)
    have m2 := LI_mono hL (j := k) (k := N) (by omega) (Nat.le_refl N)
    exact ⟨by omega, by omega, (hL.2.2.1 k (by omega)).1, ht.2.1 k hkt⟩
  · obtain ⟨q1, q2, q3, q4⟩ := hq
    have p0 := (hL.2.2.1 0 hN).2.1
    have p0 : 0 < tl kp (pat + 1) := p0
    obtain ⟨Tq, hlq⟩ := inTree hL.1 hL.2.1 (j := q) (by omega) (by omega) q3
    obtain ⟨N', hL'⟩ := LI_ex hk Tq
    have hb := TL_open hk Tq
    have hlq2 : q + tl kp q ≤ pat + n' - 1 := by omega
    have endN' := hL'.2.2.2
    have T0 := Tq.1
    obtain ⟨t', ht'⟩ := PL_of hL' (fun k hk' hk6 => by
      have b := LI_at hL' (k := k) (by omega)
      have m2 := LI_mono hL' (j := k) (k := N') (by omega) (Nat.le_refl N')
      exact (hall (it kp q k) (by omega) (by rw [e1]; omega)).1 hk6) (by
      intro z
      have := (hD (q + 1) (by omega) (by omega) z).1
      rw [show q + 1 - 1 = q from by omega] at this
      exact this hk)
    have htN' : t' ≤ N' := by rcases ht'.2.2 with a | ⟨a, _⟩ <;> omega
    refine ⟨tl kp q, N', t', ht', hlq2, fun k hkt => ?_⟩
    have b := LI_at hL' (k := k) (by omega)
    have m2 := LI_mono hL' (j := k) (k := N') (by omega) (Nat.le_refl N')
    exact ⟨by omega, by omega, (hL'.2.2.1 k (by omega)).1, ht'.2.1 k hkt⟩
/-- places of trees in the list at lst of row, of m tokens -/
def VU (rw : Nat → Int32) (lst m u : Nat) : Prop := TL rw u (tl rw u) ∧ lst < u ∧ u + tl rw u ≤ lst + m ∧ ¬ kd (rw u) = 2 ∧ ¬ kd (rw u) = 6
/-- the list at lst is matched by the pattern at pat -/
def MATCH (kp rw : Nat → Int32) (pat n lst m : Nat) : Prop := ∃ D : Nat → Nat → Prop, MT kp rw D 1 pat lst ∧ ∀ p u, D p u → VP kp pat n p ∧ VU rw lst m u ∧ (kd (kp p) = 1 → MT kp rw D 0 p u)
noncomputable def phi (rw st : Nat → Int32) : Nat → Nat
  | 0 => 0
  | j + 1 => phi rw st j + tl rw (st j).toNatClampNeg
theorem phi_same {rw st st' : Nat → Int32} : ∀ k, (∀ j, j < k → st' j = st j) → phi rw st' k = phi rw st k := by
  intro k
  induction k with
  | zero => intro _; rfl
  | succ k ih =>
    intro h
    show phi rw st' k + tl rw (st' k).toNatClampNeg = phi rw st k + tl rw (st k).toNatClampNeg
    rw [ih (fun j hj => h j (by omega)), h k (by omega)]
theorem phi_push {rw st : Nat → Int32} {u m M k o : Nat} (h : LI rw u m M) (hu : u + m < 2 ^ 31) (hs : ∀ j, o + j < M → st (k + j) = nI (it rw u (o + j))) : ∀ j, o + j ≤ M → phi rw st (k + j) + it rw u o = phi rw st k + it rw u (o + j) := by
  intro j
  induction j with
  | zero => intro _; rfl
  | succ j ih =>
    intro hj
    have b := LI_at h (k := o + j) (by omega)
    have e := ih (by omega)
    show phi rw st (k + j) + tl rw (st (k + j)).toNatClampNeg + it rw u o = phi rw st k + (it rw u (o + j) + tl rw (it rw u (o + j)))
    rw [hs j (by omega), nI_clamp (by omega)]
    omega
theorem phi_ge {rw st : Nat → Int32} {lst m : Nat} : ∀ k, (∀ j, j < k → ∃ u, st j = nI u ∧ VU rw lst m u ∧ u < 2 ^ 31) → k ≤ phi rw st k := by
  intro k
  induction k with
  | zero => intro _; exact Nat.le_refl 0
  | succ k ih =>
    intro h
    obtain ⟨u, e, hu, hu2⟩ := h k (by omega)
    have := ih (fun j hj => h j (by omega))
    have h1 := hu.1.1
    show k + 1 ≤ phi rw st k + tl rw (st k).toNatClampNeg
    rw [e, nI_clamp hu2]
    omega
theorem VU_items {rw : Nat → Int32} {lst m u z M : Nat} (hz : LI rw u z M) (h1 : lst ≤ u) (h2 : u + z ≤ lst + m) {k : Nat} (hk : k < M) (h6 : ¬ kd (rw (it rw u k)) = 6) : VU rw lst m (it rw u k) := by
  have b := LI_at hz (k := k) (by omega)
  have b2 := LI_at hz (k := k + 1) (by omega)
  have b3 : it rw u k + tl rw (it rw u k) < u + z := b2.2.1
  obtain ⟨c1, c2⟩ := hz.2.2.1 k hk
  exact ⟨c2, by omega, by omega, c1, h6⟩
def ST (v : mS) (k q z : Nat) : Prop := ∃ j, j < k ∧ (v.2 14 j).toNatClampNeg = q ∧ (v.2 15 j).toNatClampNeg = z
def MI (w v : mS) (pat n lst m k : Nat) : Prop := FR [] [14, 15] w v ∧ (∀ j, j < k → ∃ p u, v.2 14 j = nI p ∧ v.2 15 j = nI u ∧ VP (w.2 3) pat n p ∧ VU (w.2 1) lst m u) ∧ phi (w.2 1) (v.2 15) k ≤ m ∧ ∃ D : Nat → Nat → Prop, MT (w.2 3) (w.2 1) (fun p u => D p u ∨ ST v k p u) 1 pat lst ∧ ∀ p u, D p u → VP (w.2 3) pat n p ∧ VU (w.2 1) lst m u ∧ (kd (w.2 3 p) = 1 → MT (w.2 3) (w.2 1) (fun p u => D p u ∨ ST v k p u) 0 p u)
theorem matches_ok {pat n N t lst m : Nat} {w : mS} {post : Int32 → mS → Prop} (hP : PC (w.2 3) pat n N t) (hl : pat + n ≤ 3200) (hT : TL (w.2 1) lst m) (hl2 : lst + m ≤ 2600) (hm : m ≤ 310) (h0 : ∀ v, FR [] [14, 15] w v → post 0 v) (h1 : ∀ v, FR [] [14, 15] w v → MATCH (w.2 3) (w.2 1) pat n lst m → post 1 v) : wp_X9_matches (nI pat) (nI lst) w post := by
  obtain ⟨hPL, t1, tt2, hit, hnest⟩ := hP
  have vub : ∀ u, VU (w.2 1) lst m u → u < 2 ^ 31 := fun u hu => by have := hu.2.2.1; omega
  have loop : ∀ (x : Int32) (v : mS), ((x = -1 ∧ FR [] [14, 15] w v) ∨ ∃ k : Nat, x = nI k ∧ MI w v pat n lst m k) → ∃ c, mL2 (fun K => wj_X9_matches_9 K post) c x v := by
    refine mL2_in _ (fun x v => phi (w.2 1) (v.2 15) x.toNatClampNeg + (if x < 0 then 0 else 1)) ?_
    intro K x v hI ih
    rcases hI with ⟨rfl, hF⟩ | ⟨k, rfl, hF, hst, hphi, D, hTop, hD⟩
    · exact ⟨fun _ => ⟨fun _ => h0 v hF, fun h => absurd h (by decide)⟩, fun h => absurd (by decide) h⟩
    · have r1 : v.2 1 = w.2 1 := hF.2 1 (by decide)
      have r3 : v.2 3 = w.2 3 := hF.2 3 (by decide)
      have kphi : ∀ j, j ≤ k → j ≤ phi (w.2 1) (v.2 15) j := fun j hj => phi_ge j (fun i hi => by
        obtain ⟨p, u, _, e2, _, e4⟩ := hst i (by omega)
        exact ⟨u, e2, e4, vub u e4⟩)
      have hk310 : k ≤ 310 := Nat.le_trans (kphi k (Nat.le_refl k)) (by omega)
      cases k with
      | zero =>
        refine ⟨fun _ => ⟨fun h => absurd rfl h, fun _ => h1 v hF ⟨D, ?_, fun p u hpu => ?_⟩⟩, fun h => absurd (by decide) h⟩
        · exact MT_mono hTop (fun q z h => by
            rcases h with h | ⟨j, hj, _⟩
            · exact h
            · omega)
        · obtain ⟨a1, a2, a3⟩ := hD p u hpu
          exact ⟨a1, a2, fun hk => MT_mono (a3 hk) (fun q z h => by
            rcases h with h | ⟨j, hj, _⟩
            · exact h
            · omega)⟩
      | succ k =>
        obtain ⟨p, u, ep, eu, hvp, hvu⟩ := hst k (by omega)
        have hpb := hvp.2.1
        have hub := hvu.2.2.1
        have hu1 := hvu.1.1
        have ep2 : (v.2 14 k).toNatClampNeg = p := by rw [ep, nI_clamp (by omega)]
        have eu2 : (v.2 15 k).toNatClampNeg = u := by rw [eu, nI_clamp (by omega)]
        have ephi : phi (w.2 1) (v.2 15) (k + 1) = phi (w.2 1) (v.2 15) k + tl (w.2 1) u := by
          show phi (w.2 1) (v.2 15) k + tl (w.2 1) (v.2 15 k).toNatClampNeg = _
          rw [eu2]
        have hkk := kphi k (by omega)
        have mu0 : phi (w.2 1) (v.2 15) (nI (k + 1)).toNatClampNeg + (if nI (k + 1) < 0 then 0 else 1) = phi (w.2 1) (v.2 15) k + tl (w.2 1) u + 1 := by
          rw [nI_clamp (by omega), if_neg (nI_pos (by omega)), ephi]
        -- what was on the stack, and what is done
        have old : ∀ (v2 : mS) (k2 : Nat), k ≤ k2 → (∀ j, j < k → v2.2 14 j = v.2 14 j ∧ v2.2 15 j = v.2 15 j) → ∀ q z, (D q z ∨ ST v (k + 1) q z) → ((D q z ∨ (q = p ∧ z = u)) ∨ ST v2 k2 q z) := by
          intro v2 k2 hk2 hsame q z h
          rcases h with h | ⟨j, hj, e1, e2⟩
          · exact Or.inl (Or.inl h)
          · rcases Nat.lt_or_ge j k with c | c
            · refine Or.inr ⟨j, by omega, ?_, ?_⟩
              · rw [(hsame j c).1]; exact e1
              · rw [(hsame j c).2]; exact e2
            · have ej : j = k := by omega
              subst ej
              exact Or.inl (Or.inr ⟨e1.symm.trans ep2, e2.symm.trans eu2⟩)
        refine ⟨fun h => absurd h (nI_nle (by omega) (by omega)), fun _ => ?_⟩
        rintro _ rfl
        rw [nI_pred]
        refine ⟨vp_in_nI (by omega) (by omega), ?_⟩
        rintro _ rfl _ rfl
        refine ⟨vp_in_nI (by omega) (by omega), ?_⟩
        rintro _ rfl _ rfl
        rw [pk_m1, nI_clamp (by omega), ep, eu]
        have leaf : ¬ kd (w.2 3 p) = 1 → K (nI k) v := by
          intro hnl
          refine ih (nI k) v (Or.inr ⟨k, rfl, hF, fun j hj => hst j (by omega), by omega, fun a b => D a b ∨ (a = p ∧ b = u), ?_, fun a b hab => ?_⟩) ?_
          · exact MT_mono hTop (old v k (Nat.le_refl k) (fun j _ => ⟨rfl, rfl⟩))
          · rcases hab with hab | ⟨rfl, rfl⟩
            · obtain ⟨a1, a2, a3⟩ := hD a b hab
              exact ⟨a1, a2, fun hk => MT_mono (a3 hk) (old v k (Nat.le_refl k) (fun j _ => ⟨rfl, rfl⟩))⟩
            · exact ⟨hvp, hvu, fun hk => absurd hk hnl⟩
          · rw [mu0, nI_clamp (by omega), if_neg (nI_pos (by omega))]; omega
        have g72 : wj_X9_matches_72 K post (nI k) (nI p) (nI u) (kd (w.2 3 p)) v := by
          refine ⟨fun hn => leaf hn, fun hk => ?_⟩
          obtain ⟨n', N', t', hL', hb', hitems⟩ := hnest p hvp hk
          refine pairs_ok (n0 := k) (m := tl (w.2 1) u) (s := 0) (by rw [r3]; exact hL') (by omega) (by rw [r1]; exact hvu.1) (by omega) (by omega) (Or.inl ⟨rfl, rfl⟩) ?_ (fun M v2 hM hnd c1 c2 hF2 hlow hpush => ?_)
          · refine ih (-1) v (Or.inl ⟨rfl, hF⟩) ?_
            rw [mu0]
            show phi (w.2 1) (v.2 15) 0 + (if (-1 : Int32) < 0 then 0 else 1) < _
            rw [if_pos (by decide)]
            show 0 + 0 < _
            omega
          · rw [r1] at hM hnd
            rw [r3, r1] at hpush
            have t1' : 0 < M → 1 ≤ t' := fun h0 => by
              rcases hL'.2.2 with a | ⟨_, a, _⟩
              · have := c1 a; omega
              · exact a
            have psh : ∀ i, i < M → v2.2 14 (k + i) = nI (it (w.2 3) p (min i (t' - 1))) ∧ v2.2 15 (k + i) = nI (it (w.2 1) u i) := fun i hi => hpush i (by omega) hi
            have ephi2 := phi_push (st := v2.2 15) (k := k) (o := 0) hM (by omega) (fun j hj => by rw [Nat.zero_add] at hj ⊢; exact (psh j hj).2) M (by omega)
            rw [Nat.zero_add, hM.2.2.2] at ephi2
            have ephi2 : phi (w.2 1) (v2.2 15) (k + M) + (u + 1) = phi (w.2 1) (v2.2 15) k + (u + (tl (w.2 1) u - 1)) := ephi2
            have esame : phi (w.2 1) (v2.2 15) k = phi (w.2 1) (v.2 15) k := phi_same k (fun j hj => (hlow j hj).2)
            have z2 := (TL_open hM.1 hM.2.1).1
            refine ih (nI (k + (M - 0))) v2 (Or.inr ⟨k + M, rfl, hF.tr hF2, fun j hj => ?_, by omega, fun a b => D a b ∨ (a = p ∧ b = u), ?_, fun a b hab => ?_⟩) ?_
            · rcases Nat.lt_or_ge j k with c | c
              · rw [(hlow j c).1, (hlow j c).2]; exact hst j (by omega)
              · obtain ⟨i, rfl⟩ : ∃ i, j = k + i := ⟨j - k, by omega⟩
                have hi : i < M := by omega
                have := t1' (by omega)
                exact ⟨_, _, (psh i hi).1, (psh i hi).2, hitems _ (by omega), VU_items hM (by have := hvu.2.1; omega) hub hi (hnd i hi)⟩
            · exact MT_mono hTop (old v2 (k + M) (by omega) hlow)
            · rcases hab with hab | ⟨rfl, rfl⟩
              · obtain ⟨a1, a2, a3⟩ := hD a b hab
                exact ⟨a1, a2, fun hk => MT_mono (a3 hk) (old v2 (k + M) (by omega) hlow)⟩
              · refine ⟨hvp, hvu, fun _ => ⟨n', N', t', _, M, hL', hM, hnd, c1, c2, fun i _ hi => Or.inr ⟨k + i, by omega, ?_, ?_⟩⟩⟩
                · have := t1' (by omega)
                  have b := (hitems (min i (t' - 1)) (by omega)).2.1
                  rw [(psh i hi).1, nI_clamp (by omega)]
                · have b := LI_at hM (k := i) (by omega)
                  rw [(psh i hi).2, nI_clamp (by omega)]
            · rw [mu0]
              show phi (w.2 1) (v2.2 15) (nI (k + M)).toNatClampNeg + (if nI (k + M) < 0 then 0 else 1) < _
              have hM2 : M ≤ tl (w.2 1) u := by
                have b := LI_at hM (Nat.le_refl M); omega
              rw [nI_clamp (by omega), if_neg (nI_pos (by omega))]; omega
        refine kind_4 (by omega) ?_
        rw [r3]
        refine ⟨fun _ => g72, fun _ => ⟨vp_in_nI (by omega) (by omega), ?_⟩⟩
        rintro _ rfl
        refine ⟨vp_in_nI (by omega) (by omega), ?_⟩
        rintro _ rfl
        exact ⟨fun _ => g72, fun _ => h0 v hF⟩
  refine pairs_ok (n0 := 0) (m := m) (s := 1) hPL hl hT hl2 (by omega) (Or.inr ⟨rfl, by decide⟩) (loop (-1) w (Or.inl ⟨rfl, FR.rf⟩)) (fun M v hM hnd c1 c2 hF hlow hpush => ?_)
  have hbM := LI_at hM (Nat.le_refl M)
  have psh : ∀ j, 1 + j < M → v.2 14 (0 + j) = nI (it (w.2 3) pat (min (1 + j) (t - 1))) ∧ v.2 15 (0 + j) = nI (it (w.2 1) lst (1 + j)) := fun j hj => by
    have := hpush (1 + j) (by omega) hj
    rw [show 0 + (1 + j - 1) = 0 + j from by omega] at this
    exact this
  have tM : ∀ j, 1 + j < M → 1 ≤ min (1 + j) (t - 1) ∧ min (1 + j) (t - 1) < t ∨ t = 1 := fun j hj => by omega
  refine loop _ v (Or.inr ⟨0 + (M - 1), rfl, hF, fun j hj => ?_, ?_, fun _ _ => False, ?_, fun _ _ h => h.elim⟩)
  · have := psh j (by omega)
    rw [Nat.zero_add] at this
    refine ⟨_, _, this.1, this.2, ?_, VU_items hM (Nat.le_refl lst) (Nat.le_refl _) (by omega) (hnd _ (by omega))⟩
    have t2 : 2 ≤ t := by
      rcases hPL.2.2 with a | ⟨a, b, _⟩
      · have := c1 a; omega
      · exact tt2 a
    exact hit _ (by omega) (by omega)
  · rcases Nat.lt_or_ge M 1 with c | c
    · rw [show 0 + (M - 1) = 0 from by omega]
      show 0 ≤ m
      omega
    · have e := phi_push (st := v.2 15) (k := 0) (o := 1) hM (by omega) (fun j hj => (psh j hj).2) (M - 1) (by omega)
      rw [show 1 + (M - 1) = M from by omega] at e
      have e : phi (w.2 1) (v.2 15) (0 + (M - 1)) + it (w.2 1) lst 1 = 0 + it (w.2 1) lst M := e
      have b1 := LI_at hM (k := 1) c
      omega
  · refine ⟨n, N, t, m, M, hPL, hM, hnd, c1, c2, fun k hk hkM => Or.inr ⟨k - 1, by omega, ?_, ?_⟩⟩
    · have := (psh (k - 1) (by omega)).1
      rw [Nat.zero_add, show 1 + (k - 1) = k from by omega] at this
      have htN : t ≤ N := by rcases hPL.2.2 with a | ⟨a, _⟩ <;> omega
      have b := LI_at hPL.1 (k := min k (t - 1)) (by omega)
      rw [this, nI_clamp (by omega)]
    · have := (psh (k - 1) (by omega)).2
      rw [Nat.zero_add, show 1 + (k - 1) = k from by omega] at this
      have b := LI_at hM (k := k) (by omega)
      rw [this, nI_clamp (by omega)]
