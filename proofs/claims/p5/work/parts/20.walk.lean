-- 20: walk of the reference
noncomputable def nit (rw : Nat → Int32) (u : Nat) : Nat := Classical.epsilon (fun M => ∃ m, LI rw u m M)
theorem nit_eq {rw : Nat → Int32} {u m M : Nat} (h : LI rw u m M) : nit rw u = M := by
  obtain ⟨m', h'⟩ := Classical.epsilon_spec (p := fun M => ∃ m, LI rw u m M) ⟨M, m, h⟩
  exact (LI_uniq h' h).2
theorem it_up (r : Nat → Int32) (i j : Nat) : ∀ d, it r i j ≤ it r i (j + d) := by
  intro d
  induction d with
  | zero => exact Nat.le_refl _
  | succ d ih =>
    show it r i j ≤ it r i (j + d) + tl r (it r i (j + d))
    omega
noncomputable def chj (kp : Nat → Int32) (p v : Nat) : Nat := Classical.epsilon (fun j => it kp p j ≤ v ∧ v < it kp p (j + 1))
theorem chj_ok {kp : Nat → Int32} {p n N v : Nat} (h : LI kp p n N) (h1 : p < v) (h2 : v < p + n - 1) : chj kp p v < N ∧ it kp p (chj kp p v) ≤ v ∧ v < it kp p (chj kp p v + 1) := by
  have ex : ∃ j, it kp p j ≤ v ∧ v < it kp p (j + 1) := by
    obtain ⟨k, hk, hmin⟩ := pk_least (fun k => v < it kp p k) ⟨N, by show v < it kp p N; rw [h.2.2.2]; omega⟩
    cases k with
    | zero =>
      have hk : v < p + 1 := hk
      omega
    | succ k => exact ⟨k, Nat.not_lt.mp (hmin k (by omega)), hk⟩
  have hs := Classical.epsilon_spec (p := fun j => it kp p j ≤ v ∧ v < it kp p (j + 1)) ex
  refine ⟨?_, hs⟩
  rcases Nat.lt_or_ge (chj kp p v) N with c | c
  · exact c
  · have a := it_up kp p N (chj kp p v - N)
    rw [show N + (chj kp p v - N) = chj kp p v from by omega, h.2.2.2] at a
    have b : it kp p (chj kp p v) ≤ v := hs.1
    omega
/-- where the walk to the variable at v comes to, or how many rounds are at the .. of that level -/
noncomputable def wkV (kp rw : Nat → Int32) (rd : Nat → Nat) (v stop : Nat) : Nat → Nat → Nat → Nat → Nat
  | 0, _, u, _ => u
  | F + 1, p, u, lev => if p = v then u else if kd (kp (it kp p (chj kp p v + 1))) = 6 then (if lev = stop then nit rw u - chj kp p v else wkV kp rw rd v stop F (it kp p (chj kp p v)) (it rw u (chj kp p v + rd lev)) (lev + 1)) else wkV kp rw rd v stop F (it kp p (chj kp p v)) (it rw u (chj kp p v)) lev
/-- the rounds are there -/
def wkS (kp rw : Nat → Int32) (rd : Nat → Nat) (v stop : Nat) : Nat → Nat → Nat → Nat → Prop
  | 0, _, _, _ => True
  | F + 1, p, u, lev => p ≠ v → (kd (kp (it kp p (chj kp p v + 1))) = 6 → lev ≠ stop → lev < 3 ∧ chj kp p v + rd lev < nit rw u ∧ wkS kp rw rd v stop F (it kp p (chj kp p v)) (it rw u (chj kp p v + rd lev)) (lev + 1)) ∧ (¬ kd (kp (it kp p (chj kp p v + 1))) = 6 → wkS kp rw rd v stop F (it kp p (chj kp p v)) (it rw u (chj kp p v)) lev)
/-- a step of the path: the child that holds v, and what it is paired with -/
theorem step_ok {kp rw : Nat → Int32} {D : Nat → Nat → Prop} {s p u v : Nat} (h : MT kp rw D s p u) (h1 : p < v) (h2 : v < p + tl kp p - 1) (hk : ¬ kd (kp v) = 2 ∧ ¬ kd (kp v) = 6) (hs : it kp p s ≤ v) : ∃ n N t m M, PL kp p n N t ∧ LI rw u m M ∧ chj kp p v < t ∧ s ≤ chj kp p v ∧ chj kp p v ≤ M ∧ (kd (kp (it kp p (chj kp p v + 1))) = 6 → ∀ c, chj kp p v + c < M → D (it kp p (chj kp p v)) (it rw u (chj kp p v + c))) ∧ (¬ kd (kp (it kp p (chj kp p v + 1))) = 6 → chj kp p v < M ∧ D (it kp p (chj kp p v)) (it rw u (chj kp p v))) := by
  obtain ⟨n, N, t, m, M, hP, hL, hnd, c1, c2, hD⟩ := h
  have e := tl_eq hP.1.2.1
  rw [e] at h2
  obtain ⟨j1, j2, j3⟩ := chj_ok hP.1 h1 h2
  generalize chj kp p v = j at j1 j2 j3 ⊢
  have jt : j < t := by
    rcases hP.2.2 with a | ⟨a, _, a6⟩
    · omega
    · rcases Nat.lt_or_ge j t with c | c
      · exact c
      · have ej : j = t := by omega
        subst ej
        have e1 : it kp p (j + 1) = it kp p j + 1 := by
          show it kp p j + tl kp (it kp p j) = _
          rw [tl_eq (TL_atom (by rw [a6]; decide))]
        have : v = it kp p j := by omega
        rw [this] at hk
        exact absurd a6 hk.2
  have sj : s ≤ j := by
    rcases Nat.lt_or_ge j s with c | c
    · have := it_up kp p (j + 1) (s - (j + 1))
      rw [show j + 1 + (s - (j + 1)) = s from by omega] at this
      omega
    · exact c
  have jM : j ≤ M := by
    rcases hP.2.2 with a | ⟨a, _⟩
    · have := c1 a; omega
    · have := c2 a; omega
  refine ⟨n, N, t, m, M, hP, hL, jt, sj, jM, fun h6 c hc => ?_, fun h6 => ?_⟩
  · have ej : j = t - 1 := by
      rcases Nat.lt_or_ge (j + 1) t with g | g
      · exact absurd h6 (hP.2.1 (j + 1) g)
      · omega
    have := hD (j + c) (by omega) hc
    rw [show min (j + c) (t - 1) = j from by omega] at this
    exact this
  · have jM2 : j < M := by
      rcases hP.2.2 with a | ⟨a, _, a6⟩
      · have := c1 a; omega
      · have := c2 a
        rcases Nat.lt_or_ge (j + 1) t with g | g
        · omega
        · have : j + 1 = t := by omega
          rw [this] at h6
          exact absurd a6 h6
    refine ⟨jM2, ?_⟩
    have := hD j sj jM2
    rw [show min j (t - 1) = j from by omega] at this
    exact this
theorem walk_ok {pat n N t lst m v stop : Nat} {rd : Nat → Nat} {D : Nat → Nat → Prop} {w : mS} {post : Int32 → mS → Prop} (hP : PC (w.2 3) pat n N t) (hl : pat + n ≤ 3200) (hT : TL (w.2 1) lst m) (hl2 : lst + m ≤ 2600) (hTop : MT (w.2 3) (w.2 1) D 1 pat lst) (hD : ∀ p u, D p u → VP (w.2 3) pat n p ∧ VU (w.2 1) lst m u ∧ (kd (w.2 3 p) = 1 → MT (w.2 3) (w.2 1) D 0 p u)) (hv : VP (w.2 3) pat n v) (hrd : ∀ l, l < 3 → w.2 18 l = nI (rd l) ∧ rd l < 2 ^ 30) (hst : stop < 2 ^ 30) (hS : wkS (w.2 3) (w.2 1) rd v stop (v - pat + 1) pat lst 0) (hp : post (nI (wkV (w.2 3) (w.2 1) rd v stop (v - pat + 1) pat lst 0)) w) : wp_X9_walk (nI pat) (nI lst) (nI v) (nI stop) w post := by
  have hPL := hP.1
  have en := tl_eq hPL.1.2.1
  have hvb := hv.2.1
  have first : pat < v := by have := hv.1; omega
  have key := mL6_in (F := fun K => wj_X9_walk_9 K post) (fun x3 x4 x5 x6 x7 z => ∃ p u lev F : Nat, x3 = nI v ∧ x4 = nI stop ∧ x5 = nI p ∧ x6 = nI u ∧ x7 = nI lev ∧ z = w ∧ ((p = pat ∧ u = lst) ∨ D p u) ∧ p ≤ v ∧ (p ≠ v → v < p + tl (w.2 3) p - 1 ∧ kd (w.2 3 p) = 1) ∧ lev < 2 ^ 29 + p ∧ v - p + 1 ≤ F ∧ wkS (w.2 3) (w.2 1) rd v stop F p u lev ∧ post (nI (wkV (w.2 3) (w.2 1) rd v stop F p u lev)) w) (fun _ _ x5 _ _ _ => 4000 - x5.toNatClampNeg) ?_
  · exact key _ _ _ _ _ _ ⟨pat, lst, 0, v - pat + 1, rfl, rfl, rfl, rfl, rfl, rfl, Or.inl ⟨rfl, rfl⟩, by omega, fun _ => ⟨by rw [en]; omega, hPL.1.1⟩, by omega, Nat.le_refl _, hS, hp⟩
  · rintro K x3 x4 x5 x6 x7 z ⟨p, u, lev, F, rfl, rfl, rfl, rfl, rfl, hz, hnd, hpv, hin, hlev, hF, hSS, hpp⟩ ih
    subst hz
    have hpb : p < 3200 := by omega
    have hub : u < 2600 := by
      rcases hnd with ⟨_, rfl⟩ | hd
      · have := hT.1; omega
      · have a := (hD p u hd).2.1
        have a1 := a.1.1
        have a2 := a.2.2.1
        omega
    obtain ⟨F', rfl⟩ : ∃ F', F = F' + 1 := ⟨F - 1, by omega⟩
    refine ⟨fun he => ?_, fun hne => ?_⟩
    · have e := (nI_eq (by omega) (by omega)).mp he
      have hpp : post (nI (if p = v then u else _)) z := hpp
      rw [if_pos e] at hpp
      exact hpp
    · have hne : p ≠ v := fun q => hne (by rw [q])
      obtain ⟨hin1, hin2⟩ := hin hne
      have hMT : ∃ s, MT (z.2 3) (z.2 1) D s p u ∧ it (z.2 3) p s ≤ v := by
        rcases hnd with ⟨rfl, rfl⟩ | hd
        · exact ⟨1, hTop, hv.1⟩
        · exact ⟨0, (hD p u hd).2.2 hin2, by show p + 1 ≤ v; omega⟩
      obtain ⟨s, hMT, hs⟩ := hMT
      have hpv2 : p < v := Nat.lt_of_le_of_ne hpv hne
      obtain ⟨n', N', t', m', M, hPL', hL', jt, sj, jM, hheld, hfree⟩ := step_ok hMT hpv2 hin1 ⟨hv.2.2.1, hv.2.2.2⟩ hs
      have en' := tl_eq hPL'.1.2.1
      obtain ⟨-, j2, j3⟩ := chj_ok hPL'.1 (v := v) (by omega) (by rw [en'] at hin1; exact hin1)
      have hSS : p ≠ v → (kd (z.2 3 (it (z.2 3) p (chj (z.2 3) p v + 1))) = 6 → lev ≠ stop → lev < 3 ∧ chj (z.2 3) p v + rd lev < nit (z.2 1) u ∧ wkS (z.2 3) (z.2 1) rd v stop F' (it (z.2 3) p (chj (z.2 3) p v)) (it (z.2 1) u (chj (z.2 3) p v + rd lev)) (lev + 1)) ∧ (¬ kd (z.2 3 (it (z.2 3) p (chj (z.2 3) p v + 1))) = 6 → wkS (z.2 3) (z.2 1) rd v stop F' (it (z.2 3) p (chj (z.2 3) p v)) (it (z.2 1) u (chj (z.2 3) p v)) lev) := hSS
      obtain ⟨hS1, hS2⟩ := hSS hne
      have hpp : post (nI (if p = v then u else if kd (z.2 3 (it (z.2 3) p (chj (z.2 3) p v + 1))) = 6 then (if lev = stop then nit (z.2 1) u - chj (z.2 3) p v else wkV (z.2 3) (z.2 1) rd v stop F' (it (z.2 3) p (chj (z.2 3) p v)) (it (z.2 1) u (chj (z.2 3) p v + rd lev)) (lev + 1)) else wkV (z.2 3) (z.2 1) rd v stop F' (it (z.2 3) p (chj (z.2 3) p v)) (it (z.2 1) u (chj (z.2 3) p v)) lev)) z := hpp
      rw [if_neg hne] at hpp
      rw [nit_eq hL'] at hS1 hpp
      generalize chj (z.2 3) p v = j at jt sj jM hheld hfree j2 j3 hS1 hS2 hpp
      have htN : t' ≤ N' := by rcases hPL'.2.2 with a | ⟨a, _⟩ <;> omega
      have hpn : p + n' ≤ 3200 := by
        rcases hnd with ⟨rfl, _⟩ | hd
        · have := TL_uniq hPL'.1.2.1 hPL.1.2.1; omega
        · have a := (hD p u hd).1
          obtain ⟨n2, N2, t2, b1, b2, _⟩ := hP.2.2.2.2 p a hin2
          have := TL_uniq hPL'.1.2.1 b1.1.2.1; omega
      have hum : u + m' ≤ 2600 := by
        rcases hnd with ⟨_, rfl⟩ | hd
        · have := TL_uniq hL'.2.1 hT; omega
        · have a := (hD p u hd).2.1
          have := TL_uniq hL'.2.1 a.1
          have := a.2.2.1
          omega
      have Tj := (hPL'.1.2.2.1 j (by omega)).2
      have bj := LI_at hPL'.1 (k := j) (by omega)
      have bj1 := LI_at hPL'.1 (k := j + 1) (by omega)
      have ej1 : it (z.2 3) p (j + 1) = it (z.2 3) p j + tl (z.2 3) (it (z.2 3) p j) := rfl
      -- the child: what the outer loop needs of it
      have child : ∀ (u2 lev2 : Nat), D (it (z.2 3) p j) u2 → lev2 ≤ lev + 1 → wkS (z.2 3) (z.2 1) rd v stop F' (it (z.2 3) p j) u2 lev2 → post (nI (wkV (z.2 3) (z.2 1) rd v stop F' (it (z.2 3) p j) u2 lev2)) z → K (nI v) (nI stop) (nI (it (z.2 3) p j)) (nI u2) (nI lev2) z := by
        intro u2 lev2 hd2 hlev2 hS' hp'
        refine ih _ _ _ _ _ _ ⟨it (z.2 3) p j, u2, lev2, F', rfl, rfl, rfl, rfl, rfl, rfl, Or.inr hd2, j2, fun hne2 => ?_, by omega, by omega, hS', hp'⟩ ?_
        · have kq : kd (z.2 3 (it (z.2 3) p j)) = 1 := by
            apply Classical.byContradiction
            intro hn
            have := tl_eq (TL_atom hn)
            omega
          refine ⟨?_, kq⟩
          have := (TL_open kq Tj).2.2
          rcases Nat.lt_or_ge v (it (z.2 3) p j + tl (z.2 3) (it (z.2 3) p j) - 1) with c | c
          · exact c
          · have ev : v = it (z.2 3) p j + (tl (z.2 3) (it (z.2 3) p j) - 1) := by omega
            rw [← ev] at this
            exact absurd this hv.2.2.1
        · rw [nI_clamp (by omega), nI_clamp (by omega)]; omega
      rintro _ rfl _ rfl
      rw [nI_1, nI_1]
      -- the inner loop over the items ahead of the child
      have inner : ∀ (d k : Nat), k + d = j → mL6 (fun K2 => wj_X9_walk_27 K2 K post) (d + 1) (nI v) (nI stop) (nI lev) (nI (it (z.2 3) p k)) (nI (it (z.2 1) u k)) z := by
        intro d
        induction d with
        | zero =>
          intro k hk
          have hk : k = j := by omega
          subst hk
          have lt : nI v < nI (it (z.2 3) p k + tl (z.2 3) (it (z.2 3) p k)) := by rw [nI_ltI (by omega) (by omega)]; omega
          show wj_X9_walk_27 _ K post _ _ _ _ _ z
          refine end_4 Tj (by omega) ⟨fun _ => end_4 Tj (by omega) (kind_4 (by omega) ?_), fun h => absurd lt h⟩
          rw [← ej1]
          refine ⟨fun h6 => ?_, fun h6 => ?_⟩
          · obtain ⟨_, hd⟩ := hfree h6
            rw [if_neg h6] at hpp
            exact child _ lev hd (by omega) (hS2 h6) hpp
          · rw [if_pos h6] at hpp
            -- counting the rounds
            have third : lev ≠ stop → ∃ c, mL7 (fun K3 => wj_X9_walk_136 K3 K post) c (nI v) (nI stop) (nI lev) (nI (it (z.2 3) p k)) (nI (it (z.2 1) u k)) 0 z := by
              intro hls
              obtain ⟨l3, lr, lS⟩ := hS1 h6 hls
              rw [if_neg hls] at hpp
              have go : ∀ (d c : Nat), c + d = rd lev → mL7 (fun K3 => wj_X9_walk_136 K3 K post) (d + 1) (nI v) (nI stop) (nI lev) (nI (it (z.2 3) p k)) (nI (it (z.2 1) u (k + c))) (nI c) z := by
                intro d
                induction d with
                | zero =>
                  intro c hc
                  show wj_X9_walk_136 _ K post _ _ _ _ _ _ z
                  refine ⟨vp_in_nI l3 (by omega), ?_⟩
                  rintro _ rfl
                  rw [nI_clamp (by omega), (hrd lev l3).1]
                  have hr2 := (hrd lev l3).2
                  refine ⟨fun _ => ?_, fun h => absurd (by rw [nI_leI (by omega) (by omega)]; omega) h⟩
                  rintro _ rfl
                  rw [nI_1]
                  have ec : c = rd lev := by omega
                  subst ec
                  exact child _ (lev + 1) (hheld h6 _ lr) (Nat.le_refl _) lS hpp
                | succ d ih3 =>
                  intro c hc
                  have hr2 := (hrd lev l3).2
                  have bc := LI_at hL' (k := k + c) (by omega)
                  have bc1 := LI_at hL' (k := k + c + 1) (by omega)
                  have Tc := (hL'.2.2.1 (k + c) (by omega)).2
                  show wj_X9_walk_136 _ K post _ _ _ _ _ _ z
                  refine ⟨vp_in_nI l3 (by omega), ?_⟩
                  rintro _ rfl
                  rw [nI_clamp (by omega), (hrd lev l3).1]
                  refine ⟨fun h => absurd h (by rw [nI_leI (by omega) (by omega)]; omega), fun _ => ?_⟩
                  refine end_2 Tc (by have : it (z.2 1) u (k + c + 1) = it (z.2 1) u (k + c) + tl (z.2 1) (it (z.2 1) u (k + c)) := rfl; omega) ?_
                  rintro _ rfl
                  rw [nI_1]
                  exact ih3 (c + 1) (by omega)
              exact ⟨rd lev + 1, go (rd lev) 0 (by omega)⟩
            have second : ∀ (d c : Nat), k + c + d = M → mL8 (fun K3 => wj_X9_walk_93 K3 K post) (d + 1) (nI v) (nI stop) (nI lev) (nI (it (z.2 3) p k)) (nI (it (z.2 1) u k)) (nI c) (nI (it (z.2 1) u (k + c))) z := by
              intro d
              induction d with
              | zero =>
                intro c hc
                have bM := LI_at hL' (Nat.le_refl M)
                show wj_X9_walk_93 _ K post _ _ _ _ _ _ _ z
                have eM : k + c = M := by omega
                rw [eM]
                refine kind_2 (by omega) ⟨fun _ => ⟨fun h => ?_, fun h => ?_⟩, fun h => absurd (LI_end hL') h⟩
                · exact third (fun q => h (by rw [q]))
                · have el := (nI_eq (by omega) (by omega)).mp h
                  rw [if_pos el] at hpp
                  rw [show c = M - k from by omega]
                  exact hpp
              | succ d ih2 =>
                intro c hc
                have bc := LI_at hL' (k := k + c) (by omega)
                have bc1 := LI_at hL' (k := k + c + 1) (by omega)
                obtain ⟨nc, Tc⟩ := hL'.2.2.1 (k + c) (by omega)
                show wj_X9_walk_93 _ K post _ _ _ _ _ _ _ z
                refine kind_2 (by omega) ⟨fun h => absurd h nc, fun _ => ?_⟩
                refine end_2 Tc (by have : it (z.2 1) u (k + c + 1) = it (z.2 1) u (k + c) + tl (z.2 1) (it (z.2 1) u (k + c)) := rfl; omega) ?_
                rintro _ rfl
                rw [nI_1]
                exact ih2 (c + 1) (by omega)
            exact ⟨M - k + 1, second (M - k) 0 (by omega)⟩
        | succ d ihd =>
          intro k hk
          obtain ⟨_, Tk⟩ := hPL'.1.2.2.1 k (by omega)
          have bk := LI_at hPL'.1 (k := k) (by omega)
          have bk1 := LI_at hPL'.1 (k := k + 1) (by omega)
          have ek1 : it (z.2 3) p (k + 1) = it (z.2 3) p k + tl (z.2 3) (it (z.2 3) p k) := rfl
          have up := it_up (z.2 3) p (k + 1) (j - (k + 1))
          rw [show k + 1 + (j - (k + 1)) = j from by omega] at up
          have uk1 := LI_at hL' (k := k + 1) (by omega)
          obtain ⟨_, Uk⟩ := hL'.2.2.1 k (by omega)
          have eu1 : it (z.2 1) u (k + 1) = it (z.2 1) u k + tl (z.2 1) (it (z.2 1) u k) := rfl
          show wj_X9_walk_27 _ K post _ _ _ _ _ z
          refine end_4 Tk (by omega) ⟨fun h => absurd h (by rw [nI_ltI (by omega) (by omega)]; omega), fun _ => end_4 Tk (by omega) (end_2 Uk (by omega) (ihd (k + 1) (by omega)))⟩
      exact ⟨j + 1, inner j 0 (by omega)⟩
