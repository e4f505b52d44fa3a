-- 72: the class's way to what a variable matched
noncomputable def mtV (kp rw : Nat → Int32) (rd : Nat → Nat) (v stop : Nat) : Nat → Nat → Nat → Nat → Nat
  | 0, _, u, _ => u
  | F + 1, p, u, lev => if p = v then u else if kd (kp (it kp p (chj kp p v + 1))) = 6 then (if lev = stop then it rw u (chj kp p v) else mtV kp rw rd v stop F (it kp p (chj kp p v)) (it rw u (chj kp p v + rd lev)) (lev + 1)) else mtV kp rw rd v stop F (it kp p (chj kp p v)) (it rw u (chj kp p v)) lev
theorem roundOf_ok {i l : Nat} {x : Int32} {u : mS} {post : Int32 → mS → Prop} (h : u.1 15 = nI l) (hl : l ≤ 2) (hi : i < l) (e : u.2 11 i = x) (hp : post x u) : wp_X4_roundOf (nI i) u post := by
  refine ⟨fun q => absurd q (nI_pos (by omega)), fun _ => ?_⟩
  intro y2 e2
  rw [h] at e2; subst e2
  refine ⟨fun q => absurd q (by rw [nI_leI (by omega) (by omega)]; omega), fun _ => ⟨fun q => absurd q (by rw [show (2 : Int32) = nI 2 from rfl, nI_leI (by omega) (by omega)]; omega), fun _ => ⟨vp_in_nI (by omega) (by omega), ?_⟩⟩⟩
  intro y5 e5
  rw [nI_clamp (by omega), e] at e5; subst e5
  exact hp
theorem matchOf_ok {a1 b1 a2 b2 pat n N t lst m v stop l : Nat} {rd : Nat → Nat} {D : Nat → Nat → Prop} {u : mS} {post : Int32 → mS → Prop} (hA1 : AR u a1 b1) (hA2 : AR u a2 b2) (hP : PC (ra u) pat n N t) (hap : a1 ≤ pat) (hpb : pat + n < b1) (hnext : ¬ kd (ra u (pat + n)) = 6) (hT : TL (ra u) lst m) (hal : a2 ≤ lst) (hlb : lst + m ≤ b2) (hTop : MT (ra u) (ra u) D 1 pat lst) (hD : ∀ p x, D p x → VP (ra u) pat n p ∧ VU (ra u) lst m x ∧ (kd (ra u p) = 1 → MT (ra u) (ra u) D 0 p x)) (hv : VP (ra u) pat n v) (h12 : u.1 12 = nI pat) (h13 : u.1 13 = nI lst) (h15 : u.1 15 = nI l) (hl : l ≤ 2) (hrd : ∀ i, i < l → u.2 11 i = nI (rd i) ∧ rd i < 2 ^ 20) (hst : stop ≤ 2) (hlv : ∀ i, i < stop → i < lvF (ra u) v (v - pat + 1) pat → i < l) (hS : wkS (ra u) (ra u) rd v stop (v - pat + 1) pat lst 0) (hp : post (nI (mtV (ra u) (ra u) rd v stop (v - pat + 1) pat lst 0)) u) : wp_X1_matchOf (nI v) (nI stop) u post := by
  have hb1 := AR_b hA1
  have hb2 := AR_b hA2
  have hPL := hP.1
  have en := tl_eq hPL.1.2.1
  have hvb := hv.2.1
  have n2 := (TL_open hPL.1.1 hPL.1.2.1).1
  have m0 := hT.1
  have first : pat < v := by have := hv.1; omega
  have node : ∀ (F p x lev s : Nat), ((p = pat ∧ x = lst) ∨ D p x) → p ≤ v → (p ≠ v → v < p + tl (ra u) p - 1 ∧ kd (ra u p) = 1) → v - p + 1 ≤ F → lev ≤ stop → lev + lvF (ra u) v F p = lvF (ra u) v (v - pat + 1) pat → pat ≤ p → s ≤ p - pat → wkS (ra u) (ra u) rd v stop F p x lev → post (nI (mtV (ra u) (ra u) rd v stop F p x lev)) u → ∃ k, wj_X1_matchOf_120 (mL7 (fun K => wj_X1_matchOf_17 K post) k) post (nI v) (nI stop) (nI p) (nI x) (nI lev) (nI s) u := by
    intro F
    induction F with
    | zero => intro p x lev s _ _ _ hF; omega
    | succ F ih =>
      intro p x lev s hnd hpv hin hF hls hlev hpp hs hSS hpo
      have hxb : x < b2 := by
        rcases hnd with ⟨_, rfl⟩ | hd
        · omega
        · have a := (hD p x hd).2.1
          have a1 := a.1.1
          have a2 := a.2.2.1
          omega
      by_cases hne : p = v
      · have hpo : post (nI (if p = v then x else _)) u := hpo
        rw [if_pos hne] at hpo
        exact ⟨0, fun q => absurd q (by rw [nI_ltI (by omega) (by omega)]; omega), fun _ => hpo⟩
      · obtain ⟨hin1, hin2⟩ := hin hne
        have hMT : ∃ s, MT (ra u) (ra u) D s p x ∧ it (ra u) p s ≤ v := by
          rcases hnd with ⟨rfl, rfl⟩ | hd
          · exact ⟨1, hTop, hv.1⟩
          · exact ⟨0, (hD p x hd).2.2 hin2, by show p + 1 ≤ v; omega⟩
        obtain ⟨s0, hMT, hs0⟩ := hMT
        have hpv2 : p < v := Nat.lt_of_le_of_ne hpv hne
        obtain ⟨n', N', t', m', M, hPL', hL', jt, sj, jM, hheld, hfree⟩ := step_ok hMT hpv2 hin1 ⟨hv.2.2.1, hv.2.2.2⟩ hs0
        have en' := tl_eq hPL'.1.2.1
        have em' := tl_eq hL'.2.1
        obtain ⟨jN, j2, j3⟩ := chj_ok hPL'.1 (v := v) hpv2 (by rw [en'] at hin1; exact hin1)
        have xreg : a2 ≤ x ∧ x + m' ≤ b2 := by
          rcases hnd with ⟨_, rfl⟩ | hd
          · have := TL_uniq hL'.2.1 hT; omega
          · have a := (hD p x hd).2.1
            have b := TL_uniq hL'.2.1 a.1
            have c := a.2.2.1
            have d := a.2.1
            omega
        have preg : p + n' ≤ pat + n := by
          rcases hnd with ⟨rfl, _⟩ | hd
          · have := TL_uniq hPL'.1.2.1 hPL.1.2.1; omega
          · have a := (hD p x hd).1
            have := (inTree hPL.1.1 hPL.1.2.1 (j := p) (by have := a.1; omega) (by have := a.2.1; omega) a.2.2.1).2
            omega
        obtain ⟨hS1, hS2⟩ := hSS hne
        have eL : lvF (ra u) v (F + 1) p = (if kd (ra u (it (ra u) p (chj (ra u) p v + 1))) = 6 then 1 else 0) + lvF (ra u) v F (it (ra u) p (chj (ra u) p v)) := by
          show (if p = v then 0 else _) = _
          rw [if_neg hne]
        rw [eL] at hlev
        have hpo : post (nI (if p = v then x else if kd (ra u (it (ra u) p (chj (ra u) p v + 1))) = 6 then (if lev = stop then it (ra u) x (chj (ra u) p v) else mtV (ra u) (ra u) rd v stop F (it (ra u) p (chj (ra u) p v)) (it (ra u) x (chj (ra u) p v + rd lev)) (lev + 1)) else mtV (ra u) (ra u) rd v stop F (it (ra u) p (chj (ra u) p v)) (it (ra u) x (chj (ra u) p v)) lev)) u := hpo
        rw [if_neg hne] at hpo
        rw [nit_eq hL'] at hS1
        have Tj := (hPL'.1.2.2.1 (chj (ra u) p v) jN).2
        have bj := LI_at hPL'.1 (k := chj (ra u) p v) (by omega)
        have bj1 := LI_at hPL'.1 (k := chj (ra u) p v + 1) (by omega)
        have cj := (hPL'.1.2.2.1 (chj (ra u) p v) jN).1
        have ej1 : it (ra u) p (chj (ra u) p v + 1) = it (ra u) p (chj (ra u) p v) + tl (ra u) (it (ra u) p (chj (ra u) p v)) := rfl
        generalize chj (ra u) p v = j at jt sj jM hheld hfree jN j2 j3 hS1 hS2 hlev hpo Tj bj bj1 cj ej1
        have inq : it (ra u) p j ≠ v → v < it (ra u) p j + tl (ra u) (it (ra u) p j) - 1 ∧ kd (ra u (it (ra u) p j)) = 1 := by
          intro hne2
          have kq : kd (ra u (it (ra u) p j)) = 1 := by
            apply Classical.byContradiction
            intro hn
            have := tl_eq (TL_atom hn)
            omega
          refine ⟨?_, kq⟩
          have := (TL_open kq Tj).2.2
          rcases Nat.lt_or_ge v (it (ra u) p j + tl (ra u) (it (ra u) p j) - 1) with c | c
          · exact c
          · have ev : v = it (ra u) p j + (tl (ra u) (it (ra u) p j) - 1) := by omega
            rw [← ev] at this
            exact absurd this hv.2.2.1
        -- at the child that has v in it
        have last : ∀ s, s ≤ it (ra u) p j - pat → ∃ k, mL7 (fun K => wj_X1_matchOf_17 K post) k (nI v) (nI stop) (nI (it (ra u) p j)) (nI (it (ra u) x j)) (nI lev) (nI s) u := by
          intro s hs
          have main : ∀ k, (¬ kd (ra u (it (ra u) p (j + 1))) = 6 → wj_X1_matchOf_120 (mL7 (fun K => wj_X1_matchOf_17 K post) k) post (nI v) (nI stop) (nI (it (ra u) p j)) (nI (it (ra u) x j)) (nI lev) (nI s) u) → (kd (ra u (it (ra u) p (j + 1))) = 6 → lev ≠ stop → wj_X1_matchOf_120 (mL7 (fun K => wj_X1_matchOf_17 K post) k) post (nI v) (nI stop) (nI (it (ra u) p j)) (nI (it (ra u) x (j + rd lev))) (nI (lev + 1)) (nI s) u) → mL7 (fun K => wj_X1_matchOf_17 K post) (k + 1) (nI v) (nI stop) (nI (it (ra u) p j)) (nI (it (ra u) x j)) (nI lev) (nI s) u := by
            intro k g0 g1
            show wj_X1_matchOf_17 _ post _ _ _ _ _ _ u
            refine ⟨fun q => absurd q (by rw [show (1000000 : Int32) = nI 1000000 from rfl, nI_leI (by omega) (by omega)]; omega), fun _ => ?_⟩
            refine after_ok hA1 (by omega) (by omega) ⟨fun _ => ?_, fun q => absurd (by rw [nI_ltI (by omega) (by omega)]; omega) q⟩
            refine heldA hA1 (by omega) (by omega) (fun q1 q2 => ⟨fun q => absurd q (by decide), fun _ => ⟨fun ql => ?_, fun ql => ?_⟩⟩) (fun q => ⟨fun _ => g0 ?_, fun z => absurd rfl z⟩)
            · rw [nI_ltI (by omega) (by omega)] at ql
              rw [← ej1] at q2
              obtain ⟨l3, lr, lS⟩ := hS1 q2 (by omega)
              rw [if_pos q2] at hlev
              have ll := hlv lev ql (by omega)
              obtain ⟨r1, r2⟩ := hrd lev ll
              refine roundOf_ok h15 hl ll r1 ?_
              have key : ∀ (d i : Nat), i + d = rd lev → mL9 (fun K => wj_X1_matchOf_93 K (mL7 (fun K => wj_X1_matchOf_17 K post) k) post) (d + 1) (nI v) (nI stop) (nI (it (ra u) p j)) (nI (it (ra u) x (j + i))) (nI lev) (nI s) (nI (rd lev)) (nI i) u := by
                intro d
                induction d with
                | zero =>
                  intro i hi
                  show wj_X1_matchOf_93 _ _ post _ _ _ _ _ _ _ _ u
                  have ei : i = rd lev := by omega
                  subst ei
                  refine ⟨fun _ => ?_, fun z => absurd (Int32.le_refl _) z⟩
                  rintro _ rfl
                  rw [nI_1]
                  exact g1 q2 (by omega)
                | succ d ihd =>
                  intro i hi
                  have bx := LI_at hL' (k := j + i) (by omega)
                  show wj_X1_matchOf_93 _ _ post _ _ _ _ _ _ _ _ u
                  refine ⟨fun z => absurd z (by rw [nI_leI (by omega) (by omega)]; omega), fun _ => ?_⟩
                  refine after_ok hA2 (by omega) (by omega) ?_
                  rintro _ rfl
                  rw [nI_1]
                  exact ihd (i + 1) (by omega)
              exact ⟨_, key (rd lev) 0 (by omega)⟩
            · rw [nI_ltI (by omega) (by omega)] at ql
              rw [← ej1] at q2
              rw [if_pos q2, if_pos (show lev = stop from by omega)] at hpo
              exact hpo
            · rcases q with q | q
              · exact absurd q cj
              · rw [ej1]; exact q
          by_cases h6 : kd (ra u (it (ra u) p (j + 1))) = 6
          · by_cases hls2 : lev = stop
            · exact ⟨1, main 0 (fun q => absurd h6 q) (fun _ q => absurd hls2 q)⟩
            · obtain ⟨l3, lr, lS⟩ := hS1 h6 hls2
              rw [if_pos h6] at hlev
              rw [if_pos h6, if_neg hls2] at hpo
              obtain ⟨k, hk⟩ := ih (it (ra u) p j) (it (ra u) x (j + rd lev)) (lev + 1) s (Or.inr (hheld h6 _ lr)) j2 inq (by omega) (by omega) (by omega) (by omega) hs lS hpo
              exact ⟨k + 1, main k (fun q => absurd h6 q) (fun _ _ => hk)⟩
          · rw [if_neg h6] at hlev hpo
            obtain ⟨k, hk⟩ := ih (it (ra u) p j) (it (ra u) x j) lev s (Or.inr (hfree h6).2) j2 inq (by omega) hls (by omega) (by omega) hs (hS2 h6) hpo
            exact ⟨k + 1, main k (fun _ => hk) (fun q => absurd q h6)⟩
        have sib : ∀ (d i s : Nat), i + d = j → s ≤ it (ra u) p i - pat → ∃ k, mL7 (fun K => wj_X1_matchOf_17 K post) k (nI v) (nI stop) (nI (it (ra u) p i)) (nI (it (ra u) x i)) (nI lev) (nI s) u := by
          intro d
          induction d with
          | zero =>
            intro i s hi hs
            have : i = j := by omega
            subst this
            exact last s hs
          | succ d ihd =>
            intro i s hi hs
            have bi := LI_at hPL'.1 (k := i) (by omega)
            have bi1 := LI_at hPL'.1 (k := i + 1) (by omega)
            have bij := LI_mono hPL'.1 (j := i + 1) (k := j) (by omega) (by omega)
            have ei1 : it (ra u) p (i + 1) = it (ra u) p i + tl (ra u) (it (ra u) p i) := rfl
            have bx := LI_at hL' (k := i) (by omega)
            have ti0 := ((hPL'.1.2.2.1 i (by omega)).2).1
            obtain ⟨k, hk⟩ := ihd (i + 1) (s + 1) (by omega) (by omega)
            refine ⟨k + 1, ?_⟩
            show wj_X1_matchOf_17 _ post _ _ _ _ _ _ u
            refine ⟨fun q => absurd q (by rw [show (1000000 : Int32) = nI 1000000 from rfl, nI_leI (by omega) (by omega)]; omega), fun _ => ?_⟩
            refine after_ok hA1 (by omega) (by omega) ⟨fun q => absurd q (by rw [nI_ltI (by omega) (by omega)]; omega), fun _ => ?_⟩
            refine after_ok hA1 (by omega) (by omega) (after_ok hA2 (by omega) (by omega) ?_)
            rintro _ rfl
            rw [nI_1]
            exact hk
        obtain ⟨k, hk⟩ := sib j 0 (s + 1) (by omega) (by show s + 1 ≤ p + 1 - pat; omega)
        refine ⟨k, fun _ => ?_, fun q => absurd (by rw [nI_ltI (by omega) (by omega)]; omega) q⟩
        rintro _ rfl _ rfl _ rfl
        rw [nI_1, nI_1, nI_1]
        exact hk
  obtain ⟨k, hk⟩ := node (v - pat + 1) pat lst 0 0 (Or.inl ⟨rfl, rfl⟩) (by omega) (fun _ => ⟨by rw [en]; omega, hPL.1.1⟩) (Nat.le_refl _) (by omega) (by omega) (Nat.le_refl _) (by omega) hS hp
  intro y1 e1
  rw [h12] at e1; subst e1
  intro y2 e2
  rw [h13] at e2; subst e2
  refine ⟨k + 1, ?_⟩
  show wj_X1_matchOf_17 _ post _ _ _ _ _ _ u
  refine ⟨fun q => absurd q (by decide), fun _ => ?_⟩
  refine after_ok hA1 hap (by omega) ⟨fun _ => ?_, fun q => absurd (by rw [en, nI_ltI (by omega) (by omega)]; omega) q⟩
  refine heldA hA1 hap (by rw [en]; omega) (fun q1 q2 => absurd (by rw [en] at q2; exact q2) hnext) (fun _ => ⟨fun _ => hk, fun z => absurd rfl z⟩)
/-- where all levels are gone through, both ways come to the same tree -/
theorem mtV_all {kp rw : Nat → Int32} {rd : Nat → Nat} {v st st' : Nat} : ∀ (F p u lev : Nat), lev + lvF kp v F p ≤ st → lev + lvF kp v F p ≤ st' → mtV kp rw rd v st F p u lev = wkV kp rw rd v st' F p u lev := by
  intro F
  induction F with
  | zero => intro p u lev _ _; rfl
  | succ F ih =>
    intro p u lev h1 h2
    show (if p = v then u else if kd (kp (it kp p (chj kp p v + 1))) = 6 then (if lev = st then it rw u (chj kp p v) else mtV kp rw rd v st F (it kp p (chj kp p v)) (it rw u (chj kp p v + rd lev)) (lev + 1)) else mtV kp rw rd v st F (it kp p (chj kp p v)) (it rw u (chj kp p v)) lev) = (if p = v then u else if kd (kp (it kp p (chj kp p v + 1))) = 6 then (if lev = st' then nit rw u - chj kp p v else wkV kp rw rd v st' F (it kp p (chj kp p v)) (it rw u (chj kp p v + rd lev)) (lev + 1)) else wkV kp rw rd v st' F (it kp p (chj kp p v)) (it rw u (chj kp p v)) lev)
    by_cases hne : p = v
    · rw [if_pos hne, if_pos hne]
    · have eL : lvF kp v (F + 1) p = (if kd (kp (it kp p (chj kp p v + 1))) = 6 then 1 else 0) + lvF kp v F (it kp p (chj kp p v)) := by
        show (if p = v then 0 else _) = _
        rw [if_neg hne]
      rw [eL] at h1 h2
      rw [if_neg hne, if_neg hne]
      by_cases h6 : kd (kp (it kp p (chj kp p v + 1))) = 6
      · rw [if_pos h6] at h1 h2
        rw [if_pos h6, if_pos h6, if_neg (by omega), if_neg (by omega)]
        exact ih _ _ _ (by omega) (by omega)
      · rw [if_neg h6] at h1 h2
        rw [if_neg h6, if_neg h6]
        exact ih _ _ _ (by omega) (by omega)
/-- where a level is not gone into: the place of its first round, and how many there are -/
theorem mtV_cnt {kp rw : Nat → Int32} {rd : Nat → Nat} {D : Nat → Nat → Prop} {pat n lst m v stop : Nat} (hT : TL rw lst m) (hTop : MT kp rw D 1 pat lst) (hD : ∀ p u, D p u → VP kp pat n p ∧ VU rw lst m u ∧ (kd (kp p) = 1 → MT kp rw D 0 p u)) (hv : VP kp pat n v) : ∀ (F p u lev : Nat), ((p = pat ∧ u = lst) ∨ D p u) → p ≤ v → (p ≠ v → v < p + tl kp p - 1 ∧ kd (kp p) = 1) → v - p + 1 ≤ F → lev ≤ stop → stop < lev + lvF kp v F p → wkS kp rw rd v stop F p u lev → ∃ x m' M k, LI rw x m' M ∧ lst ≤ x ∧ x + m' ≤ lst + m ∧ k ≤ M ∧ mtV kp rw rd v stop F p u lev = it rw x k ∧ wkV kp rw rd v stop F p u lev = M - k := by
  intro F
  induction F with
  | zero => intro p u lev _ _ _ hF; omega
  | succ F ih =>
    intro p u lev hnd hpv hin hF hls hlev hS
    by_cases hne : p = v
    · have e : lvF kp v (F + 1) p = 0 := by
        show (if p = v then 0 else _) = 0
        rw [if_pos hne]
      omega
    · obtain ⟨hin1, hin2⟩ := hin hne
      have hMT : ∃ s, MT kp rw D s p u ∧ it kp p s ≤ v := by
        rcases hnd with ⟨rfl, rfl⟩ | hd
        · exact ⟨1, hTop, hv.1⟩
        · exact ⟨0, (hD p u hd).2.2 hin2, by show p + 1 ≤ v; omega⟩
      obtain ⟨s, hMT, hs⟩ := hMT
      have hpv2 : p < v := Nat.lt_of_le_of_ne hpv hne
      obtain ⟨n', N', t', m', M, hPL', hL', jt, sj, jM, hheld, hfree⟩ := step_ok hMT hpv2 hin1 ⟨hv.2.2.1, hv.2.2.2⟩ hs
      have xreg : lst ≤ u ∧ u + m' ≤ lst + m := by
        rcases hnd with ⟨_, rfl⟩ | hd
        · have := TL_uniq hL'.2.1 hT; omega
        · have a := (hD p u hd).2.1
          have b := TL_uniq hL'.2.1 a.1
          have c := a.2.2.1
          have d := a.2.1
          omega
      have en' := tl_eq hPL'.1.2.1
      obtain ⟨jN, j2, j3⟩ := chj_ok hPL'.1 (v := v) hpv2 (by rw [en'] at hin1; exact hin1)
      obtain ⟨hS1, hS2⟩ := hS hne
      have eL : lvF kp v (F + 1) p = (if kd (kp (it kp p (chj kp p v + 1))) = 6 then 1 else 0) + lvF kp v F (it kp p (chj kp p v)) := by
        show (if p = v then 0 else _) = _
        rw [if_neg hne]
      rw [eL] at hlev
      have eV : wkV kp rw rd v stop (F + 1) p u lev = (if kd (kp (it kp p (chj kp p v + 1))) = 6 then (if lev = stop then nit rw u - chj kp p v else wkV kp rw rd v stop F (it kp p (chj kp p v)) (it rw u (chj kp p v + rd lev)) (lev + 1)) else wkV kp rw rd v stop F (it kp p (chj kp p v)) (it rw u (chj kp p v)) lev) := by
        show (if p = v then u else _) = _
        rw [if_neg hne]
      have eM : mtV kp rw rd v stop (F + 1) p u lev = (if kd (kp (it kp p (chj kp p v + 1))) = 6 then (if lev = stop then it rw u (chj kp p v) else mtV kp rw rd v stop F (it kp p (chj kp p v)) (it rw u (chj kp p v + rd lev)) (lev + 1)) else mtV kp rw rd v stop F (it kp p (chj kp p v)) (it rw u (chj kp p v)) lev) := by
        show (if p = v then u else _) = _
        rw [if_neg hne]
      rw [eV, eM]
      rw [nit_eq hL'] at hS1 ⊢
      have Tj := (hPL'.1.2.2.1 (chj kp p v) jN).2
      have bj := LI_at hPL'.1 (k := chj kp p v) (by omega)
      have ej1 : it kp p (chj kp p v + 1) = it kp p (chj kp p v) + tl kp (it kp p (chj kp p v)) := rfl
      generalize chj kp p v = j at jt sj jM hheld hfree j2 j3 hS1 hS2 hlev Tj bj ej1 ⊢
      have inq : it kp p j ≠ v → v < it kp p j + tl kp (it kp p j) - 1 ∧ kd (kp (it kp p j)) = 1 := by
        intro hne2
        have kq : kd (kp (it kp p j)) = 1 := by
          apply Classical.byContradiction
          intro hn
          have := tl_eq (TL_atom hn)
          omega
        refine ⟨?_, kq⟩
        have := (TL_open kq Tj).2.2
        rcases Nat.lt_or_ge v (it kp p j + tl kp (it kp p j) - 1) with c | c
        · exact c
        · have ev : v = it kp p j + (tl kp (it kp p j) - 1) := by omega
          rw [← ev] at this
          exact absurd this hv.2.2.1
      by_cases h6 : kd (kp (it kp p (j + 1))) = 6
      · rw [if_pos h6] at hlev
        rw [if_pos h6, if_pos h6]
        by_cases hls2 : lev = stop
        · rw [if_pos hls2, if_pos hls2]
          exact ⟨u, m', M, j, hL', xreg.1, xreg.2, jM, rfl, rfl⟩
        · obtain ⟨l3, lr, lS⟩ := hS1 h6 hls2
          rw [if_neg hls2, if_neg hls2]
          exact ih _ _ _ (Or.inr (hheld h6 _ lr)) j2 inq (by omega) (by omega) (by omega) lS
      · rw [if_neg h6] at hlev
        rw [if_neg h6, if_neg h6]
        exact ih _ _ _ (Or.inr (hfree h6).2) j2 inq (by omega) hls (by omega) (hS2 h6)
