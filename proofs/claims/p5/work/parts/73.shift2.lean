-- 73: a match and the ways through it, kept by copies elsewhere
/-- the pairs of a match -/
def DX (kp rw : Nat → Int32) (pat n lst m p u : Nat) : Prop := VP kp pat n p ∧ VU rw lst m u ∧ MXX kp rw p u
theorem DX_of {kp rw : Nat → Int32} {pat n N t lst m : Nat} (hP : PC kp pat n N t) (hT : TL rw lst m) (h : MT kp rw (MXX kp rw) 1 pat lst) : MT kp rw (DX kp rw pat n lst m) 1 pat lst ∧ ∀ p u, DX kp rw pat n lst m p u → VP kp pat n p ∧ VU rw lst m u ∧ (kd (kp p) = 1 → MT kp rw (DX kp rw pat n lst m) 0 p u) := by
  obtain ⟨hPL, t1, tt2, hit, hnest⟩ := hP
  constructor
  · obtain ⟨n', N', t', m', M, q1, q2, q3, q4, q5, q6⟩ := h
    obtain ⟨e1, e2, e3⟩ := PL_uniq hPL q1
    subst e1 e2 e3
    have em := TL_uniq hT q2.2.1
    subst em
    refine ⟨n, N, t, m, M, hPL, q2, q3, q4, q5, fun k k1 k2 => ⟨hit _ ?_ ?_, VU_items q2 (Nat.le_refl _) (Nat.le_refl _) k2 (q3 k k2), q6 k k1 k2⟩⟩
    · rcases hPL.2.2 with a | ⟨a, b, _⟩
      · have := q4 a; omega
      · have := tt2 a; omega
    · omega
  · rintro p u ⟨d1, d2, d3⟩
    refine ⟨d1, d2, fun hk => ?_⟩
    obtain ⟨n', N', t', hL', hb', hitems⟩ := hnest p d1 hk
    obtain ⟨n2, N2, t2, m', M, q1, q2, q3, q4, q5, q6⟩ := (MXX_list hL'.1.2.1 hk).mp d3
    obtain ⟨e1, e2, e3⟩ := PL_uniq hL' q1
    subst e1 e2 e3
    have em := TL_uniq d2.1 q2.2.1
    refine ⟨n', N', t', m', M, hL', q2, q3, q4, q5, fun k k1 k2 => ⟨hitems _ ?_, VU_items q2 (by have := d2.2.1; omega) (by have := d2.2.2.1; omega) k2 (q3 k k2), q6 k k1 k2⟩⟩
    rcases hL'.2.2 with a | ⟨a, b, _⟩
    · have := q4 a; omega
    · omega
section
variable {kp rw kp' rw' : Nat → Int32} {a1 c1 L1 a2 c2 L2 : Nat}
theorem PL_sh (h1 : ∀ j, j < L1 → kp' (c1 + j) = kp (a1 + j)) {p n N t : Nat} (h : PL kp (a1 + p) n N t) (hp : p + n ≤ L1) : PL kp' (c1 + p) n N t := by
  have hA : ∀ j, j < L1 → kp' (c1 + j) = kp (a1 + j) ∧ kp' (c1 + j) = kp (a1 + j) := fun j hj => ⟨h1 j hj, h1 j hj⟩
  have hL := sh_LI hA h.1 hp
  have tN := PL_t h
  have same : ∀ k, k ≤ N → kp' (it kp' (c1 + p) k) = kp (it kp (a1 + p) k) := by
    intro k hk
    have e := sh_it hA h.1 hp k hk
    have b := LI_at h.1 hk
    exact (sh_kd hA e (by omega) (by omega)).1
  refine ⟨hL, fun k hk => by rw [same k (by omega)]; exact h.2.1 k hk, ?_⟩
  rcases h.2.2 with q | ⟨q1, q2, q3⟩
  · exact Or.inl q
  · exact Or.inr ⟨q1, q2, by rw [same t (by omega)]; exact q3⟩
/-- the places of items, moved -/
theorem it_mv {r q : Nat → Int32} {a c L : Nat} (h1 : ∀ j, j < L → q (c + j) = r (a + j)) {p n N k : Nat} (h : LI r (a + p) n N) (hp : p + n ≤ L) (hk : k ≤ N) : ∃ X, it r (a + p) k = a + X ∧ it q (c + p) k = c + X ∧ p < X ∧ X < p + n := by
  have hA : ∀ j, j < L → q (c + j) = r (a + j) ∧ q (c + j) = r (a + j) := fun j hj => ⟨h1 j hj, h1 j hj⟩
  have e := sh_it hA h hp k hk
  have b := LI_at h hk
  exact ⟨it r (a + p) k - a, by omega, by omega, by omega, by omega⟩
theorem MT_mv (h1 : ∀ j, j < L1 → kp' (c1 + j) = kp (a1 + j)) (h2 : ∀ j, j < L2 → rw' (c2 + j) = rw (a2 + j)) {D D' : Nat → Nat → Prop} {s p u n m : Nat} (hT : TL kp (a1 + p) n) (hp : p + n ≤ L1) (hT2 : TL rw (a2 + u) m) (hu : u + m ≤ L2) (hD : ∀ x y z w, TL kp (a1 + x) z → p < x → x + z < p + n → z < n → TL rw (a2 + y) w → u < y → y + w < u + m → D (a1 + x) (a2 + y) → D' (c1 + x) (c2 + y)) (h : MT kp rw D s (a1 + p) (a2 + u)) : MT kp' rw' D' s (c1 + p) (c2 + u) := by
  obtain ⟨n', N, t, m', M, q1, q2, q3, q4, q5, q6⟩ := h
  have en := TL_uniq hT q1.1.2.1
  subst en
  have em := TL_uniq hT2 q2.2.1
  subst em
  have hA2 : ∀ j, j < L2 → rw' (c2 + j) = rw (a2 + j) ∧ rw' (c2 + j) = rw (a2 + j) := fun j hj => ⟨h2 j hj, h2 j hj⟩
  have hL2 := sh_LI hA2 q2 hu
  have tN := PL_t q1
  refine ⟨n, N, t, m, M, PL_sh h1 q1 hp, hL2, fun k hk => ?_, q4, q5, fun k k1 k2 => ?_⟩
  · obtain ⟨Y, y1, y2, y3, y4⟩ := it_mv h2 q2 hu (k := k) (by omega)
    have := q3 k hk
    rw [y1] at this
    rw [y2, h2 Y (by omega)]; exact this
  · have t0 : 0 < t := by
      rcases q1.2.2 with a | ⟨_, a, _⟩
      · have := q4 a; omega
      · exact a
    obtain ⟨X, x1, x2, x3, x4⟩ := it_mv h1 q1.1 hp (k := min k (t - 1)) (by omega)
    obtain ⟨Y, y1, y2, y3, y4⟩ := it_mv h2 q2 hu (k := k) (by omega)
    obtain ⟨i1, i2, i3, i4⟩ := PL_item q1 (k := min k (t - 1)) (by omega)
    obtain ⟨j1, j2⟩ := q2.2.2.1 k k2
    have j3 := LI_at q2 (k := k + 1) (by omega)
    have j4 : it rw (a2 + u) (k + 1) = it rw (a2 + u) k + tl rw (it rw (a2 + u) k) := rfl
    have d := q6 k k1 k2
    rw [x1] at i1 i2 i3 i4
    rw [y1] at j2 j4
    rw [x1, y1] at d
    rw [x2, y2]
    exact hD X Y _ _ i1 x3 (by omega) i4 j2 y3 (by omega) d
theorem MXX_mv (h1 : ∀ j, j < L1 → kp' (c1 + j) = kp (a1 + j)) (h2 : ∀ j, j < L2 → rw' (c2 + j) = rw (a2 + j)) : ∀ (z p u m : Nat), TL kp (a1 + p) z → p + z ≤ L1 → TL rw (a2 + u) m → u + m ≤ L2 → MXX kp rw (a1 + p) (a2 + u) → MXX kp' rw' (c1 + p) (c2 + u) := by
  intro z
  induction z using Nat.strongRecOn with
  | ind z ih =>
    intro p u m hT hp hT2 hu h
    have z0 := hT.1
    have m0 := hT2.1
    have ek : kp' (c1 + p) = kp (a1 + p) := h1 p (by omega)
    have eu : rw' (c2 + u) = rw (a2 + u) := h2 u (by omega)
    have hT' : TL kp' (c1 + p) z := TL_copy (r := kp) (i := a1 + p) (fun k hk => by
      have := h1 (p + k) (by omega)
      rw [show c1 + p + k = c1 + (p + k) from by omega, show a1 + p + k = a1 + (p + k) from by omega, this]) hT
    by_cases k1 : kd (kp (a1 + p)) = 1
    · refine (MXX_list hT' (by rw [ek]; exact k1)).mpr ?_
      refine MT_mv h1 h2 hT hp hT2 hu (fun x y z' w q1 q2 q3 q4 q5 q6 q7 d => ?_) ((MXX_list hT k1).mp h)
      exact ih z' q4 x y w q1 (by omega) q5 (by omega) d
    · by_cases k4 : kd (kp (a1 + p)) = 4
      · refine (MXX_num (by rw [ek]; exact k4)).mpr ?_
        rw [ek, eu]
        exact (MXX_num k4).mp h
      · exact MXX_any (by rw [ek]; exact k1) (by rw [ek]; exact k4)
/-- the first child that has v in it, moved -/
theorem chj_mv (h1 : ∀ j, j < L1 → kp' (c1 + j) = kp (a1 + j)) {p n N v : Nat} (h : LI kp (a1 + p) n N) (hp : p + n ≤ L1) (hv1 : p < v) (hv2 : v < p + n - 1) : chj kp' (c1 + p) (c1 + v) = chj kp (a1 + p) (a1 + v) := by
  have hA : ∀ j, j < L1 → kp' (c1 + j) = kp (a1 + j) ∧ kp' (c1 + j) = kp (a1 + j) := fun j hj => ⟨h1 j hj, h1 j hj⟩
  have hL := sh_LI hA h hp
  obtain ⟨i1, i2, i3⟩ := chj_ok h (v := a1 + v) (by omega) (by omega)
  obtain ⟨j1, j2, j3⟩ := chj_ok hL (v := c1 + v) (by omega) (by omega)
  generalize chj kp (a1 + p) (a1 + v) = i at *
  generalize chj kp' (c1 + p) (c1 + v) = j at *
  have e1 := sh_it hA h hp i (by omega)
  have e2 := sh_it hA h hp (i + 1) (by omega)
  rcases Nat.lt_trichotomy j i with c | c | c
  · have := LI_mono hL (j := j + 1) (k := i) (by omega) (by omega)
    omega
  · exact c
  · have := LI_mono hL (j := i + 1) (k := j) (by omega) (by omega)
    omega
/-- the way to a variable, moved -/
theorem wk_mv (h1 : ∀ j, j < L1 → kp' (c1 + j) = kp (a1 + j)) (h2 : ∀ j, j < L2 → rw' (c2 + j) = rw (a2 + j)) {rd : Nat → Nat} {D : Nat → Nat → Prop} {p0 n u0 m v stop : Nat} (hTP : TL kp (a1 + p0) n) (hkP : kd (kp (a1 + p0)) = 1) (hp0 : p0 + n ≤ L1) (hT : TL rw (a2 + u0) m) (hu0 : u0 + m ≤ L2) (hTop : MT kp rw D 1 (a1 + p0) (a2 + u0)) (hD : ∀ p u, D p u → VP kp (a1 + p0) n p ∧ VU rw (a2 + u0) m u ∧ (kd (kp p) = 1 → MT kp rw D 0 p u)) (hv : VP kp (a1 + p0) n (a1 + v)) : ∀ (F p u lev : Nat), ((p = p0 ∧ u = u0) ∨ D (a1 + p) (a2 + u)) → p ≤ v → (p ≠ v → v < p + tl kp (a1 + p) - 1 ∧ kd (kp (a1 + p)) = 1) → v - p + 1 ≤ F → wkS kp rw rd (a1 + v) stop F (a1 + p) (a2 + u) lev → wkS kp' rw' rd (c1 + v) stop F (c1 + p) (c2 + u) lev ∧ mtV kp' rw' rd (c1 + v) stop F (c1 + p) (c2 + u) lev + a2 = mtV kp rw rd (a1 + v) stop F (a1 + p) (a2 + u) lev + c2  := by
  have n2 := (TL_open hkP hTP).1
  intro F
  induction F with
  | zero => intro p u lev _ _ _ hF; omega
  | succ F ih =>
    intro p u lev hnd hpv hin hF hS
    by_cases hne : p = v
    · subst hne
      refine ⟨fun q => absurd rfl q, ?_⟩
      show (if c1 + p = c1 + p then c2 + u else _) + a2 = (if a1 + p = a1 + p then a2 + u else _) + c2
      rw [if_pos rfl, if_pos rfl]; omega
    · obtain ⟨hin1, hin2⟩ := hin hne
      have hpv2 : p < v := by omega
      have hMT : ∃ s, MT kp rw D s (a1 + p) (a2 + u) ∧ it kp (a1 + p) s ≤ a1 + v := by
        rcases hnd with ⟨rfl, rfl⟩ | hd
        · exact ⟨1, hTop, hv.1⟩
        · exact ⟨0, (hD _ _ hd).2.2 hin2, by show a1 + p + 1 ≤ a1 + v; omega⟩
      obtain ⟨s, hMT, hs⟩ := hMT
      obtain ⟨n', N', t', m', M, hPL', hL', jt, sj, jM, hheld, hfree⟩ := step_ok hMT (show a1 + p < a1 + v from by omega) (by omega) ⟨hv.2.2.1, hv.2.2.2⟩ hs
      have en' := tl_eq hPL'.1.2.1
      rw [en'] at hin1
      have preg : p0 ≤ p ∧ p + n' ≤ p0 + n := by
        rcases hnd with ⟨rfl, _⟩ | hd
        · have := TL_uniq hPL'.1.2.1 hTP; omega
        · have a := (hD _ _ hd).1
          have b := a.1
          have c := a.2.1
          have := (inTree hkP hTP (j := a1 + p) (by omega) (by omega) a.2.2.1).2
          omega
      have ureg : u + m' ≤ u0 + m := by
        rcases hnd with ⟨_, rfl⟩ | hd
        · have := TL_uniq hL'.2.1 hT; omega
        · have a := (hD _ _ hd).2.1
          have b := TL_uniq hL'.2.1 a.1
          have c := a.2.2.1
          omega
      obtain ⟨jN, j2, j3⟩ := chj_ok hPL'.1 (v := a1 + v) (by omega) (by omega)
      have ej := chj_mv h1 hPL'.1 (v := v) (by omega) hpv2 hin1
      have hL2' : LI rw' (c2 + u) m' M := sh_LI (fun j hj => ⟨h2 j hj, h2 j hj⟩) (s := rw) (t := rw') hL' (by omega)
      obtain ⟨hS1, hS2⟩ := hS (by omega)
      rw [nit_eq hL'] at hS1
      have eV1 : mtV kp rw rd (a1 + v) stop (F + 1) (a1 + p) (a2 + u) lev = (if kd (kp (it kp (a1 + p) (chj kp (a1 + p) (a1 + v) + 1))) = 6 then (if lev = stop then it rw (a2 + u) (chj kp (a1 + p) (a1 + v)) else mtV kp rw rd (a1 + v) stop F (it kp (a1 + p) (chj kp (a1 + p) (a1 + v))) (it rw (a2 + u) (chj kp (a1 + p) (a1 + v) + rd lev)) (lev + 1)) else mtV kp rw rd (a1 + v) stop F (it kp (a1 + p) (chj kp (a1 + p) (a1 + v))) (it rw (a2 + u) (chj kp (a1 + p) (a1 + v))) lev) := by
        show (if a1 + p = a1 + v then a2 + u else _) = _
        rw [if_neg (by omega)]
      have eV2 : mtV kp' rw' rd (c1 + v) stop (F + 1) (c1 + p) (c2 + u) lev = (if kd (kp' (it kp' (c1 + p) (chj kp' (c1 + p) (c1 + v) + 1))) = 6 then (if lev = stop then it rw' (c2 + u) (chj kp' (c1 + p) (c1 + v)) else mtV kp' rw' rd (c1 + v) stop F (it kp' (c1 + p) (chj kp' (c1 + p) (c1 + v))) (it rw' (c2 + u) (chj kp' (c1 + p) (c1 + v) + rd lev)) (lev + 1)) else mtV kp' rw' rd (c1 + v) stop F (it kp' (c1 + p) (chj kp' (c1 + p) (c1 + v))) (it rw' (c2 + u) (chj kp' (c1 + p) (c1 + v))) lev) := by
        show (if c1 + p = c1 + v then c2 + u else _) = _
        rw [if_neg (by omega)]
      have goalS : wkS kp' rw' rd (c1 + v) stop (F + 1) (c1 + p) (c2 + u) lev = (c1 + p ≠ c1 + v → (kd (kp' (it kp' (c1 + p) (chj kp' (c1 + p) (c1 + v) + 1))) = 6 → lev ≠ stop → lev < 3 ∧ chj kp' (c1 + p) (c1 + v) + rd lev < nit rw' (c2 + u) ∧ wkS kp' rw' rd (c1 + v) stop F (it kp' (c1 + p) (chj kp' (c1 + p) (c1 + v))) (it rw' (c2 + u) (chj kp' (c1 + p) (c1 + v) + rd lev)) (lev + 1)) ∧ (¬ kd (kp' (it kp' (c1 + p) (chj kp' (c1 + p) (c1 + v) + 1))) = 6 → wkS kp' rw' rd (c1 + v) stop F (it kp' (c1 + p) (chj kp' (c1 + p) (c1 + v))) (it rw' (c2 + u) (chj kp' (c1 + p) (c1 + v))) lev)) := rfl
      rw [goalS, eV1, eV2, ej, nit_eq hL2']
      have Tj := (hPL'.1.2.2.1 (chj kp (a1 + p) (a1 + v)) jN).2
      generalize chj kp (a1 + p) (a1 + v) = j at jt sj jM hheld hfree jN j2 j3 hS1 hS2 Tj ⊢
      obtain ⟨X, x1, x2, x3, x4⟩ := it_mv h1 hPL'.1 (by omega) (k := j) (by omega)
      obtain ⟨X', x1', x2', x3', x4'⟩ := it_mv h1 hPL'.1 (by omega) (k := j + 1) (by omega)
      have e6 : kp' (it kp' (c1 + p) (j + 1)) = kp (it kp (a1 + p) (j + 1)) := by rw [x1', x2', h1 X' (by omega)]
      rw [e6]
      have inq : X ≠ v → v < X + tl kp (a1 + X) - 1 ∧ kd (kp (a1 + X)) = 1 := by
        intro hne2
        have ej1 : it kp (a1 + p) (j + 1) = it kp (a1 + p) j + tl kp (it kp (a1 + p) j) := rfl
        rw [x1] at Tj ej1 j2
        have kq : kd (kp (a1 + X)) = 1 := by
          apply Classical.byContradiction
          intro hn
          have := tl_eq (TL_atom hn)
          omega
        refine ⟨?_, kq⟩
        have := (TL_open kq Tj).2.2
        rcases Nat.lt_or_ge v (X + tl kp (a1 + X) - 1) with c | c
        · exact c
        · have ev : a1 + v = a1 + X + (tl kp (a1 + X) - 1) := by omega
          rw [← ev] at this
          exact absurd this hv.2.2.1
      rw [x1] at j2 hheld hfree hS1 hS2
      rw [x1, x2]
      by_cases h6 : kd (kp (it kp (a1 + p) (j + 1))) = 6
      · rw [if_pos h6, if_pos h6]
        by_cases hls : lev = stop
        · rw [if_pos hls, if_pos hls]
          obtain ⟨Y, y1, y2, y3, y4⟩ := it_mv h2 hL' (by omega) (k := j) jM
          exact ⟨fun _ => ⟨fun _ q => absurd hls q, fun q => absurd h6 q⟩, by omega⟩
        · rw [if_neg hls, if_neg hls]
          obtain ⟨l3, lr, lS⟩ := hS1 h6 hls
          obtain ⟨Y, y1, y2, y3, y4⟩ := it_mv h2 hL' (by omega) (k := j + rd lev) (by omega)
          rw [y1] at lS
          rw [y1, y2]
          have d0 := hheld h6 (rd lev) lr
          rw [y1] at d0
          obtain ⟨r1, r2⟩ := ih X Y (lev + 1) (Or.inr d0) (by omega) inq (by omega) lS
          exact ⟨fun _ => ⟨fun _ _ => ⟨l3, lr, r1⟩, fun q => absurd h6 q⟩, r2⟩
      · rw [if_neg h6, if_neg h6]
        obtain ⟨jM2, d0⟩ := hfree h6
        obtain ⟨Y, y1, y2, y3, y4⟩ := it_mv h2 hL' (by omega) (k := j) jM
        rw [y1] at d0 hS2
        rw [y1, y2]
        obtain ⟨r1, r2⟩ := ih X Y lev (Or.inr d0) (by omega) inq (by omega) (hS2 h6)
        exact ⟨fun _ => ⟨fun q => absurd q h6, fun _ => r1⟩, r2⟩
/-- the levels on the way to a variable, moved -/
theorem lvF_mv (h1 : ∀ j, j < L1 → kp' (c1 + j) = kp (a1 + j)) {p0 n N0 t0 v : Nat} (hP : PC kp (a1 + p0) n N0 t0) (hp0 : p0 + n ≤ L1) (hv : VP kp (a1 + p0) n (a1 + v)) : ∀ (F p : Nat), (p = p0 ∨ VP kp (a1 + p0) n (a1 + p)) → p ≤ v → (p ≠ v → v < p + tl kp (a1 + p) - 1 ∧ kd (kp (a1 + p)) = 1) → lvF kp' (c1 + v) F (c1 + p) = lvF kp (a1 + v) F (a1 + p) := by
  have hkP := hP.1.1.1
  have hTP := hP.1.1.2.1
  intro F
  induction F with
  | zero => intro p _ _ _; rfl
  | succ F ih =>
    intro p hnd hpv hin
    by_cases hne : p = v
    · subst hne
      show (if c1 + p = c1 + p then 0 else _) = (if a1 + p = a1 + p then 0 else _)
      rw [if_pos rfl, if_pos rfl]
    · obtain ⟨hin1, hin2⟩ := hin hne
      have hpv2 : p < v := by omega
      obtain ⟨n', N', t', hPL', hb, hi⟩ : ∃ n' N' t', PL kp (a1 + p) n' N' t' ∧ p + n' ≤ p0 + n ∧ ∀ k, k < t' → it kp (a1 + p) k ≤ a1 + v → a1 + v < it kp (a1 + p) (k + 1) → VP kp (a1 + p0) n (it kp (a1 + p) k) := by
        rcases hnd with rfl | hd
        · refine ⟨n, N0, t0, hP.1, by omega, fun k k1 k2 k3 => hP.2.2.2.1 k ?_ k1⟩
          rcases Nat.eq_zero_or_pos k with q | q
          · subst q
            have e : it kp (a1 + p) (0 + 1) = a1 + p + 1 + tl kp (a1 + p + 1) := rfl
            have := hv.1
            omega
          · exact q
        · obtain ⟨n', N', t', x1, x2, x3⟩ := hP.2.2.2.2 _ hd hin2
          exact ⟨n', N', t', x1, by omega, fun k k1 _ _ => x3 k k1⟩
      have en' := tl_eq hPL'.1.2.1
      rw [en'] at hin1
      obtain ⟨jN, j2, j3⟩ := chj_ok hPL'.1 (v := a1 + v) (by omega) (by omega)
      have ej := chj_mv h1 hPL'.1 (v := v) (by omega) hpv2 hin1
      have jt : chj kp (a1 + p) (a1 + v) < t' := by
        rcases hPL'.2.2 with q | ⟨q1, q2, q3⟩
        · omega
        · rcases Nat.lt_or_ge (chj kp (a1 + p) (a1 + v)) t' with c | c
          · exact c
          · exfalso
            have e : chj kp (a1 + p) (a1 + v) = t' := by omega
            rw [e] at j2 j3
            have e1 : it kp (a1 + p) (t' + 1) = it kp (a1 + p) t' + tl kp (it kp (a1 + p) t') := rfl
            have e2 := tl_eq (TL_atom (r := kp) (i := it kp (a1 + p) t') (by rw [q3]; decide))
            have e3 : it kp (a1 + p) t' = a1 + v := by omega
            rw [e3] at q3
            exact hv.2.2.2 q3
      show (if c1 + p = c1 + v then 0 else (if kd (kp' (it kp' (c1 + p) (chj kp' (c1 + p) (c1 + v) + 1))) = 6 then 1 else 0) + lvF kp' (c1 + v) F (it kp' (c1 + p) (chj kp' (c1 + p) (c1 + v)))) = (if a1 + p = a1 + v then 0 else (if kd (kp (it kp (a1 + p) (chj kp (a1 + p) (a1 + v) + 1))) = 6 then 1 else 0) + lvF kp (a1 + v) F (it kp (a1 + p) (chj kp (a1 + p) (a1 + v))))
      rw [if_neg (show ¬ c1 + p = c1 + v from by omega), if_neg (show ¬ a1 + p = a1 + v from by omega), ej]
      have Tj := (hPL'.1.2.2.1 (chj kp (a1 + p) (a1 + v)) jN).2
      have hj := hi _ jt j2 j3
      generalize chj kp (a1 + p) (a1 + v) = j at jN j2 j3 jt Tj hj ⊢
      obtain ⟨X, x1, x2, x3, x4⟩ := it_mv h1 hPL'.1 (by omega) (k := j) (by omega)
      obtain ⟨X', x1', x2', x3', x4'⟩ := it_mv h1 hPL'.1 (by omega) (k := j + 1) (by omega)
      have e6 : kp' (it kp' (c1 + p) (j + 1)) = kp (it kp (a1 + p) (j + 1)) := by rw [x1', x2', h1 X' (by omega)]
      have ej1 : it kp (a1 + p) (j + 1) = it kp (a1 + p) j + tl kp (it kp (a1 + p) j) := rfl
      rw [e6]
      rw [x1] at Tj ej1 j2 hj
      rw [x1, x2]
      rw [ih X (Or.inr hj) (by omega) (fun hne2 => ?_)]
      have kq : kd (kp (a1 + X)) = 1 := by
        apply Classical.byContradiction
        intro hn
        have := tl_eq (TL_atom hn)
        omega
      refine ⟨?_, kq⟩
      have := (TL_open kq Tj).2.2
      rcases Nat.lt_or_ge v (X + tl kp (a1 + X) - 1) with c | c
      · exact c
      · have ev : a1 + v = a1 + X + (tl kp (a1 + X) - 1) := by omega
        rw [← ev] at this
        exact absurd this hv.2.2.1
end
