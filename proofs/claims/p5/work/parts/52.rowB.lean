-- 52: hasDots, plainLength, holders, findName of the class's row
theorem dn_z {r : Nat → Int32} {i : Nat} : ∀ {k : Nat}, (∀ j, j < k → ¬ kd (r (it r i j)) = 6) → dn r i k = 0 := by
  intro k
  induction k with
  | zero => intro _; rfl
  | succ k ih =>
    intro h
    show dn r i k + (if kd (r (it r i k)) = 6 then 1 else 0) = 0
    rw [ih (fun j hj => h j (by omega)), if_neg (h k (by omega))]
theorem cn_pos {r : Nat → Int32} {i : Nat} (h0 : ¬ kd (r (it r i 0)) = 6) : ∀ {k : Nat}, 0 < k → cn r i k ≠ 0 := by
  intro k
  induction k with
  | zero => intro h; omega
  | succ k ih =>
    intro _
    show cn r i k + (if kd (r (it r i k)) = 6 then 0 else 1) ≠ 0
    rcases Nat.eq_zero_or_pos k with c | c
    · subst c
      rw [if_neg h0]; omega
    · have := ih c
      omega
theorem hD_step {a b p : Nat} {x2 : Int32} {K : Int32 → Int32 → mS → Prop} {u : mS} {post : Int32 → mS → Prop} (hA : AR u a b) (h1 : a ≤ p) (h2 : p < b) (h0 : 0 ≤ x2.toInt) (hx : x2.toInt < 2 ^ 20) (hy : kd (ra u p) = 6 → x2.toInt = 0 → post 1 u) (hK : (kd (ra u p) = 6 → ¬ x2.toInt = 0) → ∀ z : Int32, z.toInt = x2.toInt + sg (ra u p) → K z (nI (p + 1)) u) : wj_X5_hasDots_14 K post x2 (nI p) u := by
  obtain ⟨⟨T, hT, hbT, hT3⟩, hall⟩ := hA
  obtain ⟨hw, -⟩ := hall p h1 h2
  intro y3 e3
  rw [hT] at e3; subst e3
  refine ⟨fun h => absurd h (by rw [nI_leI (by omega) (by omega)]; omega), fun _ => ⟨fun h => absurd h (by rw [show (3000 : Int32) = nI 3000 from rfl, nI_leI (by omega) (by omega)]; omega), fun _ => ⟨fun h => absurd (i_ltR 0 (by decide) h) (by omega), fun _ => ⟨vp_in_nI (by omega) (by omega), ?_⟩⟩⟩⟩
  intro y7 e7
  rw [nI_clamp (by omega)] at e7; subst e7
  have go : (kd (ra u p) = 6 → ¬ x2.toInt = 0) → wj_X5_hasDots_50 K post x2 (nI p) u := by
    intro hc
    have hK := hK hc
    refine ⟨vp_in_nI (by omega) (by omega), ?_⟩
    intro y10 e10
    rw [nI_clamp (by omega)] at e10; subst e10
    refine ⟨fun c1 => ⟨vp_in_nI (by omega) (by omega), ?_⟩, fun c1 => ?_⟩
    · have k1 : ¬ kd (ra u p) = 1 := fun q => c1 ((AW_1 hw).mpr q)
      intro y12 e12
      rw [nI_clamp (by omega)] at e12; subst e12
      refine ⟨fun c2 => ?_, fun c2 => ?_⟩
      · have k2 : ¬ kd (ra u p) = 2 := fun q => c2 ((AW_2 hw).mpr q)
        rintro _ rfl _ rfl
        rw [nI_1, Int32.add_zero]
        exact hK _ (by rw [sg_else k1 k2]; omega)
      · have k2 := (AW_2 hw).mp c2
        rintro _ rfl _ rfl
        rw [nI_1]
        refine hK _ ?_
        rw [sg_close k2, add_i (by rw [show (-1 : Int32).toInt = -1 from by decide]; omega) (by rw [show (-1 : Int32).toInt = -1 from by decide]; omega), show (-1 : Int32).toInt = -1 from by decide]
    · have k1 := (AW_1 hw).mp c1
      rintro _ rfl _ rfl
      rw [nI_1]
      exact hK _ (by rw [sg_open k1]; exact inc_i (by omega))
  refine ⟨fun c6 => go (fun q => absurd ((AW_6 hw).mpr q) c6), fun c6 => ⟨fun z => go (fun _ q => z (Int32.toInt_inj.mp (by rw [q]; decide))), fun z => hy ((AW_6 hw).mp c6) (by rw [z]; decide)⟩⟩
theorem hD_out {x2 x3 : Int32} {K : Int32 → Int32 → mS → Prop} {u : mS} {post : Int32 → mS → Prop} (hx : x2 < 0) (hp : post 0 u) : wj_X5_hasDots_14 K post x2 x3 u := by
  intro y2 e2
  exact ⟨fun _ => hp, fun _ => ⟨fun _ => hp, fun _ => ⟨fun _ => hp, fun h => absurd hx h⟩⟩⟩
theorem hasDots_ok {a b l n N : Nat} {u : mS} {post : Int32 → mS → Prop} (hA : AR u a b) (hL : LI (ra u) l n N) (hal : a ≤ l) (hlb : l + n ≤ b) (hy : dn (ra u) l N ≠ 0 → post 1 u) (hn : dn (ra u) l N = 0 → post 0 u) : wp_X5_hasDots (nI l) u post := by
  have hb : b ≤ 3000 := by
    obtain ⟨⟨T, -, q1, q2⟩, -⟩ := hA
    omega
  have hn0 := hL.2.1.1
  have hend : it (ra u) l N = l + (n - 1) := hL.2.2.2
  have fin : ∀ (x2 : Int32), x2.toInt = 0 → (∀ j, j < N → ¬ kd (ra u (it (ra u) l j)) = 6) → mL3 (fun K => wj_X5_hasDots_14 K post) 2 x2 (nI (l + (n - 1))) u := by
    intro x2 hx hq
    show wj_X5_hasDots_14 _ post _ _ u
    have hc := LI_end hL
    rw [hend] at hc
    refine hD_step hA (by omega) (by omega) (by omega) (by omega) (fun q => absurd (hc.symm.trans q) (by decide)) (fun _ z hz => ?_)
    rw [sg_close hc] at hz
    show wj_X5_hasDots_14 _ post _ _ u
    exact hD_out (Int32.lt_iff_toInt_lt.mpr (by rw [show (0 : Int32).toInt = 0 from by decide]; omega)) (hn (dn_z hq))
  have key : ∀ (d k j : Nat) (x2 : Int32), k < N → j < tl (ra u) (it (ra u) l k) → x2.toInt = dep (ra u) (it (ra u) l k) j → it (ra u) l k + j + d = l + (n - 1) → (∀ i, i < k + (if j = 0 then 0 else 1) → ¬ kd (ra u (it (ra u) l i)) = 6) → mL3 (fun K => wj_X5_hasDots_14 K post) (d + 2) x2 (nI (it (ra u) l k + j)) u := by
    intro d
    induction d with
    | zero =>
      intro k j x2 hkN hj hx hd hq
      have := LI_mono hL (j := k + 1) (k := N) (by omega) (Nat.le_refl N)
      have e : it (ra u) l (k + 1) = it (ra u) l k + tl (ra u) (it (ra u) l k) := rfl
      omega
    | succ d ih =>
      intro k j x2 hkN hj hx hd hq
      have hat := LI_at hL (k := k) (by omega)
      obtain ⟨hc, ht⟩ := hL.2.2.1 k hkN
      have hat2 := LI_at hL (k := k + 1) (by omega)
      have e : it (ra u) l (k + 1) = it (ra u) l k + tl (ra u) (it (ra u) l k) := rfl
      have hdp := dep_pos ht hj
      have hbd := dep_bd (ra u) (it (ra u) l k) j
      show wj_X5_hasDots_14 _ post _ _ u
      refine hD_step hA (by omega) (by omega) (by omega) (by omega) (fun q6 q0 => hy (fun q => ?_)) (fun h6 z hz => ?_)
      · have j0 := hdp.2.mp (by omega)
        subst j0
        rw [Nat.add_zero] at q6
        exact dn_0 q k hkN q6
      have hz2 : z.toInt = dep (ra u) (it (ra u) l k) (j + 1) := by rw [hz, hx, dep_s]
      have hq2 : ∀ i, i < k + 1 → ¬ kd (ra u (it (ra u) l i)) = 6 := by
        intro i hi
        rcases Nat.eq_zero_or_pos j with c | c
        · subst c
          rw [if_pos rfl] at hq
          rcases Nat.lt_or_ge i k with c2 | c2
          · exact hq i (by omega)
          · have ei : i = k := by omega
            subst ei
            intro q
            exact h6 (by rw [Nat.add_zero]; exact q) (by rw [hx]; rfl)
        · rw [if_neg (by omega)] at hq
          exact hq i hi
      rcases Nat.lt_or_ge (j + 1) (tl (ra u) (it (ra u) l k)) with c | c
      · have := ih k (j + 1) z hkN c hz2 (by omega) (by rw [if_neg (by omega)]; exact hq2)
        rw [show it (ra u) l k + (j + 1) = it (ra u) l k + j + 1 from by omega] at this
        exact this
      · have ej : j + 1 = tl (ra u) (it (ra u) l k) := by omega
        have hz0 : z.toInt = 0 := by rw [hz2, ej]; exact TLz hc ht
        have ep : it (ra u) l k + j + 1 = it (ra u) l (k + 1) := by omega
        rw [ep]
        rcases Nat.lt_or_ge (k + 1) N with c2 | c2
        · obtain ⟨hc', ht'⟩ := hL.2.2.1 (k + 1) c2
          have := ih (k + 1) 0 z c2 ht'.1 (by rw [hz0]; rfl) (by omega) (by rw [if_pos rfl, Nat.add_zero]; exact hq2)
          rw [Nat.add_zero] at this
          exact this
        · have ek : k + 1 = N := by omega
          have d0 : d = 0 := by
            rw [ek, hend] at ep
            omega
          subst d0
          rw [ek, hend]
          exact fin z hz0 (by rw [← ek]; exact hq2)
  refine ⟨fun _ => ?_, fun h => absurd (nI_pos' (by omega)) h⟩
  rintro _ rfl
  rw [nI_1]
  have hat := LI_at hL (k := 0) (by omega)
  have i0 : it (ra u) l 0 = l + 1 := rfl
  rcases Nat.eq_zero_or_pos N with c | c
  · subst c
    refine ⟨2, ?_⟩
    have := fin 0 rfl (fun j hj => by omega)
    rw [← hend, i0] at this
    exact this
  · obtain ⟨hc, ht⟩ := hL.2.2.1 0 c
    refine ⟨l + (n - 1) - (l + 1) + 2, ?_⟩
    have hm := LI_mono hL (j := 0) (k := N) (by omega) (Nat.le_refl N)
    have := key (l + (n - 1) - (l + 1)) 0 0 0 c ht.1 rfl (by omega) (fun i hi => by rw [if_pos rfl] at hi; omega)
    rw [Nat.add_zero, i0] at this
    exact this
theorem plainLength_ok {a b l : Nat} {u : mS} {post : Int32 → mS → Prop} (hA : AR u a b) (hal : a ≤ l) (hlb : l < b) (hn : ¬ kd (ra u l) = 1 → post (-1) u) (hd : ∀ n N, LI (ra u) l n N → l + n ≤ b → dn (ra u) l N ≠ 0 → post (-1) u) (hs : ∀ n N, LI (ra u) l n N → l + n ≤ b → dn (ra u) l N = 0 → post (nI N) u) : wp_X5_plainLength (nI l) u post := by
  obtain ⟨hw, ht, hle, -⟩ := hA.2 l hal hlb
  refine wordAR hA hlb ⟨fun c => hn (fun q => c ((AW_1 hw).mpr q)), fun c => ?_⟩
  obtain ⟨N, hL⟩ := LI_ex ((AW_1 hw).mp c) ht
  refine hasDots_ok hA hL hal hle (fun q => ⟨fun h => absurd h (by decide), fun _ => hd _ _ hL hle q⟩) (fun q => ⟨fun _ => ?_, fun h => absurd rfl h⟩)
  rintro _ rfl
  rw [nI_1]
  exact itemsFrom_ok (k := 0) hA hL hal hle (by omega) (hs _ _ hL hle q)
theorem hbS_cons (r : Nat → Int32) (b x a : Nat) : ∀ k, hbS r b x a (k + 1) = hb1 r b x a + hbS r b x (a + 1) k := by
  intro k
  induction k with
  | zero => show 0 + hb1 r b x (a + 0) = hb1 r b x a + 0; rw [Nat.add_zero]; omega
  | succ k ih =>
    show hbS r b x a (k + 1) + hb1 r b x (a + (k + 1)) = hb1 r b x a + (hbS r b x (a + 1) k + hb1 r b x (a + 1 + k))
    rw [ih, show a + (k + 1) = a + 1 + k from by omega]
    omega
theorem HB_cons {r : Nat → Int32} {b x a : Nat} (hx : a ≤ x) (h : hb1 r b x a = 0) : HB r a b x = HB r (a + 1) b x := by
  unfold HB
  rw [show x + 1 - a = x - a + 1 from by omega, hbS_cons, h, show x + 1 - (a + 1) = x - a from by omega]
  omega
/-- how many .. hold what is at x, within the tree at R whose inner trees end at e at the latest -/
theorem holders_ok {a b R x e : Nat} {u : mS} {post : Int32 → mS → Prop} (hA : AR u a b) (haR : a ≤ R) (hRx : R ≤ x) (hxb : x < b) (heb : e < b) (hin : ∀ i, R < i → i ≤ x → i + tl (ra u) i ≤ e) (he : ¬ kd (ra u e) = 6) (hx6 : ¬ kd (ra u x) = 6) (hp : post (nI (HB (ra u) (R + 1) e x)) u) : wp_X5_holders (nI R) (nI x) u post := by
  obtain ⟨⟨T, hT, hbT, hT3⟩, hall⟩ := hA
  have key : ∀ (d k : Nat), k + d = x + 1 - (R + 1) → mL4 (fun K => wj_X5_holders_15 K post) (d + 1) (nI x) (nI (hbS (ra u) e x (R + 1) k)) (nI (R + 1 + k)) u := by
    intro d
    induction d with
    | zero =>
      intro k hk
      show wj_X5_holders_15 _ post _ _ _ u
      refine ⟨fun _ => ?_, fun h => absurd ?_ h⟩
      · have ek : k = x + 1 - (R + 1) := by omega
        have hp' := hp
        unfold HB at hp'
        rw [← ek] at hp'; exact hp'
      · rw [nI_ltI (by omega) (by omega)]; omega
    | succ d ih =>
      intro k hk
      obtain ⟨hw, ht, hle, hs⟩ := hall (R + 1 + k) (by omega) (by omega)
      have ht0 := ht.1
      have hie := hin (R + 1 + k) (by omega) (by omega)
      have go : ∀ c : Nat, hbS (ra u) e x (R + 1) (k + 1) = c → wj_X5_holders_100 (mL4 (fun K => wj_X5_holders_15 K post) (d + 1)) post (nI x) (nI c) (nI (R + 1 + k)) u := by
        rintro c rfl
        rintro _ rfl
        rw [nI_1]
        exact ih (k + 1) (by omega)
      have h0 : hb1 (ra u) e x (R + 1 + k) = 0 → wj_X5_holders_100 (mL4 (fun K => wj_X5_holders_15 K post) (d + 1)) post (nI x) (nI (hbS (ra u) e x (R + 1) k)) (nI (R + 1 + k)) u := by
        intro h
        exact go _ (by show hbS (ra u) e x (R + 1) k + hb1 (ra u) e x (R + 1 + k) = _; omega)
      show wj_X5_holders_15 _ post _ _ _ u
      refine ⟨fun h => absurd h (by rw [nI_ltI (by omega) (by omega)]; omega), fun _ => ?_⟩
      intro y4 e4
      rw [hT] at e4; subst e4
      refine ⟨fun h => absurd h (by rw [nI_leI (by omega) (by omega)]; omega), fun _ => ⟨fun h => absurd h (by rw [show (3000 : Int32) = nI 3000 from rfl, nI_leI (by omega) (by omega)]; omega), fun _ => ⟨vp_in_nI (by omega) (by omega), ?_⟩⟩⟩
      intro y7 e7
      rw [nI_clamp (by omega), hs] at e7; subst e7
      rintro _ rfl
      rw [nI_add]
      refine ⟨fun h => h0 ?_, fun hgt => ?_⟩
      · rw [nI_leI (by omega) (by omega)] at h
        unfold hb1
        rw [if_neg]
        rintro ⟨-, -, -, q, -⟩
        omega
      · rw [nI_leI (by omega) (by omega)] at hgt
        intro y10 e10
        rw [hT] at e10; subst e10
        refine ⟨fun h => absurd h (by rw [nI_leI (by omega) (by omega)]; omega), fun _ => ⟨fun h => absurd h (by rw [show (3000 : Int32) = nI 3000 from rfl, nI_leI (by omega) (by omega)]; omega), fun _ => ⟨vp_in_nI (by omega) (by omega), ?_⟩⟩⟩
        intro y13 e13
        rw [nI_clamp (by omega)] at e13; subst e13
        refine ⟨fun c2 => h0 ?_, fun c2 => ⟨vp_in_nI (by omega) (by omega), ?_⟩⟩
        · unfold hb1
          rw [if_neg]
          rintro ⟨q, -⟩
          exact q ((AW_2 hw).mp c2)
        · have k2 : ¬ kd (ra u (R + 1 + k)) = 2 := fun q => c2 ((AW_2 hw).mpr q)
          obtain ⟨hw2, -⟩ := hall (R + 1 + k + tl (ra u) (R + 1 + k)) (by omega) (by omega)
          intro y15 e15
          rw [nI_clamp (by omega)] at e15; subst e15
          refine ⟨fun c6 => h0 ?_, fun c6 => ?_⟩
          · unfold hb1
            rw [if_neg]
            rintro ⟨-, -, -, -, q⟩
            exact c6 ((AW_6 hw2).mpr q)
          · have k6 := (AW_6 hw2).mp c6
            have n6 : ¬ kd (ra u (R + 1 + k)) = 6 := by
              intro q
              have e1 : tl (ra u) (R + 1 + k) = 1 := tl_eq (TL_atom (by rw [q]; decide))
              have ex : R + 1 + k = x := by omega
              rw [ex] at q
              exact hx6 q
            have ne : R + 1 + k + tl (ra u) (R + 1 + k) < e := by
              rcases Nat.lt_or_ge (R + 1 + k + tl (ra u) (R + 1 + k)) e with c | c
              · exact c
              · have ee : R + 1 + k + tl (ra u) (R + 1 + k) = e := by omega
                rw [ee] at k6
                exact absurd k6 he
            rintro _ rfl
            rw [nI_1]
            refine go _ ?_
            show hbS (ra u) e x (R + 1) k + hb1 (ra u) e x (R + 1 + k) = _
            unfold hb1
            rw [if_pos ⟨k2, n6, ne, by omega, k6⟩]
  refine ⟨fun _ => ?_, fun h => absurd (nI_pos' (by omega)) h⟩
  rintro _ rfl
  rw [nI_1]
  exact ⟨x + 1 - (R + 1) + 1, key (x + 1 - (R + 1)) 0 (by omega)⟩
theorem findName_ok {a b f t i : Nat} {u : mS} {post : Int32 → mS → Prop} (hA : AR u a b) (haf : a ≤ f) (hft : f ≤ t) (htb : t ≤ b) (hai : a ≤ i) (hib : i < b) (h3 : kd (ra u i) = 3 → post (vrF (ra u) (u.2 2) (ra u i) (u.2 2 i) (t - f) f) u) (hn : ¬ kd (ra u i) = 3 → post (-1) u) : wp_X5_findName (nI f) (nI t) (nI i) u post := by
  obtain ⟨⟨T, hT, hbT, hT3⟩, hall⟩ := hA
  obtain ⟨hwi, -⟩ := hall i hai hib
  refine ⟨fun h => absurd h (nI_pos (by omega)), fun _ => ?_⟩
  intro y2 e2
  rw [hT] at e2; subst e2
  refine ⟨fun h => absurd h (by rw [nI_leI (by omega) (by omega)]; omega), fun _ => ⟨fun h => absurd h (by rw [show (3000 : Int32) = nI 3000 from rfl, nI_leI (by omega) (by omega)]; omega), fun _ => ⟨vp_in_nI (by omega) (by omega), ?_⟩⟩⟩
  intro y5 e5
  rw [nI_clamp (by omega)] at e5; subst e5
  refine ⟨fun c3 => ⟨fun _ => ?_, fun h => absurd (nI_pos' (by omega)) h⟩, fun c3 => hn (fun q => c3 (Int32.not_le.mp ((AW_3 hwi).mpr q)))⟩
  have hq := h3 ((AW_3 hwi).mp (Int32.not_le.mpr c3))
  have key : ∀ (d k : Nat), k + d = t → f ≤ k → post (vrF (ra u) (u.2 2) (ra u i) (u.2 2 i) d k) u → mL4 (fun K => wj_X5_findName_44 K post) (d + 1) (nI t) (nI i) (nI k) u := by
    intro d
    induction d with
    | zero =>
      intro k hk _ hq
      show wj_X5_findName_44 _ post _ _ _ u
      refine ⟨fun _ => hq, fun h => absurd ?_ h⟩
      rw [nI_leI (by omega) (by omega)]; omega
    | succ d ih =>
      intro k hk hfk hq
      obtain ⟨hwk, -⟩ := hall k (by omega) (by omega)
      have hq : post (if ra u k = ra u i ∧ u.2 2 k = u.2 2 i then nI k else vrF (ra u) (u.2 2) (ra u i) (u.2 2 i) d (k + 1)) u := hq
      have nxt : ¬ (ra u k = ra u i ∧ u.2 2 k = u.2 2 i) → wj_X5_findName_102 (mL4 (fun K => wj_X5_findName_44 K post) (d + 1)) post (nI t) (nI i) (nI k) u := by
        intro h
        rintro _ rfl
        rw [nI_1]
        rw [if_neg h] at hq
        exact ih (k + 1) (by omega) (by omega) hq
      show wj_X5_findName_44 _ post _ _ _ u
      refine ⟨fun h => absurd h (by rw [nI_leI (by omega) (by omega)]; omega), fun _ => ?_⟩
      intro y9 e9
      rw [hT] at e9; subst e9
      refine ⟨fun h => absurd h (by rw [nI_leI (by omega) (by omega)]; omega), fun _ => ⟨fun h => absurd h (by rw [show (3000 : Int32) = nI 3000 from rfl, nI_leI (by omega) (by omega)]; omega), fun _ => ⟨vp_in_nI (by omega) (by omega), ?_⟩⟩⟩
      intro y12 e12
      rw [nI_clamp (by omega)] at e12; subst e12
      refine ⟨vp_in_nI (by omega) (by omega), ?_⟩
      intro y13 e13
      rw [nI_clamp (by omega)] at e13; subst e13
      refine ⟨fun c => nxt (fun q => c ((AW_inj hwk hwi).mpr q.1)), fun c => ⟨vp_in_nI (by omega) (by omega), ?_⟩⟩
      intro y15 e15
      rw [nI_clamp (by omega)] at e15; subst e15
      refine ⟨vp_in_nI (by omega) (by omega), ?_⟩
      intro y16 e16
      rw [nI_clamp (by omega)] at e16; subst e16
      refine ⟨fun c' => nxt (fun q => c' q.2), fun c' => ?_⟩
      rw [if_pos ⟨(AW_inj hwk hwi).mp c, c'⟩] at hq
      exact hq
  exact ⟨t - f + 1, key (t - f) f (by omega) (Nat.le_refl f) hq⟩
theorem vrF_app (r s : Nat → Int32) (v w : Int32) (m : Nat) : ∀ (n i : Nat), i + n < 2 ^ 31 → (vrF r s v w n i = -1 → vrF r s v w (n + m) i = vrF r s v w m (i + n)) ∧ (¬ vrF r s v w n i = -1 → vrF r s v w (n + m) i = vrF r s v w n i) := by
  intro n
  induction n with
  | zero => intro i _; refine ⟨fun _ => by rw [Nat.zero_add, Nat.add_zero], fun h => absurd rfl h⟩
  | succ n ih =>
    intro i hi
    rw [show n + 1 + m = n + m + 1 from by omega]
    show ((if r i = v ∧ s i = w then nI i else vrF r s v w n (i + 1)) = -1 → (if r i = v ∧ s i = w then nI i else vrF r s v w (n + m) (i + 1)) = vrF r s v w m (i + (n + 1))) ∧ (¬ (if r i = v ∧ s i = w then nI i else vrF r s v w n (i + 1)) = -1 → (if r i = v ∧ s i = w then nI i else vrF r s v w (n + m) (i + 1)) = (if r i = v ∧ s i = w then nI i else vrF r s v w n (i + 1)))
    by_cases h : r i = v ∧ s i = w
    · rw [if_pos h, if_pos h]
      exact ⟨fun q => absurd q (nI_ng (by omega) (by decide)), fun _ => rfl⟩
    · rw [if_neg h, if_neg h, show i + (n + 1) = i + 1 + n from by omega]
      exact ih (i + 1) (by omega)
