-- 51: the class's row: what its methods answer, over the tokens that its words stand for
/-- from a to b whole trees and closing brackets stand in the class's row, with their sizes -/
def AR (u : mS) (a b : Nat) : Prop := (∃ T, u.1 1 = nI T ∧ b ≤ T ∧ T ≤ 3000) ∧ ∀ i, a ≤ i → i < b → AW (u.2 1 i) (ra u i) ∧ TL (ra u) i (tl (ra u) i) ∧ i + tl (ra u) i ≤ b ∧ u.2 3 i = nI (tl (ra u) i)
theorem wordAt_ok {i T : Nat} {u : mS} {post : Int32 → mS → Prop} (hT : u.1 1 = nI T) (hT3 : T ≤ 3000) (hi : i < T) (hp : post (u.2 1 i) u) : wp_X5_wordAt (nI i) u post := by
  refine ⟨fun h => absurd h (nI_pos (by omega)), fun _ => ?_⟩
  intro y2 e2
  rw [hT] at e2; subst e2
  refine ⟨fun h => absurd h (by rw [nI_leI (by omega) (by omega)]; omega), fun _ => ⟨fun h => absurd h (by rw [show (3000 : Int32) = nI 3000 from rfl, nI_leI (by omega) (by omega)]; omega), fun _ => ⟨vp_in_nI (by omega) (by omega), ?_⟩⟩⟩
  rintro _ rfl
  rw [nI_clamp (by omega)]; exact hp
theorem wordAR {a b i : Nat} {u : mS} {post : Int32 → mS → Prop} (hA : AR u a b) (hi : i < b) (hp : post (u.2 1 i) u) : wp_X5_wordAt (nI i) u post := by
  obtain ⟨⟨T, hT, hb, hT3⟩, -⟩ := hA
  exact wordAt_ok hT hT3 (by omega) hp
theorem marksAR {a b i : Nat} {u : mS} {post : Int32 → mS → Prop} (hA : AR u a b) (hi : i < b) (hp : post (u.2 2 i) u) : wp_X5_marksAt (nI i) u post := by
  obtain ⟨⟨T, hT, hb, hT3⟩, -⟩ := hA
  refine ⟨fun h => absurd h (nI_pos (by omega)), fun _ => ?_⟩
  intro y2 e2
  rw [hT] at e2; subst e2
  refine ⟨fun h => absurd h (by rw [nI_leI (by omega) (by omega)]; omega), fun _ => ⟨fun h => absurd h (by rw [show (3000 : Int32) = nI 3000 from rfl, nI_leI (by omega) (by omega)]; omega), fun _ => ⟨vp_in_nI (by omega) (by omega), ?_⟩⟩⟩
  rintro _ rfl
  rw [nI_clamp (by omega)]; exact hp
theorem isName_ok {w c : Int32} {u : mS} {post : Int32 → mS → Prop} (hw : AW w c) (h1 : kd c = 3 → post 1 u) (h0 : ¬ kd c = 3 → post 0 u) : wp_X8_isName w u post :=
  ⟨fun h => h0 (fun q => (AW_3 hw).mpr q h), fun h => h1 ((AW_3 hw).mp h)⟩
theorem isTree_ok {w c : Int32} {u : mS} {post : Int32 → mS → Prop} (hw : AW w c) (h1 : ¬ kd c = 2 → ¬ kd c = 6 → post 1 u) (h0 : kd c = 2 ∨ kd c = 6 → post 0 u) : wp_X8_isTree w u post :=
  ⟨fun h => h0 (Or.inl ((AW_2 hw).mp h)), fun h => ⟨fun g => h0 (Or.inr ((AW_6 hw).mp g)), fun g => h1 (fun q => h ((AW_2 hw).mpr q)) (fun q => g ((AW_6 hw).mpr q))⟩⟩
theorem after_ok {a b i : Nat} {u : mS} {post : Int32 → mS → Prop} (hA : AR u a b) (h1 : a ≤ i) (h2 : i < b) (hp : post (nI (i + tl (ra u) i)) u) : wp_X5_after (nI i) u post := by
  obtain ⟨⟨T, hT, hbT, hT3⟩, hall⟩ := hA
  obtain ⟨-, ht, hle, hs⟩ := hall i h1 h2
  have h0 := ht.1
  refine ⟨fun h => absurd h (nI_pos (by omega)), fun _ => ?_⟩
  intro y2 e2
  rw [hT] at e2; subst e2
  refine ⟨fun h => absurd h (by rw [nI_leI (by omega) (by omega)]; omega), fun _ => ⟨fun h => absurd h (by rw [show (3000 : Int32) = nI 3000 from rfl, nI_leI (by omega) (by omega)]; omega), fun _ => ⟨vp_in_nI (by omega) (by omega), ?_⟩⟩⟩
  intro y5 e5
  rw [nI_clamp (by omega), hs] at e5; subst e5
  refine ⟨fun h => ?_, fun h => ⟨vp_in_nI (by omega) (by omega), ?_⟩⟩
  · have h : nI (tl (ra u) i) ≤ nI 1 := h
    rw [nI_leI (by omega) (by omega)] at h
    rintro _ rfl
    rw [nI_1]
    have e : tl (ra u) i = 1 := by omega
    rw [e] at hp; exact hp
  · intro y7 e7
    rw [nI_clamp (by omega), hs] at e7; subst e7
    rintro _ rfl
    rw [nI_add]; exact hp
theorem heldA {a b i : Nat} {u : mS} {post : Int32 → mS → Prop} (hA : AR u a b) (h1 : a ≤ i) (h2 : i + tl (ra u) i < b) (hy : ¬ kd (ra u i) = 2 → kd (ra u (i + tl (ra u) i)) = 6 → post 1 u) (hn : (kd (ra u i) = 2 ∨ ¬ kd (ra u (i + tl (ra u) i)) = 6) → post 0 u) : wp_X5_isHeld (nI i) u post := by
  obtain ⟨⟨T, hT, hbT, hT3⟩, hall⟩ := hA
  obtain ⟨hw, ht, hle, hs⟩ := hall i h1 (by omega)
  obtain ⟨hw2, -⟩ := hall (i + tl (ra u) i) (by omega) h2
  have h0 := ht.1
  refine ⟨fun h => absurd h (nI_pos (by omega)), fun _ => ?_⟩
  intro y2 e2
  rw [hT] at e2; subst e2
  refine ⟨fun h => absurd h (by rw [nI_leI (by omega) (by omega)]; omega), fun _ => ⟨fun h => absurd h (by rw [show (3000 : Int32) = nI 3000 from rfl, nI_leI (by omega) (by omega)]; omega), fun _ => ⟨vp_in_nI (by omega) (by omega), ?_⟩⟩⟩
  intro y5 e5
  rw [nI_clamp (by omega)] at e5; subst e5
  refine ⟨fun c2 => ⟨vp_in_nI (by omega) (by omega), ?_⟩, fun c2 => hn (Or.inl ((AW_2 hw).mp c2))⟩
  intro y7 e7
  rw [nI_clamp (by omega), hs] at e7; subst e7
  rintro _ rfl
  rw [nI_add]
  refine ⟨fun h => absurd h (nI_pos (by omega)), fun _ => ?_⟩
  intro y10 e10
  rw [hT] at e10; subst e10
  refine ⟨fun h => absurd h (by rw [nI_leI (by omega) (by omega)]; omega), fun _ => ⟨fun h => absurd h (by rw [show (3000 : Int32) = nI 3000 from rfl, nI_leI (by omega) (by omega)]; omega), fun _ => ⟨vp_in_nI (by omega) (by omega), ?_⟩⟩⟩
  intro y13 e13
  rw [nI_clamp (by omega)] at e13; subst e13
  exact ⟨fun c => hn (Or.inr (fun q => c ((AW_6 hw2).mpr q))), fun c => hy (fun q => c2 ((AW_2 hw).mpr q)) ((AW_6 hw2).mp c)⟩
theorem TLz {r : Nat → Int32} {i n : Nat} (hc : ¬ kd (r i) = 2) (h : TL r i n) : dep r i n = 0 := by
  by_cases ho : kd (r i) = 1
  · exact (TL_open ho h).2.1
  · have e := TL_uniq h (TL_atom ho)
    subst e
    rw [dep_1, sg_else ho hc]
theorem dep_pos {r : Nat → Int32} {i n j : Nat} (h : TL r i n) (hj : j < n) : 0 ≤ dep r i j ∧ (dep r i j = 0 ↔ j = 0) := by
  rcases Nat.eq_zero_or_pos j with c | c
  · subst c
    exact ⟨Int.le_refl _, fun _ => rfl, fun _ => rfl⟩
  · have := h.2.2 j c hj
    exact ⟨by omega, fun q => by omega, fun q => by omega⟩
/-- one turn of itemsFrom's loop -/
theorem itF_step {a b p m : Nat} {x3 : Int32} {K : Int32 → Int32 → Int32 → mS → Prop} {u : mS} {post : Int32 → mS → Prop} (hA : AR u a b) (h1 : a ≤ p) (h2 : p < b) (h0 : 0 ≤ x3.toInt) (hx : x3.toInt < 2 ^ 20) (hK : ∀ z : Int32, z.toInt = x3.toInt + sg (ra u p) → K (nI (if kd (ra u p) = 2 then m else if x3.toInt = 0 then m + 1 else m)) z (nI (p + 1)) u) : wj_X5_itemsFrom_15 K post (nI m) x3 (nI p) u := by
  obtain ⟨⟨T, hT, hbT, hT3⟩, hall⟩ := hA
  obtain ⟨hw, -⟩ := hall p h1 h2
  intro y2 e2
  rw [hT] at e2; subst e2
  refine ⟨fun h => absurd h (by rw [nI_leI (by omega) (by omega)]; omega), fun _ => ⟨fun h => absurd h (by rw [show (3000 : Int32) = nI 3000 from rfl, nI_leI (by omega) (by omega)]; omega), fun _ => ⟨fun h => absurd (i_ltR 0 (by decide) h) (by omega), fun _ => ⟨vp_in_nI (by omega) (by omega), ?_⟩⟩⟩⟩
  intro y6 e6
  rw [nI_clamp (by omega)] at e6; subst e6
  refine ⟨fun c2 => ?_, fun c2 => ?_⟩
  · have k2 : ¬ kd (ra u p) = 2 := fun q => c2 ((AW_2 hw).mpr q)
    rw [if_neg k2] at hK
    have fin : ∀ (m' : Nat) (z0 : Int32), nI m + z0 = nI m' → (∀ z : Int32, z.toInt = x3.toInt + sg (ra u p) → K (nI m') z (nI (p + 1)) u) → wj_X5_itemsFrom_64 K post x3 (nI p) z0 (nI m) u := by
      intro m' z0 ez hK
      intro y11 e11
      rw [ez] at e11; subst e11
      refine ⟨vp_in_nI (by omega) (by omega), ?_⟩
      intro y12 e12
      rw [nI_clamp (by omega)] at e12; subst e12
      refine ⟨fun c1 => ?_, fun c1 => ?_⟩
      · have k1 : ¬ kd (ra u p) = 1 := fun q => c1 ((AW_1 hw).mpr q)
        rintro _ rfl _ rfl
        rw [nI_1, Int32.add_zero]
        exact hK _ (by rw [sg_else k1 k2]; omega)
      · have k1 := (AW_1 hw).mp c1
        rintro _ rfl _ rfl
        rw [nI_1]
        exact hK _ (by rw [sg_open k1]; exact inc_i (by omega))
    refine ⟨fun z0 => ?_, fun z0 => ?_⟩
    · have n0 : ¬ x3.toInt = 0 := fun q => z0 (Int32.toInt_inj.mp (by rw [q]; decide))
      rw [if_neg n0] at hK
      exact fin m 0 (Int32.add_zero _) hK
    · have n0 : x3.toInt = 0 := by rw [z0]; decide
      rw [if_pos n0] at hK
      exact fin (m + 1) 1 (nI_1 m) hK
  · have k2 := (AW_2 hw).mp c2
    rw [if_pos k2] at hK
    rintro _ rfl _ rfl
    rw [nI_1]
    refine hK _ ?_
    rw [sg_close k2, add_i (by rw [show (-1 : Int32).toInt = -1 from by decide]; omega) (by rw [show (-1 : Int32).toInt = -1 from by decide]; omega), show (-1 : Int32).toInt = -1 from by decide]
theorem itF_out {x3 x4 : Int32} {m : Nat} {K : Int32 → Int32 → Int32 → mS → Prop} {u : mS} {post : Int32 → mS → Prop} (hx : x3 < 0) (hp : post (nI m) u) : wj_X5_itemsFrom_15 K post (nI m) x3 x4 u := by
  intro y2 e2
  exact ⟨fun _ => hp, fun _ => ⟨fun _ => hp, fun _ => ⟨fun _ => hp, fun h => absurd hx h⟩⟩⟩
theorem itemsFrom_ok {a b l n N k : Nat} {u : mS} {post : Int32 → mS → Prop} (hA : AR u a b) (hL : LI (ra u) l n N) (hal : a ≤ l) (hlb : l + n ≤ b) (hk : k ≤ N) (hp : post (nI (N - k)) u) : wp_X5_itemsFrom (nI (it (ra u) l k)) u post := by
  have hb : b ≤ 3000 := by
    obtain ⟨⟨T, -, q1, q2⟩, -⟩ := hA
    omega
  have hn0 := hL.2.1.1
  have hend : it (ra u) l N = l + (n - 1) := hL.2.2.2
  have fin : ∀ (m : Nat) (x3 : Int32), x3.toInt = 0 → post (nI m) u → mL4 (fun K => wj_X5_itemsFrom_15 K post) 2 (nI m) x3 (nI (l + (n - 1))) u := by
    intro m x3 hx hq
    show wj_X5_itemsFrom_15 _ post _ _ _ u
    have hc := LI_end hL
    rw [hend] at hc
    refine itF_step hA (by omega) (by omega) (by omega) (by omega) (fun z hz => ?_)
    rw [if_pos hc]
    rw [sg_close hc] at hz
    show wj_X5_itemsFrom_15 _ post _ _ _ u
    exact itF_out (Int32.lt_iff_toInt_lt.mpr (by rw [show (0 : Int32).toInt = 0 from by decide]; omega)) hq
  have key : ∀ (d k j m : Nat) (x3 : Int32), k < N → j < tl (ra u) (it (ra u) l k) → x3.toInt = dep (ra u) (it (ra u) l k) j → it (ra u) l k + j + d = l + (n - 1) → post (nI (m + (N - k - (if j = 0 then 0 else 1)))) u → mL4 (fun K => wj_X5_itemsFrom_15 K post) (d + 2) (nI m) x3 (nI (it (ra u) l k + j)) u := by
    intro d
    induction d with
    | zero =>
      intro k j m x3 hkN hj hx hd hq
      have := LI_mono hL (j := k + 1) (k := N) (by omega) (Nat.le_refl N)
      have e : it (ra u) l (k + 1) = it (ra u) l k + tl (ra u) (it (ra u) l k) := rfl
      omega
    | succ d ih =>
      intro k j m x3 hkN hj hx hd hq
      have hat := LI_at hL (k := k) (by omega)
      obtain ⟨hc, ht⟩ := hL.2.2.1 k hkN
      have hat2 := LI_at hL (k := k + 1) (by omega)
      have e : it (ra u) l (k + 1) = it (ra u) l k + tl (ra u) (it (ra u) l k) := rfl
      have hdp := dep_pos ht hj
      have hbd := dep_bd (ra u) (it (ra u) l k) j
      show wj_X5_itemsFrom_15 _ post _ _ _ u
      refine itF_step hA (by omega) (by omega) (by omega) (by omega) (fun z hz => ?_)
      have hz2 : z.toInt = dep (ra u) (it (ra u) l k) (j + 1) := by rw [hz, hx, dep_s]
      have em : ∃ m', (if kd (ra u (it (ra u) l k + j)) = 2 then m else if x3.toInt = 0 then m + 1 else m) = m' ∧ m' = m + (if j = 0 then 1 else 0) := by
        refine ⟨_, rfl, ?_⟩
        rcases Nat.eq_zero_or_pos j with c | c
        · subst c
          rw [Nat.add_zero, if_neg hc, if_pos (by rw [hx]; rfl), if_pos rfl]
        · have n0 : ¬ x3.toInt = 0 := by rw [hx]; omega
          rw [if_neg n0, if_neg (show ¬ j = 0 from by omega)]
          split <;> rfl
      obtain ⟨m', e1, e2⟩ := em
      rw [e1]
      have hq2 : post (nI (m' + (N - k - 1))) u := by
        rcases Nat.eq_zero_or_pos j with c | c
        · rw [if_pos c] at hq e2
          rw [show m' + (N - k - 1) = m + (N - k - 0) from by omega]; exact hq
        · rw [if_neg (by omega)] at hq e2
          rw [show m' + (N - k - 1) = m + (N - k - 1) from by omega]; exact hq
      rcases Nat.lt_or_ge (j + 1) (tl (ra u) (it (ra u) l k)) with c | c
      · have := ih k (j + 1) m' z hkN c hz2 (by omega) (by rw [if_neg (by omega)]; exact hq2)
        rw [show it (ra u) l k + (j + 1) = it (ra u) l k + j + 1 from by omega] at this
        exact this
      · have ej : j + 1 = tl (ra u) (it (ra u) l k) := by omega
        have hz0 : z.toInt = 0 := by rw [hz2, ej]; exact TLz hc ht
        have ep : it (ra u) l k + j + 1 = it (ra u) l (k + 1) := by omega
        rw [ep]
        rcases Nat.lt_or_ge (k + 1) N with c2 | c2
        · obtain ⟨hc', ht'⟩ := hL.2.2.1 (k + 1) c2
          have := ih (k + 1) 0 m' z c2 ht'.1 (by rw [hz0]; rfl) (by omega) (by rw [if_pos rfl, show N - (k + 1) - 0 = N - k - 1 from by omega]; exact hq2)
          rw [Nat.add_zero] at this
          exact this
        · have ek : k + 1 = N := by omega
          have d0 : d = 0 := by
            rw [ek, hend] at ep
            omega
          subst d0
          rw [ek, hend]
          refine fin m' z hz0 ?_
          rw [show N - k - 1 = 0 from by omega, Nat.add_zero] at hq2
          exact hq2
  have hat := LI_at hL hk
  refine ⟨fun _ => ?_, fun h => absurd (nI_pos' (by omega)) h⟩
  rcases Nat.lt_or_ge k N with c | c
  · obtain ⟨hc, ht⟩ := hL.2.2.1 k c
    refine ⟨l + (n - 1) - it (ra u) l k + 2, ?_⟩
    have hm := LI_mono hL (j := k) (k := N) hk (Nat.le_refl N)
    have := key (l + (n - 1) - it (ra u) l k) k 0 0 0 c ht.1 rfl (by omega) (by rw [if_pos rfl, Nat.zero_add, Nat.sub_zero]; exact hp)
    rw [Nat.add_zero] at this
    exact this
  · have ek : k = N := by omega
    subst ek
    refine ⟨2, ?_⟩
    rw [hend]
    rw [Nat.sub_self] at hp
    exact fin 0 0 rfl hp
