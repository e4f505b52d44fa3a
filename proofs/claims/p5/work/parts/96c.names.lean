-- 96c: lists of names; a binding more on both sides
/-- all that stands in the list is a name -/
def ALLN (r : Nat → Int32) (l n : Nat) : Prop := ∀ j, l < j → j + 1 < l + n → kd (r j) = 3
theorem it_names {r : Nat → Int32} {l n N : Nat} (hL : LI r l n N) : ∀ {k : Nat}, k ≤ N → (∀ j, j < k → kd (r (l + 1 + j)) = 3) → it r l k = l + 1 + k := by
  intro k
  induction k with
  | zero => intro _ _; rfl
  | succ k ih =>
    intro hk h
    have e := ih (by omega) (fun j hj => h j (by omega))
    show it r l k + tl r (it r l k) = _
    rw [e, tl_eq (TL_atom (by rw [h k (by omega)]; decide))]
    rfl
theorem ALLN_dn {r : Nat → Int32} {l n N : Nat} (hL : LI r l n N) (h : ALLN r l n) : dn r l N = 0 := by
  refine dn_z (fun j hj => ?_)
  have a1 := LI_at hL (k := j) (by omega)
  have mo := LI_mono hL (j := j) (k := N) (by omega) (Nat.le_refl _)
  have eN := hL.2.2.2
  rw [h (it r l j) (by omega) (by omega)]
  decide
theorem ALLN_n {r : Nat → Int32} {l n N : Nat} (hL : LI r l n N) (h : ALLN r l n) : n = N + 2 := by
  have n2 := (TL_open hL.1 hL.2.1).1
  have a1 := LI_at hL (Nat.le_refl N)
  have e := it_names hL (Nat.le_refl N) (fun j hj => h _ (by omega) (by
    have eN := hL.2.2.2
    omega))
  rw [hL.2.2.2] at e
  omega
theorem areNamesA {a b l n : Nat} {u : mS} {post : Int32 → mS → Prop} (hA : AR u a b) (hal : a ≤ l) (hlb : l + n ≤ b) (hT : TL (ra u) l n) (h1 : kd (ra u l) = 1 → ALLN (ra u) l n → post 1 u) (h0 : (¬ kd (ra u l) = 1 ∨ ¬ ALLN (ra u) l n) → post 0 u) : wp_X0_areNames (nI l) u post := by
  have n0 := hT.1
  have hb := AR_b hA
  have none : (¬ kd (ra u l) = 1 ∨ ¬ ALLN (ra u) l n) → ∃ c, mL4 (fun K => wj_X0_areNames_11 K post) c (nI l) (-1) 0 u := fun q => ⟨1, fun _ => ⟨fun _ => h0 q, fun z => absurd (by decide) z⟩, fun z => absurd (by decide) z⟩
  refine plainLength_ok hA hal (by omega) (fun q => none (Or.inl q)) (fun n' N hL' _ hd' => ?_) (fun n' N hL' _ hd' => ?_)
  · have en : n' = n := TL_uniq hL'.2.1 hT
    subst en
    exact none (Or.inr (fun q => hd' (ALLN_dn hL' q)))
  · have en : n' = n := TL_uniq hL'.2.1 hT
    subst en
    have NN : N < 2 ^ 20 := by
      have := (LI_at hL' (Nat.le_refl N)).1
      have := (LI_at hL' (Nat.le_refl N)).2.1
      omega
    have main : ∀ (dd k : Nat), k + dd = N → (∀ j, j < k → kd (ra u (l + 1 + j)) = 3) → mL4 (fun K => wj_X0_areNames_11 K post) (dd + 1) (nI l) (nI N) (nI k) u := by
      intro dd
      induction dd with
      | zero =>
        intro k hk hj
        have : k = N := by omega
        subst this
        have e := it_names hL' (Nat.le_refl k) hj
        rw [hL'.2.2.2] at e
        refine ⟨fun _ => ⟨fun q => absurd q (nI_pos (by omega)), fun _ => h1 hL'.1 (fun j j1 j2 => ?_)⟩, fun q => absurd (Int32.le_refl _) q⟩
        have := hj (j - l - 1) (by omega)
        rw [show l + 1 + (j - l - 1) = j from by omega] at this
        exact this
      | succ dd ih =>
        intro k hk hj
        have e := it_names hL' (k := k) (by omega) hj
        have a1 := LI_at hL' (k := k) (by omega)
        have mo := LI_mono hL' (j := k) (k := N) (by omega) (Nat.le_refl _)
        have eN := hL'.2.2.2
        refine ⟨fun q => absurd q (by rw [nI_leI (by omega) (by omega)]; omega), fun _ => ?_⟩
        rintro _ rfl _ rfl
        rw [nI_1, nI_add]
        refine wordAR hA (by omega) (isName_ok (hA.2 (l + 1 + k) (by omega) (by omega)).1 (fun k3 => ⟨fun _ => ?_, fun q => absurd q (by decide)⟩) (fun k3 => ⟨fun q => absurd rfl q, fun _ => h0 (Or.inr (fun q => k3 (q _ (by omega) (by omega))))⟩))
        rintro _ rfl
        rw [nI_1]
        refine ih (k + 1) (by omega) (fun j hj' => ?_)
        rcases Nat.lt_or_ge j k with z | z
        · exact hj j z
        · have : j = k := by omega
          subst this; exact k3
    exact ⟨_, main N 0 (by omega) (fun j hj => by omega)⟩
theorem namesM {l n : Nat} {x1 : Int32} {g : mS} {Q : mS → Prop} (hn : 2 ≤ n) (hl : l + n ≤ 2600) (h1 : ALLN (g.2 1) l n → ∀ K, wj_X9_function_75 K Q x1 (nI l) 1 (nI (l + n)) (nI (l + n - 1)) g) (h0 : ¬ ALLN (g.2 1) l n → ∀ K, wj_X9_function_75 K Q x1 (nI l) 0 (nI (l + n)) (nI (l + n - 1)) g) : ∃ c, mL6 (fun K => wj_X9_function_75 K Q) c x1 (nI l) 1 (nI (l + n)) (nI (l + 1)) g := by
  have main : ∀ (dd j : Nat) (z : Int32), l < j → j + dd = l + n - 1 → ((z = 1 ∧ ∀ i, l < i → i < j → kd (g.2 1 i) = 3) ∨ (z = 0 ∧ ¬ ALLN (g.2 1) l n)) → mL6 (fun K => wj_X9_function_75 K Q) (dd + 1) x1 (nI l) z (nI (l + n)) (nI j) g := by
    intro dd
    induction dd with
    | zero =>
      intro j z hj e hz
      have : j = l + n - 1 := by omega
      subst this
      rcases hz with ⟨rfl, hz⟩ | ⟨rfl, hz⟩
      · exact h1 (fun i i1 i2 => hz i i1 (by omega)) _
      · exact h0 hz _
    | succ dd ih =>
      intro j z hj e hz
      rintro _ rfl
      rw [show (1 : Int32) = nI 1 from rfl, pk_sub (by omega)]
      refine ⟨fun q => absurd q (by rw [nI_leI (by omega) (by omega)]; omega), fun _ => ?_⟩
      rcases hz with ⟨rfl, hz⟩ | ⟨rfl, hz⟩
      · refine ⟨fun q => absurd q (by decide), fun _ => kind_2 (by omega) ⟨fun k3 => ?_, fun k3 => ?_⟩⟩
        · rintro _ rfl
          rw [nI_1]
          exact ih (j + 1) 0 (by omega) (by omega) (Or.inr ⟨rfl, fun q => k3 (q j hj (by omega))⟩)
        · rintro _ rfl
          rw [nI_1]
          refine ih (j + 1) 1 (by omega) (by omega) (Or.inl ⟨rfl, fun i i1 i2 => ?_⟩)
          rcases Nat.lt_or_ge i j with z | z
          · exact hz i i1 z
          · have : i = j := by omega
            subst this; exact k3
      · refine ⟨fun _ => ?_, fun q => absurd rfl q⟩
        rintro _ rfl
        rw [nI_1]
        exact ih (j + 1) 0 (by omega) (by omega) (Or.inr ⟨rfl, hz⟩)
  exact ⟨_, main (n - 2) (l + 1) 1 (by omega) (by omega) (Or.inl ⟨rfl, fun i i1 i2 => by omega⟩)⟩
/-- one binding more -/
theorem REL_bind {u v u' v' : mS} {st c f nb nv' : Nat} {wA sA kk vv x1 x2 x3 x4 x5 : Int32} (h : REL u v st c f) (hnb : nbA u = nb) (nb40 : nb < 40) (uF : FR [4, 9, 10] [5, 6, 7, 8] u u') (vF : FR [4, 14] [7, 8, 9, 10, 11] v v') (e4 : u'.1 4 = nI (nb + 1)) (e9 : u'.1 9 = u.1 9 + 1) (e10 : u'.1 10 = nI nv') (e14 : v'.1 14 = nI nv') (hnv : nv' ≤ nb + 1) (u5 : u'.2 5 = upd (u.2 5) nb wA) (u6 : u'.2 6 = upd (u.2 6) nb sA) (u7 : u'.2 7 = upd (u.2 7) nb kk) (u8 : u'.2 8 = upd (u.2 8) nb vv) (v4 : v'.1 4 = nI (nb + 1)) (v7 : v'.2 7 = upd (v.2 7) nb x1) (v8 : v'.2 8 = upd (v.2 8) nb x2) (v9 : v'.2 9 = upd (v.2 9) nb x3) (v10 : v'.2 10 = upd (v.2 10) nb x4) (v11 : v'.2 11 = upd (v.2 11) nb x5) (hNM : ∃ x y, NM x y ∧ wA = nI x ∧ x1 = nI y) (hs : sA = x2) (hMB : MB sA c) (hK : ∀ ke, v.1 2 = nI ke → ke ≤ 3000 → KDR u' v' c st ke nb) : REL u' v' st c f := by
  obtain ⟨nv, nb', b0, ke, q1, q2, q3, q4, r1, r2, r3, r4, r5, r6, r7, r8, r9, r10, r11, r12, r13, r14, r15⟩ := h
  rw [nbA_of r7 (by omega)] at hnb
  subst hnb
  have t1 := (uF.1 1 (by decide)).trans r11
  refine ⟨nv', nb' + 1, b0, ke, q1, hnv, by omega, by omega, (uF.1 8 (by decide)).trans r1, (vF.1 13 (by decide)).trans r2, e10, e14, (uF.1 11 (by decide)).trans r5, (vF.1 15 (by decide)).trans r6, e4, v4, (vF.1 5 (by decide)).trans r9, ?_, t1, r12, (vF.1 2 (by decide)).trans r13, r14, fun i hi => ?_⟩
  · rw [e9, r10, nI_1, show nb' + 1 - b0 = nb' - b0 + 1 from by omega]
  · by_cases ei : i = nb'
    · subst ei
      refine ⟨?_, ?_, ?_, hK ke r13 r14⟩
      · rw [u5, v7, pk_us, pk_us]; exact hNM
      · rw [u6, v8, pk_us, pk_us]; exact hs
      · rw [u6, pk_us]; exact hMB
    · obtain ⟨b1, b2, b3, b4⟩ := r15 i (by omega)
      refine ⟨by rw [u5, v7, pk_un ei, pk_un ei]; exact b1, by rw [u6, v8, pk_un ei, pk_un ei]; exact b2, by rw [u6, pk_un ei]; exact b3, KDR_lt b4 (Nat.le_refl _) (Nat.le_refl _) (by omega) (Nat.le_refl _) t1 (fun x _ => by rw [uF.2 1 (by decide), uF.2 3 (by decide)]; exact ⟨rfl, rfl⟩) (fun _ _ _ _ x _ _ _ => by rw [uF.2 2 (by decide), uF.2 4 (by decide)]; exact ⟨rfl, rfl⟩) (fun j _ => by rw [vF.2 3 (by decide), vF.2 4 (by decide)]; exact ⟨rfl, rfl⟩) (by rw [u5, u7, u8, pk_un ei, pk_un ei, pk_un ei]; exact ⟨rfl, rfl, rfl⟩) (by rw [v9, v10, v11, pk_un ei, pk_un ei, pk_un ei]; exact ⟨rfl, rfl, rfl⟩)⟩
/-- the reference's check of a name that is bound already, a name of the same list -/
theorem dupM {l k n : Nat} {x4 x6 : Int32} {w : mS} {K : Int32 → Int32 → Int32 → Int32 → mS → Prop} {Q : mS → Prop} (hl : l + n ≤ 2600) (hk : l + 1 + k < l + n) (we : w.1 12 = 0) (h1 : (∀ j, j < k → ¬ (w.2 1 (l + 1 + j) = w.2 1 (l + 1 + k) ∧ w.2 2 (l + 1 + j) = w.2 2 (l + 1 + k))) → wp_X9_what_2 (nI (l + 1 + k)) w (fun r43 u44 => vp_in (nI (l + 1 + k)) 2600 ∧ ∀ y45 : Int32, y45 = u44.2 2 (nI (l + 1 + k)).toNatClampNeg → ∀ y46 : Int32, y46 = (u44.1 14) → wp_X9_bind r43 y45 (2 : Int32) y46 (0 : Int32) u44 (fun u48 => wj_X9_function_262 K Q (nI l) x4 x6 (nI (l + 1 + k)) u48))) (h0 : (∃ j, j < k ∧ w.2 1 (l + 1 + j) = w.2 1 (l + 1 + k) ∧ w.2 2 (l + 1 + j) = w.2 2 (l + 1 + k)) → ∀ y, FR [12] [] w y → y = mSet w 12 3 → ¬ y.1 12 = 0 → wj_X9_function_262 K Q (nI l) x4 x6 (nI (l + 1 + k)) y) : ∃ c, mL6 (fun K' => wj_X9_function_177 K' K Q) c (nI l) x4 x6 (nI (l + 1 + k)) (nI (l + 1)) w := by
  have main : ∀ (dd j : Nat) (y : mS), j + dd = k → ((y = w ∧ ∀ i, i < j → ¬ (w.2 1 (l + 1 + i) = w.2 1 (l + 1 + k) ∧ w.2 2 (l + 1 + i) = w.2 2 (l + 1 + k))) ∨ (y = mSet w 12 3 ∧ ∃ i, i < k ∧ w.2 1 (l + 1 + i) = w.2 1 (l + 1 + k) ∧ w.2 2 (l + 1 + i) = w.2 2 (l + 1 + k))) → mL6 (fun K' => wj_X9_function_177 K' K Q) (dd + 1) (nI l) x4 x6 (nI (l + 1 + k)) (nI (l + 1 + j)) y := by
    intro dd
    induction dd with
    | zero =>
      intro j y e hy
      have : j = k := by omega
      subst this
      refine ⟨fun _ => ?_, fun q => absurd (Int32.le_refl _) q⟩
      rcases hy with ⟨rfl, hy⟩ | ⟨rfl, hy⟩
      · intro y41 e41
        exact ⟨fun q => absurd (e41.trans we) q, fun _ => h1 hy⟩
      · intro y41 e41
        rw [mSet_same] at e41
        exact ⟨fun _ => h0 hy _ (FR_set FR.rf (by decide)) rfl (by rw [mSet_same]; decide), fun q => absurd (e41.symm.trans q) (by decide)⟩
    | succ dd ih =>
      intro j y e hy
      have y1 : y.2 1 = w.2 1 := by
        rcases hy with ⟨rfl, -⟩ | ⟨rfl, -⟩ <;> rfl
      have y2 : y.2 2 = w.2 2 := by
        rcases hy with ⟨rfl, -⟩ | ⟨rfl, -⟩ <;> rfl
      have nx : ∀ y' : mS, ((y' = w ∧ ∀ i, i < j + 1 → ¬ (w.2 1 (l + 1 + i) = w.2 1 (l + 1 + k) ∧ w.2 2 (l + 1 + i) = w.2 2 (l + 1 + k))) ∨ (y' = mSet w 12 3 ∧ ∃ i, i < k ∧ w.2 1 (l + 1 + i) = w.2 1 (l + 1 + k) ∧ w.2 2 (l + 1 + i) = w.2 2 (l + 1 + k))) → wj_X9_function_223 K (mL6 (fun K' => wj_X9_function_177 K' K Q) (dd + 1)) Q (nI l) x4 x6 (nI (l + 1 + k)) (nI (l + 1 + j)) y' := by
        intro y' hy'
        rintro _ rfl
        rw [nI_1]
        exact ih (j + 1) y' (by omega) hy'
      have keep : ¬ (w.2 1 (l + 1 + j) = w.2 1 (l + 1 + k) ∧ w.2 2 (l + 1 + j) = w.2 2 (l + 1 + k)) → wj_X9_function_223 K (mL6 (fun K' => wj_X9_function_177 K' K Q) (dd + 1)) Q (nI l) x4 x6 (nI (l + 1 + k)) (nI (l + 1 + j)) y := by
        intro hno
        refine nx y ?_
        rcases hy with ⟨e1, hy⟩ | hy
        · refine Or.inl ⟨e1, fun i hi => ?_⟩
          rcases Nat.lt_or_ge i j with z | z
          · exact hy i z
          · have : i = j := by omega
            subst this; exact hno
        · exact Or.inr hy
      refine ⟨fun q => absurd q (by rw [nI_leI (by omega) (by omega)]; omega), fun _ => ⟨vp_in_nI (by omega) (by omega), ?_⟩⟩
      rintro _ rfl
      refine ⟨vp_in_nI (by omega) (by omega), ?_⟩
      rintro _ rfl
      rw [nI_clamp (by omega), nI_clamp (by omega), y1]
      refine ⟨fun q => keep (fun z => q z.1), fun q => ⟨vp_in_nI (by omega) (by omega), ?_⟩⟩
      rintro _ rfl
      refine ⟨vp_in_nI (by omega) (by omega), ?_⟩
      rintro _ rfl
      rw [y2]
      refine ⟨fun q2 => keep (fun z => q2 z.2), fun q2 => ?_⟩
      have found : ∃ i, i < k ∧ w.2 1 (l + 1 + i) = w.2 1 (l + 1 + k) ∧ w.2 2 (l + 1 + i) = w.2 2 (l + 1 + k) := ⟨j, by omega, q, q2⟩
      intro y1' e1'
      rcases hy with ⟨rfl, -⟩ | ⟨rfl, -⟩
      · refine ⟨fun q => absurd (e1'.trans we) q, fun _ => ?_⟩
        rintro _ rfl
        exact nx _ (Or.inr ⟨rfl, found⟩)
      · rw [mSet_same] at e1'
        refine ⟨fun _ => ?_, fun q => absurd (e1'.symm.trans q) (by decide)⟩
        rintro _ rfl _ rfl
        refine nx _ (Or.inr ⟨?_, found⟩)
        rw [mSet_same]
        refine Prod.ext (funext fun i => ?_) rfl
        by_cases q : i = 12
        · subst q; rw [mSet_same, mSet_same]
        · rw [mSet_other q]
  have := main k 0 w (by omega) (Or.inl ⟨rfl, fun i hi => by omega⟩)
  exact ⟨_, this⟩
