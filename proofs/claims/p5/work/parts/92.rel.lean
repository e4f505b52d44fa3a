-- 92: what both sides hold while they expand
/-- the loop of the reference's expand -/
def LPX (Q : Int32 → mS → Prop) (v : mS) : Prop := ∃ n, mL1 (fun K => wj_X9_expand_86 K Q) n v
/-- the reference comes from v to w -/
def MGo (v w : mS) : Prop := ∀ Q, LPX Q w → LPX Q v
theorem MGo.rf {v : mS} : MGo v v := fun _ q => q
theorem MGo.tr {v w x : mS} (h : MGo v w) (g : MGo w x) : MGo v x := fun Q q => h Q (g Q q)
def MIN (v : mS) : Prop := LST 0 v ∧ (v.1 12 = 0 → ∃ h f, EXI v h f)
theorem stepGo {v w : mS} {h f : Nat} (hE : EXI v h f) (hL : LST 0 v) (he : v.1 12 = 0) (hh : h < 2600) (go : ∀ Q : mS → Prop, Q w → wp_X9_step v Q) : MGo v w ∧ MIN w := by
  have base : wp_X9_step v MIN := step_ok2 hE hL hh (fun v' vL' hv' => ⟨vL', fun q => by
    obtain ⟨h', f', a, -⟩ := hv' q
    exact ⟨h', f', a⟩⟩)
  have both : wp_X9_step v (fun x => MIN x ∧ x = w) := j_wp_X9_step base (go (fun x => x = w) rfl) (fun b h1 h2 => ⟨h1, h2⟩)
  refine ⟨fun Q q => ?_, d_wp_X9_step both (fun b hb _ => by rw [← hb.2]; exact hb.1)⟩
  obtain ⟨n, hn⟩ := q
  refine ⟨n + 1, ?_⟩
  intro y19 e19
  rw [hE.1] at e19; subst e19
  refine ⟨fun q => absurd q (by rw [show (2600 : Int32) = nI 2600 from rfl, nI_leI (by omega) (by omega)]; omega), fun _ => ?_⟩
  intro y21 e21
  exact ⟨fun q => absurd (e21.trans he) q, fun _ => go _ hn⟩
theorem MIN_E {v : mS} {h f : Nat} (h0 : MIN v) (e : v.1 12 = 0) (h1 : v.1 1 = nI h) (hh : h < 2 ^ 20) (h15 : v.1 15 = nI f) (hf : f < 2 ^ 20) : EXI v h f := by
  obtain ⟨h', f', hE⟩ := h0.2 e
  have a1 := hE.1
  have a2 := hE.2.1
  have a3 := hE.2.2.1
  have a4 := hE.2.2.2.1
  rw [h1] at a1
  rw [h15] at a3
  rw [nI_eq (by omega) (by omega)] at a1 a3
  subst a1; subst a3
  exact hE
theorem US_lt {a u : mS} {p i n N : Nat} (h : US a p i) (hLI : LI (ra a) p n N) (hN : 0 < N) (hw : ∀ x, p ≤ x → x < p + n → ra u x = ra a x ∧ u.2 2 x = a.2 2 x) (hi : ra u i = ra a i ∧ u.2 2 i = a.2 2 i ∧ u.2 4 i = a.2 4 i) : US u p i := by
  have e1 : tl (ra u) p = tl (ra a) p := by
    have := TL_copy (r := ra a) (q := ra u) (i := p) (j := p) (fun k hk => by rw [(hw (p + k) (by omega) (by omega)).1]) hLI.2.1
    rw [tl_eq this, tl_eq hLI.2.1]
  have hiT : TL (ra a) (p + 1) (tl (ra a) (p + 1)) := (hLI.2.2.1 0 hN).2
  have hb1 : p + 1 + tl (ra a) (p + 1) < p + n := (LI_at hLI (k := 1) (by omega)).2.1
  have e2 : tl (ra u) (p + 1) = tl (ra a) (p + 1) := tl_eq (TL_copy (r := ra a) (q := ra u) (i := p + 1) (j := p + 1) (fun k hk => by rw [(hw (p + 1 + k) (by omega) (by omega)).1]) hiT)
  have e3 : ∀ v w, VR (ra u) (u.2 2) p v w = VR (ra a) (a.2 2) p v w := by
    intro v w
    have g := sh_VR (r := ra a) (s := a.2 2) (q := ra u) (t := u.2 2) (a := p) (c := p) (L := n) (p := 0) (n := n) (N := N) (fun j hj => hw (p + j) (by omega) (by omega)) hLI hN (by omega) v w
    rw [Nat.add_zero] at g
    rcases g with ⟨x, y⟩ | ⟨j, -, -, x, y⟩
    · rw [x, y]
    · rw [x, y]
  unfold US at h ⊢
  rw [e3, e1, e2, hi.1, hi.2.1, hi.2.2]
  exact h
/-- a region of the class's row stays one -/
theorem AR_lt {u u' : mS} {a b st T : Nat} (h : AR u a b) (hb : b ≤ st) (hT : u'.1 1 = nI T) (sT : st ≤ T) (T3 : T ≤ 3000) (hw : ∀ x, x < st → u'.2 1 x = u.2 1 x ∧ u'.2 3 x = u.2 3 x) : AR u' a b ∧ ∀ i, a ≤ i → i < b → tl (ra u') i = tl (ra u) i := by
  have g := AR_low (u := (u'.1, fun k => if k = 2 then u.2 2 else if k = 4 then u.2 4 else u'.2 k)) h hb (fun x hx => ⟨(hw x hx).1, rfl, (hw x hx).2, rfl⟩) ⟨T, hT, sT, T3⟩
  exact ⟨AR_fr g.1 rfl rfl rfl, g.2⟩
theorem RGN_lt {u u' v v' : mS} {L nL N a b a1 b1 st T : Nat} (h : RGN u v L nL N a b a1 b1) (hb1 : b1 ≤ st) (hT : u'.1 1 = nI T) (sT : st ≤ T) (T3 : T ≤ 3000) (hw : ∀ x, x < st → u'.2 1 x = u.2 1 x ∧ u'.2 3 x = u.2 3 x) (hm : ∀ x, L + 2 ≤ x → x < L + nL → u'.2 2 x = u.2 2 x ∧ u'.2 4 x = u.2 4 x) (hk : ∀ j, a ≤ j → j < b → v'.2 3 j = v.2 3 j ∧ v'.2 4 j = v.2 4 j) : RGN u' v' L nL N a b a1 b1 := by
  obtain ⟨h1, h2, h3, h4, hL, h6, hN, k3, h9, h10, h11⟩ := h
  have er : ∀ x, x < st → ra u' x = ra u x := fun x hx => by
    show tr (u'.2 1 x) = tr (u.2 1 x)
    rw [(hw x hx).1]
  have hA : ∀ j, j < nL → ra u' (L + j) = ra u (L + j) ∧ u.2 2 (L + j) = u.2 2 (L + j) := fun j hj => ⟨er _ (by omega), rfl⟩
  have l1 := (LI_at hL (k := 1) (by omega))
  have hL' := sh_LI hA (x := 0) hL (by omega)
  have hit := sh_it hA (x := 0) hL (by omega)
  have hcn := (sh_cn hA (x := 0) hL (by omega) N (Nat.le_refl _)).2
  rw [Nat.add_zero] at hL' hcn
  refine ⟨(AR_lt h1 hb1 hT sT T3 hw).1, fun i i1 i2 i6 => ?_, h3, h4, hL', by rw [hcn]; exact h6, hN, by rw [er _ (by omega)]; exact k3, fun k k0 kN => ?_, h10, fun j hj => ?_⟩
  · rw [er i (by omega)] at i6
    obtain ⟨d1, d2, d3⟩ := h2 i i1 i2 i6
    rw [er (i - 1) (by omega)]
    exact ⟨d1, d2, d3⟩
  · obtain ⟨g1, g2⟩ := h9 k k0 kN
    have ei : it (ra u') L k = it (ra u) L k := by
      have := hit k (by omega)
      rw [Nat.add_zero] at this
      omega
    rw [ei]
    obtain ⟨c2, cT⟩ := hL.2.2.1 k (by omega)
    have at1 := LI_at hL (k := k) (by omega)
    have at2 := LI_at hL (k := k + 1) (by omega)
    have e1 : it (ra u) L (k + 1) = it (ra u) L k + tl (ra u) (it (ra u) L k) := rfl
    have hb3 := AR_b h1
    have at0 := LI_mono hL (j := 1) (k := k) (by omega) (by omega)
    have l10 := l1.1
    have R' := sh_RUL (r := ra u) (s := u.2 2) (q := ra u') (t := u'.2 2) (a := it (ra u) L k) (c := it (ra u) L k) (L := tl (ra u) (it (ra u) L k)) (x := 0) (fun j hj => ⟨er _ (by omega), (hm _ (by omega) (by omega)).1⟩) g1 cT (by omega) (by omega) (by omega)
    refine ⟨R', fun x x1 x2 => ?_⟩
    obtain ⟨-, hPAT, p1, p2, p3, p4⟩ := RUL_pc g1 cT h2 (by omega) (by omega)
    have c0 := cT.1
    have p3' := p3.1
    have t1 : tl (ra u') (it (ra u) L k + 1) = tl (ra u) (it (ra u) L k + 1) := tl_eq (TL_copy (r := ra u) (i := it (ra u) L k + 1) (fun j hj => by rw [er _ (by omega)]) p2)
    rw [t1] at x1 x2
    have t2 : tl (ra u') (it (ra u) L k + 1 + tl (ra u) (it (ra u) L k + 1)) = tl (ra u) (it (ra u) L k + 1 + tl (ra u) (it (ra u) L k + 1)) := tl_eq (TL_copy (r := ra u) (i := it (ra u) L k + 1 + tl (ra u) (it (ra u) L k + 1)) (fun j hj => by rw [er _ (by omega)]) p3)
    rw [t2] at x2
    obtain ⟨⟨n', N', hLI, hcn'⟩, -⟩ := hPAT
    have en : n' = tl (ra u) (it (ra u) L k + 1) := (tl_eq hLI.2.1).symm
    have N0 : 0 < N' := by
      rcases Nat.eq_zero_or_pos N' with z | z
      · subst z; exact absurd rfl hcn'
      · exact z
    exact US_lt (g2 x x1 x2) hLI N0 (fun y y1 y2 => ⟨er _ (by omega), (hm y (by omega) (by omega)).1⟩) ⟨er _ (by omega), hm x (by omega) (by omega)⟩
  · have := h11 j hj
    rw [er _ (by omega), (hm _ (by omega) (by omega)).1, (hk (a + j) (by omega) (by omega)).1, (hk (a + j) (by omega) (by omega)).2]
    exact this
/-- what binding i means on both sides -/
def KDR (u v : mS) (c st ke i : Nat) : Prop := (u.2 7 i = 0 ∧ v.2 9 i = 0 ∧ v.2 10 i = 0 ∧ u.2 5 i = 91758) ∨ (u.2 7 i = 1 ∧ v.2 9 i = 0 ∧ v.2 10 i = 1 ∧ u.2 5 i = 92518) ∨ (u.2 7 i = 2 ∧ v.2 9 i = 0 ∧ v.2 10 i = 2) ∨ (u.2 7 i = 3 ∧ v.2 9 i = 0 ∧ v.2 10 i = 3) ∨ (u.2 7 i = 4 ∧ v.2 9 i = 1) ∨ (u.2 7 i = 5 ∧ v.2 9 i = 2 ∧ u.2 8 i = v.2 10 i ∧ ∃ n, n < 40 ∧ v.2 10 i = nI n) ∨ (u.2 7 i = 6 ∧ v.2 9 i = 3 ∧ ∃ L nL N a b a1 b1, u.2 8 i = nI L ∧ v.2 10 i = nI a ∧ v.2 11 i = nI b ∧ RGN u v L nL N a b a1 b1 ∧ nL ≤ 310 ∧ b1 ≤ st ∧ b ≤ ke ∧ ∀ j, a ≤ j → j < b → MB (v.2 4 j) c)
def BND (u v : mS) (c st ke i : Nat) : Prop := (∃ x y, NM x y ∧ u.2 5 i = nI x ∧ v.2 7 i = nI y) ∧ u.2 6 i = v.2 8 i ∧ MB (u.2 6 i) c ∧ KDR u v c st ke i
/-- the same bindings, scopes, variables, fuel -/
def REL (u v : mS) (st c f : Nat) : Prop := ∃ nv nb b0 ke, c ≤ 30 ∧ nv ≤ nb ∧ nb ≤ 40 ∧ b0 ≤ nb ∧ u.1 8 = nI c ∧ v.1 13 = nI c ∧ u.1 10 = nI nv ∧ v.1 14 = nI nv ∧ u.1 11 = nI f ∧ v.1 15 = nI f ∧ u.1 4 = nI nb ∧ v.1 4 = nI nb ∧ v.1 5 = nI b0 ∧ u.1 9 = nI (nb - b0) ∧ u.1 1 = nI st ∧ st + 300 * f ≤ 3000 ∧ v.1 2 = nI ke ∧ ke ≤ 3000 ∧ ∀ i, i < nb → BND u v c st ke i
def CN (u v : mS) : Prop := u.1 8 = v.1 13 ∧ u.1 10 = v.1 14 ∧ u.1 11 = v.1 15 ∧ u.1 9 = v.1 4 - v.1 5
theorem REL_CN {u v : mS} {st c f : Nat} (h : REL u v st c f) : CN u v := by
  obtain ⟨nv, nb, b0, ke, k1, k2, k3, k4, e1, e2, e3, e4, e5, e6, e7, e8, e9, e10, -⟩ := h
  exact ⟨by rw [e1, e2], by rw [e3, e4], by rw [e5, e6], by rw [e10, e8, e9, pk_sub k4]⟩
def nbA (u : mS) : Nat := (u.1 4).toNatClampNeg
def keM (v : mS) : Nat := (v.1 2).toNatClampNeg
/-- no rules of a name stand in [lo, hi) -/
def DJ (u : mS) (lo hi : Nat) : Prop := ∀ i L, i < nbA u → u.2 7 i = 6 → u.2 8 i = nI L → L < 3000 → L + tl (ra u) L ≤ lo ∨ hi ≤ L
theorem KDR_lt {u u' v v' : mS} {c c' st st' ke ke' i : Nat} (h : KDR u v c st ke i) (hc : c ≤ c') (hs : st ≤ st') (hs3 : st' ≤ 3000) (hke : ke ≤ ke') (hT : u'.1 1 = nI st') (hw : ∀ x, x < st → u'.2 1 x = u.2 1 x ∧ u'.2 3 x = u.2 3 x) (hm : ∀ L, u.2 7 i = 6 → u.2 8 i = nI L → L < 3000 → ∀ x, x < st → L ≤ x → x < L + tl (ra u) L → u'.2 2 x = u.2 2 x ∧ u'.2 4 x = u.2 4 x) (hk : ∀ j, j < ke → v'.2 3 j = v.2 3 j ∧ v'.2 4 j = v.2 4 j) (hu : u'.2 5 i = u.2 5 i ∧ u'.2 7 i = u.2 7 i ∧ u'.2 8 i = u.2 8 i) (hv : v'.2 9 i = v.2 9 i ∧ v'.2 10 i = v.2 10 i ∧ v'.2 11 i = v.2 11 i) : KDR u' v' c' st' ke' i := by
  unfold KDR at h ⊢
  rw [hu.1, hu.2.1, hu.2.2, hv.1, hv.2.1, hv.2.2]
  rcases h with h | h | h | h | h | h | ⟨h1, h2, L, nL, N, a, b, a1, b1, g1, g2, g3, g4, g5, g6, g7, g8⟩
  · exact Or.inl h
  · exact Or.inr (Or.inl h)
  · exact Or.inr (Or.inr (Or.inl h))
  · exact Or.inr (Or.inr (Or.inr (Or.inl h)))
  · exact Or.inr (Or.inr (Or.inr (Or.inr (Or.inl h))))
  · exact Or.inr (Or.inr (Or.inr (Or.inr (Or.inr (Or.inl h)))))
  · refine Or.inr (Or.inr (Or.inr (Or.inr (Or.inr (Or.inr ⟨h1, h2, L, nL, N, a, b, a1, b1, g1, g2, g3, ?_, g5, by omega, by omega, fun j j1 j2 => ?_⟩)))))
    · have hb1 := AR_b g4.1
      have tL : tl (ra u) L = nL := tl_eq g4.2.2.2.2.1.2.1
      have hl := g4.2.2.2.1
      have n0 := g4.2.2.2.2.1.2.1.1
      exact RGN_lt g4 g6 hT hs hs3 hw (fun x x1 x2 => hm L h1 g1 (by omega) x (by omega) (by omega) (by omega)) (fun j j1 j2 => hk j (by omega))
    · rw [(hk j (by omega)).2]
      exact MB_le (g8 j j1 j2) hc
theorem REL_fr {S A S' A' : List Nat} {u u' v v' : mS} {st c f : Nat} (h : REL u v st c f) (hu : FR S A u u') (hv : FR S' A' v v') (s : ∀ k ∈ [1, 4, 8, 9, 10, 11], k ∉ S) (a : ∀ k ∈ [1, 2, 3, 4, 5, 6, 7, 8], k ∉ A) (s' : ∀ k ∈ [2, 4, 5, 13, 14, 15], k ∉ S') (a' : ∀ k ∈ [3, 4, 7, 8, 9, 10, 11], k ∉ A') : REL u' v' st c f := by
  obtain ⟨nv, nb, b0, ke, k1, k2, k3, k4, e1, e2, e3, e4, e5, e6, e7, e8, e9, e10, e11, e12, e13, e14, e15⟩ := h
  have q1 := hu.2 1 (a 1 (by decide))
  have q2 := hu.2 2 (a 2 (by decide))
  have q3 := hu.2 3 (a 3 (by decide))
  have q4 := hu.2 4 (a 4 (by decide))
  have q5 := hu.2 5 (a 5 (by decide))
  have q6 := hu.2 6 (a 6 (by decide))
  have q7 := hu.2 7 (a 7 (by decide))
  have q8 := hu.2 8 (a 8 (by decide))
  have t1 := (hu.1 1 (s 1 (by decide))).trans e11
  refine ⟨nv, nb, b0, ke, k1, k2, k3, k4, (hu.1 8 (s 8 (by decide))).trans e1, (hv.1 13 (s' 13 (by decide))).trans e2, (hu.1 10 (s 10 (by decide))).trans e3, (hv.1 14 (s' 14 (by decide))).trans e4, (hu.1 11 (s 11 (by decide))).trans e5, (hv.1 15 (s' 15 (by decide))).trans e6, (hu.1 4 (s 4 (by decide))).trans e7, (hv.1 4 (s' 4 (by decide))).trans e8, (hv.1 5 (s' 5 (by decide))).trans e9, (hu.1 9 (s 9 (by decide))).trans e10, t1, e12, (hv.1 2 (s' 2 (by decide))).trans e13, e14, fun i hi => ?_⟩
  obtain ⟨b1, b2, b3, b4⟩ := e15 i hi
  refine ⟨by rw [q5, hv.2 7 (a' 7 (by decide))]; exact b1, by rw [q6, hv.2 8 (a' 8 (by decide))]; exact b2, by rw [q6]; exact b3, KDR_lt b4 (Nat.le_refl _) (Nat.le_refl _) (by omega) (Nat.le_refl _) t1 (fun x _ => by rw [q1, q3]; exact ⟨rfl, rfl⟩) (fun _ _ _ _ x _ _ _ => by rw [q2, q4]; exact ⟨rfl, rfl⟩) (fun j _ => by rw [hv.2 3 (a' 3 (by decide)), hv.2 4 (a' 4 (by decide))]; exact ⟨rfl, rfl⟩) (by rw [q5, q7, q8]; exact ⟨rfl, rfl, rfl⟩) (by rw [hv.2 9 (a' 9 (by decide)), hv.2 10 (a' 10 (by decide)), hv.2 11 (a' 11 (by decide))]; exact ⟨rfl, rfl, rfl⟩)⟩
