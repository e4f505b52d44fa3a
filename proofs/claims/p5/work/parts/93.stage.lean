-- 93: what an expansion asks and gives; a list's items one after the other
/-- the class's row below st is as it was, but for marks and links in [l, l + m) -/
def LOWT (a u : mS) (st l m : Nat) : Prop := ∀ x, x < st → u.2 1 x = a.2 1 x ∧ u.2 3 x = a.2 3 x ∧ (x < l ∨ l + m ≤ x → u.2 2 x = a.2 2 x ∧ u.2 4 x = a.2 4 x)
/-- what an expansion leaves as it was -/
def FRX (u v u' v' : mS) (p n st : Nat) : Prop := LOWT u u' st p n ∧ (∃ T, u'.1 1 = nI T ∧ st ≤ T ∧ T ≤ 3000) ∧ (nbA u ≤ nbA u' ∧ ∀ i, i < nbA u → u'.2 5 i = u.2 5 i ∧ u'.2 6 i = u.2 6 i ∧ u'.2 7 i = u.2 7 i ∧ u'.2 8 i = u.2 8 i) ∧ (keM v ≤ keM v' ∧ ∀ j, j < keM v → v'.2 3 j = v.2 3 j ∧ v'.2 4 j = v.2 4 j) ∧ v'.2 6 = v.2 6 ∧ u'.1 5 = u.1 5
theorem FRX_rf {S A S' A' : List Nat} {u u' v v' : mS} {p n st : Nat} (hu : FR S A u u') (hv : FR S' A' v v') (s : ∀ k ∈ [1, 4, 5], k ∉ S) (a : ∀ k ∈ [1, 2, 3, 4, 5, 6, 7, 8], k ∉ A) (s' : ∀ k ∈ [2], k ∉ S') (a' : ∀ k ∈ [3, 4, 6], k ∉ A') (h1 : u.1 1 = nI st) (h3 : st ≤ 3000) : FRX u v u' v' p n st := by
  refine ⟨fun x _ => ⟨by rw [hu.2 1 (a 1 (by decide))], by rw [hu.2 3 (a 3 (by decide))], fun _ => by rw [hu.2 2 (a 2 (by decide)), hu.2 4 (a 4 (by decide))]; exact ⟨rfl, rfl⟩⟩, ⟨st, (hu.1 1 (s 1 (by decide))).trans h1, Nat.le_refl _, h3⟩, ⟨Nat.le_of_eq ?_, fun i _ => by rw [hu.2 5 (a 5 (by decide)), hu.2 6 (a 6 (by decide)), hu.2 7 (a 7 (by decide)), hu.2 8 (a 8 (by decide))]; exact ⟨rfl, rfl, rfl, rfl⟩⟩, ⟨Nat.le_of_eq ?_, fun j _ => by rw [hv.2 3 (a' 3 (by decide)), hv.2 4 (a' 4 (by decide))]; exact ⟨rfl, rfl⟩⟩, hv.2 6 (a' 6 (by decide)), hu.1 5 (s 5 (by decide))⟩
  · unfold nbA; rw [hu.1 4 (s 4 (by decide))]
  · unfold keM; rw [hv.1 2 (s' 2 (by decide))]
theorem FRX.tr {u v u' v' u2 v2 : mS} {p n st p' n' st' : Nat} (h : FRX u v u' v' p n st) (g : FRX u' v' u2 v2 p' n' st') (hs : st ≤ st') (h1 : p' < p → st ≤ p') (h2 : p + n < p' + n' → st ≤ p') : FRX u v u2 v2 p n st := by
  obtain ⟨a1, ⟨T, a2, a3, a4⟩, ⟨a5, a6⟩, ⟨a7, a8⟩, a9, a10⟩ := h
  obtain ⟨b1, ⟨T', b2, b3, b4⟩, ⟨b5, b6⟩, ⟨b7, b8⟩, b9, b10⟩ := g
  refine ⟨fun x hx => ?_, ⟨T', b2, by omega, b4⟩, ⟨by omega, fun i hi => ?_⟩, ⟨by omega, fun j hj => ?_⟩, b9.trans a9, b10.trans a10⟩
  · obtain ⟨x1, x2, x3⟩ := a1 x hx
    obtain ⟨y1, y2, y3⟩ := b1 x (by omega)
    refine ⟨y1.trans x1, y2.trans x2, fun q => ?_⟩
    obtain ⟨z1, z2⟩ := x3 q
    have q' : x < p' ∨ p' + n' ≤ x := by
      rcases Nat.lt_or_ge p' p with r | r
      · have := h1 r; omega
      · rcases Nat.lt_or_ge (p + n) (p' + n') with r2 | r2
        · have := h2 r2; omega
        · omega
    obtain ⟨w1, w2⟩ := y3 q'
    exact ⟨w1.trans z1, w2.trans z2⟩
  · obtain ⟨x1, x2, x3, x4⟩ := a6 i hi
    obtain ⟨y1, y2, y3, y4⟩ := b6 i (by omega)
    exact ⟨y1.trans x1, y2.trans x2, y3.trans x3, y4.trans x4⟩
  · obtain ⟨x1, x2⟩ := a8 j hj
    obtain ⟨y1, y2⟩ := b8 j (by omega)
    exact ⟨y1.trans x1, y2.trans x2⟩
/-- where the rules of new names stand -/
def NEWR (u u' : mS) (p n st : Nat) : Prop := ∀ i, nbA u ≤ i → i < nbA u' → u'.2 7 i = 6 → ∃ L, u'.2 8 i = nI L ∧ L < 3000 ∧ ((p ≤ L ∧ L + tl (ra u') L ≤ p + n) ∨ st ≤ L)
/-- the tree at p is the reference's tree at h -/
def TRE (u v : mS) (p n h st c : Nat) : Prop := (∃ a2 b2, AR u a2 b2 ∧ DR (ra u) a2 b2 ∧ a2 ≤ p ∧ p + n ≤ b2 ∧ b2 ≤ st) ∧ h + n ≤ 2600 ∧ TL (v.2 1) h n ∧ ¬ kd (v.2 1 h) = 2 ∧ ∀ j, j < n → ra u (p + j) = v.2 1 (h + j) ∧ u.2 2 (p + j) = v.2 2 (h + j) ∧ MB (u.2 2 (p + j)) c
/-- the same text, where the reference may still owe a space -/
def TXP (u v : mS) : Prop := (v.1 10 = 0 ∧ TX u v) ∨ (v.1 10 = 1 ∧ TX u (pM 32 v))
def PRE (u v : mS) (p n h st c f ar : Nat) : Prop := REL u v st c f ∧ EXI v h f ∧ LST 0 v ∧ v.1 12 = 0 ∧ v.1 11 = nI ar ∧ TXP u v ∧ TRE u v p n h st c ∧ DJ u p (p + n)
def OKR (u v u' v' : mS) (p n h st c f : Nat) : Prop := ∃ st' c' f', TX u' v' ∧ u'.1 7 = 0 ∧ v'.1 12 = 0 ∧ st ≤ st' ∧ c ≤ c' ∧ f' ≤ f ∧ REL u' v' st' c' f' ∧ v'.1 1 = nI (h + n) ∧ v'.1 11 = v.1 11 ∧ v'.1 10 = 1 ∧ (∀ l, h + n ≤ l → v'.2 1 l = v.2 1 l ∧ v'.2 2 l = v.2 2 l) ∧ NEWR u u' p n st
def RES (u v u' v' : mS) (p n h st c f : Nat) : Prop := FRX u v u' v' p n st ∧ MIN v' ∧ ((¬ u'.1 7 = 0 ∧ ¬ v'.1 12 = 0 ∧ CN u' v') ∨ OKR u v u' v' p n h st c f)
def XOK (X : Int32 → Int32 → mS → (mS → Prop) → Prop) (d : Nat) : Prop := ∀ u v p n h st c f ar (post : mS → Prop), 12 + f ≤ d + ar → ar ≤ 10 → PRE u v p n h st c f ar → (∀ u' v', MGo v v' → RES u v u' v' p n h st c f → post u') → X (nI p) (nI ar) u post
def XER (X : Int32 → Int32 → mS → (mS → Prop) → Prop) : Prop := ∀ t a u (post : mS → Prop), ¬ u.1 7 = 0 → post u → X t a u post
/-- within a list: the items ahead of hk are expanded -/
def STG (u0 v0 u v : mS) (p m h st0 c0 f0 ar hk : Nat) : Prop := ∃ st c f, REL u v st c f ∧ st0 ≤ st ∧ c0 ≤ c ∧ f ≤ f0 ∧ LST 0 v ∧ EXI v hk f ∧ v.1 12 = 0 ∧ v.1 11 = nI ar ∧ (∀ l, hk ≤ l → v.2 1 l = v0.2 1 l ∧ v.2 2 l = v0.2 2 l) ∧ (∀ x, p + (hk - h) ≤ x → x < p + m → u.2 2 x = u0.2 2 x ∧ u.2 4 x = u0.2 4 x) ∧ FRX u0 v0 u v p m st0 ∧ NEWR u0 u p (hk - h) st0
theorem nbA_fr {S A : List Nat} {u u' : mS} (h : FR S A u u') (s : 4 ∉ S) : nbA u' = nbA u := by unfold nbA; rw [h.1 4 s]
theorem STG_fr {S A : List Nat} {u0 v0 u u' v : mS} {p m h st0 c0 f0 ar hk : Nat} (hS : STG u0 v0 u v p m h st0 c0 f0 ar hk) (hF : FR S A u u') (s : ∀ k ∈ [1, 4, 5, 8, 9, 10, 11], k ∉ S) (a : ∀ k ∈ [1, 2, 3, 4, 5, 6, 7, 8], k ∉ A) : STG u0 v0 u' v p m h st0 c0 f0 ar hk := by
  obtain ⟨st, c, f, g1, g2, g3, g4, g5, g6, g7, g8, g9, g10, g11, g12⟩ := hS
  refine ⟨st, c, f, REL_fr (S' := []) (A' := []) g1 hF FR.rf (fun k hk => s k (by revert hk; revert k; decide)) a (by decide) (by decide), g2, g3, g4, g5, g6, g7, g8, g9, fun x x1 x2 => by rw [hF.2 2 (a 2 (by decide)), hF.2 4 (a 4 (by decide))]; exact g10 x x1 x2, ?_, ?_⟩
  · obtain ⟨a1, a2, ⟨a3, a4⟩, a5, a6, a7⟩ := g11
    refine ⟨fun x hx => ?_, by rw [hF.1 1 (s 1 (by decide))]; exact a2, ⟨by rw [nbA_fr hF (s 4 (by decide))]; exact a3, fun i hi => by rw [hF.2 5 (a 5 (by decide)), hF.2 6 (a 6 (by decide)), hF.2 7 (a 7 (by decide)), hF.2 8 (a 8 (by decide))]; exact a4 i hi⟩, a5, a6, (hF.1 5 (s 5 (by decide))).trans a7⟩
    rw [hF.2 1 (a 1 (by decide)), hF.2 2 (a 2 (by decide)), hF.2 3 (a 3 (by decide)), hF.2 4 (a 4 (by decide))]
    exact a1 x hx
  · intro i i1 i2 i7
    rw [nbA_fr hF (s 4 (by decide))] at i2
    rw [hF.2 7 (a 7 (by decide))] at i7
    rw [hF.2 8 (a 8 (by decide)), ra_fr (hF.2 1 (a 1 (by decide)))]
    exact g12 i i1 i2 i7
theorem DJ_stg {u0 v0 u v : mS} {p m h st0 c0 f0 ar hk lo hi : Nat} (hS : STG u0 v0 u v p m h st0 c0 f0 ar hk) (hD : DJ u0 lo hi) (hlo : p + (hk - h) ≤ lo) (hhi : hi ≤ st0) (hA : ∀ i, i < nbA u0 → u0.2 7 i = 6 → ∀ L, u0.2 8 i = nI L → L < 3000 → TL (ra u0) L (tl (ra u0) L) ∧ L + tl (ra u0) L ≤ st0) : DJ u lo hi := by
  obtain ⟨st, c, f, g1, g2, g3, g4, g5, g6, g7, g8, g9, g10, g11, g12⟩ := hS
  intro i L i1 i7 i8 hL
  obtain ⟨a1, a2, ⟨a3, a4⟩, a5, a6, a7⟩ := g11
  rcases Nat.lt_or_ge i (nbA u0) with q | q
  · obtain ⟨x1, x2, x3, x4⟩ := a4 i q
    rw [x3] at i7
    rw [x4] at i8
    obtain ⟨t1, t2⟩ := hA i q i7 L i8 hL
    have : tl (ra u) L = tl (ra u0) L := tl_eq (TL_copy (r := ra u0) (i := L) (fun j hj => by
      show kd (tr (u.2 1 (L + j))) = kd (tr (u0.2 1 (L + j)))
      rw [(a1 (L + j) (by omega)).1]) t1)
    rw [this]
    exact hD i L q i7 i8 hL
  · obtain ⟨L', y1, y2, y3⟩ := g12 i q i1 i7
    rw [y1, nI_eq (by omega) (by omega)] at i8
    subst i8
    rcases y3 with y3 | y3
    · exact Or.inl (by omega)
    · exact Or.inr (by omega)
/-- the rules of names, as REL has them -/
theorem REL_reg {u v : mS} {st c f : Nat} (h : REL u v st c f) : ∀ i, i < nbA u → u.2 7 i = 6 → ∀ L, u.2 8 i = nI L → L < 3000 → TL (ra u) L (tl (ra u) L) ∧ L + tl (ra u) L ≤ st := by
  obtain ⟨nv, nb, b0, ke, k1, k2, k3, k4, e1, e2, e3, e4, e5, e6, e7, e8, e9, e10, e11, e12, e13, e14, e15⟩ := h
  intro i hi i7 L iL hL
  unfold nbA at hi
  rw [e7, nI_clamp (by omega)] at hi
  obtain ⟨-, -, -, hk⟩ := e15 i hi
  rcases hk with ⟨q, -⟩ | ⟨q, -⟩ | ⟨q, -⟩ | ⟨q, -⟩ | ⟨q, -⟩ | ⟨q, -⟩ | ⟨-, -, L', nL, N, a, b, a1, b1, g1, g2, g3, g4, g5, g6, g7, g8⟩
  · rw [q] at i7; exact absurd i7 (by decide)
  · rw [q] at i7; exact absurd i7 (by decide)
  · rw [q] at i7; exact absurd i7 (by decide)
  · rw [q] at i7; exact absurd i7 (by decide)
  · rw [q] at i7; exact absurd i7 (by decide)
  · rw [q] at i7; exact absurd i7 (by decide)
  · have hb := AR_b g4.1
    have hl := g4.2.2.2.1
    have tT := g4.2.2.2.2.1.2.1
    have t0 := tT.1
    rw [g1, nI_eq (by omega) (by omega)] at iL
    subst iL
    rw [tl_eq tT]
    exact ⟨tT, by omega⟩
/-- the lists of both sides at the beginning -/
def LB (u0 v0 : mS) (p m h st0 c0 : Nat) : Prop := (∃ a2 b2, AR u0 a2 b2 ∧ DR (ra u0) a2 b2 ∧ a2 ≤ p ∧ p + m ≤ b2 ∧ b2 ≤ st0) ∧ h + m ≤ 2600 ∧ (∀ j, j + 1 < m → ra u0 (p + j) = v0.2 1 (h + j) ∧ u0.2 2 (p + j) = v0.2 2 (h + j) ∧ MB (u0.2 2 (p + j)) c0) ∧ (∀ i, i < nbA u0 → u0.2 7 i = 6 → ∀ L, u0.2 8 i = nI L → L < 3000 → TL (ra u0) L (tl (ra u0) L) ∧ L + tl (ra u0) L ≤ st0)
theorem stg_reg {u0 v0 u v : mS} {p m h st0 c0 f0 ar hk : Nat} (hB : LB u0 v0 p m h st0 c0) (hS : STG u0 v0 u v p m h st0 c0 f0 ar hk) : ∃ a2 b2, AR u a2 b2 ∧ DR (ra u) a2 b2 ∧ a2 ≤ p ∧ p + m ≤ b2 ∧ b2 ≤ st0 ∧ (∀ i, a2 ≤ i → i < b2 → tl (ra u) i = tl (ra u0) i) ∧ ∀ x, x < st0 → ra u x = ra u0 x := by
  obtain ⟨⟨a2, b2, r1, r2, r3, r4, r5⟩, -⟩ := hB
  obtain ⟨st, c, f, g1, g2, g3, g4, g5, g6, g7, g8, g9, g10, g11, g12⟩ := hS
  obtain ⟨a1, ⟨T, t1, t2, t3⟩, -⟩ := g11
  have er : ∀ x, x < st0 → ra u x = ra u0 x := fun x hx => by
    show tr (u.2 1 x) = tr (u0.2 1 x)
    rw [(a1 x hx).1]
  obtain ⟨z1, z2⟩ := AR_lt r1 r5 t1 t2 t3 (fun x hx => ⟨(a1 x hx).1, (a1 x hx).2.1⟩)
  refine ⟨a2, b2, z1, fun i i1 i2 i6 => ?_, r3, r4, r5, z2, er⟩
  rw [er i (by omega)] at i6
  obtain ⟨d1, d2, d3⟩ := r2 i i1 i2 i6
  rw [er (i - 1) (by omega)]
  exact ⟨d1, d2, d3⟩
theorem stage {X : Int32 → Int32 → mS → (mS → Prop) → Prop} {d : Nat} {u0 v0 u v : mS} {p m h st0 c0 f0 ar hk t : Nat} {post : mS → Prop} (hX : XOK X d) (hd : 12 + f0 ≤ d + ar) (har : ar ≤ 10) (hB : LB u0 v0 p m h st0 c0) (hS : STG u0 v0 u v p m h st0 c0 f0 ar hk) (hD : DJ u0 (p + (hk - h)) (p + m)) (hh : h ≤ hk) (hT : TL (v0.2 1) hk t) (h2 : ¬ kd (v0.2 1 hk) = 2) (ht : hk + t < h + m) (hTX : TXP u v)
    (hErr : ∀ u' v', MGo v v' → FRX u0 v0 u' v' p m st0 → MIN v' → ¬ u'.1 7 = 0 → ¬ v'.1 12 = 0 → CN u' v' → post u')
    (hOk : ∀ u' v', MGo v v' → STG u0 v0 u' v' p m h st0 c0 f0 ar (hk + t) → TX u' v' → u'.1 7 = 0 → v'.1 10 = 1 → post u') : X (nI (p + (hk - h))) (nI ar) u post := by
  have hDJ := DJ_stg hS hD (Nat.le_refl _) (by obtain ⟨⟨a2, b2, -, -, q3, q4, q5⟩, -⟩ := hB; omega) hB.2.2.2
  obtain ⟨a2, b2, s1, s2, s3, s4, s5, s6, s7⟩ := stg_reg hB hS
  have hS' := hS
  obtain ⟨st, c, f, g1, g2, g3, g4, g5, g6, g7, g8, g9, g10, g11, g12⟩ := hS
  have t0 := hT.1
  have hpre : PRE u v (p + (hk - h)) t hk st c f ar := by
    refine ⟨g1, g6, g5, g7, g8, hTX, ⟨⟨a2, b2, s1, s2, by omega, by omega, by omega⟩, by have := hB.2.1; omega, TL_copy (r := v0.2 1) (i := hk) (fun j hj => by rw [(g9 (hk + j) (by omega)).1]) hT, by rw [(g9 hk (by omega)).1]; exact h2, fun j hj => ?_⟩, fun i L i1 i7 i8 hL => ?_⟩
    · obtain ⟨x1, x2, x3⟩ := hB.2.2.1 (hk - h + j) (by omega)
      rw [show p + (hk - h) + j = p + (hk - h + j) from by omega, s7 _ (by omega), (g10 _ (by omega) (by omega)).1, (g9 (hk + j) (by omega)).1, (g9 (hk + j) (by omega)).2]
      rw [show h + (hk - h + j) = hk + j from by omega] at x1 x2
      exact ⟨x1, x2, MB_le x3 (by omega)⟩
    · have := hDJ i L i1 i7 i8 hL
      omega
  refine hX u v _ t hk st c f ar post (by omega) har hpre (fun u' v' go hR => ?_)
  obtain ⟨r1, r2, r3⟩ := hR
  have f1 : FRX u0 v0 u' v' p m st0 := g11.tr r1 g2 (fun q => by omega) (fun q => by omega)
  rcases r3 with ⟨q1, q2, q3⟩ | ⟨st', c', f', w1, w2, w3, w4, w5, w6, w7, w8, w9, w10, w11, w12⟩
  · exact hErr u' v' go f1 r2 q1 q2 q3
  · have v15 : v'.1 15 = nI f' := by
      obtain ⟨nv, nb, b0, ke, k1, k2, k3, k4, e1, e2, e3, e4, e5, e6, -⟩ := w7
      exact e6
    have hf := g6.2.2.2.1
    have hh26 := g6.2.1
    have o26 : hk + t ≤ 2600 := by
      obtain ⟨h', f'', hE⟩ := r2.2 w3
      have z1 := hE.1
      have z2 := hE.2.1
      rw [w8] at z1
      have m31 : hk + t < 2 ^ 31 := by
        obtain ⟨nv, nb, b0, ke, k1, k2, k3, k4, e1, e2, e3, e4, e5, e6, e7, e8, e9, e10, e11, e12, -⟩ := g1
        have := AR_b s1
        omega
      rw [nI_eq m31 (by omega)] at z1
      omega
    refine hOk u' v' go ⟨st', c', f', w7, by omega, by omega, by omega, r2.1, MIN_E r2 w3 w8 (by omega) v15 (by omega), w3, w9.trans g8, fun l hl => ?_, fun x x1 x2 => ?_, f1, ?_⟩ w1 w2 w10
    · obtain ⟨y1, y2⟩ := w11 l hl
      obtain ⟨y3, y4⟩ := g9 l (by omega)
      exact ⟨y1.trans y3, y2.trans y4⟩
    · obtain ⟨-, -, y⟩ := r1.1 x (by omega)
      obtain ⟨y1, y2⟩ := y (Or.inr (by omega))
      obtain ⟨y3, y4⟩ := g10 x (by omega) x2
      exact ⟨y1.trans y3, y2.trans y4⟩
    · intro i i1 i2 i7
      rcases Nat.lt_or_ge i (nbA u) with q | q
      · obtain ⟨-, -, ⟨-, r6⟩, -⟩ := id r1
        obtain ⟨-, -, y7, y8⟩ := r6 i q
        rw [y7] at i7
        obtain ⟨L, l1, l2, l3⟩ := g12 i i1 q i7
        refine ⟨L, y8.trans l1, l2, ?_⟩
        obtain ⟨t1, t2⟩ := REL_reg g1 i q i7 L l1 l2
        have : tl (ra u') L = tl (ra u) L := tl_eq (TL_copy (r := ra u) (i := L) (fun j hj => by
          show kd (tr (u'.2 1 (L + j))) = kd (tr (u.2 1 (L + j)))
          rw [(r1.1 (L + j) (by omega)).1]) t1)
        rw [this]
        omega
      · obtain ⟨L, l1, l2, l3⟩ := w12 i q i2 i7
        exact ⟨L, l1, l2, by omega⟩
