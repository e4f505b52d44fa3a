-- 55: the class's row as it grows, token by token
/-- the bracket at k is open when the tokens from B to t stand -/
def OPN (r : Nat → Int32) (B t k : Nat) : Prop := B ≤ k ∧ k < t ∧ kd (r k) = 1 ∧ ∀ j, 0 < j → k + j ≤ t → 0 < dep r k j
/-- x is the place of the last open bracket before e; -1 if there is none -/
def LNK (r : Nat → Int32) (B t : Nat) (x : Int32) (e : Nat) : Prop := (x = -1 ∧ ∀ k, k < e → ¬ OPN r B t k) ∨ (∃ k, k < e ∧ x = nI k ∧ OPN r B t k ∧ ∀ j, k < j → j < e → ¬ OPN r B t j)
def RB (u : mS) (B t : Nat) : Prop := u.1 1 = nI t ∧ B ≤ t ∧ t ≤ 3000 ∧ (∀ k, B ≤ k → k < t → AW (u.2 1 k) (ra u k)) ∧ (∀ k, B ≤ k → k < t → ¬ OPN (ra u) B t k → TL (ra u) k (tl (ra u) k) ∧ k + tl (ra u) k ≤ t ∧ u.2 3 k = nI (tl (ra u) k)) ∧ LNK (ra u) B t (u.1 2) t ∧ ∀ k, OPN (ra u) B t k → LNK (ra u) B t (u.2 3 k) k
theorem open_ex {r : Nat → Int32} {e L : Nat} : ∀ (d j0 : Nat), j0 + d = L → 0 < d → dep r e j0 < dep r e L → ∃ k, e + j0 ≤ k ∧ k < e + L ∧ kd (r k) = 1 ∧ ∀ j, 0 < j → k + j ≤ e + L → 0 < dep r k j := by
  intro d
  induction d using Nat.strongRecOn with
  | ind d ih =>
    intro j0 hd h0 hlt
    by_cases c : ∃ j1, j0 < j1 ∧ j1 < L ∧ dep r e j1 < dep r e L
    · obtain ⟨j1, c1, c2, c3⟩ := c
      obtain ⟨k, k1, k2⟩ := ih (L - j1) (by omega) j1 (by omega) (by omega) c3
      exact ⟨k, by omega, k2⟩
    · have all : ∀ j, j0 < j → j ≤ L → dep r e L ≤ dep r e j := by
        intro j q1 q2
        rcases Nat.lt_or_ge j L with q | q
        · rcases Int.lt_or_le (dep r e j) (dep r e L) with z | z
          · exact absurd ⟨j, q1, q, z⟩ c
          · exact z
        · have : j = L := by omega
          rw [this]; exact Int.le_refl _
      refine ⟨e + j0, by omega, by omega, ?_, fun j q1 q2 => ?_⟩
      · have := all (j0 + 1) (by omega) (by omega)
        rw [dep_s] at this
        by_cases k1 : kd (r (e + j0)) = 1
        · exact k1
        · have := sg_nopen k1
          omega
      · have a1 := all (j0 + j) (by omega) (by omega)
        rw [dep_add] at a1
        omega
theorem LNK_tr {r q : Nat → Int32} {B t s e : Nat} {x : Int32} (h : LNK r B t x e) (hk : ∀ k, k < e → (OPN q B s k ↔ OPN r B t k)) : LNK q B s x e := by
  rcases h with ⟨h1, h2⟩ | ⟨k, h1, h2, h3, h4⟩
  · exact Or.inl ⟨h1, fun k k1 z => h2 k k1 ((hk k k1).mp z)⟩
  · exact Or.inr ⟨k, h1, h2, (hk k h1).mpr h3, fun j j1 j2 z => h4 j j1 j2 ((hk j j2).mp z)⟩
theorem upd_dep {r : Nat → Int32} {t : Nat} {c : Int32} {k j : Nat} (h : k + j ≤ t) : dep (upd r t c) k j = dep r k j := dep_copy j (fun m hm => by rw [pk_un (by omega)])
theorem upd_dep1 {r : Nat → Int32} {t : Nat} {c : Int32} {k : Nat} (h : k ≤ t) : dep (upd r t c) k (t + 1 - k) = dep r k (t - k) + sg c := by
  rw [show t + 1 - k = t - k + 1 from by omega, dep_s, upd_dep (by omega), show k + (t - k) = t from by omega, pk_us]
theorem OPN_old {r : Nat → Int32} {B t k : Nat} {c : Int32} (hk : k < t) : OPN (upd r t c) B (t + 1) k ↔ (OPN r B t k ∧ 0 < dep r k (t - k) + sg c) := by
  have ek : upd r t c k = r k := pk_un (by omega)
  constructor
  · rintro ⟨h1, h2, h3, h4⟩
    rw [ek] at h3
    refine ⟨⟨h1, hk, h3, fun j j1 j2 => ?_⟩, ?_⟩
    · have := h4 j j1 (by omega)
      rw [upd_dep (by omega)] at this; exact this
    · have := h4 (t + 1 - k) (by omega) (by omega)
      rw [upd_dep1 (by omega)] at this; exact this
  · rintro ⟨⟨h1, h2, h3, h4⟩, h5⟩
    refine ⟨h1, by omega, by rw [ek]; exact h3, fun j j1 j2 => ?_⟩
    rcases Nat.lt_or_ge (k + j) (t + 1) with z | z
    · rw [upd_dep (by omega)]; exact h4 j j1 (by omega)
    · have : j = t + 1 - k := by omega
      rw [this, upd_dep1 (by omega)]; exact h5
theorem OPN_new {r : Nat → Int32} {B t : Nat} {c : Int32} (hB : B ≤ t) : OPN (upd r t c) B (t + 1) t ↔ kd c = 1 := by
  have ek : upd r t c t = c := pk_us
  constructor
  · rintro ⟨-, -, h3, -⟩
    rw [ek] at h3; exact h3
  · intro h
    refine ⟨hB, by omega, by rw [ek]; exact h, fun j j1 j2 => ?_⟩
    have : j = 1 := by omega
    subst this
    rw [dep_1, ek, sg_open h]; decide
theorem tl_upd {r : Nat → Int32} {t k n : Nat} {c : Int32} (h : TL r k n) (hk : k + n ≤ t) : TL (upd r t c) k n ∧ tl (upd r t c) k = n := by
  have : TL (upd r t c) k n := TL_copy (r := r) (i := k) (fun j hj => by rw [pk_un (by omega)]) h
  exact ⟨this, tl_eq this⟩
theorem ra_upd {u w : mS} {t : Nat} {x c : Int32} (h : w.2 1 = upd (u.2 1) t x) (hw : AW x c) : ra w = upd (ra u) t c := by
  funext i
  show tr (w.2 1 i) = upd (ra u) t c i
  rw [h]
  by_cases e : i = t
  · subst e; rw [pk_us, pk_us]; exact tr_eq hw
  · rw [pk_un e, pk_un e]; rfl
/-- what add makes of the row -/
theorem RB_add {u w : mS} {B t : Nat} {x c : Int32} (h : RB u B t) (ht : t < 3000) (hw : AW x c) (e1 : w.1 1 = nI (t + 1)) (e2 : w.2 1 = upd (u.2 1) t x) (hcase : (kd c = 1 ∧ w.1 2 = nI t ∧ w.2 3 = upd (u.2 3) t (u.1 2)) ∨ (¬ kd c = 1 ∧ ¬ kd c = 2 ∧ w.1 2 = u.1 2 ∧ w.2 3 = upd (u.2 3) t 1) ∨ (kd c = 2 ∧ ∃ k0, u.1 2 = nI k0 ∧ k0 < t ∧ w.1 2 = u.2 3 k0 ∧ w.2 3 = upd (upd (u.2 3) t 1) k0 (nI (t - k0 + 1)))) : RB w B (t + 1) := by
  obtain ⟨h1, h2, h3, h4, h5, h6, h7⟩ := h
  have er := ra_upd e2 hw
  have aw : ∀ k, B ≤ k → k < t + 1 → AW (w.2 1 k) (ra w k) := by
    intro k k1 k2
    rw [er, e2]
    rcases Nat.lt_or_ge k t with z | z
    · rw [pk_un (by omega), pk_un (by omega)]; exact h4 k k1 z
    · have : k = t := by omega
      subst this
      rw [pk_us, pk_us]; exact hw
  have old : ∀ k, B ≤ k → k < t → ¬ OPN (ra u) B t k → ∀ s : Nat → Int32, s k = u.2 3 k → TL (ra w) k (tl (ra w) k) ∧ k + tl (ra w) k ≤ t + 1 ∧ s k = nI (tl (ra w) k) := by
    intro k k1 k2 k3 s hs
    obtain ⟨a1, a2, a3⟩ := h5 k k1 k2 k3
    obtain ⟨b1, b2⟩ := tl_upd (c := c) a1 a2
    rw [er, b2, hs]
    exact ⟨b1, by omega, a3⟩
  rcases hcase with ⟨kc, c1, c2⟩ | ⟨kc, kc2, c1, c2⟩ | ⟨kc, k0, c0, ck, c1, c2⟩
  · have iff : ∀ k, k < t → (OPN (ra w) B (t + 1) k ↔ OPN (ra u) B t k) := by
      intro k hk
      rw [er, OPN_old hk, sg_open kc]
      refine ⟨fun q => q.1, fun q => ⟨q, ?_⟩⟩
      have := q.2.2.2 (t - k) (by omega) (by omega)
      omega
    have nw : OPN (ra w) B (t + 1) t := by rw [er, OPN_new h2]; exact kc
    refine ⟨e1, by omega, by omega, aw, fun k k1 k2 k3 => ?_, ?_, fun k hk => ?_⟩
    · rcases Nat.lt_or_ge k t with z | z
      · exact old k k1 z (fun q => k3 ((iff k z).mpr q)) _ (by rw [c2, pk_un (by omega)])
      · have : k = t := by omega
        subst this
        exact absurd nw k3
    · rw [c1]
      exact Or.inr ⟨t, by omega, rfl, nw, fun j j1 j2 => by omega⟩
    · rcases Nat.lt_or_ge k t with z | z
      · rw [c2, pk_un (by omega)]
        exact LNK_tr (h7 k ((iff k z).mp hk)) (fun j hj => iff j (by omega))
      · have : k = t := by
          have := hk.2.1
          omega
        subst this
        rw [c2, pk_us]
        exact LNK_tr h6 (fun j hj => iff j hj)
  · have iff : ∀ k, k < t → (OPN (ra w) B (t + 1) k ↔ OPN (ra u) B t k) := by
      intro k hk
      rw [er, OPN_old hk, sg_else kc kc2]
      refine ⟨fun q => q.1, fun q => ⟨q, ?_⟩⟩
      have := q.2.2.2 (t - k) (by omega) (by omega)
      omega
    have nw : ¬ OPN (ra w) B (t + 1) t := by rw [er, OPN_new h2]; exact kc
    refine ⟨e1, by omega, by omega, aw, fun k k1 k2 k3 => ?_, ?_, fun k hk => ?_⟩
    · rcases Nat.lt_or_ge k t with z | z
      · exact old k k1 z (fun q => k3 ((iff k z).mpr q)) _ (by rw [c2, pk_un (by omega)])
      · have : k = t := by omega
        subst this
        have a : TL (ra w) k 1 := TL_atom (by rw [er, pk_us]; exact kc)
        have b := tl_eq a
        rw [b, c2, pk_us]
        exact ⟨a, by omega, rfl⟩
    · rw [c1]
      rcases h6 with ⟨g1, g2⟩ | ⟨k, g1, g2, g3, g4⟩
      · refine Or.inl ⟨g1, fun k hk z => ?_⟩
        rcases Nat.lt_or_ge k t with y | y
        · exact g2 k y ((iff k y).mp z)
        · have : k = t := by omega
          subst this; exact nw z
      · refine Or.inr ⟨k, by omega, g2, (iff k g1).mpr g3, fun j j1 j2 z => ?_⟩
        rcases Nat.lt_or_ge j t with y | y
        · exact g4 j j1 y ((iff j y).mp z)
        · have : j = t := by omega
          subst this; exact nw z
    · have kt : k < t := by
        have := hk.2.1
        rcases Nat.lt_or_ge k t with z | z
        · exact z
        · have : k = t := by omega
          subst this; exact absurd hk nw
      rw [c2, pk_un (by omega)]
      exact LNK_tr (h7 k ((iff k kt).mp hk)) (fun j hj => iff j (by omega))
  · have op : OPN (ra u) B t k0 ∧ ∀ j, k0 < j → j < t → ¬ OPN (ra u) B t j := by
      rcases h6 with ⟨g1, g2⟩ | ⟨k, g1, g2, g3, g4⟩
      · rw [c0] at g1
        exact absurd g1 (nI_ng (by omega) (by decide))
      · rw [c0, nI_eq (by omega) (by omega)] at g2
        subst g2
        exact ⟨g3, g4⟩
    obtain ⟨op, non⟩ := op
    have d1 : dep (ra u) k0 (t - k0) = 1 := by
      have a := op.2.2.2 (t - k0) (by omega) (by omega)
      rcases Int.lt_or_le 1 (dep (ra u) k0 (t - k0)) with z | z
      · exfalso
        have b1 : dep (ra u) k0 1 = 1 := by rw [dep_1, sg_open op.2.2.1]
        have lt1 : 1 < t - k0 := by
          rcases Nat.lt_or_ge 1 (t - k0) with y | y
          · exact y
          · have : t - k0 = 1 := by omega
            rw [this] at z; omega
        obtain ⟨k, q1, q2, q3, q4⟩ := open_ex (r := ra u) (e := k0) (L := t - k0) (t - k0 - 1) 1 (by omega) (by omega) (by omega)
        exact non k (by omega) (by omega) ⟨by have := op.1; omega, by omega, q3, fun j j1 j2 => q4 j j1 (by omega)⟩
      · omega
    have iff : ∀ k, k < t → (OPN (ra w) B (t + 1) k ↔ (OPN (ra u) B t k ∧ k < k0)) := by
      intro k hk
      rw [er, OPN_old hk, sg_close kc]
      constructor
      · rintro ⟨q1, q2⟩
        refine ⟨q1, ?_⟩
        rcases Nat.lt_trichotomy k k0 with z | z | z
        · exact z
        · subst z; omega
        · exact absurd q1 (non k z hk)
      · rintro ⟨q1, q2⟩
        refine ⟨q1, ?_⟩
        have a1 := q1.2.2.2 (k0 - k) (by omega) (by omega)
        have a2 := dep_add (ra u) k (k0 - k) (t - k0)
        rw [show k0 - k + (t - k0) = t - k from by omega, show k + (k0 - k) = k0 from by omega] at a2
        omega
    have nw : ¬ OPN (ra w) B (t + 1) t := by rw [er, OPN_new h2, kc]; decide
    have lt0 : ∀ k, OPN (ra w) B (t + 1) k → OPN (ra u) B t k ∧ k < k0 := by
      intro k hk
      have := hk.2.1
      rcases Nat.lt_or_ge k t with z | z
      · exact (iff k z).mp hk
      · have : k = t := by omega
        subst this; exact absurd hk nw
    refine ⟨e1, by omega, by omega, aw, fun k k1 k2 k3 => ?_, ?_, fun k hk => ?_⟩
    · rcases Nat.lt_or_ge k t with z | z
      · by_cases e : k = k0
        · subst e
          have a : TL (ra w) k (t + 1 - k) := by
            rw [er]
            refine ⟨by omega, ?_, fun j j1 j2 => ?_⟩
            · rw [upd_dep1 (by omega), sg_close kc, d1]; decide
            · rw [upd_dep (by omega)]
              exact op.2.2.2 j j1 (by omega)
          have b := tl_eq a
          rw [b, c2, pk_us, show t - k + 1 = t + 1 - k from by omega]
          exact ⟨a, by omega, rfl⟩
        · refine old k k1 z (fun q => ?_) _ (by rw [c2, pk_un e, pk_un (by omega)])
          rcases Nat.lt_or_ge k k0 with y | y
          · exact k3 ((iff k z).mpr ⟨q, y⟩)
          · exact non k (by omega) z q
      · have : k = t := by omega
        subst this
        have a : TL (ra w) k 1 := TL_atom (by rw [er, pk_us, kc]; decide)
        have b := tl_eq a
        rw [b, c2, pk_un (by omega), pk_us]
        exact ⟨a, by omega, rfl⟩
    · rw [c1]
      rcases h7 k0 op with ⟨g1, g2⟩ | ⟨k, g1, g2, g3, g4⟩
      · refine Or.inl ⟨g1, fun k hk z => ?_⟩
        obtain ⟨y1, y2⟩ := lt0 k z
        exact g2 k y2 y1
      · refine Or.inr ⟨k, by omega, g2, (iff k (by omega)).mpr ⟨g3, g1⟩, fun j j1 j2 z => ?_⟩
        obtain ⟨y1, y2⟩ := lt0 j z
        exact g4 j j1 y2 y1
    · obtain ⟨y1, y2⟩ := lt0 k hk
      rw [c2, pk_un (by omega), pk_un (by omega)]
      refine LNK_tr (h7 k y1) (fun j hj => ?_)
      rw [iff j (by omega)]
      exact ⟨fun q => q.1, fun q => ⟨q, by omega⟩⟩
theorem addA {u : mS} {B t : Nat} {x c m : Int32} {post : mS → Prop} (h : RB u B t) (ht : t < 3000) (hw : AW x c) (hc : kd c = 2 → ∃ k, OPN (ra u) B t k) (hp : ∀ w, RB w B (t + 1) → FR [1, 2] [1, 2, 3, 4] u w → w.2 1 = upd (u.2 1) t x → w.2 2 = upd (u.2 2) t m → w.2 4 = upd (u.2 4) t 0 → (∀ k, (k < B ∨ t < k) → w.2 3 k = u.2 3 k) → post w) : wp_X5_add x m u post := by
  have hT := h.1
  have hBt := h.2.1
  intro y1 e1
  rw [hT] at e1; subst e1
  refine ⟨fun q => absurd q (nI_pos (by omega)), fun _ => ?_⟩
  intro y3 e3
  rw [hT] at e3; subst e3
  refine ⟨fun _ => ?_, fun q => absurd (by rw [show (3000 : Int32) = nI 3000 from rfl, nI_ltI (by omega) (by omega)]; omega) q⟩
  intro y5 e5
  rw [hT] at e5; subst e5
  refine ⟨vp_in_nI (by omega) (by omega), ?_⟩
  rintro u6 rfl
  rw [nI_clamp (by omega)]
  intro y7 e7
  have e7 : y7 = u.1 1 := e7
  rw [hT] at e7; subst e7
  refine ⟨vp_in_nI (by omega) (by omega), ?_⟩
  rintro u8 rfl
  rw [nI_clamp (by omega)]
  intro y9 e9
  have e9 : y9 = u.1 1 := e9
  rw [hT] at e9; subst e9
  refine ⟨vp_in_nI (by omega) (by omega), ?_⟩
  rintro u10 rfl
  rw [nI_clamp (by omega)]
  intro y11 e11
  have e11 : y11 = u.1 1 := e11
  rw [hT] at e11; subst e11
  refine ⟨vp_in_nI (by omega) (by omega), ?_⟩
  rintro u12 rfl
  rw [nI_clamp (by omega)]
  have F4 : FR [1, 2] [1, 2, 3, 4] u (mPut (mPut (mPut (mPut u 1 t x) 2 t m) 3 t 1) 4 t 0) := FR_put (FR_put (FR_put (FR_put FR.rf (by decide)) (by decide)) (by decide)) (by decide)
  have w1 : (mPut (mPut (mPut (mPut u 1 t x) 2 t m) 3 t 1) 4 t 0).2 1 = upd (u.2 1) t x := by
    rw [mPut_other (by decide : (1 : Nat) ≠ 4), mPut_other (by decide : (1 : Nat) ≠ 3), mPut_other (by decide : (1 : Nat) ≠ 2), mPut_same]
  have w2 : (mPut (mPut (mPut (mPut u 1 t x) 2 t m) 3 t 1) 4 t 0).2 2 = upd (u.2 2) t m := by
    rw [mPut_other (by decide : (2 : Nat) ≠ 4), mPut_other (by decide : (2 : Nat) ≠ 3), mPut_same, mPut_other (by decide : (2 : Nat) ≠ 1)]
  have w3 : (mPut (mPut (mPut (mPut u 1 t x) 2 t m) 3 t 1) 4 t 0).2 3 = upd (u.2 3) t 1 := by
    rw [mPut_other (by decide : (3 : Nat) ≠ 4), mPut_same, mPut_other (by decide : (3 : Nat) ≠ 2), mPut_other (by decide : (3 : Nat) ≠ 1)]
  have w4 : (mPut (mPut (mPut (mPut u 1 t x) 2 t m) 3 t 1) 4 t 0).2 4 = upd (u.2 4) t 0 := by
    rw [mPut_same, mPut_other (by decide : (4 : Nat) ≠ 3), mPut_other (by decide : (4 : Nat) ≠ 2), mPut_other (by decide : (4 : Nat) ≠ 1)]
  have s1 : (mPut (mPut (mPut (mPut u 1 t x) 2 t m) 3 t 1) 4 t 0).1 1 = nI t := hT
  have s2 : (mPut (mPut (mPut (mPut u 1 t x) 2 t m) 3 t 1) 4 t 0).1 2 = u.1 2 := rfl
  generalize mPut (mPut (mPut (mPut u 1 t x) 2 t m) 3 t 1) 4 t 0 = v at F4 w1 w2 w3 w4 s1 s2 ⊢
  refine ⟨fun c1 => ⟨fun c2 => ?_, fun c2 => ?_⟩, fun c1 => ?_⟩
  · have k1 : ¬ kd c = 1 := fun q => c1 ((AW_1 hw).mpr q)
    have k2 : ¬ kd c = 2 := fun q => c2 ((AW_2 hw).mpr q)
    intro y22 e22
    rw [s1] at e22; subst e22
    rintro _ rfl u24 rfl
    rw [nI_1]
    refine hp _ (RB_add h ht hw (mSet_same _ _ _) w1 (Or.inr (Or.inl ⟨k1, k2, ?_, w3⟩))) (FR_set F4 (by decide)) w1 w2 w4 (fun k hk => ?_)
    · rw [mSet_other (by decide : (2 : Nat) ≠ 1), s2]
    · show v.2 3 k = _
      rw [w3, pk_un (by omega)]
  · have k2 : kd c = 2 := (AW_2 hw).mp c2
    obtain ⟨k0, o1, o2, o3⟩ : ∃ k0, k0 < t ∧ u.1 2 = nI k0 ∧ B ≤ k0 := by
      rcases h.2.2.2.2.2.1 with ⟨g1, g2⟩ | ⟨k, g1, g2, g3, -⟩
      · obtain ⟨k, hk⟩ := hc k2
        exact absurd hk (g2 k hk.2.1)
      · exact ⟨k, g1, g2, g3.1⟩
    intro y1 e1
    rw [s2, o2] at e1; subst e1
    refine ⟨fun q => absurd q (nI_pos (by omega)), fun _ => ?_⟩
    intro y3 e3
    rw [s2, o2] at e3; subst e3
    refine ⟨fun _ => ?_, fun q => absurd (by rw [show (3000 : Int32) = nI 3000 from rfl, nI_ltI (by omega) (by omega)]; omega) q⟩
    intro y5 e5
    rw [s2, o2] at e5; subst e5
    refine ⟨vp_in_nI (by omega) (by omega), ?_⟩
    intro y6 e6
    rw [nI_clamp (by omega), w3, pk_un (by omega)] at e6; subst e6
    intro y7 e7
    rw [s2, o2] at e7; subst e7
    intro y8 e8
    rw [s1] at e8; subst e8
    intro y9 e9
    rw [s2, o2] at e9; subst e9
    rintro _ rfl _ rfl
    refine ⟨vp_in_nI (by omega) (by omega), ?_⟩
    rintro u12 rfl u13 rfl
    rw [nI_clamp (by omega), pk_sub (by omega), nI_1]
    intro y22 e22
    have e22 : y22 = v.1 1 := e22
    rw [s1] at e22; subst e22
    rintro _ rfl u24 rfl
    rw [nI_1]
    have a1 : (mSet (mSet (mPut v 3 k0 (nI (t - k0 + 1))) 2 (u.2 3 k0)) 1 (nI (t + 1))).2 1 = upd (u.2 1) t x := by
      show (mPut v 3 k0 (nI (t - k0 + 1))).2 1 = _
      rw [mPut_other (by decide : (1 : Nat) ≠ 3), w1]
    have a2 : (mSet (mSet (mPut v 3 k0 (nI (t - k0 + 1))) 2 (u.2 3 k0)) 1 (nI (t + 1))).2 2 = upd (u.2 2) t m := by
      show (mPut v 3 k0 (nI (t - k0 + 1))).2 2 = _
      rw [mPut_other (by decide : (2 : Nat) ≠ 3), w2]
    have a4 : (mSet (mSet (mPut v 3 k0 (nI (t - k0 + 1))) 2 (u.2 3 k0)) 1 (nI (t + 1))).2 4 = upd (u.2 4) t 0 := by
      show (mPut v 3 k0 (nI (t - k0 + 1))).2 4 = _
      rw [mPut_other (by decide : (4 : Nat) ≠ 3), w4]
    have a3 : (mSet (mSet (mPut v 3 k0 (nI (t - k0 + 1))) 2 (u.2 3 k0)) 1 (nI (t + 1))).2 3 = upd (upd (u.2 3) t 1) k0 (nI (t - k0 + 1)) := by
      show (mPut v 3 k0 (nI (t - k0 + 1))).2 3 = _
      rw [mPut_same, w3]
    refine hp _ (RB_add h ht hw (mSet_same _ _ _) a1 (Or.inr (Or.inr ⟨k2, k0, o2, o1, ?_, a3⟩))) (FR_set (FR_set (FR_put F4 (by decide)) (by decide)) (by decide)) a1 a2 a4 (fun k hk => ?_)
    · rw [mSet_other (by decide : (2 : Nat) ≠ 1), mSet_same]
    · rw [a3, pk_un (by omega), pk_un (by omega)]
  · have k1 := (AW_1 hw).mp c1
    intro y17 e17
    rw [s1] at e17; subst e17
    intro y18 e18
    rw [s2] at e18; subst e18
    refine ⟨vp_in_nI (by omega) (by omega), ?_⟩
    rintro u19 rfl
    rw [nI_clamp (by omega)]
    intro y20 e20
    have e20 : y20 = v.1 1 := e20
    rw [s1] at e20; subst e20
    rintro u21 rfl
    intro y22 e22
    have e22 : y22 = v.1 1 := e22
    rw [s1] at e22; subst e22
    rintro _ rfl u24 rfl
    rw [nI_1]
    have a1 : (mSet (mSet (mPut v 3 t (u.1 2)) 2 (nI t)) 1 (nI (t + 1))).2 1 = upd (u.2 1) t x := by
      show (mPut v 3 t (u.1 2)).2 1 = _
      rw [mPut_other (by decide : (1 : Nat) ≠ 3), w1]
    have a2 : (mSet (mSet (mPut v 3 t (u.1 2)) 2 (nI t)) 1 (nI (t + 1))).2 2 = upd (u.2 2) t m := by
      show (mPut v 3 t (u.1 2)).2 2 = _
      rw [mPut_other (by decide : (2 : Nat) ≠ 3), w2]
    have a4 : (mSet (mSet (mPut v 3 t (u.1 2)) 2 (nI t)) 1 (nI (t + 1))).2 4 = upd (u.2 4) t 0 := by
      show (mPut v 3 t (u.1 2)).2 4 = _
      rw [mPut_other (by decide : (4 : Nat) ≠ 3), w4]
    have a3 : (mSet (mSet (mPut v 3 t (u.1 2)) 2 (nI t)) 1 (nI (t + 1))).2 3 = upd (u.2 3) t (u.1 2) := by
      show (mPut v 3 t (u.1 2)).2 3 = _
      rw [mPut_same, w3]
      funext k
      by_cases e : k = t
      · subst e; rw [pk_us, pk_us]
      · rw [pk_un e, pk_un e, pk_un e]
    refine hp _ (RB_add h ht hw (mSet_same _ _ _) a1 (Or.inl ⟨k1, ?_, a3⟩)) (FR_set (FR_set (FR_put F4 (by decide)) (by decide)) (by decide)) a1 a2 a4 (fun k hk => ?_)
    · rw [mSet_other (by decide : (2 : Nat) ≠ 1), mSet_same]
    · rw [a3, pk_un (by omega)]
/-- a row that has become a whole tree -/
theorem RB_done {u : mS} {B t : Nat} (h : RB u B t) (hd : ∀ j, B + j ≤ t → 0 ≤ dep (ra u) B j) (h0 : dep (ra u) B (t - B) ≤ 0) : AR u B t := by
  obtain ⟨h1, h2, h3, h4, h5, -⟩ := h
  refine ⟨⟨t, h1, Nat.le_refl t, h3⟩, fun i i1 i2 => ⟨h4 i i1 i2, h5 i i1 i2 (fun q => ?_)⟩⟩
  have a := q.2.2.2 (t - i) (by omega) (by omega)
  have b := dep_add (ra u) B (i - B) (t - i)
  rw [show i - B + (t - i) = t - B from by omega, show B + (i - B) = i from by omega] at b
  have c := hd (i - B) (by omega)
  omega
