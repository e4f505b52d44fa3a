-- 67: what a name means, on both sides
/-- binding k has that name, and a set that lies in s -/
def MTC (nm st : Nat → Int32) (v s : Int32) (k : Nat) : Prop := nm k = v ∧ SUB (st k) s
/-- it has all others in it -/
def HAL (nm st : Nat → Int32) (nb : Nat) (v s : Int32) (k : Nat) : Prop := ∀ q, q < nb → MTC nm st v s q → SUB (st q) (st k)
/-- what the name v with the set s means among nb bindings -/
def MEA (nm st : Nat → Int32) (nb : Nat) (v s r : Int32) : Prop := (r = -1 ∧ ∀ k, k < nb → ¬ MTC nm st v s k) ∨ (r = -2 ∧ (∃ k, k < nb ∧ MTC nm st v s k) ∧ ∀ k, k < nb → MTC nm st v s k → ¬ HAL nm st nb v s k) ∨ (∃ k, k < nb ∧ r = nI k ∧ MTC nm st v s k ∧ HAL nm st nb v s k ∧ ∀ j, j < k → MTC nm st v s j → ¬ HAL nm st nb v s j)
theorem MEA_uniq {nm st : Nat → Int32} {nb : Nat} {v s r q : Int32} (hb : nb ≤ 40) (h : MEA nm st nb v s r) (g : MEA nm st nb v s q) : r = q := by
  rcases h with ⟨h1, h2⟩ | ⟨h1, ⟨k, h2, h3⟩, h4⟩ | ⟨k, h1, h2, h3, h4, h5⟩ <;> rcases g with ⟨g1, g2⟩ | ⟨g1, ⟨j, g2, g3⟩, g4⟩ | ⟨j, g1, g2, g3, g4, g5⟩
  · rw [h1, g1]
  · exact absurd g3 (h2 j g2)
  · exact absurd g3 (h2 j g1)
  · exact absurd h3 (g2 k h2)
  · rw [h1, g1]
  · exact absurd g4 (h4 j g1 g3)
  · exact absurd h3 (g2 k h1)
  · exact absurd h4 (g4 k h1 h3)
  · rcases Nat.lt_trichotomy k j with c | c | c
    · exact absurd h4 (g5 k c h3)
    · rw [h2, g2, c]
    · exact absurd g4 (h5 j c g3)
theorem MEA_congr {nm st nm' st' : Nat → Int32} {nb : Nat} {v s v' r : Int32} (hk : ∀ k, k < nb → (nm k = v ↔ nm' k = v') ∧ st' k = st k) (h : MEA nm st nb v s r) : MEA nm' st' nb v' s r := by
  have em : ∀ k, k < nb → (MTC nm st v s k ↔ MTC nm' st' v' s k) := by
    intro k q
    unfold MTC
    rw [(hk k q).1, (hk k q).2]
  have eh : ∀ k, k < nb → (HAL nm st nb v s k ↔ HAL nm' st' nb v' s k) := by
    intro k q
    unfold HAL
    constructor
    · intro z j j1 j2
      rw [(hk j j1).2, (hk k q).2]
      exact z j j1 ((em j j1).mpr j2)
    · intro z j j1 j2
      have := z j j1 ((em j j1).mp j2)
      rw [(hk j j1).2, (hk k q).2] at this
      exact this
  rcases h with ⟨h1, h2⟩ | ⟨h1, ⟨k, h2, h3⟩, h4⟩ | ⟨k, h1, h2, h3, h4, h5⟩
  · exact Or.inl ⟨h1, fun k q z => h2 k q ((em k q).mpr z)⟩
  · exact Or.inr (Or.inl ⟨h1, ⟨k, h2, (em k h2).mp h3⟩, fun j q z y => h4 j q ((em j q).mpr z) ((eh j q).mpr y)⟩)
  · exact Or.inr (Or.inr ⟨k, h1, h2, (em k h1).mp h3, (eh k h1).mp h4, fun j q z y => h5 j q ((em j (by omega)).mpr z) ((eh j (by omega)).mpr y)⟩)
theorem holdsAll_ok {best nb : Nat} {s : Int32} {u : mS} {post : Int32 → mS → Prop} (hn : u.1 4 = nI nb) (hb : nb ≤ 40) (hbest : best < nb) (h1 : HAL (u.2 5) (u.2 6) nb (u.2 5 best) s best → post 1 u) (h0 : ¬ HAL (u.2 5) (u.2 6) nb (u.2 5 best) s best → post 0 u) : wp_X7_holdsAllOthers (nI best) s u post := by
  have key : ∀ (d i : Nat), i + d = nb → (∀ q, q < i → MTC (u.2 5) (u.2 6) (u.2 5 best) s q → SUB (u.2 6 q) (u.2 6 best)) → mL4 (fun K => wj_X7_holdsAllOthers_14 K post) (d + 1) (nI best) s (nI i) u := by
    intro d
    induction d with
    | zero =>
      intro i hi hall
      show wj_X7_holdsAllOthers_14 _ post _ _ _ u
      intro y3 e3
      rw [hn] at e3; subst e3
      refine ⟨fun _ => h1 (fun q q1 q2 => hall q (by omega) q2), fun q => absurd ?_ q⟩
      rw [nI_leI (by omega) (by omega)]; omega
    | succ d ih =>
      intro i hi hall
      have go : (MTC (u.2 5) (u.2 6) (u.2 5 best) s i → SUB (u.2 6 i) (u.2 6 best)) → wj_X7_holdsAllOthers_88 (mL4 (fun K => wj_X7_holdsAllOthers_14 K post) (d + 1)) post (nI best) s (nI i) u := by
        intro g
        rintro _ rfl
        rw [nI_1]
        refine ih (i + 1) (by omega) (fun q q1 q2 => ?_)
        rcases Nat.lt_or_ge q i with c | c
        · exact hall q c q2
        · have : q = i := by omega
          subst this; exact g q2
      have no : ¬ MTC (u.2 5) (u.2 6) (u.2 5 best) s i → wj_X7_holdsAllOthers_60 (mL4 (fun K => wj_X7_holdsAllOthers_14 K post) (d + 1)) post (nI best) s (nI i) u := by
        intro g
        exact ⟨fun _ => go (fun q => absurd q g), fun q => absurd rfl q⟩
      show wj_X7_holdsAllOthers_14 _ post _ _ _ u
      intro y3 e3
      rw [hn] at e3; subst e3
      refine ⟨fun q => absurd q (by rw [nI_leI (by omega) (by omega)]; omega), fun _ => ⟨fun q => absurd q (by rw [show (40 : Int32) = nI 40 from rfl, nI_leI (by omega) (by omega)]; omega), fun _ => ⟨vp_in_nI (by omega) (by omega), ?_⟩⟩⟩
      intro y6 e6
      rw [nI_clamp (by omega)] at e6; subst e6
      refine ⟨vp_in_nI (by omega) (by omega), ?_⟩
      intro y7 e7
      rw [nI_clamp (by omega)] at e7; subst e7
      refine ⟨fun c => no (fun q => c q.1), fun c => ⟨vp_in_nI (by omega) (by omega), ?_⟩⟩
      intro y9 e9
      rw [nI_clamp (by omega)] at e9; subst e9
      rintro _ rfl _ rfl
      refine ⟨fun c2 => no (fun q => c2 q.2), fun c2 => ⟨fun q => absurd q (by decide), fun _ => ⟨vp_in_nI (by omega) (by omega), ?_⟩⟩⟩
      intro y14 e14
      rw [nI_clamp (by omega)] at e14; subst e14
      refine ⟨vp_in_nI (by omega) (by omega), ?_⟩
      intro y15 e15
      rw [nI_clamp (by omega)] at e15; subst e15
      rintro _ rfl _ rfl
      exact ⟨fun c3 => go (fun _ => c3), fun c3 => h0 (fun q => c3 (q i (by omega) ⟨c, c2⟩))⟩
  refine ⟨fun q => absurd q (nI_pos (by omega)), fun _ => ⟨fun _ => ⟨_, key nb 0 (by omega) (fun q q1 => by omega)⟩, fun q => absurd ?_ q⟩⟩
  rw [show (40 : Int32) = nI 40 from rfl, nI_ltI (by omega) (by omega)]; omega
theorem meaningA {nb : Nat} {v s : Int32} {u : mS} {post : Int32 → mS → Prop} (hn : u.1 4 = nI nb) (hb : nb ≤ 40) (hp : ∀ r, MEA (u.2 5) (u.2 6) nb v s r → post r u) : wp_X7_meaning v s u post := by
  have fin : ∀ b, b < nb → MTC (u.2 5) (u.2 6) v s b → (∀ j, j < nb → MTC (u.2 5) (u.2 6) v s j → PC32 (u.2 6 j) ≤ PC32 (u.2 6 b)) → (∀ j, j < b → MTC (u.2 5) (u.2 6) v s j → PC32 (u.2 6 j) < PC32 (u.2 6 b)) → wj_X7_meaning_85 post s (nI b) u := by
    intro b hbn hm h1 h2
    refine ⟨fun q => absurd q (nI_pos (by omega)), fun _ => ?_⟩
    refine holdsAll_ok hn hb hbn (fun hh => ⟨fun q => absurd q (by decide), fun _ => ?_⟩) (fun hh => ⟨fun _ => ?_, fun q => absurd rfl q⟩)
    · rw [hm.1] at hh
      refine hp _ (Or.inr (Or.inr ⟨b, hbn, rfl, hm, hh, fun j j1 j2 j3 => ?_⟩))
      have a := PC32_sub (j3 b hbn hm)
      have c := h2 j j1 j2
      omega
    · rw [hm.1] at hh
      refine hp _ (Or.inr (Or.inl ⟨rfl, ⟨b, hbn, hm⟩, fun k k1 k2 k3 => hh ?_⟩))
      have a := PC32_sub (k3 b hbn hm)
      have c := h1 k k1 k2
      have e := a.2 (by omega)
      intro q q1 q2
      rw [e]
      exact k3 q q1 q2
  have key : ∀ (d i : Nat) (x3 x4 : Int32), i + d = nb → ((x3 = -1 ∧ x4 = -1 ∧ ∀ j, j < i → ¬ MTC (u.2 5) (u.2 6) v s j) ∨ (∃ b, b < i ∧ x3 = nI b ∧ x4 = nI (PC32 (u.2 6 b)) ∧ MTC (u.2 5) (u.2 6) v s b ∧ (∀ j, j < i → MTC (u.2 5) (u.2 6) v s j → PC32 (u.2 6 j) ≤ PC32 (u.2 6 b)) ∧ ∀ j, j < b → MTC (u.2 5) (u.2 6) v s j → PC32 (u.2 6 j) < PC32 (u.2 6 b))) → mL6 (fun K => wj_X7_meaning_8 K post) (d + 1) v s x3 x4 (nI i) u := by
    intro d
    induction d with
    | zero =>
      intro i x3 x4 hi hI
      have s85 : wj_X7_meaning_85 post s x3 u := by
        have ei : i = nb := by omega
        subst ei
        rcases hI with ⟨rfl, -, h⟩ | ⟨b, h1, rfl, -, h3, h4, h5⟩
        · exact ⟨fun _ => hp _ (Or.inl ⟨rfl, h⟩), fun q => absurd (by decide) q⟩
        · exact fin b h1 h3 h4 h5
      show wj_X7_meaning_8 _ post _ _ _ _ _ u
      intro y1 e1
      rw [hn] at e1; subst e1
      exact ⟨fun _ => s85, fun q => absurd (by rw [nI_leI (by omega) (by omega)]; omega) q⟩
    | succ d ih =>
      intro i x3 x4 hi hI
      have no : ¬ MTC (u.2 5) (u.2 6) v s i → wj_X7_meaning_79 (mL6 (fun K => wj_X7_meaning_8 K post) (d + 1)) post v s x3 x4 (nI i) u := by
        intro g
        rintro _ rfl
        rw [nI_1]
        refine ih (i + 1) x3 x4 (by omega) ?_
        rcases hI with ⟨h1, h2, h⟩ | ⟨b, h1, h2, h2', h3, h4, h5⟩
        · refine Or.inl ⟨h1, h2, fun j hj z => ?_⟩
          rcases Nat.lt_or_ge j i with c | c
          · exact h j c z
          · have : j = i := by omega
            subst this; exact g z
        · refine Or.inr ⟨b, by omega, h2, h2', h3, fun j hj z => ?_, h5⟩
          rcases Nat.lt_or_ge j i with c | c
          · exact h4 j c z
          · have : j = i := by omega
            subst this; exact absurd z g
      show wj_X7_meaning_8 _ post _ _ _ _ _ u
      intro y1 e1
      rw [hn] at e1; subst e1
      refine ⟨fun q => absurd q (by rw [nI_leI (by omega) (by omega)]; omega), fun _ => ⟨fun q => absurd q (by rw [show (40 : Int32) = nI 40 from rfl, nI_leI (by omega) (by omega)]; omega), fun _ => ⟨vp_in_nI (by omega) (by omega), ?_⟩⟩⟩
      intro y4 e4
      rw [nI_clamp (by omega)] at e4; subst e4
      refine ⟨fun c => no (fun q => c q.1), fun c => ⟨vp_in_nI (by omega) (by omega), ?_⟩⟩
      intro y6 e6
      rw [nI_clamp (by omega)] at e6; subst e6
      rintro _ rfl _ rfl
      refine ⟨fun c2 => no (fun q => c2 q.2), fun c2 => ⟨vp_in_nI (by omega) (by omega), ?_⟩⟩
      have hm : MTC (u.2 5) (u.2 6) v s i := ⟨c, c2⟩
      intro y10 e10
      rw [nI_clamp (by omega)] at e10; subst e10
      have pb := PC32_le (u.2 6 i)
      refine bitC ⟨fun le => ?_, fun gt => ⟨vp_in_nI (by omega) (by omega), ?_⟩⟩
      · rintro _ rfl
        rw [nI_1]
        refine ih (i + 1) x3 x4 (by omega) ?_
        rcases hI with ⟨h1, h2, h⟩ | ⟨b, h1, h2, h2', h3, h4, h5⟩
        · rw [h2] at le
          exact absurd le (by
            intro z
            have := i_leR (-1) (by decide) z
            rw [nI_toInt (by omega)] at this
            omega)
        · have pb2 := PC32_le (u.2 6 b)
          rw [h2', nI_leI (by omega) (by omega)] at le
          refine Or.inr ⟨b, by omega, h2, h2', h3, fun j hj z => ?_, h5⟩
          rcases Nat.lt_or_ge j i with c | c
          · exact h4 j c z
          · have : j = i := by omega
            subst this; exact le
      · intro y14 e14
        rw [nI_clamp (by omega)] at e14; subst e14
        refine bitC ?_
        rintro _ rfl
        rw [nI_1]
        refine ih (i + 1) _ _ (by omega) (Or.inr ⟨i, by omega, rfl, rfl, hm, fun j hj z => ?_, fun j hj z => ?_⟩)
        · rcases Nat.lt_or_ge j i with c | c
          · rcases hI with ⟨h1, h2, h⟩ | ⟨b, h1, h2, h2', h3, h4, h5⟩
            · exact absurd z (h j c)
            · have pb2 := PC32_le (u.2 6 b)
              rw [h2', nI_leI (by omega) (by omega)] at gt
              have := h4 j c z
              omega
          · have : j = i := by omega
            rw [this]; exact Nat.le_refl _
        · rcases hI with ⟨h1, h2, h⟩ | ⟨b, h1, h2, h2', h3, h4, h5⟩
          · exact absurd z (h j hj)
          · have pb2 := PC32_le (u.2 6 b)
            rw [h2', nI_leI (by omega) (by omega)] at gt
            have := h4 j hj z
            omega
  exact ⟨_, key nb 0 (-1) (-1) (by omega) (Or.inl ⟨rfl, rfl, fun j hj => by omega⟩)⟩
theorem meansM {nb : Nat} {v s : Int32} {u : mS} {post : Int32 → mS → Prop} (hn : u.1 4 = nI nb) (hb : nb ≤ 40) (hp : ∀ r, MEA (u.2 7) (u.2 8) nb v s r → post r u) : wp_X9_means v s u post := by
  -- the inner loop
  have inner : ∀ (K5 : Int32 → Int32 → Int32 → Int32 → mS → Prop) (k : Nat), k < nb → (HAL (u.2 7) (u.2 8) nb v s k → post (nI k) u) → (¬ HAL (u.2 7) (u.2 8) nb v s k → K5 v s (-2) (nI (k + 1)) u) → ∀ (d q : Nat) (x5 : Int32), q + d = nb → ((x5 = 1 ∧ ∀ j, j < q → MTC (u.2 7) (u.2 8) v s j → SUB (u.2 8 j) (u.2 8 k)) ∨ (x5 = 0 ∧ ¬ HAL (u.2 7) (u.2 8) nb v s k)) → mL6 (fun K => wj_X9_means_48 K K5 post) (d + 1) v s (nI k) x5 (nI q) u := by
    intro K5 k hk h1 h0 d
    induction d with
    | zero =>
      intro q x5 hq hI
      show wj_X9_means_48 _ K5 post _ _ _ _ _ u
      intro y9 e9
      rw [hn] at e9; subst e9
      refine ⟨fun _ => ⟨fun z => ?_, fun z => ?_⟩, fun z => absurd (by rw [nI_leI (by omega) (by omega)]; omega) z⟩
      · rcases hI with ⟨a, -⟩ | ⟨-, a⟩
        · rw [a] at z; exact absurd z (by decide)
        · rintro _ rfl
          rw [nI_1]; exact h0 a
      · rcases hI with ⟨-, a⟩ | ⟨a, -⟩
        · exact h1 (fun j j1 j2 => a j (by omega) j2)
        · exact absurd a z
    | succ d ih =>
      intro q x5 hq hI
      have yes : ((∀ j, j < q + 1 → MTC (u.2 7) (u.2 8) v s j → SUB (u.2 8 j) (u.2 8 k)) ∨ ¬ HAL (u.2 7) (u.2 8) nb v s k) → ∀ z0 : Int32, ((z0 = 1 ∧ ∀ j, j < q + 1 → MTC (u.2 7) (u.2 8) v s j → SUB (u.2 8 j) (u.2 8 k)) ∨ (z0 = 0 ∧ ¬ HAL (u.2 7) (u.2 8) nb v s k)) → wj_X9_means_124 K5 (mL6 (fun K => wj_X9_means_48 K K5 post) (d + 1)) post v s (nI k) (nI q) z0 u := by
        intro _ z0 hz
        rintro _ rfl
        rw [nI_1]
        exact ih (q + 1) z0 (by omega) hz
      have s0 : ¬ HAL (u.2 7) (u.2 8) nb v s k → wj_X9_means_123 K5 (mL6 (fun K => wj_X9_means_48 K K5 post) (d + 1)) post v s (nI k) (nI q) u := fun h => yes (Or.inr h) 0 (Or.inr ⟨rfl, h⟩)
      have s1 : (∀ j, j < q + 1 → MTC (u.2 7) (u.2 8) v s j → SUB (u.2 8 j) (u.2 8 k)) → wj_X9_means_119 K5 (mL6 (fun K => wj_X9_means_48 K K5 post) (d + 1)) post v s (nI k) (nI q) u := fun h => yes (Or.inl h) 1 (Or.inl ⟨rfl, h⟩)
      have ext : (∀ j, j < q → MTC (u.2 7) (u.2 8) v s j → SUB (u.2 8 j) (u.2 8 k)) → (MTC (u.2 7) (u.2 8) v s q → SUB (u.2 8 q) (u.2 8 k)) → ∀ j, j < q + 1 → MTC (u.2 7) (u.2 8) v s j → SUB (u.2 8 j) (u.2 8 k) := by
        intro a b j j1 j2
        rcases Nat.lt_or_ge j q with c | c
        · exact a j c j2
        · have : j = q := by omega
          subst this; exact b j2
      have no : ¬ MTC (u.2 7) (u.2 8) v s q → wj_X9_means_86 K5 (mL6 (fun K => wj_X9_means_48 K K5 post) (d + 1)) post v s (nI k) x5 (nI q) u := by
        intro g
        refine ⟨fun z => ?_, fun z => ⟨fun _ => ?_, fun y => absurd rfl y⟩⟩
        · rcases hI with ⟨a, -⟩ | ⟨-, a⟩
          · rw [a] at z; exact absurd z (by decide)
          · exact s0 a
        · rcases hI with ⟨-, a⟩ | ⟨a, -⟩
          · exact s1 (ext a (fun y => absurd y g))
          · exact absurd a z
      show wj_X9_means_48 _ K5 post _ _ _ _ _ u
      intro y9 e9
      rw [hn] at e9; subst e9
      refine ⟨fun z => absurd z (by rw [nI_leI (by omega) (by omega)]; omega), fun _ => ⟨vp_in_nI (by omega) (by omega), ?_⟩⟩
      intro y12 e12
      rw [nI_clamp (by omega)] at e12; subst e12
      refine ⟨fun c => no (fun z => c z.1), fun c => ⟨vp_in_nI (by omega) (by omega), ?_⟩⟩
      intro y14 e14
      rw [nI_clamp (by omega)] at e14; subst e14
      rintro _ rfl _ rfl
      refine ⟨fun c2 => no (fun z => c2 z.2), fun c2 => ⟨fun z => ?_, fun z => ⟨fun y => absurd y (by decide), fun _ => ⟨vp_in_nI (by omega) (by omega), ?_⟩⟩⟩⟩
      · rcases hI with ⟨a, -⟩ | ⟨-, a⟩
        · rw [a] at z; exact absurd z (by decide)
        · exact s0 a
      · have hm : MTC (u.2 7) (u.2 8) v s q := ⟨c, c2⟩
        intro y20 e20
        rw [nI_clamp (by omega)] at e20; subst e20
        refine ⟨vp_in_nI (by omega) (by omega), ?_⟩
        intro y21 e21
        rw [nI_clamp (by omega)] at e21; subst e21
        rintro _ rfl _ rfl
        refine ⟨fun c3 => s0 (fun y => c3 (y q (by omega) hm)), fun c3 => ?_⟩
        rcases hI with ⟨-, a⟩ | ⟨a, -⟩
        · exact s1 (ext a (fun _ => c3))
        · exact absurd a z
  have key : ∀ (d k : Nat) (x3 : Int32), k + d = nb → ((x3 = -1 ∧ ∀ j, j < k → ¬ MTC (u.2 7) (u.2 8) v s j) ∨ (x3 = -2 ∧ (∃ j, j < k ∧ MTC (u.2 7) (u.2 8) v s j) ∧ ∀ j, j < k → MTC (u.2 7) (u.2 8) v s j → ¬ HAL (u.2 7) (u.2 8) nb v s j)) → mL5 (fun K => wj_X9_means_5 K post) (d + 1) v s x3 (nI k) u := by
    intro d
    induction d with
    | zero =>
      intro k x3 hk hI
      show wj_X9_means_5 _ post _ _ _ _ u
      intro y1 e1
      rw [hn] at e1; subst e1
      have ek : k = nb := by omega
      subst ek
      refine ⟨fun _ => hp _ ?_, fun q => absurd (Int32.le_refl _) q⟩
      rcases hI with h | h
      · exact Or.inl h
      · exact Or.inr (Or.inl h)
    | succ d ih =>
      intro k x3 hk hI
      have none : (∀ j, j < k → MTC (u.2 7) (u.2 8) v s j → ¬ HAL (u.2 7) (u.2 8) nb v s j) := by
        intro j j1 j2
        rcases hI with ⟨-, h⟩ | ⟨-, -, h⟩
        · exact absurd j2 (h j j1)
        · exact h j j1 j2
      have no : ¬ MTC (u.2 7) (u.2 8) v s k → wj_X9_means_143 (mL5 (fun K => wj_X9_means_5 K post) (d + 1)) post v s x3 (nI k) u := by
        intro g
        rintro _ rfl
        rw [nI_1]
        refine ih (k + 1) x3 (by omega) ?_
        rcases hI with ⟨a, h⟩ | ⟨a, ⟨j, j1, j2⟩, h⟩
        · refine Or.inl ⟨a, fun j j1 z => ?_⟩
          rcases Nat.lt_or_ge j k with c | c
          · exact h j c z
          · have : j = k := by omega
            subst this; exact g z
        · refine Or.inr ⟨a, ⟨j, by omega, j2⟩, fun i i1 z => ?_⟩
          rcases Nat.lt_or_ge i k with c | c
          · exact h i c z
          · have : i = k := by omega
            subst this; exact absurd z g
      show wj_X9_means_5 _ post _ _ _ _ u
      intro y1 e1
      rw [hn] at e1; subst e1
      refine ⟨fun q => absurd q (by rw [nI_leI (by omega) (by omega)]; omega), fun _ => ⟨vp_in_nI (by omega) (by omega), ?_⟩⟩
      intro y3 e3
      rw [nI_clamp (by omega)] at e3; subst e3
      refine ⟨fun c => no (fun z => c z.1), fun c => ⟨vp_in_nI (by omega) (by omega), ?_⟩⟩
      intro y5 e5
      rw [nI_clamp (by omega)] at e5; subst e5
      rintro _ rfl _ rfl
      refine ⟨fun c2 => ?_, fun c2 => no (fun z => c2 z.2)⟩
      have hm : MTC (u.2 7) (u.2 8) v s k := ⟨c, c2⟩
      refine ⟨nb + 1, ?_⟩
      refine inner _ k (by omega) (fun hh => hp _ (Or.inr (Or.inr ⟨k, by omega, rfl, hm, hh, none⟩))) (fun hh => ih (k + 1) (-2) (by omega) (Or.inr ⟨rfl, ⟨k, by omega, hm⟩, fun j j1 j2 => ?_⟩)) nb 0 1 (by omega) (Or.inl ⟨rfl, fun j hj => by omega⟩)
      rcases Nat.lt_or_ge j k with c | c
      · exact none j c j2
      · have : j = k := by omega
        subst this; exact hh
  exact ⟨_, key nb 0 (-1) (by omega) (Or.inl ⟨rfl, fun j hj => by omega⟩)⟩
