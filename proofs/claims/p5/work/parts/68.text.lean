-- 68: the text that is made, on both sides
/-- the class's put -/
def pA (c : Int32) (u : mS) : mS := if u.1 7 = 0 then (if u.1 6 < 200 then mSet (mPut u 9 (u.1 6).toNatClampNeg c) 6 (u.1 6 + 1) else mSet u 7 6) else u
/-- the reference's put -/
def pM (c : Int32) (v : mS) : mS := if v.1 12 = 0 then (if v.1 9 = 200 then mSet v 12 6 else mSet (mPut v 19 (v.1 9).toNatClampNeg c) 9 (v.1 9 + 1)) else v
def LAo (u : mS) : Prop := u.1 7 = 0 → ∃ L, L ≤ 200 ∧ u.1 6 = nI L
def LMo (v : mS) : Prop := v.1 12 = 0 → ∃ L, L ≤ 200 ∧ v.1 9 = nI L
/-- both without an error, and the same text; or both with one -/
def TX (u v : mS) : Prop := (u.1 7 = 0 ∧ v.1 12 = 0 ∧ ∃ L, L ≤ 200 ∧ u.1 6 = nI L ∧ v.1 9 = nI L ∧ ∀ i, i < L → u.2 9 i = v.2 19 i) ∨ (¬ u.1 7 = 0 ∧ ¬ v.1 12 = 0)
theorem TX_A {u v : mS} (h : TX u v) : LAo u := by
  intro q
  rcases h with ⟨-, -, L, h1, h2, -⟩ | ⟨h, -⟩
  · exact ⟨L, h1, h2⟩
  · exact absurd q h
theorem TX_M {u v : mS} (h : TX u v) : LMo v := by
  intro q
  rcases h with ⟨-, -, L, h1, -, h2, -⟩ | ⟨-, h⟩
  · exact ⟨L, h1, h2⟩
  · exact absurd q h
theorem put_A {c : Int32} {u : mS} {post : mS → Prop} (h : LAo u) (hp : post (pA c u)) : wp_X2_put c u post := by
  unfold pA at hp
  rintro _ rfl
  refine ⟨fun he => ?_, fun he => ?_⟩
  · obtain ⟨L, hL, e⟩ := h he
    rw [if_pos he] at hp
    rintro _ rfl
    refine ⟨fun q => absurd q (by rw [e]; exact nI_pos (by omega)), fun _ => ?_⟩
    rintro _ rfl
    refine ⟨fun q => ?_, fun q => ?_⟩
    · rw [if_pos q] at hp
      rintro _ rfl
      have q' := q
      rw [e, show (200 : Int32) = nI 200 from rfl, nI_ltI (by omega) (by omega)] at q'
      refine ⟨by rw [e]; exact vp_in_nI (by omega) (by omega), ?_⟩
      rintro _ rfl _ rfl _ rfl _ rfl
      exact hp
    · rw [if_neg q] at hp
      rintro _ rfl
      exact hp
  · rw [if_neg he] at hp; exact hp
theorem put_M {c : Int32} {v : mS} {post : mS → Prop} (h : LMo v) (hp : post (pM c v)) : wp_X9_put c v post := by
  unfold pM at hp
  rintro _ rfl
  refine ⟨fun he => ?_, fun he => ?_⟩
  · obtain ⟨L, hL, e⟩ := h he
    rw [if_pos he] at hp
    rintro _ rfl
    refine ⟨fun q => ?_, fun q => ?_⟩
    · rw [if_neg q] at hp
      rintro _ rfl
      have q' : L ≠ 200 := fun z => q (by rw [e, z]; rfl)
      refine ⟨by rw [e]; exact vp_in_nI (by omega) (by omega), ?_⟩
      rintro _ rfl _ rfl _ rfl _ rfl
      exact hp
    · rw [if_pos q] at hp
      rintro _ rfl
      refine ⟨fun z => absurd he z, fun _ => ?_⟩
      rintro _ rfl
      exact hp
  · rw [if_neg he] at hp; exact hp
theorem pA_err {c : Int32} {u : mS} (h : ¬ u.1 7 = 0) : pA c u = u := by unfold pA; rw [if_neg h]
theorem pM_err {c : Int32} {v : mS} (h : ¬ v.1 12 = 0) : pM c v = v := by unfold pM; rw [if_neg h]
theorem pA_fr {c : Int32} {u : mS} : FR [6, 7] [9] u (pA c u) := by
  unfold pA
  split
  · split
    · exact FR_set (FR_put FR.rf (by decide)) (by decide)
    · exact FR_set FR.rf (by decide)
  · exact FR.rf
theorem pM_fr {c : Int32} {v : mS} : FR [9, 12] [19] v (pM c v) := by
  unfold pM
  split
  · split
    · exact FR_set FR.rf (by decide)
    · exact FR_set (FR_put FR.rf (by decide)) (by decide)
  · exact FR.rf
theorem TX_put {c : Int32} {u v : mS} (h : TX u v) : TX (pA c u) (pM c v) := by
  rcases h with ⟨h1, h2, L, h3, h4, h5, h6⟩ | ⟨h1, h2⟩
  · unfold pA pM
    rw [if_pos h1, if_pos h2]
    rcases Nat.lt_or_ge L 200 with c1 | c1
    · have a : u.1 6 < 200 := by rw [h4, show (200 : Int32) = nI 200 from rfl, nI_ltI (by omega) (by omega)]; exact c1
      have b : ¬ v.1 9 = 200 := by rw [h5, show (200 : Int32) = nI 200 from rfl, nI_eq (by omega) (by omega)]; omega
      rw [if_pos a, if_neg b]
      refine Or.inl ⟨?_, ?_, L + 1, by omega, ?_, ?_, fun i hi => ?_⟩
      · rw [mSet_other (by decide : (7 : Nat) ≠ 6)]; exact h1
      · rw [mSet_other (by decide : (12 : Nat) ≠ 9)]; exact h2
      · rw [mSet_same, h4, nI_1]
      · rw [mSet_same, h5, nI_1]
      · show (mPut u 9 (u.1 6).toNatClampNeg c).2 9 i = (mPut v 19 (v.1 9).toNatClampNeg c).2 19 i
        rw [mPut_same, mPut_same, h4, h5, nI_clamp (by omega)]
        by_cases e : i = L
        · subst e; rw [pk_us, pk_us]
        · rw [pk_un e, pk_un e]; exact h6 i (by omega)
    · have e : L = 200 := by omega
      subst e
      have a : ¬ u.1 6 < 200 := by rw [h4]; decide
      have b : v.1 9 = 200 := h5
      rw [if_neg a, if_pos b]
      refine Or.inr ⟨?_, ?_⟩
      · rw [mSet_same]; decide
      · rw [mSet_same]; decide
  · rw [pA_err h1, pM_err h2]
    exact Or.inr ⟨h1, h2⟩
def pAs : List Int32 → mS → mS
  | [], u => u
  | c :: cs, u => pAs cs (pA c u)
def pMs : List Int32 → mS → mS
  | [], v => v
  | c :: cs, v => pMs cs (pM c v)
theorem pAs_fr : ∀ (cs : List Int32) {u : mS}, FR [6, 7] [9] u (pAs cs u)
  | [], _ => FR.rf
  | _ :: cs, _ => pA_fr.tr (pAs_fr cs)
theorem pMs_fr : ∀ (cs : List Int32) {v : mS}, FR [9, 12] [19] v (pMs cs v)
  | [], _ => FR.rf
  | _ :: cs, _ => pM_fr.tr (pMs_fr cs)
theorem TX_puts : ∀ (cs : List Int32) {u v : mS}, TX u v → TX (pAs cs u) (pMs cs v)
  | [], _, _, h => h
  | _ :: cs, _, _, h => TX_puts cs (TX_put h)
theorem LAo_put {c : Int32} {u : mS} (h : LAo u) : LAo (pA c u) := by
  intro q
  unfold pA at q ⊢
  by_cases e : u.1 7 = 0
  · rw [if_pos e] at q ⊢
    obtain ⟨L, h1, h2⟩ := h e
    by_cases a : u.1 6 < 200
    · rw [if_pos a]
      rw [h2, show (200 : Int32) = nI 200 from rfl, nI_ltI (by omega) (by omega)] at a
      exact ⟨L + 1, by omega, by rw [mSet_same, h2, nI_1]⟩
    · rw [if_neg a]
      exact ⟨L, h1, (mSet_other (by decide : (6 : Nat) ≠ 7)).trans h2⟩
  · rw [if_neg e] at q; exact absurd q e
theorem LMo_put {c : Int32} {v : mS} (h : LMo v) : LMo (pM c v) := by
  intro q
  unfold pM at q ⊢
  by_cases e : v.1 12 = 0
  · rw [if_pos e] at q ⊢
    obtain ⟨L, h1, h2⟩ := h e
    by_cases a : v.1 9 = 200
    · rw [if_pos a]
      exact ⟨L, h1, (mSet_other (by decide : (9 : Nat) ≠ 12)).trans h2⟩
    · rw [if_neg a]
      have : L ≠ 200 := fun z => a (by rw [h2, z]; rfl)
      exact ⟨L + 1, by omega, by rw [mSet_same, h2, nI_1]⟩
  · rw [if_neg e] at q; exact absurd q e
theorem LMo_gap {v : mS} {x : Int32} (h : LMo v) : LMo (mSet v 10 x) := fun q => h q
theorem TX_gap {u v : mS} {x : Int32} (h : TX u v) : TX u (mSet v 10 x) := h
/-- the characters of a name -/
def NCH (x y : Nat) (cs : List Int32) : Prop := (∃ a, 97 ≤ a ∧ a ≤ 122 ∧ x = 256 + a ∧ y = a - 96 ∧ cs = [nI a]) ∨ (∃ a, (a = 43 ∨ a = 42 ∨ a = 61 ∨ a = 60) ∧ x = 256 + a ∧ y = 40000 + a ∧ cs = [nI a]) ∨ (∃ a b, 97 ≤ a ∧ a ≤ 122 ∧ 97 ≤ b ∧ b ≤ 122 ∧ x = 65536 + 256 * a + b ∧ y = 32 * (a - 96) + (b - 96) ∧ cs = [nI a, nI b]) ∨ (∃ a b c, 97 ≤ a ∧ a ≤ 122 ∧ 97 ≤ b ∧ b ≤ 122 ∧ 97 ≤ c ∧ c ≤ 122 ∧ x = 16777216 + 65536 * a + 256 * b + c ∧ y = 1024 * (a - 96) + 32 * (b - 96) + (c - 96) ∧ cs = [nI a, nI b, nI c])
theorem NCH_ex {x y : Nat} (h : NM x y) : ∃ cs, NCH x y cs := by
  rcases h with ⟨a, h1, h2, h3, h4⟩ | ⟨a, h1, h3, h4⟩ | ⟨a, b, h1, h2, h3, h4, h5, h6⟩ | ⟨a, b, c, h1, h2, h3, h4, h5, h6, h7, h8⟩
  · exact ⟨_, Or.inl ⟨a, h1, h2, h3, h4, rfl⟩⟩
  · exact ⟨_, Or.inr (Or.inl ⟨a, h1, h3, h4, rfl⟩)⟩
  · exact ⟨_, Or.inr (Or.inr (Or.inl ⟨a, b, h1, h2, h3, h4, h5, h6, rfl⟩))⟩
  · exact ⟨_, Or.inr (Or.inr (Or.inr ⟨a, b, c, h1, h2, h3, h4, h5, h6, h7, h8, rfl⟩))⟩
/-- one turn of the class's putName -/
theorem pnA_step {x s : Nat} {k : Nat} {u : mS} {post : mS → Prop} (hx : x < 2 ^ 25) (hs : s < 32) (h : LAo u) (hlo : x / 2 ^ s ≤ 255 → mL3 (fun K => wj_X2_putName_3 K post) k (nI x) (nI s + (-8)) u) (hhi : 255 < x / 2 ^ s → mL3 (fun K => wj_X2_putName_3 K post) k (nI x) (nI s + (-8)) (pA (nI (x / 2 ^ s % 256)) u)) : mL3 (fun K => wj_X2_putName_3 K post) (k + 1) (nI x) (nI s) u := by
  have sh : nI x >>> (nI s &&& 31) = nI (x / 2 ^ s) := pk_shrN (by omega) (nI s &&& 31) s ((by decide +kernel : ∀ s, s < 32 → ((nI s &&& 31).toBitVec.smod 32).toNat = s) s hs)
  have dv : x / 2 ^ s ≤ x := Nat.div_le_self _ _
  show wj_X2_putName_3 _ post _ _ u
  refine ⟨fun q => absurd q (nI_pos (by omega)), fun _ => ?_⟩
  rintro _ rfl
  rw [sh]
  refine ⟨fun q => ?_, fun q => ?_⟩
  · have q : nI (x / 2 ^ s) ≤ nI 255 := q
    rw [nI_leI (by omega) (by omega)] at q
    rintro _ rfl
    exact hlo q
  · have q : ¬ nI (x / 2 ^ s) ≤ nI 255 := q
    rw [nI_leI (by omega) (by omega)] at q
    rintro _ rfl _ rfl
    rw [pk_andN (by omega) 8 (by decide)]
    refine put_A h ?_
    rintro _ rfl
    exact hhi (by omega)
theorem putName_A {x y : Nat} {cs : List Int32} {u : mS} {post : mS → Prop} (hc : NCH x y cs) (h : LAo u) (hp : post (pAs cs u)) : wp_X2_putName (nI x) u post := by
  have m8 : nI 16 + (-8 : Int32) = nI 8 := by decide
  have m0 : nI 8 + (-8 : Int32) = nI 0 := by decide
  have mn : nI 0 + (-8 : Int32) < 0 := by decide
  have out : ∀ (w : mS), post w → mL3 (fun K => wj_X2_putName_3 K post) 1 (nI x) (nI 0 + (-8)) w := by
    intro w hw
    show wj_X2_putName_3 _ post _ _ w
    exact ⟨fun _ => hw, fun q => absurd mn q⟩
  refine ⟨4, ?_⟩
  show mL3 _ 4 (nI x) (nI 16) u
  rcases hc with ⟨a, h1, h2, rfl, -, rfl⟩ | ⟨a, h1, rfl, -, rfl⟩ | ⟨a, b, h1, h2, h3, h4, rfl, -, rfl⟩ | ⟨a, b, c, h1, h2, h3, h4, h5, h6, rfl, -, rfl⟩
  · refine pnA_step (by omega) (by omega) h (fun _ => ?_) (fun q => by omega)
    rw [m8]
    refine pnA_step (by omega) (by omega) h (fun _ => ?_) (fun q => by omega)
    rw [m0]
    refine pnA_step (by omega) (by omega) h (fun q => by omega) (fun _ => out _ ?_)
    rw [show (256 + a) / 2 ^ 0 % 256 = a from by omega]; exact hp
  · refine pnA_step (by omega) (by omega) h (fun _ => ?_) (fun q => by omega)
    rw [m8]
    refine pnA_step (by omega) (by omega) h (fun _ => ?_) (fun q => by omega)
    rw [m0]
    refine pnA_step (by omega) (by omega) h (fun q => by omega) (fun _ => out _ ?_)
    rw [show (256 + a) / 2 ^ 0 % 256 = a from by omega]; exact hp
  · refine pnA_step (by omega) (by omega) h (fun _ => ?_) (fun q => by omega)
    rw [m8]
    refine pnA_step (by omega) (by omega) h (fun q => by omega) (fun _ => ?_)
    rw [m0, show (65536 + 256 * a + b) / 2 ^ 8 % 256 = a from by omega]
    refine pnA_step (by omega) (by omega) (LAo_put h) (fun q => by omega) (fun _ => out _ ?_)
    rw [show (65536 + 256 * a + b) / 2 ^ 0 % 256 = b from by omega]; exact hp
  · refine pnA_step (by omega) (by omega) h (fun q => by omega) (fun _ => ?_)
    rw [m8, show (16777216 + 65536 * a + 256 * b + c) / 2 ^ 16 % 256 = a from by omega]
    refine pnA_step (by omega) (by omega) (LAo_put h) (fun q => by omega) (fun _ => ?_)
    rw [m0, show (16777216 + 65536 * a + 256 * b + c) / 2 ^ 8 % 256 = b from by omega]
    refine pnA_step (by omega) (by omega) (LAo_put (LAo_put h)) (fun q => by omega) (fun _ => out _ ?_)
    rw [show (16777216 + 65536 * a + 256 * b + c) / 2 ^ 0 % 256 = c from by omega]; exact hp
theorem putName_M {x y : Nat} {cs : List Int32} {v : mS} {post : mS → Prop} (hc : NCH x y cs) (h : LMo v) (hp : post (pMs cs v)) : wp_X9_putName (nI y) v post := by
  have lt : ∀ (k : Nat), y < 2 ^ 30 → k < 2 ^ 30 → (nI y < nI k ↔ y < k) := fun k a b => nI_ltI (by omega) (by omega)
  have dv : ∀ d : Nat, 0 < d → d < 2 ^ 30 → y < 2 ^ 30 → nI y / nI d = nI (y / d) := fun d a b c => pk_div (by omega) a (by omega)
  have last : ∀ (w : mS) (c : Nat), y < 2 ^ 30 → LMo w → 96 + y % 32 = c → post (pM (nI c) w) → wj_X9_putName_54 post (nI y) w := by
    intro w c hy hw e hq
    rintro _ rfl _ rfl
    rw [show (32 : Int32) = nI 32 from rfl, pk_rem (by omega) (by omega) (by omega), show (96 : Int32) = nI 96 from rfl, nI_add, e]
    exact put_M hw hq
  have mid0 : ∀ (w : mS), y < 32 → wj_X9_putName_54 post (nI y) w → wj_X9_putName_34 post (nI y) w := by
    intro w hy hq
    refine ⟨fun _ => hq, fun q => absurd ?_ q⟩
    rw [show (32 : Int32) = nI 32 from rfl, lt 32 (by omega) (by omega)]; exact hy
  have mid1 : ∀ (w : mS) (c : Nat), y < 2 ^ 30 → 32 ≤ y → LMo w → 96 + y / 32 % 32 = c → wj_X9_putName_54 post (nI y) (pM (nI c) w) → wj_X9_putName_34 post (nI y) w := by
    intro w c hb hy hw e hq
    refine ⟨fun q => absurd q ?_, fun _ => ?_⟩
    · rw [show (32 : Int32) = nI 32 from rfl, lt 32 (by omega) (by omega)]; omega
    · rintro _ rfl _ rfl _ rfl
      have l : y / 32 ≤ y := Nat.div_le_self _ _
      rw [show (32 : Int32) = nI 32 from rfl, dv 32 (by omega) (by omega) (by omega), pk_rem (by omega) (by omega) (by omega), show (96 : Int32) = nI 96 from rfl, nI_add, e]
      exact put_M hw hq
  rcases hc with ⟨a, h1, h2, -, e, rfl⟩ | ⟨a, h1, -, e, rfl⟩ | ⟨a, b, h1, h2, h3, h4, -, e, rfl⟩ | ⟨a, b, c, h1, h2, h3, h4, h5, h6, -, e, rfl⟩
  · refine ⟨fun _ => ⟨fun _ => mid0 v (by omega) (last v a (by omega) h (by omega) hp), fun q => absurd (by rw [show (1024 : Int32) = nI 1024 from rfl, lt 1024 (by omega) (by omega)]; omega) q⟩, fun q => absurd (by rw [show (40000 : Int32) = nI 40000 from rfl, lt 40000 (by omega) (by omega)]; omega) q⟩
  · refine ⟨fun q => absurd q (by rw [show (40000 : Int32) = nI 40000 from rfl, lt 40000 (by omega) (by omega)]; omega), fun _ => ?_⟩
    rintro _ rfl
    rw [show (40000 : Int32) = nI 40000 from rfl, pk_sub (by omega), show y - 40000 = a from by omega]
    exact put_M h hp
  · refine ⟨fun _ => ⟨fun _ => mid1 v a (by omega) (by omega) h (by omega) (last _ b (by omega) (LMo_put h) (by omega) hp), fun q => absurd (by rw [show (1024 : Int32) = nI 1024 from rfl, lt 1024 (by omega) (by omega)]; omega) q⟩, fun q => absurd (by rw [show (40000 : Int32) = nI 40000 from rfl, lt 40000 (by omega) (by omega)]; omega) q⟩
  · refine ⟨fun _ => ⟨fun q => absurd q (by rw [show (1024 : Int32) = nI 1024 from rfl, lt 1024 (by omega) (by omega)]; omega), fun _ => ?_⟩, fun q => absurd (by rw [show (40000 : Int32) = nI 40000 from rfl, lt 40000 (by omega) (by omega)]; omega) q⟩
    rintro _ rfl _ rfl
    rw [show (1024 : Int32) = nI 1024 from rfl, dv 1024 (by omega) (by omega) (by omega), show (96 : Int32) = nI 96 from rfl, nI_add, show 96 + y / 1024 = a from by omega]
    exact put_M h (mid1 _ b (by omega) (by omega) (LMo_put h) (by omega) (last _ c (by omega) (LMo_put (LMo_put h)) (by omega) hp))
/-- the digits of a number below a hundred -/
def NUC (n : Nat) : List Int32 := if 9 < n then [nI (48 + n / 10), nI (48 + n % 10)] else [nI (48 + n % 10)]
theorem putNum_A {n : Nat} {u : mS} {post : mS → Prop} (hn : n < 1000) (h : LAo u) (hp : post (pAs (NUC n) u)) : wp_X2_putNumber (nI n) u post := by
  have last : ∀ w : mS, LAo w → post (pA (nI (48 + n % 10)) w) → wj_X2_putNumber_17 post (nI n) w := by
    intro w hw hq
    rintro _ rfl _ rfl
    rw [show (10 : Int32) = nI 10 from rfl, pk_rem (by omega) (by omega) (by omega), show (48 : Int32) = nI 48 from rfl, nI_add]
    exact put_A hw hq
  unfold NUC at hp
  refine ⟨fun q => ?_, fun q => ?_⟩
  · have q : nI n ≤ nI 9 := q
    rw [nI_leI (by omega) (by omega)] at q
    rw [if_neg (by omega)] at hp
    exact last u h hp
  · have q : ¬ nI n ≤ nI 9 := q
    rw [nI_leI (by omega) (by omega)] at q
    rw [if_pos (by omega)] at hp
    rintro _ rfl _ rfl
    rw [show (10 : Int32) = nI 10 from rfl, pk_div (by omega) (by omega) (by omega), show (48 : Int32) = nI 48 from rfl, nI_add]
    exact put_A h (last _ (LAo_put h) hp)
theorem putNum_M {n : Nat} {v : mS} {post : mS → Prop} (hn : n < 1000) (h : LMo v) (hp : post (pMs (NUC n) v)) : wp_X9_putNumber (nI n) v post := by
  have last : ∀ w : mS, LMo w → post (pM (nI (48 + n % 10)) w) → wj_X9_putNumber_17 post (nI n) w := by
    intro w hw hq
    rintro _ rfl _ rfl
    rw [show (10 : Int32) = nI 10 from rfl, pk_rem (by omega) (by omega) (by omega), show (48 : Int32) = nI 48 from rfl, nI_add]
    exact put_M hw hq
  unfold NUC at hp
  refine ⟨fun q => ?_, fun q => ?_⟩
  · have q : nI n ≤ nI 9 := q
    rw [nI_leI (by omega) (by omega)] at q
    rw [if_neg (by omega)] at hp
    exact last v h hp
  · have q : ¬ nI n ≤ nI 9 := q
    rw [nI_leI (by omega) (by omega)] at q
    rw [if_pos (by omega)] at hp
    rintro _ rfl _ rfl
    rw [show (10 : Int32) = nI 10 from rfl, pk_div (by omega) (by omega) (by omega), show (48 : Int32) = nI 48 from rfl, nI_add]
    exact put_M h (last _ (LMo_put h) hp)
theorem putVar_A {n : Nat} {u : mS} {post : mS → Prop} (hn : n < 1000) (h : LAo u) (hp : post (pAs (118 :: NUC n) u)) : wp_X2_putVariable (nI n) u post := put_A h (putNum_A hn (LAo_put h) hp)
/-- the reference's space -/
def spM (v : mS) : mS := mSet (if v.1 10 = 0 then v else pM 32 v) 10 1
theorem space_M {v : mS} {post : mS → Prop} (h : LMo v) (hp : post (spM v)) : wp_X9_space v post := by
  unfold spM at hp
  rintro _ rfl
  refine ⟨fun q => ?_, fun q => put_M h ?_⟩
  · rw [if_pos q] at hp
    rintro _ rfl; exact hp
  · rw [if_neg q] at hp
    rintro _ rfl; exact hp
theorem LMo_sp {v : mS} (h : LMo v) : LMo (spM v) := by
  unfold spM
  split
  · exact LMo_gap h
  · exact LMo_gap (LMo_put h)
