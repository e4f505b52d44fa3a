-- 57: the class's reader, token by token
theorem runLen_ok {P : Int32 → Prop} {lo hi : Int32} {i len : Nat} {u : mS} {post : Int32 → mS → Prop} (hP : ∀ c, P c ↔ (¬ c < lo ∧ c ≤ hi)) (hlen : len ≤ 120) (hi2 : i ≤ len) (hp : ∀ m, RN P (u.2 0) len i m → post (nI m) u) : wp_X3_runLength_1 (nI len) (nI i) lo hi u post := by
  have key : ∀ (d m : Nat), i + m + d = len → (∀ k, k < m → P (u.2 0 (i + k))) → mL6 (fun K => wj_X3_runLength_1_14 K post) (d + 1) (nI len) lo hi (nI m) (nI (i + m)) u := by
    intro d
    induction d with
    | zero =>
      intro m hm hall
      show wj_X3_runLength_1_14 _ post _ _ _ _ _ u
      refine ⟨fun _ => hp m ⟨by omega, hall, fun q => by omega⟩, fun h => absurd ?_ h⟩
      rw [nI_leI (by omega) (by omega)]; omega
    | succ d ih =>
      intro m hm hall
      have out : ¬ P (u.2 0 (i + m)) → post (nI m) u := fun q => hp m ⟨by omega, hall, fun _ => q⟩
      show wj_X3_runLength_1_14 _ post _ _ _ _ _ u
      refine ⟨fun h => absurd h (by rw [nI_leI (by omega) (by omega)]; omega), fun _ => ⟨fun h => absurd h (by rw [show (120 : Int32) = nI 120 from rfl, nI_leI (by omega) (by omega)]; omega), fun _ => ⟨vp_in_nI (by omega) (by omega), ?_⟩⟩⟩
      intro y4 e4
      rw [nI_clamp (by omega)] at e4; subst e4
      refine ⟨fun c => out (fun q => ((hP _).mp q).1 c), fun c => ⟨vp_in_nI (by omega) (by omega), ?_⟩⟩
      intro y6 e6
      rw [nI_clamp (by omega)] at e6; subst e6
      refine ⟨fun c2 => ?_, fun c2 => out (fun q => c2 ((hP _).mp q).2)⟩
      rintro _ rfl _ rfl
      rw [nI_1, nI_1]
      refine ih (m + 1) (by omega) (fun k hk => ?_)
      rcases Nat.lt_or_ge k m with z | z
      · exact hall k z
      · have : k = m := by omega
        subst this
        exact (hP _).mpr ⟨c, c2⟩
  refine ⟨fun _ => ⟨len - i + 1, ?_⟩, fun h => absurd (nI_pos' (by omega)) h⟩
  exact key (len - i) 0 (by omega) (fun k hk => by omega)
theorem nI_or8 {x c : Nat} (hc : c < 256) : nI (x * 256) ||| nI c = nI (x * 256 + c) := by
  have e : nI (x * 256) ||| nI c = nI (x * 256 ||| c) := by
    apply Int32.toBitVec_inj.1
    show BitVec.ofNat 32 (x * 256) ||| BitVec.ofNat 32 c = BitVec.ofNat 32 (x * 256 ||| c)
    exact BitVec.ofNat_or.symm
  rw [e, Nat.mul_comm x 256, show (256 : Nat) = 2 ^ 8 from rfl, Nat.two_pow_add_eq_or_of_lt (by omega)]
/-- the word of m characters from i on -/
def nw (T : Nat → Int32) (i : Nat) : Nat → Nat
  | 0 => 1
  | k + 1 => nw T i k * 256 + (T (i + k)).toNatClampNeg
theorem nw_bd {T : Nat → Int32} {i : Nat} : ∀ m, (∀ k, k < m → ∃ a : Nat, T (i + k) = nI a ∧ a < 256) → nw T i m < 2 * 256 ^ m := by
  intro m
  induction m with
  | zero => intro _; show 1 < 2 * 1; omega
  | succ m ih =>
    intro h
    have := ih (fun k hk => h k (by omega))
    obtain ⟨a, e, ha⟩ := h m (by omega)
    show nw T i m * 256 + (T (i + m)).toNatClampNeg < 2 * 256 ^ (m + 1)
    rw [e, nI_clamp (by omega), Nat.pow_succ]
    omega
theorem readName_ok {i m : Nat} {u : mS} {post : Int32 → mS → Prop} (hm : m ≤ 3) (him : i + m ≤ 120) (hch : ∀ k, k < m → ∃ a : Nat, u.2 0 (i + k) = nI a ∧ a < 256) (hp : wp_X5_add (nI (nw (u.2 0) i m)) 0 u (fun w => post (nI m) w)) : wp_X3_readName_1 (nI i) (nI m) u post := by
  have key : ∀ (d k : Nat), k + d = m → mL5 (fun K => wj_X3_readName_1_21 K post) (d + 1) (nI i) (nI m) (nI (nw (u.2 0) i k)) (nI (i + k)) u := by
    intro d
    induction d with
    | zero =>
      intro k hk
      have : k = m := by omega
      subst this
      show wj_X3_readName_1_21 _ post _ _ _ _ u
      rintro _ rfl
      rw [nI_add]
      exact ⟨fun _ => hp, fun h => absurd (Int32.le_refl _) h⟩
    | succ d ih =>
      intro k hk
      obtain ⟨a, ea, ha⟩ := hch k (by omega)
      have hb := nw_bd (T := u.2 0) (i := i) k (fun j hj => hch j (by omega))
      have hb3 : 256 ^ k ≤ 256 ^ 2 := Nat.pow_le_pow_right (by omega) (by omega)
      show wj_X3_readName_1_21 _ post _ _ _ _ u
      rintro _ rfl
      rw [nI_add]
      refine ⟨fun h => absurd h (by rw [nI_leI (by omega) (by omega)]; omega), fun _ => ⟨fun h => absurd h (by rw [show (120 : Int32) = nI 120 from rfl, nI_leI (by omega) (by omega)]; omega), fun _ => ?_⟩⟩
      rintro _ rfl
      refine ⟨vp_in_nI (by omega) (by omega), ?_⟩
      intro y7 e7
      rw [nI_clamp (by omega), ea] at e7; subst e7
      rintro _ rfl _ rfl
      rw [nI_1, pk_shlN ((8 : Int32) &&& 31) 8 (by decide) (by omega), show (2 : Nat) ^ 8 = 256 from rfl, nI_or8 ha]
      have e : nw (u.2 0) i k * 256 + a = nw (u.2 0) i (k + 1) := by
        show _ = nw (u.2 0) i k * 256 + (u.2 0 (i + k)).toNatClampNeg
        rw [ea, nI_clamp (by omega)]
      rw [e]
      exact ih (k + 1) (by omega)
  refine ⟨fun _ => ⟨fun _ => ⟨m + 1, key m 0 (by omega)⟩, fun h => absurd (nI_pos' (by omega)) h⟩, fun h => absurd ?_ h⟩
  rw [show (3 : Int32) = nI 3 from rfl, nI_leI (by omega) (by omega)]; omega
theorem readNum_ok {i m : Nat} {u : mS} {post : Int32 → mS → Prop} (hm : m ≤ 2) (him : i + m ≤ 120) (hi : i < 120) (h48 : m = 2 → ¬ u.2 0 i = 48) (hp : wp_X5_add (valD (u.2 0) i m) 0 u (fun w => post (nI m) w)) : wp_X3_readNumber_1 (nI i) (nI m) u post := by
  have key : ∀ (d k : Nat), k + d = m → mL5 (fun K => wj_X3_readNumber_1_36 K post) (d + 1) (nI i) (nI m) (valD (u.2 0) i k) (nI (i + k)) u := by
    intro d
    induction d with
    | zero =>
      intro k hk
      have : k = m := by omega
      subst this
      show wj_X3_readNumber_1_36 _ post _ _ _ _ u
      rintro _ rfl
      rw [nI_add]
      exact ⟨fun _ => hp, fun h => absurd (Int32.le_refl _) h⟩
    | succ d ih =>
      intro k hk
      show wj_X3_readNumber_1_36 _ post _ _ _ _ u
      rintro _ rfl
      rw [nI_add]
      refine ⟨fun h => absurd h (by rw [nI_leI (by omega) (by omega)]; omega), fun _ => ⟨fun h => absurd h (by rw [show (120 : Int32) = nI 120 from rfl, nI_leI (by omega) (by omega)]; omega), fun _ => ?_⟩⟩
      rintro _ rfl
      refine ⟨vp_in_nI (by omega) (by omega), ?_⟩
      rintro _ rfl _ rfl _ rfl _ rfl
      rw [nI_1, nI_clamp (by omega), Int32.mul_comm]
      exact ih (k + 1) (by omega)
  have l30 : wj_X3_readNumber_1_30 post (nI i) (nI m) u := ⟨m + 1, key m 0 (by omega)⟩
  refine ⟨fun h => absurd h (by rw [show (2 : Int32) = nI 2 from rfl, nI_ltI (by omega) (by omega)]; omega), fun _ => ⟨fun h => absurd h (nI_pos (by omega)), fun _ => ⟨fun h => absurd h (by rw [show (120 : Int32) = nI 120 from rfl, nI_leI (by omega) (by omega)]; omega), fun _ => ⟨fun _ => l30, fun h2 => ⟨vp_in_nI (by omega) (by omega), ?_⟩⟩⟩⟩⟩
  have h2 : nI m = nI 2 := h2
  rw [nI_eq (by omega) (by omega)] at h2
  rintro _ rfl
  rw [nI_clamp (by omega)]
  exact ⟨fun _ => l30, fun q => absurd q (h48 h2)⟩
theorem readNum_bad {i m : Nat} {u : mS} {post : Int32 → mS → Prop} (hm : m ≤ 120) (hi : i < 120) (hb : 2 < m ∨ (m = 2 ∧ u.2 0 i = 48)) (hp : post 0 u) : wp_X3_readNumber_1 (nI i) (nI m) u post := by
  refine ⟨fun _ => hp, fun h => ⟨fun _ => hp, fun _ => ⟨fun _ => hp, fun _ => ⟨fun h2 => ?_, fun _ => ⟨vp_in_nI (by omega) (by omega), ?_⟩⟩⟩⟩⟩
  · have h : ¬ nI 2 < nI m := h
    rw [nI_ltI (by omega) (by omega)] at h
    have h2 : ¬ nI m = nI 2 := h2
    rw [nI_eq (by omega) (by omega)] at h2
    omega
  · have h : ¬ nI 2 < nI m := h
    rw [nI_ltI (by omega) (by omega)] at h
    rintro _ rfl
    rw [nI_clamp (by omega)]
    refine ⟨fun q => ?_, fun _ => hp⟩
    rcases hb with z | ⟨_, z⟩
    · omega
    · exact absurd z q
theorem num_AW {T : Nat → Int32} {i m : Nat} (hm : m ≤ 2) (h : ∀ k, k < m → cD (T (i + k))) : AW (valD T i m) (65536 * 4 + valD T i m) ∧ kd (65536 * 4 + valD T i m) = 4 := by
  obtain ⟨a, ea, ha⟩ := valD_bd m h
  have : 10 ^ m ≤ 10 ^ 2 := Nat.pow_le_pow_right (by omega) hm
  have e : (65536 * 4 + valD T i m : Int32) = nI (262144 + a) := by
    rw [ea, show (65536 * 4 : Int32) = nI 262144 from by decide, nI_add]
  rw [e]
  refine ⟨Or.inr (Or.inr (Or.inr (Or.inr (Or.inl ⟨a, by omega, ea, rfl⟩)))), ?_⟩
  rw [kd_nI (by omega), show (262144 + a) / 65536 = 4 from by omega]; rfl
theorem valL_s {T : Nat → Int32} {i k x c : Nat} (e : valL T i k = nI x) (ec : T (i + k) = nI c) (hc : 96 ≤ c) : valL T i (k + 1) = nI (32 * x + c - 96) := by
  show (32 * valL T i k + T (i + k)) - 96 = _
  rw [e, ec, show (32 : Int32) = nI 32 from rfl, pk_mul, nI_add, show (96 : Int32) = nI 96 from rfl, pk_sub (by omega)]
theorem nw_s {T : Nat → Int32} {i k c : Nat} (ec : T (i + k) = nI c) (hc : c < 256) : nw T i (k + 1) = nw T i k * 256 + c := by
  show nw T i k * 256 + (T (i + k)).toNatClampNeg = _
  rw [ec, nI_clamp (by omega)]
theorem nm_tok {x y : Nat} (h : NM x y) : AW (nI x) (nI (196608 + y)) ∧ kd (nI (196608 + y)) = 3 := by
  have := NM_bd h
  refine ⟨Or.inr (Or.inr (Or.inr (Or.inr (Or.inr ⟨x, y, h, rfl, rfl⟩)))), ?_⟩
  rw [kd_nI (by omega), show (196608 + y) / 65536 = 3 from by omega]; rfl
theorem nam_AW {T : Nat → Int32} {i m : Nat} (h1 : 1 ≤ m) (hm : m ≤ 3) (h : ∀ k, k < m → cL (T (i + k))) : AW (nI (nw T i m)) (65536 * 3 + valL T i m) ∧ kd (65536 * 3 + valL T i m) = 3 := by
  have e3 : ∀ y : Nat, (65536 * 3 + nI y : Int32) = nI (196608 + y) := by
    intro y
    rw [show (65536 * 3 : Int32) = nI 196608 from by decide, nI_add]
  have v0 : valL T i 0 = nI 0 := rfl
  have w0 : nw T i 0 = 1 := rfl
  obtain ⟨a, ea, a1, a2⟩ := cL_nI (h 0 (by omega))
  have v1 := valL_s v0 ea (by omega)
  have w1 := nw_s ea (by omega)
  rcases Nat.lt_or_ge 1 m with c1 | c1
  · obtain ⟨b, eb, b1, b2⟩ := cL_nI (h 1 (by omega))
    have v2 := valL_s v1 eb (by omega)
    have w2 := nw_s eb (by omega)
    rcases Nat.lt_or_ge 2 m with c2 | c2
    · obtain ⟨c, ec, g1, g2⟩ := cL_nI (h 2 (by omega))
      have v3 := valL_s v2 ec (by omega)
      have w3 := nw_s ec (by omega)
      have em : m = 3 := by omega
      subst em
      have e1 : nw T i 3 = 16777216 + 65536 * a + 256 * b + c := by
        have w3 : nw T i 3 = nw T i 2 * 256 + c := w3
        have w2 : nw T i 2 = nw T i 1 * 256 + b := w2
        have w1 : nw T i 1 = nw T i 0 * 256 + a := w1
        omega
      have e2 : valL T i 3 = nI (1024 * (a - 96) + 32 * (b - 96) + (c - 96)) := by
        refine Eq.trans v3 ?_
        congr 1
        omega
      rw [e1, e2, e3]
      exact nm_tok (Or.inr (Or.inr (Or.inr ⟨a, b, c, a1, a2, b1, b2, g1, g2, rfl, rfl⟩)))
    · have em : m = 2 := by omega
      subst em
      have e1 : nw T i 2 = 65536 + 256 * a + b := by
        have w2 : nw T i 2 = nw T i 1 * 256 + b := w2
        have w1 : nw T i 1 = nw T i 0 * 256 + a := w1
        omega
      have e2 : valL T i 2 = nI (32 * (a - 96) + (b - 96)) := by
        refine Eq.trans v2 ?_
        congr 1
        omega
      rw [e1, e2, e3]
      exact nm_tok (Or.inr (Or.inr (Or.inl ⟨a, b, a1, a2, b1, b2, rfl, rfl⟩)))
  · have em : m = 1 := by omega
    subst em
    have e1 : nw T i 1 = 256 + a := by
      have w1 : nw T i 1 = nw T i 0 * 256 + a := w1
      omega
    have e2 : valL T i 1 = nI (a - 96) := by
      refine Eq.trans v1 ?_
      congr 1
      omega
    rw [e1, e2, e3]
    exact nm_tok (Or.inl ⟨a, a1, a2, rfl, rfl⟩)
theorem op_AW {T : Nat → Int32} {i a : Nat} (ha : a = 43 ∨ a = 42 ∨ a = 61 ∨ a = 60) (e : T i = nI a) : AW (nI (nw T i 1)) (65536 * 3 + (40000 + T i)) ∧ kd (65536 * 3 + (40000 + T i)) = 3 := by
  have w1 : nw T i 1 = nw T i 0 * 256 + a := nw_s (k := 0) e (by omega)
  have w0 : nw T i 0 = 1 := rfl
  have e1 : nw T i 1 = 256 + a := by omega
  have e2 : (65536 * 3 + (40000 + T i) : Int32) = nI (196608 + (40000 + a)) := by
    rw [e, show (65536 * 3 : Int32) = nI 196608 from by decide, show (40000 : Int32) = nI 40000 from rfl, nI_add, nI_add]
  rw [e1, e2]
  exact nm_tok (Or.inr (Or.inl ⟨a, ha, rfl, rfl⟩))
/-- the reader's state: n tokens stand, o brackets are open, the last kind is b -/
def RST (u : mS) (n o : Nat) (b : Int32) : Prop := RB u 480 (480 + n) ∧ u.1 3 = nI o ∧ o ≤ 8 ∧ dep (ra u) 480 n = (o : Int) ∧ (n = 0 → b = 0) ∧ (0 < n → b = kd (ra u (480 + n - 1)) ∧ ¬ b = 0)
def GD (u : mS) (len i n o : Nat) (b : Int32) (m : Nat) (w : mS) : Prop := ∃ (v x : Int32) (p : Nat), TK (u.2 0) len i m ∧ 1 ≤ m ∧ CD (u.2 0) i m v ∧ AW x v ∧ FIT (kd v) o b ∧ (p : Int) = o + sg v ∧ RB w 480 (480 + n + 1) ∧ FR [1, 2, 3] [1, 2, 3, 4] u w ∧ w.2 1 = upd (u.2 1) (480 + n) x ∧ w.2 2 = upd (u.2 2) (480 + n) 0 ∧ w.1 3 = nI p ∧ ∀ k, k < 480 → w.2 3 k = u.2 3 k ∧ w.2 4 k = u.2 4 k
def BD (T : Nat → Int32) (len i o : Nat) (b : Int32) : Prop := TK T len i 0 ∨ ∃ m v, TK T len i m ∧ 1 ≤ m ∧ CD T i m v ∧ ¬ FIT (kd v) o b
theorem RB_fr {u w : mS} {B t : Nat} (h : RB u B t) (h1 : w.1 1 = u.1 1) (h2 : w.1 2 = u.1 2) (h3 : w.2 1 = u.2 1) (h4 : w.2 3 = u.2 3) : RB w B t := by
  unfold RB
  rw [ra_fr h3, h1, h2, h3, h4]
  exact h
theorem addT {len i n o m : Nat} {b v x : Int32} {u : mS} {post : mS → Prop} (hS : RST u n o b) (hn : n ≤ 120) (hT : TK (u.2 0) len i m) (hm : 1 ≤ m) (hc : CD (u.2 0) i m v) (hw : AW x v) (hf : FIT (kd v) o b) (k1 : ¬ kd v = 1) (k2 : ¬ kd v = 2) (good : ∀ w, GD u len i n o b m w → post w) : wp_X5_add x 0 u post :=
  addA hS.1 (by omega) hw (fun q => absurd q k2) (fun w a1 a2 a3 a4 a5 a6 => good w ⟨v, x, o, hT, hm, hc, hw, hf, by rw [sg_else k1 k2]; omega, a1, a2.wk (by decide) (by decide), a3, a4, (a2.1 3 (by decide)).trans hS.2.1, fun k hk => ⟨a6 k (Or.inl hk), by rw [a5, pk_un (by omega)]⟩⟩)
theorem tokA {len i n o : Nat} {b : Int32} {u : mS} {post : Int32 → mS → Prop} (hS : RST u n o b) (hlen : len ≤ 120) (hi : i < len) (hn : n ≤ i) (bad : BD (u.2 0) len i o b → post 0 u) (good : ∀ m w, GD u len i n o b m w → post (nI m) w) : wp_X3_readToken_1 (nI len) (nI i) u post := by
  obtain ⟨hB, hd, ho, hdep, hb0, hb1⟩ := id hS
  have hT := hB.1
  intro y1 e1
  rw [hd] at e1; subst e1
  -- a token where the tree is whole already
  have whole : o = 0 → 0 < n → post 0 u := by
    intro q1 q2
    refine bad ?_
    obtain ⟨m, hm⟩ := TK_ex (u.2 0) hi
    rcases Nat.eq_zero_or_pos m with z | z
    · subst z; exact Or.inl hm
    · obtain ⟨v, hv⟩ := CD_ex (u.2 0) i m
      refine Or.inr ⟨m, v, hm, z, hv, ?_⟩
      have nb := (hb1 q2).2
      rintro (⟨_, q, _⟩ | ⟨_, q⟩ | ⟨_, q, _⟩ | ⟨_, _, _, q⟩)
      · rcases q with q | q
        · omega
        · exact nb q
      · omega
      · omega
      · rcases q with q | q
        · omega
        · exact nb q
  have main : (0 < o ∨ b = 0) → ((¬ (0 : Int32) = 0) → post 0 u) ∧ (((0 : Int32) = 0) → ((nI i < 0) → post 0 u) ∧ ((¬ nI i < 0) → ((nI i < (120 : Int32)) → vp_in (nI i) 120 ∧ ∀ y6 : Int32, y6 = u.2 0 (nI i).toNatClampNeg → ((y6 < (97 : Int32)) → wj_X3_readToken_1_55 post (nI len) (nI i) y6 u) ∧ ((¬ y6 < (97 : Int32)) → (((122 : Int32) < y6) → wj_X3_readToken_1_55 post (nI len) (nI i) y6 u) ∧ ((¬ (122 : Int32) < y6) → wp_X3_runLength_1 (nI len) (nI i) (97 : Int32) (122 : Int32) u (fun r9 u10 => wp_X3_readName_1 (nI i) r9 u10 (fun r11 u12 => post r11 u12))))) ∧ ((¬ nI i < (120 : Int32)) → post 0 u))) := by
    intro hob
    refine ⟨fun h => absurd rfl h, fun _ => ⟨fun h => absurd h (nI_pos (by omega)), fun _ => ⟨fun _ => ⟨vp_in_nI (by omega) (by omega), ?_⟩, fun h => absurd (by rw [show (120 : Int32) = nI 120 from rfl, nI_ltI (by omega) (by omega)]; omega) h⟩⟩⟩
    intro y6 e6
    rw [nI_clamp (by omega)] at e6; subst e6
    have fitA : ∀ k : Int32, ¬ k = 1 → ¬ k = 2 → ¬ k = 6 → FIT k o b := fun k q1 q2 q3 => Or.inr (Or.inr (Or.inr ⟨q1, q2, q3, hob⟩))
    have s86 : ¬ cL (u.2 0 i) → ¬ cD (u.2 0 i) → wj_X3_readToken_1_86 post (nI len) (nI i) (u.2 0 i) u := by
      intro nL nD
      have tk1 : ¬ u.2 0 i = 46 → (u.2 0 i = 40 ∨ u.2 0 i = 41 ∨ u.2 0 i = 95 ∨ u.2 0 i = 43 ∨ u.2 0 i = 42 ∨ u.2 0 i = 61 ∨ u.2 0 i = 60) → TK (u.2 0) len i 1 := fun q1 q2 => Or.inr (Or.inr (Or.inr ⟨nL, nD, q1, by rw [if_pos q2]⟩))
      have opr : ∀ a : Nat, (a = 43 ∨ a = 42 ∨ a = 61 ∨ a = 60) → u.2 0 i = nI a → wp_X3_readName_1 (nI i) (1 : Int32) u (fun r w => post r w) := by
        intro a ha e
        have n40 : ∀ c : Nat, c < 200 → ¬ a = c → ¬ u.2 0 i = nI c := by
          intro c hc hac q
          rw [e, nI_eq (by omega) (by omega)] at q
          exact hac q
        have m46 := n40 46 (by omega) (by omega)
        obtain ⟨q1, q2⟩ := op_AW (T := u.2 0) (i := i) ha e
        refine readName_ok (m := 1) (by omega) (by omega) (fun k hk => ⟨a, ?_, by omega⟩) ?_
        · have : k = 0 := by omega
          subst this; exact e
        · refine addT hS (by omega) (tk1 m46 ?_) (Nat.le_refl 1) (Or.inr (Or.inr (Or.inr (Or.inr (Or.inr (Or.inr ⟨nD, nL, n40 40 (by omega) (by omega), n40 41 (by omega) (by omega), n40 95 (by omega) (by omega), m46, rfl⟩)))))) q1 (fitA _ (by rw [q2]; decide) (by rw [q2]; decide) (by rw [q2]; decide)) (by rw [q2]; decide) (by rw [q2]; decide) (fun w hw => good 1 w hw)
          rcases ha with z | z | z | z
          · subst z; exact Or.inr (Or.inr (Or.inr (Or.inl e)))
          · subst z; exact Or.inr (Or.inr (Or.inr (Or.inr (Or.inl e))))
          · subst z; exact Or.inr (Or.inr (Or.inr (Or.inr (Or.inr (Or.inl e)))))
          · subst z; exact Or.inr (Or.inr (Or.inr (Or.inr (Or.inr (Or.inr e)))))
      refine ⟨fun e => ?_, fun e => ?_, fun e => opr 42 (by omega) e, fun e => opr 43 (by omega) e, fun e => ?_, fun e => opr 60 (by omega) e, fun e => opr 61 (by omega) e, fun e => ?_, fun a1 a2 a3 a4 a5 a6 a7 a8 => bad (Or.inl (Or.inr (Or.inr (Or.inr ⟨nL, nD, a5, ?_⟩))))⟩
      · -- (
        have tk := tk1 (by rw [e]; decide) (Or.inl e)
        have cd : CD (u.2 0) i 1 65536 := Or.inl ⟨e, rfl⟩
        have hw : AW (-1) (65536 : Int32) := Or.inl ⟨rfl, rfl⟩
        have k1 : kd (65536 : Int32) = 1 := (AW_1 hw).mp rfl
        intro y1 e1
        rw [hd] at e1; subst e1
        refine ⟨fun h8 => ?_, fun h8 => bad (Or.inr ⟨1, _, tk, Nat.le_refl 1, cd, ?_⟩)⟩
        · have h8 : nI o < nI 8 := h8
          rw [nI_ltI (by omega) (by omega)] at h8
          intro y3 e3
          rw [hd] at e3; subst e3
          rintro _ rfl u5 rfl
          rw [nI_1]
          refine addA (c := 65536) (RB_fr hB (mSet_other (by decide)) (mSet_other (by decide)) rfl rfl) (by omega) hw (fun q => absurd (k1.symm.trans q) (by decide)) (fun w a1 a2 a3 a4 a5 a6 => good 1 w ⟨65536, -1, o + 1, tk, Nat.le_refl 1, cd, hw, Or.inl ⟨k1, hob, by omega⟩, by rw [sg_open k1]; omega, a1, ?_, a3, a4, ?_, fun k hk => ⟨a6 k (Or.inl hk), ?_⟩⟩)
          · exact FR.tr (FR_set FR.rf (by decide)) (a2.wk (by decide) (by decide))
          · exact (a2.1 3 (by decide)).trans (mSet_same _ _ _)
          · rw [a5, pk_un (by omega)]; rfl
        · have h8 : ¬ nI o < nI 8 := h8
          rw [nI_ltI (by omega) (by omega)] at h8
          rw [k1]
          rintro (⟨_, _, q⟩ | ⟨q, _⟩ | ⟨q, _⟩ | ⟨q, _⟩)
          · omega
          · exact absurd q (by decide)
          · exact absurd q (by decide)
          · exact q rfl
      · -- )
        have tk := tk1 (by rw [e]; decide) (Or.inr (Or.inl e))
        have cd : CD (u.2 0) i 1 131072 := Or.inr (Or.inl ⟨e, rfl⟩)
        have hw : AW (-2) (131072 : Int32) := Or.inr (Or.inl ⟨rfl, rfl⟩)
        have k2 : kd (131072 : Int32) = 2 := (AW_2 hw).mp rfl
        intro y1 e1
        rw [hd] at e1; subst e1
        refine ⟨fun h8 => ?_, fun h8 => bad (Or.inr ⟨1, _, tk, Nat.le_refl 1, cd, ?_⟩)⟩
        · have h8 : nI 0 < nI o := h8
          rw [nI_ltI (by omega) (by omega)] at h8
          intro y3 e3
          rw [hd] at e3; subst e3
          rintro _ rfl u5 rfl
          obtain ⟨o', rfl⟩ : ∃ o', o = o' + 1 := ⟨o - 1, by omega⟩
          rw [nI_pred]
          have er : ra (mSet u 3 (nI o')) = ra u := ra_fr rfl
          refine addA (c := 131072) (RB_fr hB (mSet_other (by decide)) (mSet_other (by decide)) rfl rfl) (by omega) hw (fun _ => ?_) (fun w a1 a2 a3 a4 a5 a6 => good 1 w ⟨131072, -2, o', tk, Nat.le_refl 1, cd, hw, Or.inr (Or.inl ⟨k2, by omega⟩), by rw [sg_close k2]; omega, a1, ?_, a3, a4, ?_, fun k hk => ⟨a6 k (Or.inl hk), ?_⟩⟩)
          · have n0 : 0 < n := by
              rcases Nat.eq_zero_or_pos n with z | z
              · subst z
                have : dep (ra u) 480 0 = 0 := rfl
                omega
              · exact z
            obtain ⟨k, q1, q2, q3, q4⟩ := open_ex (r := ra u) (e := 480) (L := n) n 0 (by omega) n0 (by show (0 : Int) < _; omega)
            rw [er]
            exact ⟨k, by omega, q2, q3, q4⟩
          · exact FR.tr (FR_set FR.rf (by decide)) (a2.wk (by decide) (by decide))
          · exact (a2.1 3 (by decide)).trans (mSet_same _ _ _)
          · rw [a5, pk_un (by omega)]; rfl
        · have h8 : ¬ nI 0 < nI o := h8
          rw [nI_ltI (by omega) (by omega)] at h8
          rw [k2]
          rintro (⟨q, _⟩ | ⟨_, q⟩ | ⟨q, _⟩ | ⟨_, q, _⟩)
          · exact absurd q (by decide)
          · omega
          · exact absurd q (by decide)
          · exact q rfl
      · -- ..
        have hw : AW (-3) (393216 : Int32) := Or.inr (Or.inr (Or.inl ⟨rfl, rfl⟩))
        have k6 : kd (393216 : Int32) = 6 := (AW_6 hw).mp rfl
        have cd : CD (u.2 0) i 2 393216 := Or.inr (Or.inr (Or.inr (Or.inl ⟨e, rfl⟩)))
        refine runLen_ok (P := fun c => c = 46) (fun c => ⟨fun q => by subst q; decide, fun q => Int32.le_antisymm q.2 (Int32.not_lt.mp q.1)⟩) hlen (by omega) (fun m hm => ?_)
        obtain ⟨m1, m2, m3⟩ := hm
        have m0 : 1 ≤ m := by
          rcases Nat.eq_zero_or_pos m with z | z
          · subst z
            exact absurd e (m3 (by omega))
          · exact z
        intro y1 e1
        rw [hT] at e1; subst e1
        rintro _ rfl
        rw [show (480 + n : Nat) = 479 + n + 1 from by omega, nI_pred]
        refine wordAt_ok hT (by omega) (by omega) ⟨fun h2 => bad (Or.inl (Or.inr (Or.inr (Or.inl ⟨nL, nD, e, ?_⟩)))), fun h2 => ?_⟩
        · have h2 : nI m < nI 2 := h2
          rw [nI_ltI (by omega) (by omega)] at h2
          rw [if_neg]
          unfold lk
          by_cases c : i + 1 < len
          · rw [if_pos c]
            have := m3 (by omega)
            rw [show i + m = i + 1 from by omega] at this
            exact this
          · rw [if_neg c]; decide
        · have h2 : ¬ nI m < nI 2 := h2
          rw [nI_ltI (by omega) (by omega)] at h2
          have tk : TK (u.2 0) len i 2 := by
            refine Or.inr (Or.inr (Or.inl ⟨nL, nD, e, ?_⟩))
            rw [if_pos]
            unfold lk
            rw [if_pos (by omega)]
            exact m2 1 (by omega)
          intro y6 e6
          rw [hd] at e6; subst e6
          refine ⟨fun h0 => bad (Or.inr ⟨2, _, tk, by omega, cd, ?_⟩), fun h0 => ?_⟩
          · have h0 : nI o = nI 0 := h0
            rw [nI_eq (by omega) (by omega)] at h0
            rw [k6]
            rintro (⟨q, _⟩ | ⟨q, _⟩ | ⟨_, q, _⟩ | ⟨_, _, q, _⟩)
            · exact absurd q (by decide)
            · exact absurd q (by decide)
            · omega
            · exact q rfl
          · have h0 : ¬ nI o = nI 0 := h0
            rw [nI_eq (by omega) (by omega)] at h0
            have n0 : 0 < n := by
              rcases Nat.eq_zero_or_pos n with z | z
              · subst z
                have : dep (ra u) 480 0 = 0 := rfl
                omega
              · exact z
            have eb := (hb1 n0).1
            rw [show 480 + n - 1 = 479 + n from by omega] at eb
            have hwl := hB.2.2.2.1 (479 + n) (by omega) (by omega)
            refine ⟨fun h1 => bad (Or.inr ⟨2, _, tk, by omega, cd, ?_⟩), fun h1 => ⟨fun h3 => ?_, fun h3 => bad (Or.inr ⟨2, _, tk, by omega, cd, ?_⟩)⟩⟩
            · rw [k6]
              rintro (⟨q, _⟩ | ⟨q, _⟩ | ⟨_, _, q, _⟩ | ⟨_, _, q, _⟩)
              · exact absurd q (by decide)
              · exact absurd q (by decide)
              · exact q (eb.trans ((AW_1 hwl).mp h1))
              · exact q rfl
            · refine addT hS (by omega) tk (by omega) cd hw (Or.inr (Or.inr (Or.inl ⟨k6, by omega, fun q => h1 ((AW_1 hwl).mpr (eb.symm.trans q)), fun q => h3 ((AW_6 hwl).mpr (eb.symm.trans q))⟩))) (by rw [k6]; decide) (by rw [k6]; decide) (fun w hw2 => good 2 w hw2)
            · rw [k6]
              rintro (⟨q, _⟩ | ⟨q, _⟩ | ⟨_, _, _, q⟩ | ⟨_, _, q, _⟩)
              · exact absurd q (by decide)
              · exact absurd q (by decide)
              · exact q (eb.trans ((AW_6 hwl).mp h3))
              · exact q rfl
      · -- _
        have hw : AW (-4) (327680 : Int32) := Or.inr (Or.inr (Or.inr (Or.inl ⟨rfl, rfl⟩)))
        have k5 : kd (327680 : Int32) = 5 := (AW_5 hw).mp rfl
        exact addT hS (by omega) (tk1 (by rw [e]; decide) (Or.inr (Or.inr (Or.inl e)))) (Nat.le_refl 1) (Or.inr (Or.inr (Or.inl ⟨e, rfl⟩))) hw (fitA _ (by rw [k5]; decide) (by rw [k5]; decide) (by rw [k5]; decide)) (by rw [k5]; decide) (by rw [k5]; decide) (fun w hw2 => good 1 w hw2)
      · rw [if_neg]
        rintro (q | q | q | q | q | q | q)
        · exact a1 q
        · exact a2 q
        · exact a8 q
        · exact a4 q
        · exact a3 q
        · exact a7 q
        · exact a6 q
    have s55 : ¬ cL (u.2 0 i) → wj_X3_readToken_1_55 post (nI len) (nI i) (u.2 0 i) u := by
      intro nL
      refine ⟨fun c => s86 nL (fun q => q.1 c), fun c => ⟨fun c2 => s86 nL (fun q => q.2 c2), fun c2 => ?_⟩⟩
      have hD : cD (u.2 0 i) := ⟨c, c2⟩
      refine runLen_ok (P := cD) (fun c => ⟨fun q => ⟨q.1, Int32.not_lt.mp q.2⟩, fun q => ⟨q.1, Int32.not_lt.mpr q.2⟩⟩) hlen (by omega) (fun m hm => ?_)
      have m1 := hm.1
      have m0 : 1 ≤ m := by
        rcases Nat.eq_zero_or_pos m with z | z
        · subst z
          exact absurd hD (hm.2.2 (by omega))
        · exact z
      by_cases g : m = 1 ∨ (m = 2 ∧ ¬ u.2 0 i = 48)
      · obtain ⟨q1, q2⟩ := num_AW (T := u.2 0) (i := i) (m := m) (by omega) hm.2.1
        refine readNum_ok (by omega) (by omega) (by omega) (fun z => ?_) ?_
        · rcases g with q | q
          · omega
          · exact q.2
        · exact addT hS (by omega) (Or.inr (Or.inl ⟨nL, hD, m, hm, by rw [if_pos g]⟩)) m0 (Or.inr (Or.inr (Or.inr (Or.inr (Or.inl ⟨hD, rfl⟩))))) q1 (fitA _ (by rw [q2]; decide) (by rw [q2]; decide) (by rw [q2]; decide)) (by rw [q2]; decide) (by rw [q2]; decide) (fun w hw => good m w hw)
      · refine readNum_bad (by omega) (by omega) ?_ (bad (Or.inl (Or.inr (Or.inl ⟨nL, hD, m, hm, by rw [if_neg g]⟩))))
        by_cases z : u.2 0 i = 48
        · rcases Nat.lt_or_ge 2 m with y | y
          · exact Or.inl y
          · refine Or.inr ⟨?_, z⟩
            have : ¬ m = 1 := fun q => g (Or.inl q)
            omega
        · refine Or.inl ?_
          have : ¬ m = 1 := fun q => g (Or.inl q)
          have : ¬ m = 2 := fun q => g (Or.inr ⟨q, z⟩)
          omega
    refine ⟨fun c => s55 (fun q => q.1 c), fun c => ⟨fun c2 => s55 (fun q => q.2 c2), fun c2 => ?_⟩⟩
    have hL : cL (u.2 0 i) := ⟨c, c2⟩
    refine runLen_ok (P := cL) (fun c => ⟨fun q => ⟨q.1, Int32.not_lt.mp q.2⟩, fun q => ⟨q.1, Int32.not_lt.mpr q.2⟩⟩) hlen (by omega) (fun m hm => ?_)
    have m1 := hm.1
    have m0 : 1 ≤ m := by
      rcases Nat.eq_zero_or_pos m with z | z
      · subst z
        exact absurd hL (hm.2.2 (by omega))
      · exact z
    rcases Nat.lt_or_ge 3 m with z | z
    · refine ⟨fun h => absurd h (by rw [show (3 : Int32) = nI 3 from rfl, nI_leI (by omega) (by omega)]; omega), fun _ => bad (Or.inl (Or.inl ⟨hL, m, hm, by rw [if_neg (by omega)]⟩))⟩
    · obtain ⟨q1, q2⟩ := nam_AW (T := u.2 0) (i := i) m0 z hm.2.1
      refine readName_ok z (by omega) (fun k hk => ?_) ?_
      · obtain ⟨a, ea, _, _⟩ := cL_nI (hm.2.1 k hk)
        exact ⟨a, ea, by omega⟩
      · exact addT hS (by omega) (Or.inl ⟨hL, m, hm, by rw [if_pos z]⟩) m0 (Or.inr (Or.inr (Or.inr (Or.inr (Or.inr (Or.inl ⟨hL, rfl⟩)))))) q1 (fitA _ (by rw [q2]; decide) (by rw [q2]; decide) (by rw [q2]; decide)) (by rw [q2]; decide) (by rw [q2]; decide) (fun w hw => good m w hw)
  refine ⟨fun h0 => main (Or.inl ?_), fun h0 => ?_⟩
  · have h0 : ¬ nI o = nI 0 := h0
    rw [nI_eq (by omega) (by omega)] at h0
    omega
  · have h0 : nI o = nI 0 := h0
    rw [nI_eq (by omega) (by omega)] at h0
    intro y3 e3
    rw [hT] at e3; subst e3
    refine ⟨fun h => main (Or.inr (hb0 ?_)), fun h => ⟨fun _ => whole h0 ?_, fun q => absurd q (by decide)⟩⟩
    · have h : nI (480 + n) ≤ nI 480 := h
      rw [nI_leI (by omega) (by omega)] at h
      omega
    · have h : ¬ nI (480 + n) ≤ nI 480 := h
      rw [nI_leI (by omega) (by omega)] at h
      omega
