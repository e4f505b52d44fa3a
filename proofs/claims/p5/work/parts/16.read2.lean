-- 16: the tokens that are read, and the row that a text becomes
def valL (T : Nat → Int32) (i : Nat) : Nat → Int32
  | 0 => 0
  | k + 1 => (32 * valL T i k + T (i + k)) - 96
def valD (T : Nat → Int32) (i : Nat) : Nat → Int32
  | 0 => 0
  | k + 1 => (10 * valD T i k + T (i + k)) - 48
theorem cL_nI {c : Int32} (h : cL c) : ∃ a : Nat, c = nI a ∧ 97 ≤ a ∧ a ≤ 122 := by
  obtain ⟨h1, h2⟩ := h
  have a := Int32.not_lt.mp h1
  have b := Int32.not_lt.mp h2
  rw [Int32.le_iff_toInt_le] at a b
  have a : (97 : Int) ≤ c.toInt := a
  have b : c.toInt ≤ (122 : Int) := b
  refine ⟨c.toInt.toNat, ?_, by omega, by omega⟩
  apply Int32.toInt_inj.mp
  rw [nI_toInt (by omega)]
  omega
theorem cD_nI {c : Int32} (h : cD c) : ∃ a : Nat, c = nI a ∧ 48 ≤ a ∧ a ≤ 57 := by
  obtain ⟨h1, h2⟩ := h
  have a := Int32.not_lt.mp h1
  have b := Int32.not_lt.mp h2
  rw [Int32.le_iff_toInt_le] at a b
  have a : (48 : Int) ≤ c.toInt := a
  have b : c.toInt ≤ (57 : Int) := b
  refine ⟨c.toInt.toNat, ?_, by omega, by omega⟩
  apply Int32.toInt_inj.mp
  rw [nI_toInt (by omega)]
  omega
theorem valL_bd {T : Nat → Int32} {i : Nat} : ∀ m, (∀ k, k < m → cL (T (i + k))) → ∃ a : Nat, valL T i m = nI a ∧ a < 32 ^ m := by
  intro m
  induction m with
  | zero => intro _; exact ⟨0, rfl, by decide⟩
  | succ m ih =>
    intro h
    obtain ⟨a, e, ha⟩ := ih (fun k hk => h k (by omega))
    obtain ⟨c, ec, c1, c2⟩ := cL_nI (h m (by omega))
    refine ⟨32 * a + c - 96, ?_, ?_⟩
    · show (32 * valL T i m + T (i + m)) - 96 = _
      rw [e, ec, show (32 : Int32) = nI 32 from rfl, pk_mul, nI_add, show (96 : Int32) = nI 96 from rfl, pk_sub (by omega)]
    · rw [Nat.pow_succ]; omega
theorem valD_bd {T : Nat → Int32} {i : Nat} : ∀ m, (∀ k, k < m → cD (T (i + k))) → ∃ a : Nat, valD T i m = nI a ∧ a < 10 ^ m := by
  intro m
  induction m with
  | zero => intro _; exact ⟨0, rfl, by decide⟩
  | succ m ih =>
    intro h
    obtain ⟨a, e, ha⟩ := ih (fun k hk => h k (by omega))
    obtain ⟨c, ec, c1, c2⟩ := cD_nI (h m (by omega))
    refine ⟨10 * a + c - 48, ?_, ?_⟩
    · show (10 * valD T i m + T (i + m)) - 48 = _
      rw [e, ec, show (10 : Int32) = nI 10 from rfl, pk_mul, nI_add, show (48 : Int32) = nI 48 from rfl, pk_sub (by omega)]
    · rw [Nat.pow_succ]; omega
theorem kd_nI {x : Nat} (h : x < 2 ^ 31) : kd (nI x) = nI (x / 65536) := by
  unfold kd
  rw [show (65536 : Int32) = nI 65536 from rfl, pk_div h (by omega) (by omega)]
theorem kd_tok {k a : Nat} (hk : k < 16) (ha : a < 65536) : kd (65536 * nI k + nI a) = nI k := by
  rw [show (65536 : Int32) = nI 65536 from rfl, pk_mul, nI_add, kd_nI (by omega)]
  congr 1
  omega
theorem code_ok {i len m : Nat} {u : mS} {post : Int32 → mS → Prop} (hl : u.1 0 = nI len) (hlen : len ≤ 120) (hm : 1 ≤ m) (him : i + m ≤ len) (h1 : u.2 0 i = 40 → post 65536 u) (h2 : u.2 0 i = 41 → post 131072 u) (h3 : u.2 0 i = 95 → post 327680 u) (h4 : u.2 0 i = 46 → post 393216 u) (hD : cD (u.2 0 i) → post (65536 * 4 + valD (u.2 0) i m) u) (hL : ¬ cD (u.2 0 i) → cL (u.2 0 i) → post (65536 * 3 + valL (u.2 0) i m) u) (hO : ¬ cD (u.2 0 i) → ¬ cL (u.2 0 i) → post (65536 * 3 + (40000 + u.2 0 i)) u) : wp_X9_code (nI i) (nI m) u post := by
  have el : lk (u.2 0) len i = u.2 0 i := by unfold lk; rw [if_pos (by omega)]
  have key : ∀ (d k : Nat) (x4 : Int32), k + d = m → (cD (u.2 0 i) → x4 = valD (u.2 0) i k) → (¬ cD (u.2 0 i) → cL (u.2 0 i) → x4 = valL (u.2 0) i k) → (¬ cD (u.2 0 i) → ¬ cL (u.2 0 i) → 0 < k → x4 = 40000 + u.2 0 i) → mL6 (fun K => wj_X9_code_48 K post) (d + 1) (nI i) (nI m) (u.2 0 i) x4 (nI (i + k)) u := by
    intro d
    induction d with
    | zero =>
      intro k x4 hk a1 a2 a3
      have hk : k = m := by omega
      subst hk
      show wj_X9_code_48 _ post _ _ _ _ _ u
      rintro _ rfl
      rw [nI_add]
      refine ⟨fun _ => ?_, fun h => absurd (Int32.le_refl _) h⟩
      refine isDigit_ok (fun hd => ⟨fun q => absurd q (by decide), fun _ => ?_⟩) (fun hd => ⟨fun _ => ?_, fun q => absurd rfl q⟩)
      · rintro _ rfl _ rfl
        rw [a1 hd]; exact hD hd
      · rintro _ rfl _ rfl
        by_cases hl2 : cL (u.2 0 i)
        · rw [a2 hd hl2]; exact hL hd hl2
        · rw [a3 hd hl2 (by omega)]; exact hO hd hl2
    | succ d ih =>
      intro k x4 hk a1 a2 a3
      have e2 : lk (u.2 0) len (i + k) = u.2 0 (i + k) := by unfold lk; rw [if_pos (by omega)]
      have go : ∀ z : Int32, (cD (u.2 0 i) → z = valD (u.2 0) i (k + 1)) → (¬ cD (u.2 0 i) → cL (u.2 0 i) → z = valL (u.2 0) i (k + 1)) → (¬ cD (u.2 0 i) → ¬ cL (u.2 0 i) → z = 40000 + u.2 0 i) → wj_X9_code_110 (mL6 (fun K => wj_X9_code_48 K post) (d + 1)) post (nI i) (nI m) (u.2 0 i) (nI (i + k)) z u := by
        intro z b1 b2 b3
        rintro _ rfl
        rw [nI_1]
        exact ih (k + 1) z (by omega) b1 b2 (fun q1 q2 _ => b3 q1 q2)
      show wj_X9_code_48 _ post _ _ _ _ _ u
      rintro _ rfl
      rw [nI_add]
      refine ⟨fun h => absurd h (by rw [nI_leI (by omega) (by omega)]; omega), fun _ => ?_⟩
      refine isDigit_ok (fun hd => ⟨fun q => absurd q (by decide), fun _ => ?_⟩) (fun hd => ⟨fun _ => ?_, fun q => absurd rfl q⟩)
      · rintro _ rfl
        refine look_ok hl hlen (by omega) ?_
        rw [e2]
        rintro _ rfl _ rfl
        exact go _ (fun _ => by rw [a1 hd]; rfl) (fun q => absurd hd q) (fun q => absurd hd q)
      · refine isLetter_ok (fun hl2 => ⟨fun q => absurd q (by decide), fun _ => ?_⟩) (fun hl2 => ⟨fun _ => ?_, fun q => absurd rfl q⟩)
        · rintro _ rfl
          refine look_ok hl hlen (by omega) ?_
          rw [e2]
          rintro _ rfl _ rfl
          exact go _ (fun q => absurd q hd) (fun _ _ => by rw [a2 hd hl2]; rfl) (fun _ q => absurd hl2 q)
        · rintro _ rfl
          exact go _ (fun q => absurd q hd) (fun _ q => absurd q hl2) (fun _ _ => rfl)
  refine look_ok hl hlen (by omega) ?_
  rw [el]
  refine ⟨fun b1 => ⟨fun b2 => ⟨fun b3 => ⟨fun b4 => ?_, h4⟩, h3⟩, h2⟩, h1⟩
  refine ⟨m + 1, ?_⟩
  exact key m 0 0 (by omega) (fun _ => rfl) (fun _ _ => rfl) (fun _ _ h => by omega)
/-- a token of a text: its kind is one of 1 to 6 -/
def TOK (x : Int32) : Prop := ∃ k a : Nat, 1 ≤ k ∧ k ≤ 6 ∧ a < 65536 ∧ x = nI (65536 * k + a)
theorem TOK_kd {x : Int32} (h : TOK x) : ∃ k : Nat, 1 ≤ k ∧ k ≤ 6 ∧ kd x = nI k := by
  obtain ⟨k, a, h1, h2, h3, rfl⟩ := h
  refine ⟨k, h1, h2, ?_⟩
  rw [kd_nI (by omega)]
  congr 1
  omega
theorem TOK_mk {k a : Nat} (h1 : 1 ≤ k) (h2 : k ≤ 6) (h3 : a < 65536) : TOK (65536 * nI k + nI a) := ⟨k, a, h1, h2, h3, by rw [show (65536 : Int32) = nI 65536 from rfl, pk_mul, nI_add]⟩
theorem code_tok {i len m : Nat} {u : mS} {post : Int32 → mS → Prop} (hl : u.1 0 = nI len) (hlen : len ≤ 120) (hi : i < len) (hm : 1 ≤ m) (hT : TK (u.2 0) len i m) (hp : ∀ v, TOK v → post v u) : wp_X9_code (nI i) (nI m) u post := by
  have hb := TK_len hi hT
  refine code_ok hl hlen hm (by omega) (fun _ => hp _ ⟨1, 0, by omega, by omega, by omega, rfl⟩) (fun _ => hp _ ⟨2, 0, by omega, by omega, by omega, rfl⟩) (fun _ => hp _ ⟨5, 0, by omega, by omega, by omega, rfl⟩) (fun _ => hp _ ⟨6, 0, by omega, by omega, by omega, rfl⟩) (fun hd => ?_) (fun hd hl2 => ?_) (fun hd hl2 => ?_)
  · rcases hT with ⟨a, -⟩ | ⟨_, _, n, hn, e⟩ | ⟨_, a, -⟩ | ⟨_, a, -⟩
    · exfalso
      obtain ⟨x, e1, e2, e3⟩ := cL_nI a
      obtain ⟨y, f1, f2, f3⟩ := cD_nI hd
      have := (nI_eq (by omega) (by omega)).mp (e1.symm.trans f1)
      omega
    · have hmn : m = n ∧ n ≤ 2 := by
        by_cases c : n = 1 ∨ (n = 2 ∧ ¬ u.2 0 i = 48)
        · rw [if_pos c] at e; omega
        · rw [if_neg c] at e; omega
      obtain ⟨e1, e2⟩ := hmn
      subst e1
      obtain ⟨a, ea, ha⟩ := valD_bd (T := u.2 0) (i := i) m hn.2.1
      have : 10 ^ m ≤ 10 ^ 2 := Nat.pow_le_pow_right (by omega) e2
      rw [ea, show (4 : Int32) = nI 4 from rfl]
      exact hp _ (TOK_mk (by omega) (by omega) (by omega))
    · exact absurd hd a
    · exact absurd hd a
  · rcases hT with ⟨_, n, hn, e⟩ | ⟨a, -⟩ | ⟨a, -⟩ | ⟨a, -⟩
    · have hmn : m = n ∧ n ≤ 3 := by
        by_cases c : n ≤ 3
        · rw [if_pos c] at e; omega
        · rw [if_neg c] at e; omega
      obtain ⟨e1, e2⟩ := hmn
      subst e1
      obtain ⟨a, ea, ha⟩ := valL_bd (T := u.2 0) (i := i) m hn.2.1
      have : 32 ^ m ≤ 32 ^ 3 := Nat.pow_le_pow_right (by omega) e2
      rw [ea, show (3 : Int32) = nI 3 from rfl]
      exact hp _ (TOK_mk (by omega) (by omega) (by omega))
    · exact absurd hl2 a
    · exact absurd hl2 a
    · exact absurd hl2 a
  · rcases hT with ⟨a, -⟩ | ⟨_, a, -⟩ | ⟨_, _, a, -⟩ | ⟨_, _, _, e⟩
    · exact absurd a hl2
    · exact absurd a hd
    · rw [a]
      exact hp _ (TOK_mk (k := 3) (a := 40046) (by omega) (by omega) (by omega))
    · by_cases c : u.2 0 i = 40 ∨ u.2 0 i = 41 ∨ u.2 0 i = 95 ∨ u.2 0 i = 43 ∨ u.2 0 i = 42 ∨ u.2 0 i = 61 ∨ u.2 0 i = 60
      · have ex : ∃ z : Nat, u.2 0 i = nI z ∧ z ≤ 95 := by
          rcases c with c | c | c | c | c | c | c
          · exact ⟨40, c, by omega⟩
          · exact ⟨41, c, by omega⟩
          · exact ⟨95, c, by omega⟩
          · exact ⟨43, c, by omega⟩
          · exact ⟨42, c, by omega⟩
          · exact ⟨61, c, by omega⟩
          · exact ⟨60, c, by omega⟩
        obtain ⟨z, ez, hz⟩ := ex
        rw [ez, show (40000 : Int32) = nI 40000 from rfl, nI_add, show (3 : Int32) = nI 3 from rfl]
        exact hp _ (TOK_mk (by omega) (by omega) (by omega))
      · rw [if_neg c] at e; omega
/-- whether a token of that kind may stand behind what was read: o brackets are open, the last kind is b (0: none yet) -/
def FIT (k : Int32) (o : Nat) (b : Int32) : Prop := (k = 1 ∧ (0 < o ∨ b = 0) ∧ o ≤ 7) ∨ (k = 2 ∧ 0 < o) ∨ (k = 6 ∧ 0 < o ∧ ¬ b = 1 ∧ ¬ b = 6) ∨ (¬ k = 1 ∧ ¬ k = 2 ∧ ¬ k = 6 ∧ (0 < o ∨ b = 0))
theorem fits_ok {k b : Int32} {o : Nat} {u : mS} {post : Int32 → mS → Prop} (ho : o < 2 ^ 30) (h1 : FIT k o b → post 1 u) (h0 : ¬ FIT k o b → post 0 u) : wp_X9_fits k (nI o) b u post := by
  have eo : (0 < nI o) ↔ 0 < o := by rw [show (0 : Int32) = nI 0 from rfl, nI_ltI (by omega) (by omega)]
  have eo2 : (nI o ≤ 0) ↔ o = 0 := by rw [show (0 : Int32) = nI 0 from rfl, nI_leI (by omega) (by omega)]; omega
  have e7 : (7 < nI o) ↔ 7 < o := by rw [show (7 : Int32) = nI 7 from rfl, nI_ltI (by omega) (by omega)]
  have main : ∀ z0 : Int32, (z0 = 0 ↔ b = 0) → wj_X9_fits_9 post k (nI o) b z0 u := by
    intro z0 hz
    have f23 : k = 1 → (0 < o ∨ b = 0) → wj_X9_fits_23 post (nI o) u := by
      intro hk hc
      refine ⟨fun h => h0 ?_, fun h => h1 (Or.inl ⟨hk, hc, ?_⟩)⟩
      · have := e7.mp h
        rintro (⟨_, _, q⟩ | ⟨q, _⟩ | ⟨q, _⟩ | ⟨q, _⟩)
        · omega
        · rw [hk] at q; exact absurd q (by decide)
        · rw [hk] at q; exact absurd q (by decide)
        · exact q hk
      · have : ¬ 7 < o := fun q => h (e7.mpr q)
        omega
    refine ⟨fun k1 => ⟨fun k2 => ⟨fun k6 => ⟨fun ho1 => h1 (Or.inr (Or.inr (Or.inr ⟨k1, k2, k6, Or.inl (eo.mp ho1)⟩))), fun ho1 => ⟨fun hz0 => h0 ?_, fun hz0 => h1 (Or.inr (Or.inr (Or.inr ⟨k1, k2, k6, Or.inr (hz.mp hz0)⟩)))⟩⟩, fun k6 => ⟨fun ho1 => h0 ?_, fun ho1 => ⟨fun hb1 => h0 ?_, fun hb1 => ⟨fun hb6 => h0 ?_, fun hb6 => h1 (Or.inr (Or.inr (Or.inl ⟨k6, ?_, hb1, hb6⟩)))⟩⟩⟩⟩, fun k2 => ⟨fun ho1 => h0 ?_, fun ho1 => h1 (Or.inr (Or.inl ⟨k2, ?_⟩))⟩⟩, fun k1 => ⟨fun ho1 => f23 k1 (Or.inl (eo.mp ho1)), fun ho1 => ⟨fun hz0 => h0 ?_, fun hz0 => f23 k1 (Or.inr (hz.mp hz0))⟩⟩⟩
    · rintro (⟨q, _⟩ | ⟨q, _⟩ | ⟨q, _⟩ | ⟨_, _, _, q⟩)
      · exact k1 q
      · exact k2 q
      · exact k6 q
      · rcases q with q | q
        · exact ho1 (eo.mpr q)
        · exact hz0 (hz.mpr q)
    · have := eo2.mp ho1
      rintro (⟨q, _⟩ | ⟨q, _⟩ | ⟨_, q, _⟩ | ⟨_, _, q, _⟩)
      · exact k1 q
      · exact k2 q
      · omega
      · exact q k6
    · rintro (⟨q, _⟩ | ⟨q, _⟩ | ⟨_, _, q, _⟩ | ⟨_, _, q, _⟩)
      · exact k1 q
      · exact k2 q
      · exact q hb1
      · exact q k6
    · rintro (⟨q, _⟩ | ⟨q, _⟩ | ⟨_, _, _, q⟩ | ⟨_, _, q, _⟩)
      · exact k1 q
      · exact k2 q
      · exact q hb6
      · exact q k6
    · have : ¬ o = 0 := fun q => ho1 (eo2.mpr q)
      omega
    · have := eo2.mp ho1
      rintro (⟨q, _⟩ | ⟨_, q⟩ | ⟨q, _⟩ | ⟨_, q, _⟩)
      · exact k1 q
      · omega
      · rw [k2] at q; exact absurd q (by decide)
      · exact q k2
    · have : ¬ o = 0 := fun q => ho1 (eo2.mpr q)
      omega
    · rintro (⟨_, q, _⟩ | ⟨q, _⟩ | ⟨q, _⟩ | ⟨q, _⟩)
      · rcases q with q | q
        · exact ho1 (eo.mpr q)
        · exact hz0 (hz.mpr q)
      · rw [k1] at q; exact absurd q (by decide)
      · rw [k1] at q; exact absurd q (by decide)
      · exact q k1
  exact ⟨fun h => main 0 ⟨fun _ => h, fun _ => rfl⟩, fun h => main 1 ⟨fun q => absurd q (by decide), fun q => absurd q h⟩⟩
