-- 83: sets as numbers; a binding more, exactly
theorem nx_or (a b : Nat) : nI a ||| nI b = nI (a ||| b) := by
  apply Int32.toBitVec_inj.1
  show BitVec.ofNat 32 a ||| BitVec.ofNat 32 b = BitVec.ofNat 32 (a ||| b)
  exact BitVec.ofNat_or.symm
theorem nx_xor (a b : Nat) : nI a ^^^ nI b = nI (a ^^^ b) := by
  apply Int32.toBitVec_inj.1
  show BitVec.ofNat 32 a ^^^ BitVec.ofNat 32 b = BitVec.ofNat 32 (a ^^^ b)
  exact BitVec.ofNat_xor.symm
theorem bit_f : ∀ c : Fin 30, (1 : Int32) <<< (nI c.val &&& 31) = nI (2 ^ c.val) := by decide
theorem bit_sc {c : Nat} (h : c < 30) : (1 : Int32) <<< (nI c &&& 31) = nI (2 ^ c) := bit_f ⟨c, h⟩
/-- a set of the first c scopes -/
def MB (s : Int32) (c : Nat) : Prop := ∃ x : Nat, s = nI x ∧ x < 2 ^ c
theorem MB_0 {c : Nat} : MB 0 c := ⟨0, rfl, Nat.two_pow_pos c⟩
theorem MB_le {s : Int32} {c d : Nat} (h : MB s c) (hc : c ≤ d) : MB s d := by
  obtain ⟨x, e, hx⟩ := h
  exact ⟨x, e, Nat.lt_of_lt_of_le hx (Nat.pow_le_pow_right (by decide) hc)⟩
theorem MB_xor {s : Int32} {c : Nat} (h : MB s (c + 1)) : MB (s ^^^ nI (2 ^ c)) (c + 1) := by
  obtain ⟨x, rfl, hx⟩ := h
  rw [nx_xor]
  exact ⟨_, rfl, Nat.xor_lt_two_pow hx (Nat.pow_lt_pow_right (by decide) (by omega))⟩
theorem MB_or {s : Int32} {c : Nat} (h : MB s (c + 1)) : MB (s ||| nI (2 ^ c)) (c + 1) := by
  obtain ⟨x, rfl, hx⟩ := h
  rw [nx_or]
  exact ⟨_, rfl, Nat.or_lt_two_pow hx (Nat.pow_lt_pow_right (by decide) (by omega))⟩
theorem xor_or {s : Int32} {c : Nat} (h : MB s c) : s ^^^ nI (2 ^ c) = s ||| nI (2 ^ c) := by
  obtain ⟨x, rfl, hx⟩ := h
  rw [nx_or, nx_xor]
  have : x ^^^ 2 ^ c = x ||| 2 ^ c := by
    apply Nat.eq_of_testBit_eq
    intro i
    rw [Nat.testBit_xor, Nat.testBit_or, Nat.testBit_two_pow]
    by_cases e : c = i
    · subst e
      rw [Nat.testBit_lt_two_pow hx]
      cases decide (c = c) <;> rfl
    · rw [decide_eq_false e]
      cases x.testBit i <;> rfl
  rw [this]
theorem bindX {nb : Nat} {x1 x2 x3 x4 x5 : Int32} {u : mS} {post : mS → Prop} (e : u.1 4 = nI nb) (hb : nb ≤ 40) (h1 : nb < 40 → ∀ v, FR [4] [7, 8, 9, 10, 11] u v → v.1 4 = nI (nb + 1) → v.2 7 = upd (u.2 7) nb x1 → v.2 8 = upd (u.2 8) nb x2 → v.2 9 = upd (u.2 9) nb x3 → v.2 10 = upd (u.2 10) nb x4 → v.2 11 = upd (u.2 11) nb x5 → post v) (h0 : nb = 40 → ∀ v, FR [12] [] u v → ¬ v.1 12 = 0 → post v) : wp_X9_bind x1 x2 x3 x4 x5 u post := by
  intro y1 e1
  rw [e] at e1; subst e1
  refine ⟨fun h40 => ?_, fun q => fails_ok (by decide) (fun v hv he _ => h0 (by
    rw [show (40 : Int32) = nI 40 from rfl, nI_eq (by omega) (by omega)] at q
    exact q) v hv he)⟩
  have nb40 : nb < 40 := by
    rcases Nat.lt_or_ge nb 40 with a | a
    · exact a
    · exact absurd (by rw [show nb = 40 from by omega]; rfl) h40
  intro y3 e3
  have e3 : y3 = nI nb := e3.trans e
  subst e3
  refine ⟨vp_in_nI nb40 (by omega), ?_⟩
  rintro _ rfl y5 e5
  have e5 : y5 = nI nb := e5.trans e
  subst e5
  refine ⟨vp_in_nI nb40 (by omega), ?_⟩
  rintro _ rfl y7 e7
  have e7 : y7 = nI nb := e7.trans e
  subst e7
  refine ⟨vp_in_nI nb40 (by omega), ?_⟩
  rintro _ rfl y9 e9
  have e9 : y9 = nI nb := e9.trans e
  subst e9
  refine ⟨vp_in_nI nb40 (by omega), ?_⟩
  rintro _ rfl y11 e11
  have e11 : y11 = nI nb := e11.trans e
  subst e11
  refine ⟨vp_in_nI nb40 (by omega), ?_⟩
  rintro _ rfl y13 e13
  have e13 : y13 = nI nb := e13.trans e
  subst e13
  rintro _ rfl _ rfl
  rw [nI_clamp (by omega), nI_1]
  refine h1 nb40 _ (FR_set (FR_put (FR_put (FR_put (FR_put (FR_put FR.rf (by decide)) (by decide)) (by decide)) (by decide)) (by decide)) (by decide)) (mSet_same _ _ _) ?_ ?_ ?_ ?_ ?_
  · rw [mSet_arr, mPut_other (by decide : (7 : Nat) ≠ 11), mPut_other (by decide : (7 : Nat) ≠ 10), mPut_other (by decide : (7 : Nat) ≠ 9), mPut_other (by decide : (7 : Nat) ≠ 8), mPut_row]
  · rw [mSet_arr, mPut_other (by decide : (8 : Nat) ≠ 11), mPut_other (by decide : (8 : Nat) ≠ 10), mPut_other (by decide : (8 : Nat) ≠ 9), mPut_row, mPut_other (by decide : (8 : Nat) ≠ 7)]
  · rw [mSet_arr, mPut_other (by decide : (9 : Nat) ≠ 11), mPut_other (by decide : (9 : Nat) ≠ 10), mPut_row, mPut_other (by decide : (9 : Nat) ≠ 8), mPut_other (by decide : (9 : Nat) ≠ 7)]
  · rw [mSet_arr, mPut_other (by decide : (10 : Nat) ≠ 11), mPut_row, mPut_other (by decide : (10 : Nat) ≠ 9), mPut_other (by decide : (10 : Nat) ≠ 8), mPut_other (by decide : (10 : Nat) ≠ 7)]
  · rw [mSet_arr, mPut_row, mPut_other (by decide : (11 : Nat) ≠ 10), mPut_other (by decide : (11 : Nat) ≠ 9), mPut_other (by decide : (11 : Nat) ≠ 8), mPut_other (by decide : (11 : Nat) ≠ 7)]
/-- the class's table: a binding more -/
theorem tbindA {nb : Nat} {x1 x2 x3 x4 : Int32} {u : mS} {post : Int32 → mS → Prop} (e : u.1 4 = nI nb) (hb : nb ≤ 40) (h1 : nb < 40 → ∀ v, FR [4] [5, 6, 7, 8] u v → v.1 4 = nI (nb + 1) → v.2 5 = upd (u.2 5) nb x1 → v.2 6 = upd (u.2 6) nb x2 → v.2 7 = upd (u.2 7) nb x3 → v.2 8 = upd (u.2 8) nb x4 → post 1 v) (h0 : nb = 40 → post 0 u) : wp_X7_bind x1 x2 x3 x4 u post := by
  intro y1 e1
  rw [e] at e1; subst e1
  refine ⟨fun q => absurd q (nI_pos (by omega)), fun _ => ?_⟩
  intro y3 e3
  rw [e] at e3; subst e3
  rw [show (40 : Int32) = nI 40 from rfl, nI_ltI (by omega) (by omega)]
  refine ⟨fun nb40 => ?_, fun q => h0 (by omega)⟩
  intro y5 e5
  have e5 : y5 = nI nb := e5.trans e
  subst e5
  refine ⟨vp_in_nI nb40 (by omega), ?_⟩
  rintro _ rfl y7 e7
  have e7 : y7 = nI nb := e7.trans e
  subst e7
  refine ⟨vp_in_nI nb40 (by omega), ?_⟩
  rintro _ rfl y9 e9
  have e9 : y9 = nI nb := e9.trans e
  subst e9
  refine ⟨vp_in_nI nb40 (by omega), ?_⟩
  rintro _ rfl y11 e11
  have e11 : y11 = nI nb := e11.trans e
  subst e11
  refine ⟨vp_in_nI nb40 (by omega), ?_⟩
  rintro _ rfl y13 e13
  have e13 : y13 = nI nb := e13.trans e
  subst e13
  rintro _ rfl _ rfl
  rw [nI_clamp (by omega), nI_1]
  refine h1 nb40 _ (FR_set (FR_put (FR_put (FR_put (FR_put FR.rf (by decide)) (by decide)) (by decide)) (by decide)) (by decide)) (mSet_same _ _ _) ?_ ?_ ?_ ?_
  · rw [mSet_arr, mPut_other (by decide : (5 : Nat) ≠ 8), mPut_other (by decide : (5 : Nat) ≠ 7), mPut_other (by decide : (5 : Nat) ≠ 6), mPut_row]
  · rw [mSet_arr, mPut_other (by decide : (6 : Nat) ≠ 8), mPut_other (by decide : (6 : Nat) ≠ 7), mPut_row, mPut_other (by decide : (6 : Nat) ≠ 5)]
  · rw [mSet_arr, mPut_other (by decide : (7 : Nat) ≠ 8), mPut_row, mPut_other (by decide : (7 : Nat) ≠ 6), mPut_other (by decide : (7 : Nat) ≠ 5)]
  · rw [mSet_arr, mPut_row, mPut_other (by decide : (8 : Nat) ≠ 7), mPut_other (by decide : (8 : Nat) ≠ 6), mPut_other (by decide : (8 : Nat) ≠ 5)]
theorem bindA {a b p nb : Nat} {kk vv : Int32} {u : mS} {post : Int32 → mS → Prop} (hA : AR u a b) (hp : p < b) (e : u.1 4 = nI nb) (hb : nb ≤ 40) (h1 : nb < 40 → ∀ v, FR [4, 9] [5, 6, 7, 8] u v → v.1 4 = nI (nb + 1) → v.1 9 = u.1 9 + 1 → v.2 5 = upd (u.2 5) nb (u.2 1 p) → v.2 6 = upd (u.2 6) nb (u.2 2 p) → v.2 7 = upd (u.2 7) nb kk → v.2 8 = upd (u.2 8) nb vv → post 1 v) (h0 : nb = 40 → ∀ v, FR [7] [] u v → ¬ v.1 7 = 0 → post 0 v) : wp_X0_bind (nI p) kk vv u post := by
  refine wordAR hA hp (marksAR hA hp ?_)
  refine tbindA e hb (fun nb40 v vF v4 v5 v6 v7 v8 => ⟨fun _ => ?_, fun q => absurd q (by decide)⟩) (fun nb40 => ⟨fun q => absurd rfl q, fun _ => failA (by decide) (fun v vF ve => h0 nb40 v vF ve)⟩)
  rintro _ rfl _ rfl _ rfl
  refine h1 nb40 _ (FR_set (vF.wk (by decide) (by decide)) (by decide)) ?_ ?_ v5 v6 v7 v8
  · rw [mSet_other (by decide : (4 : Nat) ≠ 9)]; exact v4
  · rw [mSet_same, vF.1 9 (by decide)]
