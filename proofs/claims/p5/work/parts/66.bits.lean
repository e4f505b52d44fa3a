-- 66: how many bits a set has; what lies in a set
theorem and_cat {a m q r : Nat} (ha : a < 256) (hm : m < 256) : (a + 256 * q) &&& (m + 256 * r) = (a &&& m) + 256 * (q &&& r) := by
  have hl : a &&& m < 2 ^ 8 := Nat.lt_of_le_of_lt Nat.and_le_left (by omega)
  apply Nat.eq_of_testBit_eq
  intro i
  rw [Nat.testBit_and, Nat.add_comm a, Nat.add_comm m, Nat.add_comm (a &&& m), show (256 : Nat) = 2 ^ 8 from rfl, Nat.testBit_two_pow_mul_add q (show a < 2 ^ 8 from by omega), Nat.testBit_two_pow_mul_add r (show m < 2 ^ 8 from by omega), Nat.testBit_two_pow_mul_add _ hl]
  split
  · rw [Nat.testBit_and]
  · rw [Nat.testBit_and]
theorem and4 {a b c d m : Nat} (ha : a < 256) (hb : b < 256) (hc : c < 256) (hm : m < 256) : (a + 256 * (b + 256 * (c + 256 * d))) &&& (m + 256 * (m + 256 * (m + 256 * m))) = (a &&& m) + 256 * ((b &&& m) + 256 * ((c &&& m) + 256 * (d &&& m))) := by
  rw [and_cat ha hm, and_cat hb hm, and_cat hc hm]
def bc_1 (a : Nat) : Nat := a - ((a / 2) &&& 85)
def bc_2 (a : Nat) : Nat := (bc_1 a &&& 51) + ((bc_1 a / 4) &&& 51)
def bc_3 (a : Nat) : Nat := (bc_2 a + bc_2 a / 16) &&& 15
theorem bk_1 : ∀ a, a < 256 → ∀ t, t < 2 → (a / 2 + 128 * t) &&& 85 = (a / 2) &&& 85 ∧ ((a / 2) &&& 85) ≤ a := by decide +kernel
theorem bk_2 : ∀ a, a < 256 → ∀ t, t < 4 → (a / 4 + 64 * t) &&& 51 = (a / 4) &&& 51 := by decide +kernel
theorem bk_3 : ∀ a, a < 256 → bc_1 a < 256 ∧ bc_2 a ≤ 68 ∧ bc_2 a % 16 ≤ 4 ∧ bc_3 a ≤ 8 := by decide +kernel
theorem bk_4 : ∀ a, a < 69 → ∀ t, t < 5 → (a + a / 16 + 16 * t) &&& 15 = (a + a / 16) &&& 15 := by decide +kernel
theorem bk_5 : ∀ a, a < 256 → ∀ b, b < 256 → a &&& b = a → bc_3 a ≤ bc_3 b ∧ (bc_3 a = bc_3 b → a = b) := by decide +kernel
/-- how many bits of x are set -/
def pc (n : Nat) : Nat := bc_3 (n % 256) + bc_3 (n / 256 % 256) + bc_3 (n / 65536 % 256) + bc_3 (n / 16777216 % 256)
theorem bc_bytes {n : Nat} (h : n < 2 ^ 32) : n = n % 256 + 256 * (n / 256 % 256 + 256 * (n / 65536 % 256 + 256 * (n / 16777216 % 256))) := by omega
theorem pc_le {n : Nat} : pc n ≤ 32 := by
  have h1 := (bk_3 (n % 256) (by omega)).2.2.2
  have h2 := (bk_3 (n / 256 % 256) (by omega)).2.2.2
  have h3 := (bk_3 (n / 65536 % 256) (by omega)).2.2.2
  have h4 := (bk_3 (n / 16777216 % 256) (by omega)).2.2.2
  unfold pc
  omega
theorem pc_sub {n k : Nat} (hn : n < 2 ^ 32) (hk : k < 2 ^ 32) (h : n &&& k = n) : pc n ≤ pc k ∧ (pc n = pc k → n = k) := by
  have en := bc_bytes hn
  have ek := bc_bytes hk
  have e := h
  rw [en, ek, and_cat (by omega) (by omega), and_cat (by omega) (by omega), and_cat (by omega) (by omega)] at e
  have l1 : (n % 256 &&& k % 256) ≤ n % 256 := Nat.and_le_left
  have l2 : (n / 256 % 256 &&& k / 256 % 256) ≤ n / 256 % 256 := Nat.and_le_left
  have l3 : (n / 65536 % 256 &&& k / 65536 % 256) ≤ n / 65536 % 256 := Nat.and_le_left
  have l4 : (n / 16777216 % 256 &&& k / 16777216 % 256) ≤ n / 16777216 % 256 := Nat.and_le_left
  have b1 := bk_5 (n % 256) (by omega) (k % 256) (by omega) (by omega)
  have b2 := bk_5 (n / 256 % 256) (by omega) (k / 256 % 256) (by omega) (by omega)
  have b3 := bk_5 (n / 65536 % 256) (by omega) (k / 65536 % 256) (by omega) (by omega)
  have b4 := bk_5 (n / 16777216 % 256) (by omega) (k / 16777216 % 256) (by omega) (by omega)
  unfold pc
  refine ⟨by omega, fun q => ?_⟩
  have d1 := b1.2 (by omega)
  have d2 := b2.2 (by omega)
  have d3 := b3.2 (by omega)
  have d4 := b4.2 (by omega)
  omega
theorem nx_and' (a b : Nat) : nI a &&& nI b = nI (a &&& b) := by
  apply Int32.toBitVec_inj.1
  show BitVec.ofNat 32 a &&& BitVec.ofNat 32 b = BitVec.ofNat 32 (a &&& b)
  exact BitVec.ofNat_and.symm
theorem i32_nI (x : Int32) : ∃ n, n < 2 ^ 32 ∧ x = nI n := by
  refine ⟨x.toBitVec.toNat, x.toBitVec.isLt, ?_⟩
  apply Int32.toBitVec_inj.1
  show x.toBitVec = BitVec.ofNat 32 x.toBitVec.toNat
  rw [BitVec.ofNat_toNat, BitVec.setWidth_eq]
theorem bc_fin {a b c d : Nat} (ha : a ≤ 8) (hb : b ≤ 8) (hc : c ≤ 8) (hd : d ≤ 8) : (a + 256 * (b + 256 * (c + 256 * d)) + (a + 256 * (b + 256 * (c + 256 * d))) / 256 + (a + 256 * (b + 256 * (c + 256 * d)) + (a + 256 * (b + 256 * (c + 256 * d))) / 256) / 65536) % 64 = a + b + c + d := by
  have e1 : (a + 256 * (b + 256 * (c + 256 * d))) / 256 = b + 256 * (c + 256 * d) := by omega
  rw [e1]
  have e2 : (a + 256 * (b + 256 * (c + 256 * d)) + (b + 256 * (c + 256 * d))) / 65536 = c + d + 256 * d := by omega
  rw [e2]
  omega
theorem bitCount_ok {n : Nat} {u : mS} {post : Int32 → mS → Prop} (hn : n < 2 ^ 32) (hp : post (nI (pc n)) u) : wp_J6_bitCount_0f7a4 (nI n) u post := by
  have en := bc_bytes hn
  have ha : n % 256 < 256 := by omega
  have hb : n / 256 % 256 < 256 := by omega
  have hc : n / 65536 % 256 < 256 := by omega
  have hd : n / 16777216 % 256 < 256 := by omega
  have ep : pc n = bc_3 (n % 256) + bc_3 (n / 256 % 256) + bc_3 (n / 65536 % 256) + bc_3 (n / 16777216 % 256) := rfl
  rw [ep] at hp
  generalize n % 256 = a at *
  generalize n / 256 % 256 = b at *
  generalize n / 65536 % 256 = c at *
  generalize n / 16777216 % 256 = d at *
  subst en
  have ka := bk_3 a ha
  have kb := bk_3 b hb
  have kc := bk_3 c hc
  have kd := bk_3 d hd
  -- step 1
  have z1 : ((a + 256 * (b + 256 * (c + 256 * d))) / 2) &&& 1431655765 = ((a / 2) &&& 85) + 256 * (((b / 2) &&& 85) + 256 * (((c / 2) &&& 85) + 256 * ((d / 2) &&& 85))) := by
    rw [show (a + 256 * (b + 256 * (c + 256 * d))) / 2 = (a / 2 + 128 * (b % 2)) + 256 * ((b / 2 + 128 * (c % 2)) + 256 * ((c / 2 + 128 * (d % 2)) + 256 * (d / 2))) from by omega, show (1431655765 : Nat) = 85 + 256 * (85 + 256 * (85 + 256 * 85)) from rfl, and4 (by omega) (by omega) (by omega) (by omega), (bk_1 a ha (b % 2) (by omega)).1, (bk_1 b hb (c % 2) (by omega)).1, (bk_1 c hc (d % 2) (by omega)).1]
  have la := (bk_1 a ha 0 (by omega)).2
  have lb := (bk_1 b hb 0 (by omega)).2
  have lc := (bk_1 c hc 0 (by omega)).2
  have ld := (bk_1 d hd 0 (by omega)).2
  have ea : bc_1 a = a - ((a / 2) &&& 85) := rfl
  have eb : bc_1 b = b - ((b / 2) &&& 85) := rfl
  have ec : bc_1 c = c - ((c / 2) &&& 85) := rfl
  have ed : bc_1 d = d - ((d / 2) &&& 85) := rfl
  have z3 : a + 256 * (b + 256 * (c + 256 * d)) - (((a / 2) &&& 85) + 256 * (((b / 2) &&& 85) + 256 * (((c / 2) &&& 85) + 256 * ((d / 2) &&& 85)))) = bc_1 a + 256 * (bc_1 b + 256 * (bc_1 c + 256 * bc_1 d)) := by omega
  have z4 : (bc_1 a + 256 * (bc_1 b + 256 * (bc_1 c + 256 * bc_1 d))) &&& 858993459 = (bc_1 a &&& 51) + 256 * ((bc_1 b &&& 51) + 256 * ((bc_1 c &&& 51) + 256 * (bc_1 d &&& 51))) := by
    rw [show (858993459 : Nat) = 51 + 256 * (51 + 256 * (51 + 256 * 51)) from rfl, and4 ka.1 kb.1 kc.1 (by omega)]
  have z6 : ((bc_1 a + 256 * (bc_1 b + 256 * (bc_1 c + 256 * bc_1 d))) / 4) &&& 858993459 = ((bc_1 a / 4) &&& 51) + 256 * (((bc_1 b / 4) &&& 51) + 256 * (((bc_1 c / 4) &&& 51) + 256 * ((bc_1 d / 4) &&& 51))) := by
    have g1 := ka.1
    have g2 := kb.1
    have g3 := kc.1
    have g4 := kd.1
    rw [show (bc_1 a + 256 * (bc_1 b + 256 * (bc_1 c + 256 * bc_1 d))) / 4 = (bc_1 a / 4 + 64 * (bc_1 b % 4)) + 256 * ((bc_1 b / 4 + 64 * (bc_1 c % 4)) + 256 * ((bc_1 c / 4 + 64 * (bc_1 d % 4)) + 256 * (bc_1 d / 4))) from by omega, show (858993459 : Nat) = 51 + 256 * (51 + 256 * (51 + 256 * 51)) from rfl, and4 (by omega) (by omega) (by omega) (by omega), bk_2 _ g1 _ (by omega), bk_2 _ g2 _ (by omega), bk_2 _ g3 _ (by omega)]
  have f2a : bc_2 a = (bc_1 a &&& 51) + ((bc_1 a / 4) &&& 51) := rfl
  have f2b : bc_2 b = (bc_1 b &&& 51) + ((bc_1 b / 4) &&& 51) := rfl
  have f2c : bc_2 c = (bc_1 c &&& 51) + ((bc_1 c / 4) &&& 51) := rfl
  have f2d : bc_2 d = (bc_1 d &&& 51) + ((bc_1 d / 4) &&& 51) := rfl
  have z7 : (bc_1 a &&& 51) + 256 * ((bc_1 b &&& 51) + 256 * ((bc_1 c &&& 51) + 256 * (bc_1 d &&& 51))) + (((bc_1 a / 4) &&& 51) + 256 * (((bc_1 b / 4) &&& 51) + 256 * (((bc_1 c / 4) &&& 51) + 256 * ((bc_1 d / 4) &&& 51)))) = bc_2 a + 256 * (bc_2 b + 256 * (bc_2 c + 256 * bc_2 d)) := by omega
  have a2 := ka.2.1
  have b2 := kb.2.1
  have c2' := kc.2.1
  have d2 := kd.2.1
  have b4 := kb.2.2.1
  have c4 := kc.2.2.1
  have d4 := kd.2.2.1
  have z10 : (bc_2 a + 256 * (bc_2 b + 256 * (bc_2 c + 256 * bc_2 d)) + (bc_2 a + 256 * (bc_2 b + 256 * (bc_2 c + 256 * bc_2 d))) / 16) &&& 252645135 = bc_3 a + 256 * (bc_3 b + 256 * (bc_3 c + 256 * bc_3 d)) := by
    rw [show bc_2 a + 256 * (bc_2 b + 256 * (bc_2 c + 256 * bc_2 d)) + (bc_2 a + 256 * (bc_2 b + 256 * (bc_2 c + 256 * bc_2 d))) / 16 = (bc_2 a + bc_2 a / 16 + 16 * (bc_2 b % 16)) + 256 * ((bc_2 b + bc_2 b / 16 + 16 * (bc_2 c % 16)) + 256 * ((bc_2 c + bc_2 c / 16 + 16 * (bc_2 d % 16)) + 256 * (bc_2 d + bc_2 d / 16))) from by omega, show (252645135 : Nat) = 15 + 256 * (15 + 256 * (15 + 256 * 15)) from rfl, and4 (by omega) (by omega) (by omega) (by omega), bk_4 _ (by omega) _ (by omega), bk_4 _ (by omega) _ (by omega), bk_4 _ (by omega) _ (by omega)]
    rfl
  have a3 := ka.2.2.2
  have b3 := kb.2.2.2
  have c3' := kc.2.2.2
  have d3 := kd.2.2.2
  rintro _ rfl
  rw [show (1 : Int32) = nI 1 from rfl, pk_ushrN (by omega) (nI 1) 1 (by decide), show (2 : Nat) ^ 1 = 2 from rfl]
  rintro _ rfl
  rw [show (1431655765 : Int32) = nI 1431655765 from by decide, nx_and', z1]
  rintro _ rfl
  rw [pk_sub (by omega), z3]
  have w1 := ka.1
  have w2 := kb.1
  have w3 := kc.1
  have w4 := kd.1
  rintro _ rfl
  rw [show (858993459 : Int32) = nI 858993459 from by decide, nx_and', z4]
  rintro _ rfl
  rw [show (2 : Int32) = nI 2 from rfl, pk_ushrN (by omega) (nI 2) 2 (by decide), show (2 : Nat) ^ 2 = 4 from rfl]
  rintro _ rfl
  rw [nx_and', z6]
  rintro _ rfl
  rw [nI_add, z7]
  rintro _ rfl
  rw [show (4 : Int32) = nI 4 from rfl, pk_ushrN (by omega) (nI 4) 4 (by decide), show (2 : Nat) ^ 4 = 16 from rfl]
  rintro _ rfl
  rw [nI_add]
  rintro _ rfl
  rw [show (252645135 : Int32) = nI 252645135 from by decide, nx_and', z10]
  rintro _ rfl
  rw [show (8 : Int32) = nI 8 from rfl, pk_ushrN (by omega) (nI 8) 8 (by decide), show (2 : Nat) ^ 8 = 256 from rfl]
  rintro _ rfl
  rw [nI_add]
  rintro _ rfl
  rw [show (16 : Int32) = nI 16 from rfl, pk_ushrN (by omega) (nI 16) 16 (by decide), show (2 : Nat) ^ 16 = 65536 from rfl]
  rintro _ rfl
  rw [nI_add]
  rintro _ rfl
  rw [show (63 : Int32) = nI 63 from by decide, nx_and', show (63 : Nat) = 2 ^ 6 - 1 from rfl, Nat.and_two_pow_sub_one_eq_mod, show (2 : Nat) ^ 6 = 64 from rfl]
  rw [bc_fin a3 b3 c3' d3]
  exact hp
/-- the set x lies in y -/
def SUB (x y : Int32) : Prop := x &&& (y ^^^ (-1)) = 0
theorem SUB_and {x y : Int32} : SUB x y ↔ x &&& y = x := by
  unfold SUB
  rw [← Int32.toBitVec_inj, ← Int32.toBitVec_inj, Int32.toBitVec_and, Int32.toBitVec_and, Int32.toBitVec_xor]
  show x.toBitVec &&& (y.toBitVec ^^^ BitVec.allOnes 32) = 0#32 ↔ _
  constructor
  · intro h
    apply BitVec.eq_of_getLsbD_eq
    intro i hi
    have := congrArg (fun b => b.getLsbD i) h
    simp only [BitVec.getLsbD_and, BitVec.getLsbD_xor, BitVec.getLsbD_allOnes, BitVec.getLsbD_zero, hi, decide_true] at this ⊢
    revert this
    cases x.toBitVec.getLsbD i <;> cases y.toBitVec.getLsbD i <;> decide
  · intro h
    apply BitVec.eq_of_getLsbD_eq
    intro i hi
    have := congrArg (fun b => b.getLsbD i) h
    simp only [BitVec.getLsbD_and, BitVec.getLsbD_xor, BitVec.getLsbD_allOnes, BitVec.getLsbD_zero, hi, decide_true] at this ⊢
    revert this
    cases x.toBitVec.getLsbD i <;> cases y.toBitVec.getLsbD i <;> decide
theorem SUB_refl (x : Int32) : SUB x x := by
  rw [SUB_and]
  obtain ⟨n, -, rfl⟩ := i32_nI x
  rw [nx_and', Nat.and_self]
/-- how many scopes a set has -/
def PC32 (x : Int32) : Nat := pc x.toBitVec.toNat
theorem PC32_nI {n : Nat} (h : n < 2 ^ 32) : PC32 (nI n) = pc n := by
  unfold PC32
  rw [pk_tn h]
theorem PC32_sub {x y : Int32} (h : SUB x y) : PC32 x ≤ PC32 y ∧ (PC32 x = PC32 y → x = y) := by
  rw [SUB_and] at h
  obtain ⟨n, hn, rfl⟩ := i32_nI x
  obtain ⟨k, hk, rfl⟩ := i32_nI y
  rw [PC32_nI hn, PC32_nI hk]
  have h2 : n &&& k = n := by
    rw [nx_and'] at h
    have e := congrArg (fun z => z.toBitVec.toNat) h
    have l : (n &&& k) ≤ n := Nat.and_le_left
    simp only [pk_tn (show (n &&& k) < 2 ^ 32 from by omega), pk_tn hn] at e
    exact e
  obtain ⟨a, b⟩ := pc_sub hn hk h2
  exact ⟨a, fun q => by rw [b q]⟩
theorem bitC {x : Int32} {u : mS} {post : Int32 → mS → Prop} (hp : post (nI (PC32 x)) u) : wp_J6_bitCount_0f7a4 x u post := by
  obtain ⟨n, hn, rfl⟩ := i32_nI x
  rw [PC32_nI hn] at hp
  exact bitCount_ok hn hp
theorem PC32_le (x : Int32) : PC32 x ≤ 32 := pc_le
