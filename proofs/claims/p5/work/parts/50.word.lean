-- 50: the words of the class and the tokens of the reference: one to one
/-- a name's word and its code, as numbers -/
def NM (x y : Nat) : Prop := (∃ a, 97 ≤ a ∧ a ≤ 122 ∧ x = 256 + a ∧ y = a - 96) ∨ (∃ a, (a = 43 ∨ a = 42 ∨ a = 61 ∨ a = 60) ∧ x = 256 + a ∧ y = 40000 + a) ∨ (∃ a b, 97 ≤ a ∧ a ≤ 122 ∧ 97 ≤ b ∧ b ≤ 122 ∧ x = 65536 + 256 * a + b ∧ y = 32 * (a - 96) + (b - 96)) ∨ (∃ a b c, 97 ≤ a ∧ a ≤ 122 ∧ 97 ≤ b ∧ b ≤ 122 ∧ 97 ≤ c ∧ c ≤ 122 ∧ x = 16777216 + 65536 * a + 256 * b + c ∧ y = 1024 * (a - 96) + 32 * (b - 96) + (c - 96))
theorem NM_bd {x y : Nat} (h : NM x y) : 256 < x ∧ x < 2 ^ 25 ∧ 0 < y ∧ y < 65536 := by
  rcases h with ⟨a, h1, h2, rfl, rfl⟩ | ⟨a, h1, rfl, rfl⟩ | ⟨a, b, h1, h2, h3, h4, rfl, rfl⟩ | ⟨a, b, c, h1, h2, h3, h4, h5, h6, rfl, rfl⟩ <;> omega
theorem NM_inj {x y x' y' : Nat} (h : NM x y) (g : NM x' y') : x = x' ↔ y = y' := by
  rcases h with ⟨a, h1, h2, rfl, rfl⟩ | ⟨a, h1, rfl, rfl⟩ | ⟨a, b, h1, h2, h3, h4, rfl, rfl⟩ | ⟨a, b, c, h1, h2, h3, h4, h5, h6, rfl, rfl⟩ <;> rcases g with ⟨a', g1, g2, rfl, rfl⟩ | ⟨a', g1, rfl, rfl⟩ | ⟨a', b', g1, g2, g3, g4, rfl, rfl⟩ | ⟨a', b', c', g1, g2, g3, g4, g5, g6, rfl, rfl⟩ <;> constructor <;> intro e <;> omega
/-- the class's word w stands for the reference's token c -/
def AW (w c : Int32) : Prop := (w = -1 ∧ c = nI 65536) ∨ (w = -2 ∧ c = nI 131072) ∨ (w = -3 ∧ c = nI 393216) ∨ (w = -4 ∧ c = nI 327680) ∨ (∃ n : Nat, n < 100 ∧ w = nI n ∧ c = nI (262144 + n)) ∨ (∃ x y : Nat, NM x y ∧ w = nI x ∧ c = nI (196608 + y))
theorem AW_n {w c : Int32} (h : AW w c) : ∃ C : Nat, c = nI C ∧ C < 2 ^ 20 ∧ ((w.toInt = -1 ∧ C = 65536) ∨ (w.toInt = -2 ∧ C = 131072) ∨ (w.toInt = -3 ∧ C = 393216) ∨ (w.toInt = -4 ∧ C = 327680) ∨ (0 ≤ w.toInt ∧ w.toInt < 100 ∧ (C : Int) = 262144 + w.toInt) ∨ (∃ x y : Nat, NM x y ∧ w.toInt = (x : Int) ∧ C = 196608 + y)) := by
  rcases h with ⟨rfl, rfl⟩ | ⟨rfl, rfl⟩ | ⟨rfl, rfl⟩ | ⟨rfl, rfl⟩ | ⟨n, hn, rfl, rfl⟩ | ⟨x, y, hN, rfl, rfl⟩
  · exact ⟨_, rfl, by omega, Or.inl ⟨by decide, rfl⟩⟩
  · exact ⟨_, rfl, by omega, Or.inr (Or.inl ⟨by decide, rfl⟩)⟩
  · exact ⟨_, rfl, by omega, Or.inr (Or.inr (Or.inl ⟨by decide, rfl⟩))⟩
  · exact ⟨_, rfl, by omega, Or.inr (Or.inr (Or.inr (Or.inl ⟨by decide, rfl⟩)))⟩
  · refine ⟨_, rfl, by omega, Or.inr (Or.inr (Or.inr (Or.inr (Or.inl ?_))))⟩
    rw [nI_toInt (by omega)]
    omega
  · have := NM_bd hN
    exact ⟨_, rfl, by omega, Or.inr (Or.inr (Or.inr (Or.inr (Or.inr ⟨x, y, hN, nI_toInt (by omega), rfl⟩))))⟩
theorem AW_inj {w c w' c' : Int32} (h : AW w c) (g : AW w' c') : w = w' ↔ c = c' := by
  obtain ⟨C, rfl, hC, h⟩ := AW_n h
  obtain ⟨C', rfl, hC', g⟩ := AW_n g
  rw [nI_eq (by omega) (by omega), ← Int32.toInt_inj]
  rcases h with h | h | h | h | h | ⟨x, y, hN, h1, h2⟩ <;> rcases g with g | g | g | g | g | ⟨x', y', gN, g1, g2⟩
  all_goals first
    | (constructor <;> intro e <;> omega)
    | (have := NM_bd hN; constructor <;> intro e <;> omega)
    | (have := NM_bd gN; constructor <;> intro e <;> omega)
    | (have a1 := NM_inj hN gN
       constructor
       · intro e
         have := a1.mp (by omega)
         omega
       · intro e
         have := a1.mpr (by omega)
         omega)
theorem AW_k {w c : Int32} (h : AW w c) : (w = -1 ∧ kd c = 1) ∨ (w = -2 ∧ kd c = 2) ∨ (w = -3 ∧ kd c = 6) ∨ (w = -4 ∧ kd c = 5) ∨ (∃ n : Nat, n < 100 ∧ w = nI n ∧ kd c = 4) ∨ (∃ x : Nat, 255 < x ∧ x < 2 ^ 25 ∧ w = nI x ∧ kd c = 3) := by
  have k1 : ∀ {C k : Nat}, C < 2 ^ 20 → C / 65536 = k → kd (nI C) = nI k := by
    intro C k h1 h2
    rw [kd_nI (by omega), h2]
  rcases h with ⟨rfl, rfl⟩ | ⟨rfl, rfl⟩ | ⟨rfl, rfl⟩ | ⟨rfl, rfl⟩ | ⟨n, hn, rfl, rfl⟩ | ⟨x, y, hN, rfl, rfl⟩
  · exact Or.inl ⟨rfl, k1 (k := 1) (by omega) (by omega)⟩
  · exact Or.inr (Or.inl ⟨rfl, k1 (k := 2) (by omega) (by omega)⟩)
  · exact Or.inr (Or.inr (Or.inl ⟨rfl, k1 (k := 6) (by omega) (by omega)⟩))
  · exact Or.inr (Or.inr (Or.inr (Or.inl ⟨rfl, k1 (k := 5) (by omega) (by omega)⟩)))
  · exact Or.inr (Or.inr (Or.inr (Or.inr (Or.inl ⟨n, hn, rfl, k1 (k := 4) (by omega) (by omega)⟩))))
  · have := NM_bd hN
    exact Or.inr (Or.inr (Or.inr (Or.inr (Or.inr ⟨x, by omega, by omega, rfl, k1 (k := 3) (by omega) (by omega)⟩))))
theorem nI_ng {n : Nat} (h : n < 2 ^ 31) {k : Int32} (hk : k < 0) : ¬ nI n = k := by
  intro q
  rw [← q] at hk
  exact nI_pos h hk
theorem AW_1 {w c : Int32} (h : AW w c) : w = -1 ↔ kd c = 1 := by
  rcases AW_k h with ⟨rfl, b⟩ | ⟨rfl, b⟩ | ⟨rfl, b⟩ | ⟨rfl, b⟩ | ⟨n, hn, rfl, b⟩ | ⟨x, h1, h2, rfl, b⟩
  all_goals rw [b]
  all_goals first | decide | exact ⟨fun q => absurd q (nI_ng (by omega) (by decide)), fun q => absurd q (by decide)⟩
theorem AW_2 {w c : Int32} (h : AW w c) : w = -2 ↔ kd c = 2 := by
  rcases AW_k h with ⟨rfl, b⟩ | ⟨rfl, b⟩ | ⟨rfl, b⟩ | ⟨rfl, b⟩ | ⟨n, hn, rfl, b⟩ | ⟨x, h1, h2, rfl, b⟩
  all_goals rw [b]
  all_goals first | decide | exact ⟨fun q => absurd q (nI_ng (by omega) (by decide)), fun q => absurd q (by decide)⟩
theorem AW_6 {w c : Int32} (h : AW w c) : w = -3 ↔ kd c = 6 := by
  rcases AW_k h with ⟨rfl, b⟩ | ⟨rfl, b⟩ | ⟨rfl, b⟩ | ⟨rfl, b⟩ | ⟨n, hn, rfl, b⟩ | ⟨x, h1, h2, rfl, b⟩
  all_goals rw [b]
  all_goals first | decide | exact ⟨fun q => absurd q (nI_ng (by omega) (by decide)), fun q => absurd q (by decide)⟩
theorem AW_5 {w c : Int32} (h : AW w c) : w = -4 ↔ kd c = 5 := by
  rcases AW_k h with ⟨rfl, b⟩ | ⟨rfl, b⟩ | ⟨rfl, b⟩ | ⟨rfl, b⟩ | ⟨n, hn, rfl, b⟩ | ⟨x, h1, h2, rfl, b⟩
  all_goals rw [b]
  all_goals first | decide | exact ⟨fun q => absurd q (nI_ng (by omega) (by decide)), fun q => absurd q (by decide)⟩
theorem AW_3 {w c : Int32} (h : AW w c) : ¬ w ≤ 255 ↔ kd c = 3 := by
  rcases AW_k h with ⟨rfl, b⟩ | ⟨rfl, b⟩ | ⟨rfl, b⟩ | ⟨rfl, b⟩ | ⟨n, hn, rfl, b⟩ | ⟨x, h1, h2, rfl, b⟩
  all_goals rw [b]
  · decide
  · decide
  · decide
  · decide
  · refine ⟨fun q => absurd ?_ q, fun q => absurd q (by decide)⟩
    rw [show (255 : Int32) = nI 255 from rfl, nI_leI (by omega) (by omega)]
    omega
  · refine ⟨fun _ => rfl, fun _ q => ?_⟩
    rw [show (255 : Int32) = nI 255 from rfl, nI_leI (by omega) (by omega)] at q
    omega
theorem AW_4 {w c : Int32} (h : AW w c) : (¬ w < 0 ∧ ¬ 100 ≤ w) ↔ kd c = 4 := by
  rcases AW_k h with ⟨rfl, b⟩ | ⟨rfl, b⟩ | ⟨rfl, b⟩ | ⟨rfl, b⟩ | ⟨n, hn, rfl, b⟩ | ⟨x, h1, h2, rfl, b⟩
  all_goals rw [b]
  · decide
  · decide
  · decide
  · decide
  · refine ⟨fun _ => rfl, fun _ => ⟨nI_pos (by omega), fun q => ?_⟩⟩
    rw [show (100 : Int32) = nI 100 from rfl, nI_leI (by omega) (by omega)] at q
    omega
  · refine ⟨fun q => absurd ?_ q.2, fun q => absurd q (by decide)⟩
    rw [show (100 : Int32) = nI 100 from rfl, nI_leI (by omega) (by omega)]
    omega
/-- the token that a word stands for -/
noncomputable def tr (w : Int32) : Int32 := Classical.epsilon (fun c => AW w c)
theorem tr_eq {w c : Int32} (h : AW w c) : tr w = c := (AW_inj (Classical.epsilon_spec (p := fun c => AW w c) ⟨c, h⟩) h).mp rfl
/-- the class's row, as tokens of the reference -/
noncomputable def ra (u : mS) : Nat → Int32 := fun i => tr (u.2 1 i)
theorem ra_eq {u : mS} {i : Nat} {c : Int32} (h : AW (u.2 1 i) c) : ra u i = c := tr_eq h
theorem ra_fr {u w : mS} (h : w.2 1 = u.2 1) : ra w = ra u := by
  unfold ra
  rw [h]
