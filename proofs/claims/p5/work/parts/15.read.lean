-- 15: frames of states; keep; the reading of a text by the reference
def FR (S A : List Nat) (u w : mS) : Prop := (∀ k, k ∉ S → w.1 k = u.1 k) ∧ ∀ k, k ∉ A → w.2 k = u.2 k
theorem FR.rf {S A : List Nat} {u : mS} : FR S A u u := ⟨fun _ _ => rfl, fun _ _ => rfl⟩
theorem FR.tr {S A : List Nat} {u v w : mS} (h : FR S A u v) (g : FR S A v w) : FR S A u w := ⟨fun k hk => (g.1 k hk).trans (h.1 k hk), fun k hk => (g.2 k hk).trans (h.2 k hk)⟩
theorem FR.wk {S A S' A' : List Nat} {u w : mS} (h : FR S A u w) (hS : ∀ k ∈ S, k ∈ S') (hA : ∀ k ∈ A, k ∈ A') : FR S' A' u w := ⟨fun k hk => h.1 k (fun q => hk (hS k q)), fun k hk => h.2 k (fun q => hk (hA k q))⟩
theorem mSet_same (u : mS) (k : Nat) (v : Int32) : (mSet u k v).1 k = v := pk_us
theorem mSet_other {u : mS} {k j : Nat} {v : Int32} (h : j ≠ k) : (mSet u k v).1 j = u.1 j := pk_un h
theorem mSet_arr (u : mS) (k : Nat) (v : Int32) : (mSet u k v).2 = u.2 := rfl
theorem mPut_same (u : mS) (k i : Nat) (v : Int32) : (mPut u k i v).2 k = upd (u.2 k) i v := by
  show (if k = k then upd (u.2 k) i v else u.2 k) = _
  rw [if_pos rfl]
theorem mPut_other {u : mS} {k i j : Nat} {v : Int32} (h : j ≠ k) : (mPut u k i v).2 j = u.2 j := by
  show (if j = k then upd (u.2 k) i v else u.2 j) = _
  rw [if_neg h]
theorem mPut_scal (u : mS) (k i : Nat) (v : Int32) : (mPut u k i v).1 = u.1 := rfl
theorem FR_set {S A : List Nat} {u w : mS} {k : Nat} {v : Int32} (h : FR S A u w) (hk : k ∈ S) : FR S A u (mSet w k v) := ⟨fun j hj => (mSet_other (fun q => hj (by rw [q]; exact hk))).trans (h.1 j hj), fun j hj => h.2 j hj⟩
theorem FR_put {S A : List Nat} {u w : mS} {k i : Nat} {v : Int32} (h : FR S A u w) (hk : k ∈ A) : FR S A u (mPut w k i v) := ⟨fun j hj => h.1 j hj, fun j hj => (mPut_other (fun q => hj (by rw [q]; exact hk))).trans (h.2 j hj)⟩
/-- n tokens of row and set, from a on, stand in kept from o on -/
def KP (u w : mS) (a o n : Nat) : Prop := FR [] [3, 4] u w ∧ (∀ j, j < n → w.2 3 (o + j) = u.2 1 (a + j) ∧ w.2 4 (o + j) = u.2 2 (a + j)) ∧ ∀ j, (j < o ∨ o + n ≤ j) → w.2 3 j = u.2 3 j ∧ w.2 4 j = u.2 4 j
theorem keep_ok {a b o : Nat} {u : mS} {post : Int32 → mS → Prop} (hab : a ≤ b) (hb : b ≤ 2600) (ho : o + (b - a) ≤ 3200) (hp : ∀ w, KP u w a o (b - a) → post (nI (o + (b - a))) w) : wp_X9_keep (nI a) (nI b) (nI o) u post := by
  have key : ∀ (d k : Nat) (w : mS), k + d = b - a → KP u w a o k → mL5 (fun K => wj_X9_keep_3 K post) (d + 1) (nI a) (nI b) (nI o) (nI (a + k)) w := by
    intro d
    induction d with
    | zero =>
      intro k w hk hw
      show wj_X9_keep_3 _ post _ _ _ _ w
      refine ⟨fun _ => ?_, fun h => absurd (by rw [nI_leI (by omega) (by omega)]; omega) h⟩
      rintro _ rfl _ rfl
      rw [nI_add, pk_sub (by omega), show o + b - a = o + (b - a) from by omega]
      have e : k = b - a := by omega
      rw [e] at hw
      exact hp w hw
    | succ d ih =>
      intro k w hk hw
      obtain ⟨hF, hC, hO⟩ := hw
      show wj_X9_keep_3 _ post _ _ _ _ w
      refine ⟨fun h => absurd h (by rw [nI_leI (by omega) (by omega)]; omega), fun _ => ?_⟩
      rintro _ rfl _ rfl
      rw [nI_add, pk_sub (by omega), show o + (a + k) - a = o + k from by omega]
      refine ⟨vp_in_nI (by omega) (by omega), ?_⟩
      rintro _ rfl
      refine ⟨vp_in_nI (by omega) (by omega), ?_⟩
      rintro _ rfl _ rfl _ rfl
      rw [pk_sub (by omega), show o + (a + k) - a = o + k from by omega]
      refine ⟨vp_in_nI (by omega) (by omega), ?_⟩
      rintro _ rfl
      refine ⟨vp_in_nI (by omega) (by omega), ?_⟩
      rintro _ rfl _ rfl
      rw [nI_clamp (by omega), nI_clamp (by omega), nI_1]
      refine ih (k + 1) _ (by omega) ⟨?_, fun j hj => ?_, fun j hj => ?_⟩
      · exact FR_put (FR_put hF (by decide)) (by decide)
      · have r1 : w.2 1 = u.2 1 := hF.2 1 (by decide)
        have r2 : w.2 2 = u.2 2 := hF.2 2 (by decide)
        rw [mPut_other (by decide : (3 : Nat) ≠ 4), mPut_same, mPut_same, mPut_other (by decide : (2 : Nat) ≠ 3), mPut_other (by decide : (4 : Nat) ≠ 3), r1, r2]
        by_cases e : j = k
        · subst e; rw [pk_us, pk_us]; exact ⟨rfl, rfl⟩
        · rw [pk_un (by omega), pk_un (by omega)]; exact hC j (by omega)
      · rw [mPut_other (by decide : (3 : Nat) ≠ 4), mPut_same, mPut_same, mPut_other (by decide : (4 : Nat) ≠ 3), pk_un (by omega), pk_un (by omega)]
        exact hO j (by omega)
  exact ⟨b - a + 1, key (b - a) 0 u (by omega) ⟨FR.rf, fun j hj => by omega, fun j _ => ⟨rfl, rfl⟩⟩⟩
-- characters
def cL (c : Int32) : Prop := ¬ c < 97 ∧ ¬ 122 < c
def cD (c : Int32) : Prop := ¬ c < 48 ∧ ¬ 57 < c
theorem isLetter_ok {c : Int32} {u : mS} {post : Int32 → mS → Prop} (h1 : cL c → post 1 u) (h0 : ¬ cL c → post 0 u) : wp_X9_isLetter c u post :=
  ⟨fun h => h0 (fun q => q.1 h), fun h => ⟨fun g => h0 (fun q => q.2 g), fun g => h1 ⟨h, g⟩⟩⟩
theorem isDigit_ok {c : Int32} {u : mS} {post : Int32 → mS → Prop} (h1 : cD c → post 1 u) (h0 : ¬ cD c → post 0 u) : wp_X9_isDigit c u post :=
  ⟨fun h => h0 (fun q => q.1 h), fun h => ⟨fun g => h0 (fun q => q.2 g), fun g => h1 ⟨h, g⟩⟩⟩
/-- the character at place i of the text; 0 behind it -/
def lk (T : Nat → Int32) (len i : Nat) : Int32 := if i < len then T i else 0
theorem look_ok {i len : Nat} {u : mS} {post : Int32 → mS → Prop} (hl : u.1 0 = nI len) (hlen : len ≤ 120) (hi : i < 2 ^ 30) (hp : post (lk (u.2 0) len i) u) : wp_X9_look (nI i) u post := by
  intro y1 e1
  rw [hl] at e1; subst e1
  unfold lk at hp
  refine ⟨fun h => ?_, fun h => ?_⟩
  · rw [nI_leI (by omega) (by omega)] at h
    rw [if_neg (by omega)] at hp; exact hp
  · rw [nI_leI (by omega) (by omega)] at h
    refine ⟨vp_in_nI (by omega) (by omega), ?_⟩
    rintro _ rfl
    rw [nI_clamp (by omega)]
    rw [if_pos (by omega)] at hp; exact hp
/-- m characters from i on are letters (digits), and the next is none, or the text ends -/
def RN (P : Int32 → Prop) (T : Nat → Int32) (len i m : Nat) : Prop := i + m ≤ len ∧ (∀ k, k < m → P (T (i + k))) ∧ (i + m < len → ¬ P (T (i + m)))
theorem run_ok {i len : Nat} {u : mS} {post : Int32 → mS → Prop} (hl : u.1 0 = nI len) (hlen : len ≤ 120) (hi : i < len) (hL : cL (u.2 0 i) → ∀ m, RN cL (u.2 0) len i m → post (nI m) u) (hD : ¬ cL (u.2 0 i) → ∀ m, RN cD (u.2 0) len i m → post (nI m) u) : wp_X9_run (nI i) u post := by
  have el : lk (u.2 0) len i = u.2 0 i := by unfold lk; rw [if_pos hi]
  have key : ∀ (x3 : Int32) (P : Int32 → Prop), (¬ x3 = 0 ∧ P = cL ∨ x3 = 0 ∧ P = cD) → (∀ m, RN P (u.2 0) len i m → post (nI m) u) → ∀ (d m : Nat), i + m + d = len → (∀ k, k < m → P (u.2 0 (i + k))) → mL4 (fun K => wj_X9_run_11 K post) (d + 1) (nI i) (nI m) x3 u := by
    intro x3 P hx hq d
    induction d with
    | zero =>
      intro m hm hall
      show wj_X9_run_11 _ post _ _ _ u
      rintro _ rfl y6 e6
      rw [hl] at e6; subst e6
      rw [nI_add]
      refine ⟨fun _ => hq m ⟨by omega, hall, fun h => by omega⟩, fun h => absurd (by rw [nI_leI (by omega) (by omega)]; omega) h⟩
    | succ d ih =>
      intro m hm hall
      have e2 : lk (u.2 0) len (i + m) = u.2 0 (i + m) := by unfold lk; rw [if_pos (by omega)]
      have yes : P (u.2 0 (i + m)) → wj_X9_run_54 (mL4 (fun K => wj_X9_run_11 K post) (d + 1)) post (nI i) (nI m) x3 u := by
        intro hP
        rintro _ rfl
        rw [nI_1]
        refine ih (m + 1) (by omega) (fun k hk => ?_)
        rcases Nat.lt_or_ge k m with c | c
        · exact hall k c
        · have : k = m := by omega
          subst this; exact hP
      have no : ¬ P (u.2 0 (i + m)) → wj_X9_run_60 post (nI m) u := fun hP => hq m ⟨by omega, hall, fun _ => hP⟩
      show wj_X9_run_11 _ post _ _ _ u
      rintro _ rfl y6 e6
      rw [hl] at e6; subst e6
      rw [nI_add]
      refine ⟨fun h => absurd h (by rw [nI_leI (by omega) (by omega)]; omega), fun _ => ⟨fun h0 => ?_, fun h0 => ?_⟩⟩
      · rintro _ rfl
        have hP : P = cD := by
          rcases hx with ⟨a, _⟩ | ⟨_, a⟩
          · exact absurd h0 a
          · exact a
        subst hP
        refine look_ok hl hlen (by omega) ?_
        rw [e2]
        exact isDigit_ok (fun h => ⟨fun q => absurd q (by decide), fun _ => yes h⟩) (fun h => ⟨fun _ => no h, fun q => absurd rfl q⟩)
      · rintro _ rfl
        have hP : P = cL := by
          rcases hx with ⟨_, a⟩ | ⟨a, _⟩
          · exact a
          · exact absurd a h0
        subst hP
        refine look_ok hl hlen (by omega) ?_
        rw [e2]
        exact isLetter_ok (fun h => ⟨fun q => absurd q (by decide), fun _ => yes h⟩) (fun h => ⟨fun _ => no h, fun q => absurd rfl q⟩)
  refine look_ok hl hlen (by omega) ?_
  rw [el]
  refine isLetter_ok (fun h => ⟨len - i + 1, ?_⟩) (fun h => ⟨len - i + 1, ?_⟩)
  · exact key 1 cL (Or.inl ⟨by decide, rfl⟩) (hL h) (len - i) 0 (by omega) (fun k hk => by omega)
  · exact key 0 cD (Or.inr ⟨rfl, rfl⟩) (hD h) (len - i) 0 (by omega) (fun k hk => by omega)
theorem RN_uniq {P : Int32 → Prop} {T : Nat → Int32} {len i m n : Nat} (h : RN P T len i m) (g : RN P T len i n) : m = n := by
  obtain ⟨h1, h2, h3⟩ := h
  obtain ⟨g1, g2, g3⟩ := g
  rcases Nat.lt_trichotomy m n with c | c | c
  · exact absurd (g2 m c) (h3 (by omega))
  · exact c
  · exact absurd (h2 n c) (g3 (by omega))
/-- the token at place i has m characters; no token: m = 0 -/
def TK (T : Nat → Int32) (len i m : Nat) : Prop :=
  (cL (T i) ∧ ∃ n, RN cL T len i n ∧ m = if n ≤ 3 then n else 0) ∨
  (¬ cL (T i) ∧ cD (T i) ∧ ∃ n, RN cD T len i n ∧ m = if n = 1 ∨ (n = 2 ∧ ¬ T i = 48) then n else 0) ∨
  (¬ cL (T i) ∧ ¬ cD (T i) ∧ T i = 46 ∧ m = if lk T len (i + 1) = 46 then 2 else 0) ∨
  (¬ cL (T i) ∧ ¬ cD (T i) ∧ ¬ T i = 46 ∧ m = if T i = 40 ∨ T i = 41 ∨ T i = 95 ∨ T i = 43 ∨ T i = 42 ∨ T i = 61 ∨ T i = 60 then 1 else 0)
theorem token_ok {i len : Nat} {u : mS} {post : Int32 → mS → Prop} (hl : u.1 0 = nI len) (hlen : len ≤ 120) (hi : i < len) (hp : ∀ m, TK (u.2 0) len i m → post (nI m) u) : wp_X9_token (nI i) u post := by
  have el : lk (u.2 0) len i = u.2 0 i := by unfold lk; rw [if_pos hi]
  refine look_ok hl hlen (by omega) ?_
  rw [el]
  refine isLetter_ok (fun hL => ⟨fun q => absurd q (by decide), fun _ => ?_⟩) (fun hL => ⟨fun _ => ?_, fun q => absurd rfl q⟩)
  · refine run_ok hl hlen hi (fun _ n hn => ⟨fun h3 => ?_, fun h3 => ?_⟩) (fun q => absurd hL q)
    · have hn1 := hn.1
      have h3 : nI 3 < nI n := h3
      rw [nI_ltI (by omega) (by omega)] at h3
      exact hp 0 (Or.inl ⟨hL, n, hn, by rw [if_neg (by omega)]⟩)
    · have hn1 := hn.1
      have h3 : ¬ nI 3 < nI n := h3
      rw [nI_ltI (by omega) (by omega)] at h3
      refine run_ok hl hlen hi (fun _ k hk => ?_) (fun q => absurd hL q)
      have e := RN_uniq hn hk
      subst e
      exact hp n (Or.inl ⟨hL, n, hn, by rw [if_pos (by omega)]⟩)
  · refine isDigit_ok (fun hD => ⟨fun q => absurd q (by decide), fun _ => ?_⟩) (fun hD => ⟨fun _ => ⟨fun h46 => ?_, fun h46 => ?_⟩, fun q => absurd rfl q⟩)
    · have last : ∀ n, RN cD (u.2 0) len i n → (n = 1 ∨ (n = 2 ∧ ¬ u.2 0 i = 48)) → wj_X9_token_63 post (nI i) u := by
        intro n hn hc
        refine run_ok hl hlen hi (fun q => absurd q hL) (fun _ k hk => ?_)
        have e := RN_uniq hn hk
        subst e
        exact hp n (Or.inr (Or.inl ⟨hL, hD, n, hn, by rw [if_pos hc]⟩))
      refine run_ok hl hlen hi (fun q => absurd q hL) (fun _ n hn => ⟨fun h1 => ?_, fun h1 => ?_⟩)
      · have hn1 := hn.1
        exact last n hn (Or.inl ((nI_eq (a := n) (b := 1) (by omega) (by omega)).mp h1))
      · have hn1 := hn.1
        have h1 : ¬ n = 1 := fun q => h1 (by rw [q]; rfl)
        refine run_ok hl hlen hi (fun q => absurd q hL) (fun _ k hk => ?_)
        have e := RN_uniq hn hk
        subst e
        refine ⟨fun h2 => ?_, fun h2 => ⟨fun h48 => ?_, fun h48 => ?_⟩⟩
        · have h2 : ¬ n = 2 := fun q => h2 (by rw [q]; rfl)
          exact hp 0 (Or.inr (Or.inl ⟨hL, hD, n, hn, by rw [if_neg (by omega)]⟩))
        · refine hp 0 (Or.inr (Or.inl ⟨hL, hD, n, hn, ?_⟩))
          rw [if_neg]
          rintro (q | ⟨_, q⟩)
          · exact h1 q
          · exact q h48
        · exact last n hn (Or.inr ⟨(nI_eq (a := n) (b := 2) (by omega) (by omega)).mp h2, h48⟩)
    · have fin : ∀ m : Nat, (m = if u.2 0 i = 40 ∨ u.2 0 i = 41 ∨ u.2 0 i = 95 ∨ u.2 0 i = 43 ∨ u.2 0 i = 42 ∨ u.2 0 i = 61 ∨ u.2 0 i = 60 then 1 else 0) → post (nI m) u := fun m hm => hp m (Or.inr (Or.inr (Or.inr ⟨hL, hD, h46, hm⟩)))
      refine ⟨fun h => fin 1 (by rw [if_pos (Or.inl h)]), fun a1 => ⟨fun h => fin 1 (by rw [if_pos (Or.inr (Or.inl h))]), fun a2 => ⟨fun h => fin 1 (by rw [if_pos (Or.inr (Or.inr (Or.inl h)))]), fun a3 => ⟨fun h => fin 1 (by rw [if_pos (Or.inr (Or.inr (Or.inr (Or.inl h))))]), fun a4 => ⟨fun h => fin 1 (by rw [if_pos (Or.inr (Or.inr (Or.inr (Or.inr (Or.inl h)))))]), fun a5 => ⟨fun h => fin 1 (by rw [if_pos (Or.inr (Or.inr (Or.inr (Or.inr (Or.inr (Or.inl h))))))]), fun a6 => ⟨fun h => fin 0 ?_, fun h => fin 1 (by rw [if_pos (Or.inr (Or.inr (Or.inr (Or.inr (Or.inr (Or.inr h))))))])⟩⟩⟩⟩⟩⟩⟩
      rw [if_neg]
      rintro (q | q | q | q | q | q | q)
      · exact a1 q
      · exact a2 q
      · exact a3 q
      · exact a4 q
      · exact a5 q
      · exact a6 q
      · exact h q
    · rintro _ rfl
      rw [nI_1]
      refine look_ok hl hlen (by omega) ⟨fun h => ?_, fun h => ?_⟩
      · exact hp 0 (Or.inr (Or.inr (Or.inl ⟨hL, hD, h46, by rw [if_neg h]⟩)))
      · exact hp 2 (Or.inr (Or.inr (Or.inl ⟨hL, hD, h46, by rw [if_pos h]⟩)))
theorem TK_len {T : Nat → Int32} {len i m : Nat} (hi : i < len) (h : TK T len i m) : i + m ≤ len ∧ m ≤ 3 := by
  rcases h with ⟨_, n, hn, rfl⟩ | ⟨_, _, n, hn, rfl⟩ | ⟨_, _, _, rfl⟩ | ⟨_, _, _, rfl⟩
  · have := hn.1
    split <;> omega
  · have := hn.1
    split <;> omega
  · split
    · rename_i h
      have : i + 1 < len := by
        rcases Nat.lt_or_ge (i + 1) len with c | c
        · exact c
        · unfold lk at h
          rw [if_neg (by omega)] at h
          exact absurd h (by decide)
      omega
    · omega
  · split <;> omega
