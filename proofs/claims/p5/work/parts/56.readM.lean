-- 56: the reference's read, a step at a time, backwards: what is wanted at the start follows from what is wanted further on
/-- the loop of read from a place on -/
def LPM (Q : Int32 → mS → Prop) (n o : Nat) (b : Int32) (i : Nat) (z : mS) : Prop := ∃ k, mL5 (fun K => wj_X9_read_9 K Q) k (nI n) (nI o) b (nI i) z
/-- the token of m characters at place i is v -/
def CD (T : Nat → Int32) (i m : Nat) (v : Int32) : Prop := (T i = 40 ∧ v = 65536) ∨ (T i = 41 ∧ v = 131072) ∨ (T i = 95 ∧ v = 327680) ∨ (T i = 46 ∧ v = 393216) ∨ (cD (T i) ∧ v = 65536 * 4 + valD T i m) ∨ (cL (T i) ∧ v = 65536 * 3 + valL T i m) ∨ (¬ cD (T i) ∧ ¬ cL (T i) ∧ ¬ T i = 40 ∧ ¬ T i = 41 ∧ ¬ T i = 95 ∧ ¬ T i = 46 ∧ v = 65536 * 3 + (40000 + T i))
theorem cD_not {c : Int32} (h : cD c) : ¬ c = 40 ∧ ¬ c = 41 ∧ ¬ c = 95 ∧ ¬ c = 46 ∧ ¬ cL c ∧ ¬ c = 32 := by
  refine ⟨fun q => ?_, fun q => ?_, fun q => ?_, fun q => ?_, fun q => ?_, fun q => ?_⟩
  · rw [q] at h; exact absurd h.1 (by decide)
  · rw [q] at h; exact absurd h.1 (by decide)
  · rw [q] at h; exact absurd h.2 (by decide)
  · rw [q] at h; exact absurd h.1 (by decide)
  · obtain ⟨x, e1, e2, e3⟩ := cL_nI q
    obtain ⟨y, f1, f2, f3⟩ := cD_nI h
    have := (nI_eq (by omega) (by omega)).mp (e1.symm.trans f1)
    omega
  · rw [q] at h; exact absurd h.1 (by decide)
theorem cL_not {c : Int32} (h : cL c) : ¬ c = 40 ∧ ¬ c = 41 ∧ ¬ c = 95 ∧ ¬ c = 46 ∧ ¬ cD c ∧ ¬ c = 32 := by
  refine ⟨fun q => ?_, fun q => ?_, fun q => ?_, fun q => ?_, fun q => (cD_not q).2.2.2.2.1 h, fun q => ?_⟩
  · rw [q] at h; exact absurd h.1 (by decide)
  · rw [q] at h; exact absurd h.1 (by decide)
  · rw [q] at h; exact absurd h.1 (by decide)
  · rw [q] at h; exact absurd h.1 (by decide)
  · rw [q] at h; exact absurd h.1 (by decide)
theorem code_cd {i len m : Nat} {v : Int32} {u : mS} {post : Int32 → mS → Prop} (hl : u.1 0 = nI len) (hlen : len ≤ 120) (hm : 1 ≤ m) (him : i + m ≤ len) (hc : CD (u.2 0) i m v) (hp : post v u) : wp_X9_code (nI i) (nI m) u post := by
  have el : lk (u.2 0) len i = u.2 0 i := by unfold lk; rw [if_pos (by omega)]
  rcases hc with ⟨e, rfl⟩ | ⟨e, rfl⟩ | ⟨e, rfl⟩ | ⟨e, rfl⟩ | ⟨e, rfl⟩ | ⟨e, rfl⟩ | ⟨e1, e2, e3, e4, e5, e6, rfl⟩
  · refine look_ok hl hlen (by omega) ?_
    rw [el]
    exact ⟨fun b => absurd e b, fun _ => hp⟩
  · refine look_ok hl hlen (by omega) ?_
    rw [el]
    exact ⟨fun _ => ⟨fun b => absurd e b, fun _ => hp⟩, fun q => absurd (e.symm.trans q) (by decide)⟩
  · refine look_ok hl hlen (by omega) ?_
    rw [el]
    exact ⟨fun _ => ⟨fun _ => ⟨fun b => absurd e b, fun _ => hp⟩, fun q => absurd (e.symm.trans q) (by decide)⟩, fun q => absurd (e.symm.trans q) (by decide)⟩
  · refine look_ok hl hlen (by omega) ?_
    rw [el]
    exact ⟨fun _ => ⟨fun _ => ⟨fun _ => ⟨fun b => absurd e b, fun _ => hp⟩, fun q => absurd (e.symm.trans q) (by decide)⟩, fun q => absurd (e.symm.trans q) (by decide)⟩, fun q => absurd (e.symm.trans q) (by decide)⟩
  · obtain ⟨n1, n2, n3, n4, n5, -⟩ := cD_not e
    exact code_ok hl hlen hm him (fun q => absurd q n1) (fun q => absurd q n2) (fun q => absurd q n3) (fun q => absurd q n4) (fun _ => hp) (fun q => absurd e q) (fun q => absurd e q)
  · obtain ⟨n1, n2, n3, n4, n5, -⟩ := cL_not e
    exact code_ok hl hlen hm him (fun q => absurd q n1) (fun q => absurd q n2) (fun q => absurd q n3) (fun q => absurd q n4) (fun q => absurd q n5) (fun _ _ => hp) (fun _ q => absurd e q)
  · exact code_ok hl hlen hm him (fun q => absurd q e3) (fun q => absurd q e4) (fun q => absurd q e5) (fun q => absurd q e6) (fun q => absurd q e1) (fun _ q => absurd q e2) (fun _ _ => hp)
theorem TK_uniq {T : Nat → Int32} {len i m n : Nat} (h : TK T len i m) (g : TK T len i n) : m = n := by
  rcases h with ⟨a, k, hk, rfl⟩ | ⟨a, a2, k, hk, rfl⟩ | ⟨a, a2, a3, rfl⟩ | ⟨a, a2, a3, rfl⟩ <;> rcases g with ⟨b, l, hl, rfl⟩ | ⟨b, b2, l, hl, rfl⟩ | ⟨b, b2, b3, rfl⟩ | ⟨b, b2, b3, rfl⟩
  all_goals first
    | exact absurd a b
    | exact absurd b a
    | exact absurd a2 b2
    | exact absurd b2 a2
    | exact absurd a3 b3
    | exact absurd b3 a3
    | rfl
    | (have := RN_uniq hk hl
       subst this
       rfl)
theorem RN_ex (P : Int32 → Prop) (T : Nat → Int32) {len i : Nat} (hi : i ≤ len) : ∃ m, RN P T len i m := by
  obtain ⟨m, hm, hmin⟩ := pk_least (fun m => i + m = len ∨ ¬ P (T (i + m))) ⟨len - i, Or.inl (by omega)⟩
  have le : i + m ≤ len := by
    rcases Nat.lt_or_ge len (i + m) with c | c
    · exact absurd (Or.inl (by omega)) (hmin (len - i) (by omega))
    · exact c
  refine ⟨m, le, fun k hk => ?_, fun hlt => ?_⟩
  · apply Classical.byContradiction
    intro q
    exact hmin k hk (Or.inr q)
  · rcases hm with q | q
    · omega
    · exact q
theorem TK_ex (T : Nat → Int32) {len i : Nat} (hi : i < len) : ∃ m, TK T len i m := by
  by_cases cl : cL (T i)
  · obtain ⟨n, hn⟩ := RN_ex cL T (len := len) (i := i) (by omega)
    exact ⟨_, Or.inl ⟨cl, n, hn, rfl⟩⟩
  · by_cases cd : cD (T i)
    · obtain ⟨n, hn⟩ := RN_ex cD T (len := len) (i := i) (by omega)
      exact ⟨_, Or.inr (Or.inl ⟨cl, cd, n, hn, rfl⟩)⟩
    · by_cases c6 : T i = 46
      · exact ⟨_, Or.inr (Or.inr (Or.inl ⟨cl, cd, c6, rfl⟩))⟩
      · exact ⟨_, Or.inr (Or.inr (Or.inr ⟨cl, cd, c6, rfl⟩))⟩
theorem CD_ex (T : Nat → Int32) (i m : Nat) : ∃ v, CD T i m v := by
  by_cases a1 : T i = 40
  · exact ⟨_, Or.inl ⟨a1, rfl⟩⟩
  by_cases a2 : T i = 41
  · exact ⟨_, Or.inr (Or.inl ⟨a2, rfl⟩)⟩
  by_cases a3 : T i = 95
  · exact ⟨_, Or.inr (Or.inr (Or.inl ⟨a3, rfl⟩))⟩
  by_cases a4 : T i = 46
  · exact ⟨_, Or.inr (Or.inr (Or.inr (Or.inl ⟨a4, rfl⟩)))⟩
  by_cases a5 : cD (T i)
  · exact ⟨_, Or.inr (Or.inr (Or.inr (Or.inr (Or.inl ⟨a5, rfl⟩))))⟩
  by_cases a6 : cL (T i)
  · exact ⟨_, Or.inr (Or.inr (Or.inr (Or.inr (Or.inr (Or.inl ⟨a6, rfl⟩)))))⟩
  · exact ⟨_, Or.inr (Or.inr (Or.inr (Or.inr (Or.inr (Or.inr ⟨a5, a6, a1, a2, a3, a4, rfl⟩)))))⟩
theorem LPM_space {Q : Int32 → mS → Prop} {n o i len : Nat} {b : Int32} {z : mS} (hl : z.1 0 = nI len) (hlen : len ≤ 120) (hi : i < len) (h32 : z.2 0 i = 32) (h : LPM Q n o b (i + 1) z) : LPM Q n o b i z := by
  obtain ⟨k, hk⟩ := h
  have el : lk (z.2 0) len i = z.2 0 i := by unfold lk; rw [if_pos hi]
  refine ⟨k + 1, ?_⟩
  show wj_X9_read_9 _ Q _ _ _ _ z
  intro y1 e1
  rw [hl] at e1; subst e1
  refine ⟨fun q => absurd q (by rw [nI_leI (by omega) (by omega)]; omega), fun _ => look_ok hl hlen (by omega) ?_⟩
  rw [el]
  refine ⟨fun q => absurd h32 q, fun _ => ?_⟩
  rintro _ rfl
  rw [nI_1]; exact hk
theorem LPM_bad {Q : Int32 → mS → Prop} {n o i len : Nat} {b : Int32} {z : mS} (hl : z.1 0 = nI len) (hlen : len ≤ 120) (hi : i < len) (h32 : ¬ z.2 0 i = 32) (ho : o ≤ 8) (hb : TK (z.2 0) len i 0 ∨ ∃ m v, TK (z.2 0) len i m ∧ 1 ≤ m ∧ CD (z.2 0) i m v ∧ ¬ FIT (kd v) o b) (hQ : Q (nI i) z) : LPM Q n o b i z := by
  have el : lk (z.2 0) len i = z.2 0 i := by unfold lk; rw [if_pos hi]
  refine ⟨1, ?_⟩
  show wj_X9_read_9 _ Q _ _ _ _ z
  intro y1 e1
  rw [hl] at e1; subst e1
  refine ⟨fun q => absurd q (by rw [nI_leI (by omega) (by omega)]; omega), fun _ => look_ok hl hlen (by omega) ?_⟩
  rw [el]
  refine ⟨fun _ => token_ok hl hlen hi (fun m hm => ?_), fun q => absurd q h32⟩
  have hbd := TK_len hi hm
  refine ⟨fun h0 => ?_, fun h0 => ?_⟩
  · rintro _ rfl
    have m0 : m = 0 := by
      have h0 : nI m ≤ nI 0 := h0
      rw [nI_leI (by omega) (by omega)] at h0; omega
    subst m0
    exact ⟨fun _ => hQ, fun q => absurd rfl q⟩
  · have m0 : 1 ≤ m := by
      have h0 : ¬ nI m ≤ nI 0 := h0
      rw [nI_leI (by omega) (by omega)] at h0; omega
    rcases hb with hb | ⟨m', v, b1, b2, b3, b4⟩
    · have := TK_uniq hm hb
      omega
    · have em := TK_uniq hm b1
      subst em
      refine code_cd hl hlen m0 hbd.1 b3 ?_
      intro y17 e17
      have e17 : y17 = kd v := e17
      subst e17
      refine ⟨fun _ => hQ, fun _ => fits_ok (by omega) (fun q => absurd q b4) (fun _ => ⟨fun q => absurd rfl q, fun _ => hQ⟩)⟩
theorem LPM_tok {Q : Int32 → mS → Prop} {n o i len m p : Nat} {b v : Int32} {z : mS} (hl : z.1 0 = nI len) (hlen : len ≤ 120) (hi : i < len) (h32 : ¬ z.2 0 i = 32) (hn : n ≤ i) (ho : o ≤ 8) (hT : TK (z.2 0) len i m) (hm1 : 1 ≤ m) (hc : CD (z.2 0) i m v) (hf : FIT (kd v) o b) (hp : (p : Int) = o + sg v) (h : LPM Q (n + 1) p (kd v) (i + m) (mPut z 1 n v)) : LPM Q n o b i z := by
  obtain ⟨k, hk⟩ := h
  have el : lk (z.2 0) len i = z.2 0 i := by unfold lk; rw [if_pos hi]
  refine ⟨k + 1, ?_⟩
  show wj_X9_read_9 _ Q _ _ _ _ z
  intro y1 e1
  rw [hl] at e1; subst e1
  refine ⟨fun q => absurd q (by rw [nI_leI (by omega) (by omega)]; omega), fun _ => look_ok hl hlen (by omega) ?_⟩
  rw [el]
  refine ⟨fun _ => token_ok hl hlen hi (fun m' hm => ?_), fun q => absurd q h32⟩
  have em := TK_uniq hm hT
  subst em
  have hbd := TK_len hi hm
  refine ⟨fun h0 => absurd h0 (by show ¬ nI m' ≤ nI 0; rw [nI_leI (by omega) (by omega)]; omega), fun _ => ?_⟩
  refine code_cd hl hlen hm1 hbd.1 hc ?_
  intro y17 e17
  have e17 : y17 = kd v := e17
  subst e17
  refine ⟨fun q => absurd q (by rw [show (0 : Int32) = nI 0 from rfl, nI_eq (by omega) (by omega)]; omega), fun _ => ?_⟩
  refine fits_ok (by omega) (fun _ => ⟨fun _ => ?_, fun q => absurd q (by decide)⟩) (fun q => absurd hf q)
  refine ⟨vp_in_nI (by omega) (by omega), ?_⟩
  rintro _ rfl _ rfl
  rw [nI_clamp (by omega), nI_1]
  have go : wj_X9_read_123 (mL5 (fun K => wj_X9_read_9 K Q) k) Q (nI (n + 1)) (nI i) (nI m') (kd v) (nI p) (mPut z 1 n v) := by
    rintro _ rfl
    rw [nI_add]; exact hk
  refine ⟨fun k1 => ⟨fun k2 => ?_, fun k2 => ?_⟩, fun k1 => ?_⟩
  · have ep : p = o := by rw [sg_else k1 k2] at hp; omega
    rw [← ep]; exact go
  · rintro _ rfl
    have ep : o = p + 1 := by rw [sg_close k2] at hp; omega
    rw [ep, nI_pred]; exact go
  · rintro _ rfl
    have ep : o + 1 = p := by rw [sg_open k1] at hp; omega
    rw [nI_1, ep]; exact go
theorem LPM_short {Q : Int32 → mS → Prop} {n o i len : Nat} {b : Int32} {z : mS} (hl : z.1 0 = nI len) (hlen : len ≤ 120) (hi : len ≤ i) (hi2 : i ≤ 200) (ho : o ≤ 8) (hb : 0 < o ∨ b = 0) (hQ : Q (nI len) z) : LPM Q n o b i z := by
  refine ⟨1, ?_⟩
  show wj_X9_read_9 _ Q _ _ _ _ z
  intro y1 e1
  rw [hl] at e1; subst e1
  have ex : wj_X9_read_145 Q z := by
    intro y e
    rw [hl] at e; subst e
    exact hQ
  refine ⟨fun _ => ⟨fun _ => ex, fun h0 => ⟨fun h1 => ?_, fun _ => ex⟩⟩, fun q => absurd (by rw [nI_leI (by omega) (by omega)]; omega) q⟩
  rcases hb with hb | hb
  · exact absurd (by show nI 0 < nI o; rw [nI_ltI (by omega) (by omega)]; omega) h0
  · exact absurd hb h1
theorem LPM_whole {Q : Int32 → mS → Prop} {n i len : Nat} {b : Int32} {z : mS} (hl : z.1 0 = nI len) (hlen : len ≤ 120) (hi : len ≤ i) (hi2 : i ≤ 200) (hn : n ≤ 120) (hn0 : 0 < n) (hb : ¬ b = 0) (hQ : ∀ w, FR [1] [1, 2] z w → w.1 1 = nI (2600 - n) → (∀ j, j < n → w.2 1 (2600 - n + j) = z.2 1 j ∧ w.2 2 (2600 - n + j) = 0) → Q (-1) w) : LPM Q n 0 b i z := by
  refine ⟨1, ?_⟩
  show wj_X9_read_9 _ Q _ _ _ _ z
  intro y1 e1
  rw [hl] at e1; subst e1
  refine ⟨fun _ => ⟨fun h0 => absurd h0 (by decide), fun h0 => ⟨fun h1 => ?_, fun h1 => absurd h1 hb⟩⟩, fun q => absurd (by rw [nI_leI (by omega) (by omega)]; omega) q⟩
  rintro y5 rfl u6 rfl y7 rfl
  rw [show (2600 : Int32) = nI 2600 from rfl, pk_sub (by omega)]
  obtain ⟨m, rfl⟩ : ∃ m, n = m + 1 := ⟨n - 1, by omega⟩
  rw [nI_pred]
  have key : ∀ (k : Nat) (x : Int32) (w : mS), k ≤ m + 1 → ((k = 0 ∧ x < 0) ∨ ∃ K, k = K + 1 ∧ x = nI K) → FR [1] [1, 2] z w → w.1 1 = nI (2600 - (m + 1)) → (∀ j, j < m + 1 → w.2 1 j = z.2 1 j) → (∀ j, k ≤ j → j < m + 1 → w.2 1 (2600 - (m + 1) + j) = z.2 1 j ∧ w.2 2 (2600 - (m + 1) + j) = 0) → mL2 (fun K => wj_X9_read_164 K Q) (k + 1) x w := by
    intro k
    induction k with
    | zero =>
      intro x w _ hx hF hh ho hc
      have hx : x < 0 := by
        rcases hx with ⟨_, h⟩ | ⟨K, h, _⟩
        · exact h
        · omega
      show wj_X9_read_164 _ Q x w
      exact ⟨fun _ => hQ w hF hh (fun j hj => hc j (by omega) hj), fun h => absurd hx h⟩
    | succ k ih =>
      intro x w hk hx hF hh ho hc
      have hx : x = nI k := by
        rcases hx with ⟨h, _⟩ | ⟨K, h, e⟩
        · omega
        · have : K = k := by omega
          rw [← this]; exact e
      subst hx
      show wj_X9_read_164 _ Q (nI k) w
      refine ⟨fun h => absurd h (nI_pos (by omega)), fun _ => ?_⟩
      intro y30 e30
      rw [hh] at e30; subst e30
      rintro _ rfl
      rw [nI_add]
      refine ⟨vp_in_nI (by omega) (by omega), ?_⟩
      rintro _ rfl
      refine ⟨vp_in_nI (by omega) (by omega), ?_⟩
      rintro _ rfl y34 e34
      have e34 : y34 = nI (2600 - (m + 1)) := e34.trans hh
      subst e34
      rintro _ rfl
      rw [nI_add]
      refine ⟨vp_in_nI (by omega) (by omega), ?_⟩
      rintro _ rfl _ rfl
      rw [nI_clamp (by omega), nI_clamp (by omega)]
      refine ih _ _ (by omega) (prev_i k) (FR_put (FR_put hF (by decide)) (by decide)) hh (fun j hj => ?_) (fun j hj hjn => ?_)
      · rw [mPut_other (by decide : (1 : Nat) ≠ 2), mPut_same, pk_un (by omega)]
        exact ho j hj
      · rw [mPut_other (by decide : (1 : Nat) ≠ 2), mPut_same, mPut_same, mPut_other (by decide : (2 : Nat) ≠ 1)]
        by_cases e : j = k
        · subst e; rw [pk_us, pk_us]; exact ⟨ho j hjn, rfl⟩
        · rw [pk_un (by omega), pk_un (by omega)]; exact hc j (by omega) hjn
  exact ⟨_, key (m + 1) (nI m) _ (Nat.le_refl _) (Or.inr ⟨m, rfl, rfl⟩) (FR_set FR.rf (by decide)) (mSet_same _ _ _) (fun j _ => rfl) (fun j h1 h2 => by omega)⟩
