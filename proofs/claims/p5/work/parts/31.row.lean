-- 31: the row of the reference while it is expanded
/-- from h on: trees, .. and closers up to the row's end -/
def RO (r : Nat → Int32) : Nat → Nat → Prop
  | 0, h => h = 2600
  | n + 1, h => h < 2600 ∧ (((kd (r h) = 2 ∨ kd (r h) = 7) ∧ RO r n (h + 1)) ∨ (∃ m, ¬ kd (r h) = 2 ∧ TL r h m ∧ h + m ≤ 2600 ∧ m ≤ 310 ∧ (∀ j, h ≤ j → j < h + m → TOK (r j)) ∧ DTS r h (h + m) ∧ RO r n (h + m)))
theorem RO_congr {r q : Nat → Int32} : ∀ (n h : Nat), RO r n h → (∀ j, h ≤ j → q j = r j) → RO q n h := by
  intro n
  induction n with
  | zero => intro h hr _; exact hr
  | succ n ih =>
    intro h hr hq
    obtain ⟨h1, h2⟩ := hr
    refine ⟨h1, ?_⟩
    rcases h2 with ⟨h2, h3⟩ | ⟨m, a1, a2, a3, a4, a5, a6, a7⟩
    · exact Or.inl ⟨by rw [hq h (Nat.le_refl h)]; exact h2, ih _ h3 (fun j hj => hq j (by omega))⟩
    · refine Or.inr ⟨m, by rw [hq h (Nat.le_refl h)]; exact a1, TL_copy (fun k _ => by rw [hq (h + k) (by omega)]) a2, a3, a4, fun j j1 j2 => by rw [hq j j1]; exact a5 j j1 j2, fun k k1 k2 k6 => ?_, ih _ a7 (fun j hj => hq j (by omega))⟩
      rw [hq k (by omega)] at k6
      rw [hq (k - 1) (by omega)]
      exact a6 k k1 k2 k6
theorem RO_atom {r : Nat → Int32} {n h : Nat} (hr : RO r (n + 1) h) (hk : ¬ kd (r h) = 1) : RO r n (h + 1) := by
  obtain ⟨h1, ⟨h2, h3⟩ | ⟨m, a1, a2, a3, a4, a5, a6, a7⟩⟩ := hr
  · exact h3
  · have := TL_uniq a2 (TL_atom hk)
    subst this; exact a7
/-- a list at the row's head -/
def TH (r : Nat → Int32) (h m N n : Nat) : Prop := LI r h m N ∧ h + m ≤ 2600 ∧ m ≤ 310 ∧ (∀ j, h ≤ j → j < h + m → TOK (r j)) ∧ DTS r h (h + m) ∧ RO r n (h + m)
theorem RO_list {r : Nat → Int32} {n h : Nat} (hr : RO r n h) (hh : h < 2600) (hk : kd (r h) = 1) : ∃ m N n', TH r h m N n' := by
  cases n with
  | zero => exact absurd hr (by show ¬ h = 2600; omega)
  | succ n =>
    obtain ⟨h1, ⟨h2, h3⟩ | ⟨m, a1, a2, a3, a4, a5, a6, a7⟩⟩ := hr
    · rcases h2 with q | q <;> (rw [hk] at q; exact absurd q (by decide))
    · obtain ⟨N, hL⟩ := LI_ex hk a2
      exact ⟨m, N, n, hL, a3, a4, a5, a6, a7⟩
theorem RO_items {r q : Nat → Int32} {h m N n : Nat} (hT : TH r h m N n) (hq1 : ∀ j, h ≤ j → j < h + m - 1 → q j = r j) (hq2 : ∀ j, h + m ≤ j → q j = r j) (hq3 : kd (q (h + m - 1)) = 2 ∨ kd (q (h + m - 1)) = 7) : ∀ d k, k + d = N → RO q (n + d + 1) (it r h k) := by
  obtain ⟨hL, a3, a4, a5, a6, a7⟩ := hT
  have m2 := (TL_open hL.1 hL.2.1).1
  intro d
  induction d with
  | zero =>
    intro k hk
    have hk : k = N := by omega
    subst hk
    rw [hL.2.2.2, show h + (m - 1) = h + m - 1 from by omega]
    refine ⟨by omega, Or.inl ⟨hq3, ?_⟩⟩
    rw [show h + m - 1 + 1 = h + m from by omega]
    exact RO_congr _ _ a7 hq2
  | succ d ih =>
    intro k hk
    obtain ⟨c2, cT⟩ := hL.2.2.1 k (by omega)
    have b0 := LI_at hL (k := k) (by omega)
    have b1 := LI_at hL (k := k + 1) (by omega)
    have bN := LI_mono hL (j := k + 1) (k := N) (by omega) (Nat.le_refl N)
    have eN := hL.2.2.2
    have e1 : it r h (k + 1) = it r h k + tl r (it r h k) := rfl
    have c0 := cT.1
    have i1 := ih (k + 1) (by omega)
    rw [e1] at i1 b1 bN
    generalize it r h k = i at *
    generalize ez : tl r i = z at *
    have same : ∀ j, i ≤ j → j < i + z → q j = r j := fun j j1 j2 => hq1 j (by omega) (by omega)
    refine ⟨by omega, Or.inr ⟨z, by rw [same i (by omega) (by omega)]; exact c2, TL_copy (fun l hl => by rw [same (i + l) (by omega) (by omega)]) cT, by omega, by omega, fun j j1 j2 => by rw [same j j1 j2]; exact a5 j (by omega) (by omega), fun l l1 l2 l6 => ?_, i1⟩⟩
    rw [same l (by omega) l2] at l6
    rw [same (l - 1) (by omega) (by omega)]
    exact a6 l (by omega) (by omega) l6
theorem RO_itemsS {r : Nat → Int32} {h m N n : Nat} (hT : TH r h m N n) {k : Nat} (hk : k ≤ N) : ∃ n', RO r n' (it r h k) := by
  refine ⟨n + (N - k) + 1, RO_items hT (fun _ _ _ => rfl) (fun _ _ => rfl) (Or.inl ?_) (N - k) k (by omega)⟩
  have m2 := (TL_open hT.1.1 hT.1.2.1)
  rw [show h + m - 1 = h + (m - 1) from by omega]
  exact m2.2.2
/-- the own rules -/
def OWN (w : mS) : Prop := ∃ ow, w.1 3 = nI ow ∧ ow ≤ 4 ∧ ∀ k, k < ow → ∃ e, w.2 6 k = nI e ∧ 120 * k ≤ e ∧ e ≤ 120 * k + 120 ∧ RS (w.2 3) (w.2 4) (120 * k) e
theorem OWN_keep {S A : List Nat} {u w : mS} (h : OWN u) (hF : FR S A u w) (h3 : 3 ∉ S) (h6 : 6 ∉ A) (hk : ∀ j, j < 480 → w.2 3 j = u.2 3 j ∧ w.2 4 j = u.2 4 j) : OWN w := by
  obtain ⟨ow, e, ho, hA⟩ := h
  refine ⟨ow, (hF.1 3 h3).trans e, ho, fun k hk' => ?_⟩
  obtain ⟨x, x1, x2, x3, x4⟩ := hA k hk'
  exact ⟨x, by rw [hF.2 6 h6]; exact x1, x2, x3, RS_same x4 (fun j j1 j2 => hk j (by omega))⟩
/-- what lasts from call to call; l: how much is typed -/
def LST (l : Int32) (w : mS) : Prop := w.1 0 = l ∧ RD3 w ∧ SZ w ∧ OWN w
theorem LST_fr {l : Int32} {S A : List Nat} {u w : mS} (h : LST l u) (hF : FR S A u w) (h0 : 0 ∉ S) (h3 : 3 ∉ S) (h9 : 9 ∉ S) (a3 : 3 ∉ A) (a4 : 4 ∉ A) (a6 : 6 ∉ A) (a18 : 18 ∉ A) : LST l w := by
  obtain ⟨b0, b1, ⟨s, b2, b3⟩, b4⟩ := h
  exact ⟨(hF.1 0 h0).trans b0, RD3_fr b1 hF a18, ⟨s, (hF.1 9 h9).trans b2, b3⟩, OWN_keep b4 hF h3 a6 (fun j _ => by rw [hF.2 3 a3, hF.2 4 a4]; exact ⟨rfl, rfl⟩)⟩
theorem LST_pq {l : Int32} {u w : mS} (h : LST l u) (hq : PQ u w) : LST l w := by
  obtain ⟨b0, b1, -, b4⟩ := h
  exact ⟨(hq.1.1 0 (by decide)).trans b0, RD3_fr b1 hq.1 (by decide), hq.2, OWN_keep b4 hq.1 (by decide) (by decide) (fun j _ => by rw [hq.1.2 3 (by decide), hq.1.2 4 (by decide)]; exact ⟨rfl, rfl⟩)⟩
/-- a binding: one to rules names rules that hold, below ke -/
def PB (kp ks : Nat → Int32) (ke : Nat) (m f t : Int32) : Prop := m = 3 → ∃ a b, f = nI a ∧ t = nI b ∧ b ≤ ke ∧ RS kp ks a b
/-- a run of expand: head h, fuel f -/
def EXI (w : mS) (h f : Nat) : Prop := w.1 1 = nI h ∧ h ≤ 2600 ∧ w.1 15 = nI f ∧ f ≤ 8 ∧ (∃ n, RO (w.2 1) n h) ∧ ∃ ke, w.1 2 = nI ke ∧ 480 ≤ ke ∧ ke + (2600 - h) + 300 * f ≤ 3000 ∧ BNS (PB (w.2 3) (w.2 4) ke) w
theorem EXI_mv {S A : List Nat} {u w : mS} {h f h' : Nat} (hE : EXI u h f) (hF : FR S A u w) (h1 : w.1 1 = nI h') (hh : h ≤ h') (h26 : h' ≤ 2600) (hr : ∃ n, RO (w.2 1) n h') (s2 : 2 ∉ S) (s15 : 15 ∉ S) (a3 : 3 ∉ A) (a4 : 4 ∉ A) (hB : ∀ P, BNS P u → BNS P w) : EXI w h' f := by
  obtain ⟨e1, e2, e3, e4, e5, ke, e6, e7, e8, e9⟩ := hE
  refine ⟨h1, h26, (hF.1 15 s15).trans e3, e4, hr, ke, (hF.1 2 s2).trans e6, e7, by omega, ?_⟩
  rw [hF.2 3 a3, hF.2 4 a4]
  exact hB _ e9
/-- what a step owes -/
def HP (l : Int32) (h f : Nat) (post : mS → Prop) : Prop := ∀ v, LST l v → (v.1 12 = 0 → ∃ h' f', EXI v h' f' ∧ f' * 3000 + (2600 - h') < f * 3000 + (2600 - h)) → post v
theorem failsHP {l x : Int32} {h f : Nat} {u : mS} {post : mS → Prop} (hL : LST l u) (hx : ¬ x = 0) (hp : HP l h f post) : wp_X9_fails x u post :=
  fails_ok hx (fun v hv he _ => hp v (LST_fr hL hv (by decide) (by decide) (by decide) (by decide) (by decide) (by decide) (by decide)) (fun q => absurd q he))
theorem word_ok {l : Int32} {h f : Nat} {u : mS} {post : mS → Prop} (hE : EXI u h f) (hL : LST l u) (hh : h < 2600) (hk : ¬ kd (u.2 1 h) = 1) (hp : HP l h f post) : wp_X9_word u post := by
  have e1 := hE.1
  obtain ⟨n, hr⟩ := hE.2.2.2.2.1
  obtain ⟨n, rfl⟩ : ∃ k, n = k + 1 := by
    cases n with
    | zero => exact absurd hr (by show ¬ h = 2600; omega)
    | succ k => exact ⟨k, rfl⟩
  have hr1 := RO_atom hr hk
  have last : ∀ (S A : List Nat) (v : mS), FR S A u v → LST l v → 1 ∉ S → 2 ∉ S → 15 ∉ S → 1 ∉ A → 3 ∉ A → 4 ∉ A → 4 ∉ S → 9 ∉ A → 10 ∉ A → 11 ∉ A → wj_X9_word_106 post v := by
    intro S A v vF vL s1 s2 s15 a1 a3 a4 s4 a9 a10 a11
    intro y28 e28
    have e28 : y28 = nI h := e28.trans ((vF.1 1 s1).trans e1)
    subst e28
    rintro _ rfl _ rfl
    rw [nI_1]
    refine hp _ (LST_fr (S := [1]) (A := []) vL (FR_set FR.rf (by decide)) (by decide) (by decide) (by decide) (by decide) (by decide) (by decide) (by decide)) (fun _ => ⟨h + 1, f, ?_, by omega⟩)
    have F2 : FR (1 :: S) A u (mSet v 1 (nI (h + 1))) := FR_set (vF.wk (fun k hk => List.mem_cons_of_mem _ hk) (fun k hk => hk)) (List.mem_cons_self ..)
    refine EXI_mv hE F2 (mSet_same _ _ _) (by omega) (by omega) ⟨n, ?_⟩ ?_ ?_ a3 a4 (fun P hB => ?_)
    · rw [mSet_arr, vF.2 1 a1]; exact hr1
    · intro q; rcases List.mem_cons.mp q with q | q
      · exact absurd q (by decide)
      · exact s2 q
    · intro q; rcases List.mem_cons.mp q with q | q
      · exact absurd q (by decide)
      · exact s15 q
    · refine BNS_fr hB F2 ?_ a9 a10 a11
      intro q; rcases List.mem_cons.mp q with q | q
      · exact absurd q (by decide)
      · exact s4 q
  have lastF : ∀ x, ¬ x = 0 → wp_X9_fails x u (fun v => wj_X9_word_106 post v) := fun x hx => fails_ok hx (fun v hv he _ => last _ _ v hv (LST_fr hL hv (by decide) (by decide) (by decide) (by decide) (by decide) (by decide) (by decide)) (by decide) (by decide) (by decide) (by decide) (by decide) (by decide) (by decide) (by decide) (by decide) (by decide))
  have lastP : ∀ v, PQ u v → wj_X9_word_106 post v := fun v hv => last _ _ v hv.1 (LST_pq hL hv) (by decide) (by decide) (by decide) (by decide) (by decide) (by decide) (by decide) (by decide) (by decide) (by decide)
  obtain ⟨nb, n1, n2, -⟩ := hE.2.2.2.2.2.choose_spec.2.2.2
  intro y1 q1
  have q1 : y1 = nI h := q1.trans e1
  subst q1
  refine what_2 hh (fun r => ?_)
  intro y4 q4
  have q4 : y4 = nI h := q4.trans e1
  subst q4
  refine ⟨vp_in_nI hh (by omega), ?_⟩
  rintro _ rfl
  refine means_ok n1 n2 (fun k hk => ⟨fun _ => ⟨vp_in_nI (by omega) (by omega), ?_⟩, fun q => absurd (nI_pos' (by omega)) q⟩) ⟨fun q => absurd q (by decide), fun _ => ⟨fun q => absurd rfl q, fun _ => lastF _ (by decide)⟩⟩ ⟨fun q => absurd q (by decide), fun _ => ⟨fun _ => lastF _ (by decide), fun q => absurd q (by decide)⟩⟩
  rintro _ rfl
  refine ⟨fun _ => ⟨vp_in_nI (by omega) (by omega), ?_⟩, fun _ => space_ok hL.2.2.1 (fun v hv => ?_)⟩
  · rintro _ rfl
    refine ⟨fun _ => lastF _ (by decide), fun _ => ⟨vp_in_nI (by omega) (by omega), ?_⟩⟩
    rintro _ rfl
    exact putVariable_ok hL.2.2.1 lastP
  · intro y20 q20
    have q20 : y20 = nI h := q20.trans ((hv.1.1 1 (by decide)).trans e1)
    subst q20
    exact what_2 hh (fun r => putName_ok hv.2 (fun z hz => lastP z (hv.tr hz)))
