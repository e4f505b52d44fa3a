-- 75: a turn of the reference's fill
/-- the state of a fill at place i of its template -/
def FIX (b w : mS) (pat T m0 lst i k ty h : Nat) (rd be ro : Nat → Nat) : Prop := FR [6, 7, 8, 12] [12, 13, 16, 17, 18] b w ∧ RD3 w ∧ w.1 12 = 0 ∧ w.1 6 = nI k ∧ w.1 7 = nI ty ∧ ty ≤ 100 ∧ w.1 8 = nI h ∧ h ≤ 2 ∧ (∀ l, l < 3 → w.2 18 l = nI (rd l) ∧ rd l < 2 ^ 20) ∧ (∀ l, l < h → w.2 16 l = nI (be l) ∧ w.2 17 l = nI (ro l)) ∧ SK (b.2 3) (b.2 4) (b.2 1) pat T (T + m0) lst rd be ro i h ∧ MD (b.2 3) (w.2 12) T i k ty
/-- what is needed of a use at place i: its variable, its levels, its rounds -/
theorem use_at {b : mS} {pat n T m0 lst m i h j : Nat} {rd be ro : Nat → Nat} {D : Nat → Nat → Prop} (hG : FG b pat n T m0 lst m D) (hTi : T ≤ i) (hlt : i < T + m0) (hSK : SK (b.2 3) (b.2 4) (b.2 1) pat T (T + m0) lst rd be ro i h) (n6 : ¬ kd (b.2 3 i) = 6) (ent : HL (b.2 3) T (T + m0) i → ∃ l, l < h ∧ be l = i) (hu : USE (b.2 3) (b.2 4) pat i j) : VP (b.2 3) pat n j ∧ lvF (b.2 3) j (j - pat + 1) pat = h ∧ (∀ l, l < h → rd l < CNT (b.2 3) (b.2 1) rd pat lst j l) ∧ (∀ st, wkS (b.2 3) (b.2 1) rd j st (j - pat + 1) pat lst 0) ∧ VU (b.2 1) lst m (CNT (b.2 3) (b.2 1) rd pat lst j 9) := by
  obtain ⟨hFC, hDT, hT2, hT6, htok, hrtok, hrdt⟩ := hG
  have hFC' := hFC
  obtain ⟨⟨N, t, hPC⟩, hPAT, hpT, hT, hTl, hTEM, hLl, hl2, hm, hTop, hD⟩ := hFC
  have hL := hPC.1.1
  have etp := tl_eq hL.2.1
  have hHB := sk_HB hSK hTi n6 ent
  obtain ⟨f1, f2, f3⟩ := FC_use hFC' hTi hlt hu
  have hcc : ∀ l, l < h → rd l < CNT (b.2 3) (b.2 1) rd pat lst j l := by
    intro l hl
    obtain ⟨c1, c2, c3, c4, c5, c6⟩ := hSK.1 l hl
    have ne : i ≠ be l + tl (b.2 3) (be l) := by
      intro z
      rw [z] at n6
      exact n6 c1.2.2.2.2
    rw [c6 i j c2 (by omega) hu]
    exact c4
  have hws : ∀ st, wkS (b.2 3) (b.2 1) rd j st (j - pat + 1) pat lst 0 := fun st => wkS_of _ _ _ 0 (by omega) (by omega) (fun l _ _ hl => hcc l (by rw [Nat.zero_add, f2, hHB] at hl; exact hl))
  have hnode := wkV_node (stop := 9) (rd := rd) hTop hD f1 (j - pat + 1) pat lst 0 (Or.inl ⟨rfl, rfl⟩) (by have := f1.1; omega) (fun _ => ⟨by rw [etp]; exact f1.2.1, hL.1⟩) (Nat.le_refl _) (by omega) (hws 9)
  have hDU : D j (CNT (b.2 3) (b.2 1) rd pat lst j 9) := by
    rcases hnode with q | q
    · exact q
    · have := f1.1; omega
  exact ⟨f1, f2.trans hHB, hcc, hws, (hD _ _ hDU).2.1⟩
theorem fm_tok {pat n T m0 lst m i k ty h : Nat} {rd be ro : Nat → Nat} {D : Nat → Nat → Prop} {b v : mS} {K : Int32 → Int32 → Int32 → Int32 → mS → Prop} {post : mS → Prop} (hG : FG b pat n T m0 lst m D) (hTi : T ≤ i) (hlt : i < T + m0) (hX : FIX b v pat T m0 lst i k ty h rd be ro) (n6 : ¬ kd (b.2 3 i) = 6) (ent : HL (b.2 3) T (T + m0) i → ∃ l, l < h ∧ be l = i)
    (hadd : (∀ j, ¬ USE (b.2 3) (b.2 4) pat i j) → ty + tr1 (b.2 3 i) ≤ 100 → ∀ u, FIX b u pat T m0 lst (i + 1) (k + 1) (ty + tr1 (b.2 3 i)) h rd be ro → u.2 12 = upd (v.2 12) k (b.2 3 i) → u.2 13 = upd (v.2 13) k (b.2 4 i) → K (nI pat) (nI lst) (nI (T + m0)) (nI (i + 1)) u)
    (hbr : ∀ j U, USE (b.2 3) (b.2 4) pat i j → U = CNT (b.2 3) (b.2 1) rd pat lst j 9 → ty + trS (b.2 1) U (tl (b.2 1) U) ≤ 100 → ∀ u, FIX b u pat T m0 lst (i + 1) (k + tl (b.2 1) U) (ty + trS (b.2 1) U (tl (b.2 1) U)) h rd be ro → (∀ x, x < k → u.2 12 x = v.2 12 x ∧ u.2 13 x = v.2 13 x) → (∀ x, x < tl (b.2 1) U → u.2 12 (k + x) = b.2 1 (U + x) ∧ u.2 13 (k + x) = b.2 2 (U + x)) → K (nI pat) (nI lst) (nI (T + m0)) (nI (i + 1)) u)
    (herr : (((∀ j, ¬ USE (b.2 3) (b.2 4) pat i j) ∧ 100 < ty + tr1 (b.2 3 i)) ∨ ∃ j U, USE (b.2 3) (b.2 4) pat i j ∧ U = CNT (b.2 3) (b.2 1) rd pat lst j 9 ∧ 100 < ty + trS (b.2 1) U (tl (b.2 1) U)) → ∀ u, FR [6, 7, 8, 12] [12, 13, 16, 17, 18] b u → RD3 u → ¬ u.1 12 = 0 → K (nI pat) (nI lst) (nI (T + m0)) (nI (i + 1)) u) : wj_X9_fill_152 K post (nI pat) (nI lst) (nI (T + m0)) (nI i) (kd (b.2 3 i)) v := by
  obtain ⟨vF, vR, ve, vk, vty, ty100, vh, vh2, vrd, vbe, vSK, vMD⟩ := hX
  have hG' := hG
  obtain ⟨hFC, hDT, hT2, hT6, htok, hrtok, hrdt⟩ := hG
  have hFC' := hFC
  obtain ⟨⟨N, t, hPC⟩, hPAT, hpT, hT, hTl, hTEM, hLl, hl2, hm, hTop, hD⟩ := hFC
  have hL := hPC.1.1
  have htN : t ≤ N := PL_t hPC.1
  have hN : 0 < N := by have := hPC.2.1; omega
  have hiT : TL (b.2 3) (pat + 1) (tl (b.2 3) (pat + 1)) := (hL.2.2.1 0 hN).2
  have hb1 : pat + 1 + tl (b.2 3) (pat + 1) < pat + n := (LI_at hL (k := 1) (by omega)).2.1
  have kb := md_room hT vMD hTi hlt
  have q1 : v.2 1 = b.2 1 := vF.2 1 (by decide)
  have q2 : v.2 2 = b.2 2 := vF.2 2 (by decide)
  have q3 : v.2 3 = b.2 3 := vF.2 3 (by decide)
  have q4 : v.2 4 = b.2 4 := vF.2 4 (by decide)
  have nextSK := sk_next vSK n6 ent
  have mk : ∀ (u : mS) (k' ty' : Nat), FR [6, 7] [12, 13] v u → u.1 6 = nI k' → u.1 7 = nI ty' → ty' ≤ 100 → MD (b.2 3) (u.2 12) T (i + 1) k' ty' → FIX b u pat T m0 lst (i + 1) k' ty' h rd be ro := by
    intro u k' ty' uF uk uty uty2 uMD
    have u16 : u.2 16 = v.2 16 := uF.2 16 (by decide)
    have u17 : u.2 17 = v.2 17 := uF.2 17 (by decide)
    have u18 : u.2 18 = v.2 18 := uF.2 18 (by decide)
    exact ⟨vF.tr (uF.wk (by decide) (by decide)), fun l hl => by rw [u18]; exact vR l hl, (uF.1 12 (by decide)).trans ve, uk, uty, uty2, (uF.1 8 (by decide)).trans vh, vh2, fun l hl => by rw [u18]; exact vrd l hl, fun l hl => by rw [u16, u17]; exact vbe l hl, nextSK, uMD⟩
  have mke : ∀ u : mS, FR [6, 7, 12] [12, 13] v u → FR [6, 7, 8, 12] [12, 13, 16, 17, 18] b u ∧ RD3 u := by
    intro u uF
    have u18 : u.2 18 = v.2 18 := uF.2 18 (by decide)
    exact ⟨vF.tr (uF.wk (by decide) (by decide)), fun l hl => by rw [u18]; exact vR l hl⟩
  have addT : (∀ j, ¬ USE (b.2 3) (b.2 4) pat i j) → wj_X9_fill_181 K post (nI pat) (nI lst) (nI (T + m0)) (nI i) (-1) v := by
    intro hno
    refine ⟨fun q => absurd q (by decide), fun _ => ⟨vp_in_nI (by omega) (by omega), ?_⟩⟩
    rintro _ rfl
    refine ⟨vp_in_nI (by omega) (by omega), ?_⟩
    rintro _ rfl
    rw [nI_clamp (by omega), q3, q4]
    refine addX vk vty (by omega) ty100 (fun u uF uk uty uty2 u12 u13 => ?_) (fun big u uF ue => ?_)
    · rintro _ rfl
      rw [nI_1]
      refine hadd hno uty2 u (mk u (k + 1) _ uF uk uty uty2 ?_) u12 u13
      rw [u12]
      exact md_add hT vMD hTi hlt n6 (htok i hTi hlt)
    · rintro _ rfl
      rw [nI_1]
      obtain ⟨e1, e2⟩ := mke u (uF.wk (by decide) (by decide))
      exact herr (Or.inl ⟨hno, big⟩) u e1 e2 ue
  refine ⟨fun k3 => addT (fun j hu => k3 hu.1), fun k3 => ⟨vp_in_nI (by omega) (by omega), ?_⟩⟩
  rintro _ rfl
  refine ⟨vp_in_nI (by omega) (by omega), ?_⟩
  rintro _ rfl
  rw [nI_clamp (by omega)]
  refine variable_ok (by rw [q3]; exact hL.2.1) (by rw [q3]; exact hiT) (by omega) (by omega) ?_
  rw [q3, q4]
  rcases VR_cases (s := b.2 4) hL hN (by omega) (b.2 3 i) (b.2 4 i) with g | ⟨j, g1, g2, g3, -⟩
  · rw [g]
    refine addT (fun j hu => ?_)
    have := hu.2.1
    rw [g] at this
    exact nI_ng (by have := hu.2.2; omega) (by decide) this.symm
  · have hu : USE (b.2 3) (b.2 4) pat i j := ⟨k3, g3, by omega⟩
    rw [g3]
    refine ⟨fun _ => ?_, fun q => absurd (nI_pos' (by omega)) q⟩
    obtain ⟨f1, f2, hcc, hws, hVU⟩ := use_at hG' hTi hlt vSK n6 ent hu
    have hHB := sk_HB vSK hTi n6 ent
    refine walkU_ok (w := v) (rd := rd) (stop := 9) (by rw [q3, q4, q1]; exact hFC') hTi hlt (by rw [q3, q4]; exact hu) vrd (by omega) (fun l _ hl => by rw [q3, hHB] at hl; rw [q3, q1]; exact hcc l hl) ?_
    rw [q3, q1]
    generalize hU : CNT (b.2 3) (b.2 1) rd pat lst j 9 = U at hVU ⊢
    obtain ⟨u1, u2, u3, u4, u5⟩ := hVU
    have dtU : ∀ x, 0 < x → x < tl (b.2 1) U → kd (b.2 1 (U + x)) = 6 → ¬ kd (b.2 1 (U + (x - 1))) = 1 ∧ ¬ kd (b.2 1 (U + (x - 1))) = 6 := by
      intro x x0 xz x6
      have := hrdt (U + x) (by omega) (by omega) x6
      rw [show U + x - 1 = U + (x - 1) from by omega] at this
      exact this
    have room2 := md_room2 hT vMD hTi hlt u1 u5 dtU
    refine bringX (w := v) (z := tl (b.2 1) U) (by rw [q1]; exact u1) (by omega) vk vty ty100 ve (by rw [q1]; exact room2) (fun u uF uk uty uty2 ulow unew slow snew => ?_) (fun big u uF ue => ?_)
    · rintro _ rfl
      rw [nI_1]
      rw [q1] at uty uty2 unew
      rw [q2] at snew
      have zz := u1.1
      refine hbr j U hu hU.symm uty2 u (mk u _ _ uF uk uty uty2 ?_) (fun x hx => ⟨ulow x hx, slow x hx⟩) (fun x hx => ⟨unew x hx, snew x hx⟩)
      exact md_bring hT vMD hTi hlt k3 u1 u4 u5 (fun x hx => hrtok (U + x) (by omega) (by omega)) dtU ulow unew
    · rintro _ rfl
      rw [nI_1]
      rw [q1] at big
      obtain ⟨e1, e2⟩ := mke u uF
      exact herr (Or.inr ⟨j, U, hu, hU.symm, big⟩) u e1 e2 ue
/-- a token that isn't to be held now -/
theorem fm_in {pat n T m0 lst m i k ty h : Nat} {rd be ro : Nat → Nat} {D : Nat → Nat → Prop} {b w : mS} {K : Int32 → Int32 → Int32 → Int32 → mS → Prop} {post : mS → Prop} (hG : FG b pat n T m0 lst m D) (hTi : T ≤ i) (hlt : i < T + m0) (hX : FIX b w pat T m0 lst i k ty h rd be ro) (n6 : ¬ kd (b.2 3 i) = 6) (hin : kd (b.2 3 i) = 2 ∨ (0 < h ∧ be (h - 1) = i) ∨ ¬ HL (b.2 3) T (T + m0) i) (hW : wj_X9_fill_152 K post (nI pat) (nI lst) (nI (T + m0)) (nI i) (kd (b.2 3 i)) w) : wj_X9_fill_37 K post (nI pat) (nI lst) (nI (T + m0)) (nI i) w := by
  obtain ⟨hF, hR, he, ek, ety, ty100, eh, hh2, hrd, hbe, hSK, hMD⟩ := hX
  obtain ⟨hFC, hDT, hT2, hT6, htok, hrtok, hrdt⟩ := hG
  obtain ⟨⟨N, t, hPC⟩, hPAT, hpT, hT, hTl, hTEM, hLl, hl2, hm, hTop, hD⟩ := hFC
  have r3 : w.2 3 = b.2 3 := hF.2 3 (by decide)
  refine ⟨fun q => absurd q (by rw [nI_leI (by omega) (by omega)]; omega), fun _ => ?_⟩
  intro y9 e9
  refine ⟨fun q => absurd (e9.trans he) q, fun _ => ?_⟩
  refine kind_4 (by omega) ?_
  rw [r3]
  refine ⟨fun _ => ⟨fun _ => hW, fun c2 => ?_⟩, fun c6 => absurd c6 n6⟩
  obtain ⟨Ti, hTi2⟩ := inTree0 hT hTi hlt c2
  refine isHeld_ok eh (by omega) (fun hp0 hbi => ⟨fun _ => hW, fun q => absurd q (by decide)⟩) (fun hno => ⟨fun q => absurd rfl q, fun _ => ?_⟩)
  refine end_4 (by rw [r3]; exact Ti) (by omega) ⟨fun q => hW, fun q => end_4 (by rw [r3]; exact Ti) (by omega) ?_⟩
  rw [nI_leI (by omega) (by omega)] at q
  refine kind_4 (by omega) ?_
  rw [r3]
  refine ⟨fun z => hW, fun z => ?_⟩
  have hHL : HL (b.2 3) T (T + m0) i := ⟨hTi, c2, n6, by omega, z⟩
  rcases hin with y | ⟨y1, y2⟩ | y
  · exact absurd y c2
  · rcases hno with x | x
    · omega
    · exact absurd (by rw [(hbe (h - 1) (by omega)).1, y2]) x
  · exact absurd hHL y
theorem md_skip {kp q : Nat → Int32} {T m0 i k ty : Nat} (hT : TL kp T m0) (h : MD kp q T i k ty) (hc : HL kp T (T + m0) i) : MD kp q T (i + tl kp i + 1) k ty := by
  obtain ⟨hTi, c2, n6, hz, z⟩ := hc
  have ett := tl_eq hT
  obtain ⟨Ti, hTi2⟩ := inTree0 hT hTi (by omega) c2
  have depi : dep kp T (i + tl kp i + 1 - T) = dep kp T (i - T) := by
    rw [show i + tl kp i + 1 - T = (i - T) + tl kp i + 1 from by omega, dep_s, dep_add, show T + (i - T) = i from by omega, show T + (i - T + tl kp i) = i + tl kp i from by omega, TL_0 Ti c2, sg_else (by rw [z]; decide) (by rw [z]; decide)]
    omega
  obtain ⟨a1, a2, a3, a4, a5, a6, a7⟩ := h
  refine ⟨a1, a2, a3, by rw [depi]; exact a4, a5, fun _ => ?_, fun y => by omega⟩
  have : i ≠ T := by
    intro y
    subst y
    rw [ett] at hz
    omega
  exact a6 (by omega)
/-- a tree that .. holds, not gone into yet -/
theorem fm_hold {pat n T m0 lst m i k ty h : Nat} {rd be ro : Nat → Nat} {D : Nat → Nat → Prop} {b w : mS} {K : Int32 → Int32 → Int32 → Int32 → mS → Prop} {post : mS → Prop} (hG : FG b pat n T m0 lst m D) (hlt : i < T + m0) (hX : FIX b w pat T m0 lst i k ty h rd be ro) (hHL : HL (b.2 3) T (T + m0) i) (notin : ∀ l, l < h → be l ≠ i)
    (h1 : ∀ c v, 0 < c → c ≤ 310 → (∀ j v, i ≤ j → j < i + tl (b.2 3) i → USE (b.2 3) (b.2 4) pat j v → CNT (b.2 3) (b.2 1) rd pat lst v h = c) → (∃ j v, i ≤ j ∧ j < i + tl (b.2 3) i ∧ USE (b.2 3) (b.2 4) pat j v) → h < 2 → v.2 12 = w.2 12 → v.2 13 = w.2 13 → FIX b v pat T m0 lst i k ty (h + 1) (fun l => if l = h then 0 else rd l) (fun l => if l = h then i else be l) (fun l => if l = h then c else ro l) → wj_X9_fill_152 K post (nI pat) (nI lst) (nI (T + m0)) (nI i) (kd (b.2 3 i)) v)
    (h0 : (∀ j v, i ≤ j → j < i + tl (b.2 3) i → USE (b.2 3) (b.2 4) pat j v → CNT (b.2 3) (b.2 1) rd pat lst v h = 0) → (∃ j v, i ≤ j ∧ j < i + tl (b.2 3) i ∧ USE (b.2 3) (b.2 4) pat j v) → FIX b w pat T m0 lst (i + tl (b.2 3) i + 1) k ty h rd be ro → K (nI pat) (nI lst) (nI (T + m0)) (nI (i + tl (b.2 3) i + 1)) w)
    (herr : (∃ j v j2 v2, i ≤ j ∧ j < i + tl (b.2 3) i ∧ i ≤ j2 ∧ j2 < i + tl (b.2 3) i ∧ USE (b.2 3) (b.2 4) pat j v ∧ USE (b.2 3) (b.2 4) pat j2 v2 ∧ CNT (b.2 3) (b.2 1) rd pat lst v h ≠ CNT (b.2 3) (b.2 1) rd pat lst v2 h) → ∀ u, FR [6, 7, 8, 12] [12, 13, 16, 17, 18] b u → RD3 u → ¬ u.1 12 = 0 → K (nI pat) (nI lst) (nI (T + m0)) (nI (i + tl (b.2 3) i + 1)) u) : (∀ j v, i ≤ j → j < i + tl (b.2 3) i → USE (b.2 3) (b.2 4) pat j v → h < HB (b.2 3) T (T + m0) j ∧ ∀ l, l < h → rd l < CNT (b.2 3) (b.2 1) rd pat lst v l) ∧ wj_X9_fill_37 K post (nI pat) (nI lst) (nI (T + m0)) (nI i) w := by
  obtain ⟨hF, hR, he, ek, ety, ty100, eh, hh2, hrd, hbe, hSK, hMD⟩ := hX
  obtain ⟨hFC, hDT, hT2, hT6, htok, hrtok, hrdt⟩ := hG
  have hFC' := hFC
  obtain ⟨⟨N, t, hPC⟩, hPAT, hpT, hT, hTl, hTEM, hLl, hl2, hm, hTop, hD⟩ := hFC
  have ett := tl_eq hT
  obtain ⟨hTi, c2, n6, hz, z6⟩ := id hHL
  have r1 : w.2 1 = b.2 1 := hF.2 1 (by decide)
  have r3 : w.2 3 = b.2 3 := hF.2 3 (by decide)
  have r4 : w.2 4 = b.2 4 := hF.2 4 (by decide)
  obtain ⟨Ti, hTi2⟩ := inTree0 hT hTi hlt c2
  have ti0 := Ti.1
  have hcond : ∀ j v, i ≤ j → j < i + tl (b.2 3) i → USE (b.2 3) (b.2 4) pat j v → h < HB (b.2 3) T (T + m0) j ∧ ∀ l, l < h → rd l < CNT (b.2 3) (b.2 1) rd pat lst v l := by
    intro j v j1 j2 hu
    have inl : ∀ l, l < h → i + tl (b.2 3) i < be l + tl (b.2 3) (be l) := by
      intro l hl
      obtain ⟨d1, d2, d3, -⟩ := hSK.1 l hl
      have d4 := notin l hl
      have d5 : i ≠ be l + tl (b.2 3) (be l) := by
        intro y
        have := d1.2.2.2.2
        rw [← y] at this
        exact n6 this
      exact HL_in hT d1 (i := i) (by omega) (by omega) c2
    refine ⟨?_, fun l hl => ?_⟩
    · refine HB_ge (h := h + 1) (be := fun l => if l = h then i else be l) (fun l hl => ?_) (fun l l' hl hl' e => ?_) (by omega)
      · show HL (b.2 3) T (T + m0) (if l = h then i else be l) ∧ (if l = h then i else be l) ≤ j ∧ j < (if l = h then i else be l) + tl (b.2 3) (if l = h then i else be l)
        by_cases c : l = h
        · rw [if_pos c]; exact ⟨hHL, j1, j2⟩
        · rw [if_neg c]
          obtain ⟨d1, d2, d3, -⟩ := hSK.1 l (by omega)
          have := inl l (by omega)
          exact ⟨d1, by omega, by omega⟩
      · have e : (if l = h then i else be l) = (if l' = h then i else be l') := e
        by_cases c : l = h
        · by_cases c' : l' = h
          · omega
          · rw [if_pos c, if_neg c'] at e
            exact absurd e.symm (notin l' (by omega))
        · by_cases c' : l' = h
          · rw [if_neg c, if_pos c'] at e
            exact absurd e (notin l (by omega))
          · rw [if_neg c, if_neg c'] at e
            rcases Nat.lt_trichotomy l l' with y | y | y
            · have := hSK.2.1 l l' y (by omega); omega
            · exact y
            · have := hSK.2.1 l' l y (by omega); omega
    · obtain ⟨d1, d2, d3, d4, d5, d6⟩ := hSK.1 l hl
      have := inl l hl
      rw [d6 j v (by omega) (by omega) hu]
      exact d4
  have use1 : ∃ j v, i ≤ j ∧ j < i + tl (b.2 3) i ∧ USE (b.2 3) (b.2 4) pat j v := by
    have hne := hTEM.2 i hTi (by rw [ett]; exact hlt) c2 n6 (by rw [ett]; omega) z6
    obtain ⟨j, j1, j2, j3, j4⟩ := usF_ex hne
    have hL := hPC.1.1
    have hN : 0 < N := by have := PL_t hPC.1; have := hPC.2.1; omega
    rcases VR_cases (s := b.2 4) hL hN (by omega) (b.2 3 j) (b.2 4 j) with g | ⟨v, g1, g2, g3, -⟩
    · rw [g] at j4; exact absurd (by decide) j4
    · exact ⟨j, v, j1, j2, j3, g3, by omega⟩
  have use2 : h < 2 := by
    obtain ⟨j, v, j1, j2, hu⟩ := use1
    have a := (hcond j v j1 j2 hu).1
    obtain ⟨f1, f2, f3⟩ := FC_use hFC' (i := j) (by omega) (by omega) hu
    omega
  refine ⟨hcond, ?_⟩
  refine ⟨fun q => absurd q (by rw [nI_leI (by omega) (by omega)]; omega), fun _ => ?_⟩
  intro y9 e9
  refine ⟨fun q => absurd (e9.trans he) q, fun _ => ?_⟩
  refine kind_4 (by omega) ?_
  rw [r3]
  refine ⟨fun _ => ⟨fun y => absurd y c2, fun _ => ?_⟩, fun c6 => absurd c6 n6⟩
  refine isHeld_ok eh (by omega) (fun hp0 hbi => ?_) (fun hno => ⟨fun q => absurd rfl q, fun _ => ?_⟩)
  · have e1 := (hbe (h - 1) (by omega)).1
    have b2 := (hSK.1 (h - 1) (by omega)).2.1
    exact absurd ((nI_eq (by omega) (by omega)).mp (e1.symm.trans hbi)) (notin (h - 1) (by omega))
  refine end_4 (by rw [r3]; exact Ti) (by omega) ⟨fun q => absurd q (by rw [nI_leI (by omega) (by omega)]; omega), fun q => end_4 (by rw [r3]; exact Ti) (by omega) ?_⟩
  refine kind_4 (by omega) ?_
  rw [r3]
  refine ⟨fun y => absurd z6 y, fun _ => ?_⟩
  refine holdX (w := w) (z := tl (b.2 3) i) (h := h) (rd := rd) (by rw [r3, r4, r1]; exact hFC') hTi (by rw [r3]; exact Ti) (by omega) eh (by omega) hrd (by rw [r3, r4, r1]; exact hcond) (fun c v c0 c1 hc vF vh v16 v17 v18 => ?_) (fun hc hex => ?_) (fun hnot u uF ue => ?_)
  · rw [r3, r4, r1] at hc
    have ve : v.1 12 = 0 := (vF.1 12 (by decide)).trans he
    have bF : FR [6, 7, 8, 12] [12, 13, 16, 17, 18] b v := hF.tr (vF.wk (by decide) (by decide))
    have X : FIX b v pat T m0 lst i k ty (h + 1) (fun l => if l = h then 0 else rd l) (fun l => if l = h then i else be l) (fun l => if l = h then c else ro l) := by
      refine ⟨bF, fun l hl => ?_, ve, (vF.1 6 (by decide)).trans ek, (vF.1 7 (by decide)).trans ety, ty100, vh, by omega, fun l hl => ?_, fun l hl => ?_, sk_enter hSK hHL notin c0 c1 hc, by rw [vF.2 12 (by decide)]; exact hMD⟩
      · rw [v18]
        by_cases e : l = h
        · subst e; rw [pk_us]; exact ⟨0, rfl, by omega⟩
        · rw [pk_un e]; exact hR l hl
      · show v.2 18 l = nI (if l = h then 0 else rd l) ∧ (if l = h then 0 else rd l) < 2 ^ 20
        rw [v18]
        by_cases e : l = h
        · subst e; rw [pk_us, if_pos rfl]; exact ⟨rfl, by omega⟩
        · rw [pk_un e, if_neg e]; exact hrd l hl
      · show v.2 16 l = nI (if l = h then i else be l) ∧ v.2 17 l = nI (if l = h then c else ro l)
        rw [v16, v17]
        by_cases e : l = h
        · subst e; rw [pk_us, pk_us, if_pos rfl, if_pos rfl]; exact ⟨rfl, rfl⟩
        · rw [pk_un e, pk_un e, if_neg e, if_neg e]; exact hbe l (by omega)
    have W := h1 c v c0 c1 hc use1 use2 (vF.2 12 (by decide)) (vF.2 13 (by decide)) X
    refine isHeld_ok vh (by omega) (fun _ _ => ⟨fun _ => W, fun q => absurd q (by decide)⟩) (fun q => ?_)
    rcases q with q | q
    · omega
    · exact absurd (by rw [show h + 1 - 1 = h from by omega, v16, pk_us]) q
  · rw [r3, r4, r1] at hc
    rw [r3, r4] at hex
    refine isHeld_ok eh (by omega) (fun q1 q2 => ?_) (fun _ => ⟨fun q => absurd rfl q, fun _ => ?_⟩)
    · have e1 := (hbe (h - 1) (by omega)).1
      have b2 := (hSK.1 (h - 1) (by omega)).2.1
      have := (nI_eq (by omega) (by omega)).mp (e1.symm.trans q2)
      omega
    · refine h0 hc hex ⟨hF, hR, he, ek, ety, ty100, eh, hh2, hrd, hbe, sk_skip hT hSK hHL notin, ?_⟩
      exact md_skip hT hMD hHL
  · rw [r3, r4, r1] at hnot
    have uh : u.1 8 = nI h := (uF.1 8 (by decide)).trans eh
    have u16 : u.2 16 = w.2 16 := uF.2 16 (by decide)
    have u18 : u.2 18 = w.2 18 := uF.2 18 (by decide)
    refine isHeld_ok uh (by omega) (fun q1 q2 => ?_) (fun _ => ⟨fun q => absurd rfl q, fun _ => ?_⟩)
    · rw [u16] at q2
      have e1 := (hbe (h - 1) (by omega)).1
      have b2 := (hSK.1 (h - 1) (by omega)).2.1
      have := (nI_eq (by omega) (by omega)).mp (e1.symm.trans q2)
      omega
    · refine herr ?_ u (hF.tr (uF.wk (by decide) (by decide))) (fun l hl => by rw [u18]; exact hR l hl) ue
      rcases hnot with q | q
      · obtain ⟨j, v, j1, j2, hu⟩ := use1
        exact absurd hu (q j v j1 j2)
      · exact q
