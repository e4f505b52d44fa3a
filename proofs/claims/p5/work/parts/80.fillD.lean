-- 80: the class's fill and the reference's, turn by turn
section
variable {MP : Int32 → Prop} {b a u w : mS} {pat n T m0 lst m pA lA a1 b1 a2 b2 st i k ty h : Nat} {rd be ro : Nat → Nat} {D : Nat → Nat → Prop}
def PHI (b : mS) (T m0 i k : Nat) : Nat := (310 - k) * 1000 + (if i < T + m0 ∧ kd (b.2 3 i) = 6 then 400 else 0) + (T + m0 - i)
theorem PHI_tok {i' k' : Nat} (h1 : k < k') (hk : k ≤ 300) (hm : m0 ≤ 310) (hT : T ≤ i') : PHI b T m0 i' k' < PHI b T m0 i k := by
  have e1 : PHI b T m0 i' k' ≤ (310 - k') * 1000 + 400 + 310 := by
    unfold PHI
    split <;> omega
  have e2 : (310 - k) * 1000 ≤ PHI b T m0 i k := by
    unfold PHI
    split <;> omega
  omega
theorem PHI_no (h : T + m0 ≤ i ∨ ¬ kd (b.2 3 i) = 6) : PHI b T m0 i k = (310 - k) * 1000 + (T + m0 - i) := by
  unfold PHI
  rw [if_neg (fun q => h.elim (fun z => by omega) (fun z => z q.2)), Nat.add_zero]
theorem PHI_yes (h1 : i < T + m0) (h : kd (b.2 3 i) = 6) : PHI b T m0 i k = (310 - k) * 1000 + 400 + (T + m0 - i) := by
  unfold PHI
  rw [if_pos ⟨h1, h⟩]
theorem PHI_0 : PHI b T m0 i k ≤ 0 → T + m0 ≤ i := by
  unfold PHI
  split <;> omega
theorem FAX_fr {u' w' : mS} {h' : Nat} {rd' be' ro' : Nat → Nat} (hGX : FGX MP b pat n T m0 lst m D) (hX : FAX MP b a u w pat n T m0 lst m pA lA a1 b1 a2 b2 st k ty h rd be ro) (hF : FR [15] [10, 11, 12] u u') (e15 : u'.1 15 = nI h') (hs : ∀ l, l < h' → u'.2 10 l = nI (pA + n + (be' l - T)) ∧ u'.2 11 l = nI (rd' l) ∧ u'.2 12 l = nI (ro' l)) (e12 : w'.2 12 = w.2 12) (e13 : w'.2 13 = w.2 13) : FAX MP b a u' w' pat n T m0 lst m pA lA a1 b1 a2 b2 st k ty h' rd' be' ro' := by
  obtain ⟨x1, x2, x3, x4, x5, x6, x7, x8, x9, x10, x11, x12, x13, x14⟩ := hX
  have L : LOW u u' st := LOW_fr hF (by decide) (by decide) (by decide) (by decide)
  have u1 : u'.2 1 = u.2 1 := hF.2 1 (by decide)
  have u2 : u'.2 2 = u.2 2 := hF.2 2 (by decide)
  have u3 : u'.2 3 = u.2 3 := hF.2 3 (by decide)
  have t1 : u'.1 1 = u.1 1 := hF.1 1 (by decide)
  refine ⟨x1.tr (hF.wk (by decide) (by decide)), (hF.1 7 (by decide)).trans x2, FAG_low hGX.1 x3 x11 x12 L ⟨st + k, t1.trans x5.1, by omega, x5.2.2.1⟩, x4.tr L, RB_fr x5 t1 (hF.1 2 (by decide)) u1 u3, (hF.1 14 (by decide)).trans x6, e15, hs, (hF.1 12 (by decide)).trans x9, (hF.1 13 (by decide)).trans x10, x11, x12, x13, fun j hj => ?_⟩
  rw [ra_fr u1, u2, e12, e13]
  exact x14 j hj
theorem fillL {post : Int32 → mS → Prop} {w0 : mS} (hGX : FGX MP b pat n T m0 lst m D) (hm0 : m0 ≤ 310) (hend : ∀ u w k ty h rd be ro, FIX b w pat T m0 lst (T + m0) k ty h rd be ro → FAX MP b a u w pat n T m0 lst m pA lA a1 b1 a2 b2 st k ty h rd be ro → (∀ Q : mS → Prop, Q w → LF Q pat lst (T + m0) T w0) → post (nI st) u) (herr : ∀ u w, FERR b a u w st → (∀ Q : mS → Prop, Q w → LF Q pat lst (T + m0) T w0) → post (nI st) u) : ∀ (f s i k ty h : Nat) (rd be ro : Nat → Nat) (u w : mS), PHI b T m0 i k ≤ f → s + f < 1000000 → T ≤ i → i ≤ T + m0 → FIX b w pat T m0 lst i k ty h rd be ro → FAX MP b a u w pat n T m0 lst m pA lA a1 b1 a2 b2 st k ty h rd be ro → (∀ Q : mS → Prop, LF Q pat lst (T + m0) i w → LF Q pat lst (T + m0) T w0) → mL5 (fun K => wj_X1_fill_59 K post) (f + 1) (nI st) (nI (pA + n + (i - T))) (nI (pA + n + m0)) (nI s) u := by
  have endOK : ∀ (f s k ty h : Nat) (rd be ro : Nat → Nat) (u w : mS), s < 1000000 → FIX b w pat T m0 lst (T + m0) k ty h rd be ro → FAX MP b a u w pat n T m0 lst m pA lA a1 b1 a2 b2 st k ty h rd be ro → (∀ Q : mS → Prop, LF Q pat lst (T + m0) (T + m0) w → LF Q pat lst (T + m0) T w0) → mL5 (fun K => wj_X1_fill_59 K post) (f + 1) (nI st) (nI (pA + n + (T + m0 - T))) (nI (pA + n + m0)) (nI s) u := by
    intro f s k ty h rd be ro u w hs hF hX go
    have fin := hend u w k ty h rd be ro hF hX (fun Q q => go Q (LF_end q))
    rw [show pA + n + (T + m0 - T) = pA + n + m0 from by omega]
    exact ⟨fun _ => fin, fun _ => ⟨fun _ => fin, fun q => absurd (Int32.le_refl _) q⟩⟩
  have errK : ∀ (f : Nat) (x4 x6 : Int32) (u w : mS), FERR b a u w st → (∀ Q : mS → Prop, Q w → LF Q pat lst (T + m0) T w0) → mL5 (fun K => wj_X1_fill_59 K post) (f + 1) (nI st) x4 (nI (pA + n + m0)) x6 u := by
    intro f x4 x6 u w hE go
    have fin := herr u w hE go
    exact ⟨fun _ => fin, fun _ => ⟨fun _ => fin, fun _ y e => ⟨fun _ => fin, fun q => absurd (e.symm.trans q) hE.2.2.1⟩⟩⟩
  intro f
  induction f with
  | zero =>
    intro s i k ty h rd be ro u w hP hs h1 h2 hF hX go
    have := PHI_0 hP
    have : i = T + m0 := by omega
    subst this
    exact endOK 0 s k ty h rd be ro u w (by omega) hF hX go
  | succ f ih =>
    intro s i k ty h rd be ro u w hP hs hTi hle hF hX go
    by_cases ci : i = T + m0
    · subst ci
      exact endOK (f + 1) s k ty h rd be ro u w (by omega) hF hX go
    have hlt : i < T + m0 := by omega
    have hF' := hF
    obtain ⟨wF, wR, we, wk, wty, ty100, wh, hh2, wrd, wbe, hSK, hMD⟩ := hF
    have hX' := hX
    obtain ⟨x1, x2, x3, x4, x5, x6, x7, x8, x9, x10, x11, x12, x13, x14⟩ := hX
    have hFAG := x3
    obtain ⟨t1, t2, t3⟩ := FAG_tl hGX x3 hTi hlt
    obtain ⟨c1, c2, c3, c4, c5, c6, c7, c8, c9, c10, c11⟩ := x3
    have hb1 := AR_b c1
    obtain ⟨hFC, hDT, hT2, hT6, htok, hrtok, hrdt⟩ := hGX.1
    obtain ⟨⟨N, t, hPC⟩, hPAT, hpT, hTT, hTl, hTEM, hLl, hl2, hm, hTop, hD⟩ := hFC
    have k300 : k ≤ 300 := by have := md_room hTT hMD hTi hlt; omega
    obtain ⟨P, eP⟩ : ∃ P, P = pA + n + (i - T) := ⟨_, rfl⟩
    have eTok : ra u P = b.2 3 i := by
      have := (c9 (i - T) (by omega)).1
      rw [show T + (i - T) = i from by omega, ← eP] at this
      exact this
    have z0 := t3.1
    have eNext : i + tl (b.2 3) i < T + m0 → ra u (P + tl (b.2 3) i) = b.2 3 (i + tl (b.2 3) i) := by
      intro q
      have := (c9 (i - T + tl (b.2 3) i) (by omega)).1
      rw [show T + (i - T + tl (b.2 3) i) = i + tl (b.2 3) i from by omega, show pA + n + (i - T + tl (b.2 3) i) = P + tl (b.2 3) i from by omega] at this
      exact this
    rw [← eP] at t1 ⊢
    -- a token is filled in
    have tokK : ∀ (u1 : mS) (h1 : Nat) (rd1 be1 ro1 : Nat → Nat), FAX MP b a u1 w pat n T m0 lst m pA lA a1 b1 a2 b2 st k ty h1 rd1 be1 ro1 → h1 ≤ 2 → SK (b.2 3) (b.2 4) (b.2 1) pat T (T + m0) lst rd1 be1 ro1 i h1 → ¬ kd (b.2 3 i) = 6 → (HL (b.2 3) T (T + m0) i → ∃ l, l < h1 ∧ be1 l = i) → ∀ w', TKO b w w' pat T m0 lst i k ty h1 rd1 be1 ro1 → (∀ Q : mS → Prop, LF Q pat lst (T + m0) (i + 1) w' → LF Q pat lst (T + m0) i w) → wj_X1_fill_147 (mL5 (fun K => wj_X1_fill_59 K post) (f + 1)) post (nI st) (nI P) (nI (pA + n + m0)) (nI s) u1 := by
      intro u1 h1 rd1 be1 ro1 fX hh sk n6 ent w' hT go'
      have fA := fX.2.2.1.1
      have e1 : ra u1 P = b.2 3 i := by
        have := (fX.2.2.1.2.2.2.2.2.2.2.2.1 (i - T) (by omega)).1
        rw [show T + (i - T) = i from by omega, ← eP] at this
        exact this
      have aw : AW (u1.2 1 P) (b.2 3 i) := by
        have := (fA.2 P (by omega) (by omega)).1
        rw [e1] at this; exact this
      refine wordAR fA (by omega) ⟨fun _ => ?_, fun q => absurd ((AW_6 aw).mp q) n6⟩
      rw [eP]
      refine tokFA hGX hTi hlt fX hMD ty100 hh sk n6 ent hT (fun u' k' ty' kk fx fa => ?_) (fun u' fe => ?_)
      · rintro _ rfl _ rfl
        rw [nI_1, nI_1, show pA + n + (i - T) + 1 = pA + n + (i + 1 - T) from by omega]
        have := PHI_tok (b := b) (T := T) (i := i) (i' := i + 1) kk k300 hm0 (by omega)
        exact ih (s + 1) (i + 1) k' ty' h1 rd1 be1 ro1 u' w' (by omega) (by omega) (by omega) (by omega) fx fa (fun Q q => go Q (go' Q q))
      · rintro _ rfl _ rfl
        exact errK f _ _ u' w' fe (fun Q q => go Q (go' Q (LF_err fe.2.2.2.2.2.2 q)))
    refine ⟨fun q => absurd q (by rw [show (1000000 : Int32) = nI 1000000 from rfl, nI_leI (by omega) (by omega)]; omega), fun _ => ⟨fun q => absurd q (by rw [nI_leI (by omega) (by omega)]; omega), fun _ => ?_⟩⟩
    intro y16 e16
    rw [x2] at e16
    refine ⟨fun q => absurd e16 q, fun _ => ?_⟩
    have next6 : kd (b.2 3 i) = 6 → ¬ (i + 1 < T + m0 ∧ kd (b.2 3 (i + 1)) = 6) := by
      intro k6 q
      have := (hDT (i + 1) (by omega) q.1 q.2).2
      rw [Nat.add_sub_cancel] at this
      exact this k6
    by_cases c6 : kd (b.2 3 i) = 6
    · -- the dots
      have tl1 : tl (b.2 3) i = 1 := tl_eq (TL_atom (by rw [c6]; decide))
      have aw : AW (u.2 1 P) (b.2 3 i) := by
        have := (c1.2 P (by omega) (by omega)).1
        rw [eTok] at this; exact this
      obtain ⟨g, w', g1, g2, g3, g4, g5, g6, g7, g8, gcase⟩ := gm_dots hGX.1 hTi hlt hF' c6
      subst g1
      obtain ⟨q10, q11, q12⟩ := x8 g (by omega)
      have dots : wj_X1_fill_147 (mL5 (fun K => wj_X1_fill_59 K post) (f + 1)) post (nI st) (nI P) (nI (pA + n + m0)) (nI s) u := by
        refine wordAR c1 (by omega) ⟨fun q => absurd ((AW_6 aw).mpr c6) q, fun _ => ?_⟩
        refine leave_ok x7 (by omega) q10 q11 q12 (by omega) (by omega) (fun v vF v11 hr => ?_) (fun v vF v11 v15 hr => ?_)
        · rcases gcase with ⟨y1, y2, y3⟩ | ⟨y1, y2, y3⟩
          · rintro _ rfl
            rw [nI_1]
            have hn6 : ¬ kd (b.2 3 (be g)) = 6 := (hSK.1 g (by omega)).1.2.2.1
            have p1 := PHI_no (b := b) (T := T) (m0 := m0) (i := be g) (k := k) (Or.inr hn6)
            have p2 := PHI_yes (b := b) (T := T) (m0 := m0) (i := i) (k := k) hlt c6
            refine ih (s + 1) (be g) k ty (g + 1) _ be ro v w' (by omega) (by omega) (by omega) (by omega) y2 (FAX_fr hGX hX' (vF.wk (by decide) (by decide)) ((vF.1 15 (by decide)).trans x7) (fun l hl => ?_) g7 g8) (fun Q q => go Q (y3 Q q))
            rw [vF.2 10 (by decide), vF.2 12 (by decide), v11]
            refine ⟨(x8 l hl).1, ?_, (x8 l hl).2.2⟩
            show upd (u.2 11) g (nI (rd g + 1)) l = nI (if l = g then rd g + 1 else rd l)
            by_cases y : l = g
            · rw [y, pk_us, if_pos rfl]
            · rw [pk_un y, if_neg y]; exact (x8 l hl).2.1
          · omega
        · rcases gcase with ⟨y1, y2, y3⟩ | ⟨y1, y2, y3⟩
          · omega
          · rintro _ rfl
            rw [nI_1, show P + 1 = pA + n + (i + 1 - T) from by omega]
            have p1 := PHI_no (b := b) (T := T) (m0 := m0) (i := i + 1) (k := k) (by
              rcases Nat.lt_or_ge (i + 1) (T + m0) with q | q
              · exact Or.inr (fun z => next6 c6 ⟨q, z⟩)
              · exact Or.inl q)
            have p2 := PHI_yes (b := b) (T := T) (m0 := m0) (i := i) (k := k) hlt c6
            refine ih (s + 1) (i + 1) k ty g _ be ro v w' (by omega) (by omega) (by omega) (by omega) y2 (FAX_fr hGX hX' (vF.wk (by decide) (by decide)) v15 (fun l hl => ?_) g7 g8) (fun Q q => go Q (y3 Q q))
            rw [vF.2 10 (by decide), vF.2 12 (by decide), v11]
            refine ⟨(x8 l (by omega)).1, ?_, (x8 l (by omega)).2.2⟩
            show upd (u.2 11) g (nI (rd g + 1)) l = nI (if l = g then rd g + 1 else rd l)
            rw [pk_un (show l ≠ g by omega), if_neg (show ¬ l = g by omega)]
            exact (x8 l (by omega)).2.1
      refine heldA c1 (by omega) (by omega) (fun _ q => ?_) (fun _ => ⟨fun _ => dots, fun q => absurd rfl q⟩)
      rw [t1] at q
      rcases Nat.lt_or_ge (i + 1) (T + m0) with y | y
      · rw [eNext (by omega), tl1] at q
        exact absurd ⟨y, q⟩ (next6 c6)
      · rw [show P + tl (b.2 3) i = pA + n + m0 from by omega, c5] at q
        exact absurd q (by decide)
    · -- a token, held or not
      have plain : (kd (b.2 3 i) = 2 ∨ (0 < h ∧ be (h - 1) = i) ∨ ¬ HL (b.2 3) T (T + m0) i) → wj_X1_fill_147 (mL5 (fun K => wj_X1_fill_59 K post) (f + 1)) post (nI st) (nI P) (nI (pA + n + m0)) (nI s) u := by
        intro hin
        obtain ⟨w', hT, go'⟩ := gm_tok hGX.1 hTi hlt hF' c6 hin
        refine tokK u h rd be ro hX' hh2 hSK c6 (fun q => ?_) w' hT go'
        rcases hin with y | ⟨y1, y2⟩ | y
        · exact absurd y q.2.1
        · exact ⟨h - 1, by omega, y2⟩
        · exact absurd q y
      refine heldA c1 (by omega) (by omega) (fun n2 q => ?_) (fun q => ⟨fun _ => plain ?_, fun z => absurd rfl z⟩)
      · rw [eTok] at n2
        rw [t1] at q
        have lt2 : i + tl (b.2 3) i < T + m0 := by
          rcases Nat.lt_or_ge (i + tl (b.2 3) i) (T + m0) with y | y
          · exact y
          · rw [show P + tl (b.2 3) i = pA + n + m0 from by omega, c5] at q
            exact absurd q (by decide)
        rw [eNext lt2] at q
        have hHL : HL (b.2 3) T (T + m0) i := ⟨hTi, n2, c6, lt2, q⟩
        refine ⟨fun z => absurd z (by decide), fun _ => ?_⟩
        refine isIn_ok x7 hh2 (fun l0 e10 => ⟨fun _ => plain (Or.inr (Or.inl ⟨l0, ?_⟩)), fun z => absurd z (by decide)⟩) (fun hno => ⟨fun z => absurd rfl z, fun _ => ?_⟩)
        · rw [(x8 (h - 1) (by omega)).1, nI_eq (by
            have := (hSK.1 (h - 1) (by omega)).2.1
            omega) (by omega)] at e10
          have := (hSK.1 (h - 1) (by omega)).1.1
          omega
        · have notin : ∀ l, l < h → be l ≠ i := by
            intro l hl e
            rcases hno with y | y
            · omega
            · rcases Nat.lt_or_ge l (h - 1) with z | z
              · have z1 := hSK.2.1 l (h - 1) z (by omega)
                have z2 := (hSK.1 (h - 1) (by omega)).2.1
                omega
              · have : l = h - 1 := by omega
                subst this
                rw [(x8 (h - 1) hl).1, e, ← eP] at y
                exact y rfl
          obtain ⟨hcond, hcase⟩ := gm_hold hGX.1 hlt hF' hHL notin
          have hE : ∃ j v, i ≤ j ∧ j < i + tl (b.2 3) i ∧ USE (b.2 3) (b.2 4) pat j v := by
            rcases hcase with ⟨_, _, _, _, _, q, _⟩ | ⟨_, q, _⟩ | ⟨⟨j, v, _, _, q1, q2, _, _, q3, _⟩, _⟩
            · exact q
            · exact q
            · exact ⟨j, v, q1, q2, q3⟩
          rw [eP]
          refine roundsA hGX hlt hX' hh2 (fun l hl => by
            obtain ⟨-, -, -, s4, s5, -⟩ := hSK.1 l hl
            omega) hTi hcond hE (fun c c310 call => ?_) (fun j v j2 v2 j1' j1 j2' j2'' ju ju2 ne => ?_)
          · obtain ⟨j, v, j1, j2, ju⟩ := hE
            rcases hcase with ⟨c', w', y1, y2, y3, y4, y5, y6, y7, y8⟩ | ⟨y1, y2, y3, y4⟩ | ⟨⟨j3, v3, j4, v4, z1, z2, z3, z4, z5, z6, z7⟩, -⟩
            · have ec : c = c' := (call j v j1 j2 ju).symm.trans (y3 j v j1 j2 ju)
              subst ec
              refine ⟨fun _ => ?_, fun z => absurd z (by
                intro z
                have z : nI c = nI 0 := z
                rw [nI_eq (by omega) (by omega)] at z
                omega)⟩
              refine enter_ok x7 y5 (fun v' vF v15 v10 v11 v12 => ?_)
              rw [← eP]
              refine tokK v' (h + 1) _ _ _ (FAX_fr (w' := w) hGX hX' vF v15 (fun l hl => ?_) rfl rfl) (by omega) y6 c6 (fun _ => ⟨h, by omega, by show (if h = h then i else be h) = i; rw [if_pos rfl]⟩) w' y7 y8
              rw [v10, v11, v12]
              show upd (u.2 10) h (nI (pA + n + (i - T))) l = nI (pA + n + ((if l = h then i else be l) - T)) ∧ upd (u.2 11) h 0 l = nI (if l = h then 0 else rd l) ∧ upd (u.2 12) h (nI c) l = nI (if l = h then c else ro l)
              by_cases y : l = h
              · rw [y, pk_us, pk_us, pk_us, if_pos rfl, if_pos rfl, if_pos rfl]
                exact ⟨rfl, rfl, rfl⟩
              · rw [pk_un y, pk_un y, pk_un y, if_neg y, if_neg y, if_neg y]
                exact x8 l (by omega)
            · have ec : c = 0 := (call j v j1 j2 ju).symm.trans (y1 j v j1 j2 ju)
              subst ec
              refine ⟨fun z => absurd rfl z, fun _ => ?_⟩
              rw [← eP]
              refine after_ok c1 (by omega) (by omega) ?_
              rw [t1]
              rintro _ rfl _ rfl
              rw [nI_1, nI_1, show P + tl (b.2 3) i + 1 = pA + n + (i + tl (b.2 3) i + 1 - T) from by omega]
              have p1 := PHI_no (b := b) (T := T) (m0 := m0) (i := i + tl (b.2 3) i + 1) (k := k) (by
                rcases Nat.lt_or_ge (i + tl (b.2 3) i + 1) (T + m0) with z | z
                · refine Or.inr (fun z6 => ?_)
                  have := (hDT (i + tl (b.2 3) i + 1) (by omega) z z6).2
                  rw [Nat.add_sub_cancel] at this
                  exact this q
                · exact Or.inl z)
              have p2 := PHI_no (b := b) (T := T) (m0 := m0) (i := i) (k := k) (Or.inr c6)
              exact ih (s + 1) (i + tl (b.2 3) i + 1) k ty h rd be ro u w (by omega) (by omega) (by omega) (by omega) y3 hX' (fun Q q => go Q (y4 Q q))
            · exact absurd ((call j3 v3 z1 z2 z5).trans (call j4 v4 z3 z4 z6).symm) z7
          · rcases hcase with ⟨c', w', y1, y2, y3, -⟩ | ⟨y1, -⟩ | ⟨-, w', y1, y2, y3, y4⟩
            · exact absurd ((y3 j v j1' j1 ju).trans (y3 j2 v2 j2' j2'' ju2).symm) ne
            · exact absurd ((y1 j v j1' j1 ju).trans (y1 j2 v2 j2' j2'' ju2).symm) ne
            · refine ⟨fun z => absurd rfl z, fun _ => ?_⟩
              have c1' : AR (mSet u 7 4) a1 b1 := AR_fr c1 rfl rfl rfl
              rw [← eP]
              refine after_ok c1' (by omega) (by
                omega) ?_
              rintro _ rfl _ rfl
              refine errK f _ _ (mSet u 7 4) w' ⟨FR_set (x1.wk (by decide) (by decide)) (by decide), fun x hx => x4 x hx, by rw [mSet_same]; decide, ⟨st + k, x5.1, by omega, x5.2.2.1⟩, y1, y2, y3⟩ (fun Q q => go Q (y4 Q (LF_err y3 q)))
      · rw [eTok, t1] at q
        rcases q with y | y
        · exact Or.inl y
        · refine Or.inr (Or.inr (fun z => y ?_))
          rw [eNext z.2.2.2.1]
          exact z.2.2.2.2
end
