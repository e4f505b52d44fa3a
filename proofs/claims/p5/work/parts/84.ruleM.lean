-- 84: the reference's way to the first rule that matches
theorem ruleM {a b N bi lst m : Nat} {x2 x3 : Int32} {u : mS} (hS : SQ (u.2 3) a b N) (hb : b ≤ 3200) (hbi : bi < 40) (hto : u.2 11 bi = nI b) (hh : u.1 1 = nI lst) (hT : TL (u.2 1) lst m) (hl : lst + m ≤ 2600) (hm : m ≤ 310) (hP : ∀ k, k < N → ∃ n N' t, PC (u.2 3) (nx (u.2 3) a k + 1) n N' t ∧ nx (u.2 3) a k + 1 + n ≤ 3200) : ∀ (d k : Nat) (z : mS), k + d = N → FR [] [14, 15] u z → ∃ k' z', k ≤ k' ∧ k' ≤ N ∧ FR [] [14, 15] u z' ∧ (∀ j, k ≤ j → j < k' → ¬ MT (u.2 3) (u.2 1) (MXX (u.2 3) (u.2 1)) 1 (nx (u.2 3) a j + 1) lst) ∧ (k' < N → MT (u.2 3) (u.2 1) (MXX (u.2 3) (u.2 1)) 1 (nx (u.2 3) a k' + 1) lst) ∧ ∀ post, wj_X9_use_114 post (nI bi) x2 x3 (nI (nx (u.2 3) a k')) z' → ∃ c, mL5 (fun K => wj_X9_use_74 K post) c (nI bi) x2 x3 (nI (nx (u.2 3) a k)) z := by
  intro d
  induction d with
  | zero =>
    intro k z hk zF
    have : k = N := by omega
    subst this
    refine ⟨k, z, Nat.le_refl _, Nat.le_refl _, zF, fun j j1 j2 => by omega, fun q => by omega, fun post h => ⟨1, vp_in_nI hbi (by omega), ?_⟩⟩
    rintro _ rfl
    refine ⟨fun _ => h, fun q => absurd ?_ q⟩
    rw [nI_clamp (by omega), zF.2 11 (by decide), hto, hS.2]
    exact Int32.le_refl _
  | succ d ih =>
    intro k z hk zF
    have k2 := SQ_mono hS (j := k + 1) (k := N) (by omega) (Nat.le_refl N)
    have e1 : nx (u.2 3) a (k + 1) = nx (u.2 3) a k + tl (u.2 3) (nx (u.2 3) a k) := rfl
    have eN := hS.2
    obtain ⟨c2, cT⟩ := hS.1 k (by omega)
    have c0 := cT.1
    obtain ⟨n, N', t, hPC, hn⟩ := hP k (by omega)
    have g1 : z.2 1 = u.2 1 := zF.2 1 (by decide)
    have g3 : z.2 3 = u.2 3 := zF.2 3 (by decide)
    have base := matchesX (w := z) (pat := nx (u.2 3) a k + 1) (n := n) (N := N') (t := t) (lst := lst) (m := m) (post := fun r v => FR [] [14, 15] z v ∧ ((r = 0 ∧ ¬ MT (u.2 3) (u.2 1) (MXX (u.2 3) (u.2 1)) 1 (nx (u.2 3) a k + 1) lst) ∨ (r = 1 ∧ MT (u.2 3) (u.2 1) (MXX (u.2 3) (u.2 1)) 1 (nx (u.2 3) a k + 1) lst))) (by rw [g3]; exact hPC) hn (by rw [g1]; exact hT) hl hm (fun v vF hv => ⟨vF, Or.inl ⟨rfl, by rw [g1, g3] at hv; exact hv⟩⟩) (fun v vF hv => ⟨vF, Or.inr ⟨rfl, by rw [g1, g3] at hv; exact hv⟩⟩)
    have step : ∀ (post : mS → Prop) (K : Int32 → Int32 → Int32 → Int32 → mS → Prop), wp_X9_matches (nI (nx (u.2 3) a k + 1)) (nI lst) z (fun r23 u24 => ((¬ r23 = 0) → wj_X9_use_114 post (nI bi) x2 x3 (nI (nx (u.2 3) a k)) u24) ∧ ((r23 = 0) → wp_X9_end_4 (nI (nx (u.2 3) a k)) u24 (fun r26 u27 => K (nI bi) x2 x3 r26 u27))) → wj_X9_use_74 K post (nI bi) x2 x3 (nI (nx (u.2 3) a k)) z := by
      intro post K hM
      refine ⟨vp_in_nI hbi (by omega), ?_⟩
      rintro _ rfl
      rw [nI_clamp (show bi < 2 ^ 31 by omega), zF.2 11 (by decide), hto]
      refine ⟨fun q => absurd q (by rw [nI_leI (by omega) (by omega)]; omega), fun _ => ?_⟩
      rintro _ rfl y22 e22
      have e22 : y22 = nI lst := e22.trans ((zF.1 1 (by decide)).trans hh)
      subst e22
      rw [nI_1]
      exact hM
    refine d_wp_X9_matches base (fun r v hv reb => ?_)
    obtain ⟨vF, hv⟩ := hv
    rcases hv with ⟨rfl, hv⟩ | ⟨rfl, hv⟩
    · obtain ⟨k', z', q1, q2, q3, q4, q5, q6⟩ := ih (k + 1) v (by omega) (zF.tr vF)
      refine ⟨k', z', by omega, q2, q3, fun j j1 j2 => ?_, q5, fun post h => ?_⟩
      · rcases Nat.lt_or_ge k j with y | y
        · exact q4 j (by omega) j2
        · have : j = k := by omega
          subst this; exact hv
      · obtain ⟨c, hc⟩ := q6 post h
        refine ⟨c + 1, step post _ (reb _ ⟨fun q => absurd rfl q, fun _ => ?_⟩)⟩
        refine end_4 (n := tl (u.2 3) (nx (u.2 3) a k)) (by rw [(zF.tr vF).2 3 (by decide)]; exact cT) (by omega) ?_
        rw [← e1]
        exact hc
    · refine ⟨k, v, Nat.le_refl _, by omega, zF.tr vF, fun j j1 j2 => by omega, fun _ => hv, fun post h => ⟨1, step post _ (reb _ ⟨fun _ => h, fun q => absurd q (by decide)⟩)⟩⟩
