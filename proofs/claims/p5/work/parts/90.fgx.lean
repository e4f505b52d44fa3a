-- 90: a fill's setting, from the rules of a name
theorem fgx_of {P : Int32 → Prop} {v z : mS} {a b i ni h m : Nat} (hRu : RUL (v.2 3) (v.2 4) i) (cT : TL (v.2 3) i ni) (ha : a ≤ i) (hb : i + ni ≤ b) (hb2 : b ≤ 3200) (hTk : ∀ j, a ≤ j → j < b → TOK (v.2 3 j)) (hDk : DTS (v.2 3) a b) (e1 : z.2 1 = v.2 1) (e3 : z.2 3 = v.2 3) (e4 : z.2 4 = v.2 4) (hT : TL (v.2 1) h m) (hl : h + m ≤ 2600) (hm : m ≤ 310) (htok : ∀ j, h ≤ j → j < h + m → TOK (v.2 1 j)) (hdt : DTS (v.2 1) h (h + m)) (hMT : MT (v.2 3) (v.2 1) (MXX (v.2 3) (v.2 1)) 1 (i + 1) h) (hP4 : ∀ j, a ≤ j → j < b → P (v.2 4 j)) (hP2 : ∀ j, j < m → P (z.2 2 (h + j))) : ∃ n1 m0, FGX P z (i + 1) n1 (i + 1 + n1) m0 h m (DX (v.2 3) (v.2 1) (i + 1) n1 h m) ∧ i + 1 + n1 + m0 < i + ni ∧ n1 = tl (v.2 3) (i + 1) ∧ m0 = tl (v.2 3) (i + 1 + n1) := by
  obtain ⟨n1, m0, ⟨N', t', hPC⟩, hPAT, hT0, hlen, hTEM, hD0, d2, d6, htk⟩ := RUL_parts hRu cT ha hb hTk hDk
  obtain ⟨hTop, hDD⟩ := DX_of hPC hT hMT
  refine ⟨n1, m0, ⟨?_, ?_, ?_, fun j hj => by rw [e4]; exact hP4 _ (by omega) (by omega), hP2⟩, hlen, (tl_eq hPC.1.1.2.1).symm, (tl_eq hT0).symm⟩
  · unfold FG
    rw [e1, e3, e4]
    exact ⟨⟨⟨N', t', hPC⟩, hPAT, Nat.le_refl _, hT0, by omega, hTEM, hT, hl, hm, hTop, hDD⟩, hD0, d2, d6, htk, htok, hdt⟩
  · rw [e3]
    exact fun k k1 k2 k6 => hDk k (by omega) (by omega) k6
  · rw [e1, e3]; exact hMT
theorem fag_of {u v z : mS} {L nL N a b a1 b1 a2 b2 N' k lA h m n1 m0 : Nat} (hR : RGN u v L nL N a b a1 b1) (hS : SQ (v.2 3) a b N') (hk : k < N') (e3 : z.2 3 = v.2 3) (e4 : z.2 4 = v.2 4) (hA2 : AR u a2 b2) (hal : a2 ≤ lA) (hlb : lA + m ≤ b2) (hlist : ∀ j, j < m → ra u (lA + j) = z.2 1 (h + j) ∧ u.2 2 (lA + j) = z.2 2 (h + j)) (hn1 : n1 = tl (v.2 3) (nx (v.2 3) a k + 1)) (hm0 : m0 = tl (v.2 3) (nx (v.2 3) a k + 1 + n1)) : FAG z u (nx (v.2 3) a k + 1) n1 (nx (v.2 3) a k + 1 + n1) m0 h m (it (ra u) L (k + 1) + 1) lA a1 b1 a2 b2 := by
  obtain ⟨eN, all⟩ := rgn_sq hR hS
  obtain ⟨h1, hD, h3, h4, hL, h6, hN, k3, h9, h10, h11⟩ := hR
  have e := all k (by omega)
  obtain ⟨c2, cT⟩ := hL.2.2.1 (k + 1) (by omega)
  have at1 := LI_at hL (k := k + 1) (by omega)
  have at2 := LI_at hL (k := k + 2) (by omega)
  have e1 : it (ra u) L (k + 2) = it (ra u) L (k + 1) + tl (ra u) (it (ra u) L (k + 1)) := rfl
  have eL := hL.2.2.2
  have mo := LI_mono hL (j := k + 2) (k := N) (by omega) (Nat.le_refl _)
  obtain ⟨hRu, hLK⟩ := h9 (k + 1) (by omega) (by omega)
  obtain ⟨-, -, p1, p2, p3, p4⟩ := RUL_pc hRu cT hD (by omega) (by omega)
  have c0 := cT.1
  have p3' := p3.1
  have p2' := p2.1
  have m00 := SQ_mono hS (j := 0) (k := k) (by omega) (by omega)
  have n0 : nx (v.2 3) a 0 = a := rfl
  have g : ∀ j, it (ra u) L (k + 1) + 1 + j < L + nL - 1 → ra u (it (ra u) L (k + 1) + 1 + j) = v.2 3 (nx (v.2 3) a k + 1 + j) ∧ u.2 2 (it (ra u) L (k + 1) + 1 + j) = v.2 4 (nx (v.2 3) a k + 1 + j) := by
    intro j hj
    have := h11 (nx (v.2 3) a k - a + 1 + j) (by omega)
    rw [show L + 2 + (nx (v.2 3) a k - a + 1 + j) = it (ra u) L (k + 1) + 1 + j from by omega, show a + (nx (v.2 3) a k - a + 1 + j) = nx (v.2 3) a k + 1 + j from by omega] at this
    exact this
  have en : n1 = tl (ra u) (it (ra u) L (k + 1) + 1) := by
    rw [hn1]
    exact tl_eq (TL_copy (r := ra u) (i := it (ra u) L (k + 1) + 1) (fun j hj => by rw [(g j (by omega)).1]) p2)
  have em : m0 = tl (ra u) (it (ra u) L (k + 1) + 1 + tl (ra u) (it (ra u) L (k + 1) + 1)) := by
    rw [hm0, en]
    refine tl_eq (TL_copy (r := ra u) (i := it (ra u) L (k + 1) + 1 + tl (ra u) (it (ra u) L (k + 1) + 1)) (fun j hj => ?_) p3)
    have := (g (tl (ra u) (it (ra u) L (k + 1) + 1) + j) (by omega)).1
    rw [show it (ra u) L (k + 1) + 1 + (tl (ra u) (it (ra u) L (k + 1) + 1) + j) = it (ra u) L (k + 1) + 1 + tl (ra u) (it (ra u) L (k + 1) + 1) + j from by omega, show nx (v.2 3) a k + 1 + (tl (ra u) (it (ra u) L (k + 1) + 1) + j) = nx (v.2 3) a k + 1 + tl (ra u) (it (ra u) L (k + 1) + 1) + j from by omega] at this
    rw [this]
  obtain ⟨R, eR⟩ : ∃ R, R = it (ra u) L (k + 1) := ⟨_, rfl⟩
  rw [← eR] at en em p1 g p3 e at1 e1 cT c2 hLK hRu ⊢
  rw [← en] at em p1
  have kc : kd (ra u (R + 1 + n1 + m0)) = 2 := by
    obtain ⟨-, ⟨n', hLI, -⟩, -⟩ := hRu
    have q := (TL_open hLI.1 cT).2.2
    rw [← em] at p1
    rw [p1]
    exact q
  rw [← em] at p1
  refine ⟨h1, hA2, by omega, by omega, kc, hal, hlb, fun j hj => ?_, fun j hj => ?_, hlist, fun x x1 x2 => ?_⟩
  · rw [e3, e4]; exact g j (by omega)
  · rw [e3, e4]
    have := g (n1 + j) (by omega)
    rw [show R + 1 + (n1 + j) = R + 1 + n1 + j from by omega, show nx (v.2 3) a k + 1 + (n1 + j) = nx (v.2 3) a k + 1 + n1 + j from by omega] at this
    exact this
  · exact hLK x (by rw [← en]; exact x1) (by rw [← en, ← em]; exact x2)
