theorem dL_law_0 : decode cL_law 0 = .ok (.new 7, 3) := by decide +kernel
theorem dL_law_3 : decode cL_law 3 = .ok (.dup, 1) := by decide +kernel
theorem dL_law_4 : decode cL_law 4 = .ok (.invokespecial 9, 3) := by decide +kernel
theorem dL_law_7 : decode cL_law 7 = .ok (.astore_n 1, 1) := by decide +kernel
theorem dL_law_8 : decode cL_law 8 = .ok (.new 10, 3) := by decide +kernel
theorem dL_law_11 : decode cL_law 11 = .ok (.dup, 1) := by decide +kernel
theorem dL_law_12 : decode cL_law 12 = .ok (.invokespecial 12, 3) := by decide +kernel
theorem dL_law_15 : decode cL_law 15 = .ok (.astore_n 2, 1) := by decide +kernel
theorem dL_law_16 : decode cL_law 16 = .ok (.iconst 0, 1) := by decide +kernel
theorem dL_law_17 : decode cL_law 17 = .ok (.istore_n 3, 1) := by decide +kernel
theorem dL_law_18 : decode cL_law 18 = .ok (.iload_n 3, 1) := by decide +kernel
theorem dL_law_19 : decode cL_law 19 = .ok (.aload_n 0, 1) := by decide +kernel
theorem dL_law_20 : decode cL_law 20 = .ok (.arraylength, 1) := by decide +kernel
theorem dL_law_21 : decode cL_law 21 = .ok (.iconst 3, 1) := by decide +kernel
theorem dL_law_22 : decode cL_law 22 = .ok (.isub, 1) := by decide +kernel
theorem dL_law_23 : decode cL_law 23 = .ok (.if_icmp .gt 166, 3) := by decide +kernel
theorem dL_law_26 : decode cL_law 26 = .ok (.aload_n 0, 1) := by decide +kernel
theorem dL_law_27 : decode cL_law 27 = .ok (.iload_n 3, 1) := by decide +kernel
theorem dL_law_28 : decode cL_law 28 = .ok (.iaload, 1) := by decide +kernel
theorem dL_law_29 : decode cL_law 29 = .ok (.bipush 7, 2) := by decide +kernel
theorem dL_law_31 : decode cL_law 31 = .ok (.iand, 1) := by decide +kernel
theorem dL_law_32 : decode cL_law 32 = .ok (.tableswitch 151 0 4 #[36, 69, 82, 105, 128], 36) := by decide +kernel
theorem dL_law_68 : decode cL_law 68 = .ok (.aload_n 1, 1) := by decide +kernel
theorem dL_law_69 : decode cL_law 69 = .ok (.aload_n 0, 1) := by decide +kernel
theorem dL_law_70 : decode cL_law 70 = .ok (.iload_n 3, 1) := by decide +kernel
theorem dL_law_71 : decode cL_law 71 = .ok (.iconst 1, 1) := by decide +kernel
theorem dL_law_72 : decode cL_law 72 = .ok (.iadd, 1) := by decide +kernel
theorem dL_law_73 : decode cL_law 73 = .ok (.iaload, 1) := by decide +kernel
theorem dL_law_74 : decode cL_law 74 = .ok (.aload_n 0, 1) := by decide +kernel
theorem dL_law_75 : decode cL_law 75 = .ok (.iload_n 3, 1) := by decide +kernel
theorem dL_law_76 : decode cL_law 76 = .ok (.iconst 2, 1) := by decide +kernel
theorem dL_law_77 : decode cL_law 77 = .ok (.iadd, 1) := by decide +kernel
theorem dL_law_78 : decode cL_law 78 = .ok (.iaload, 1) := by decide +kernel
theorem dL_law_79 : decode cL_law 79 = .ok (.invokevirtual 13, 3) := by decide +kernel
theorem dL_law_82 : decode cL_law 82 = .ok (.pop, 1) := by decide +kernel
theorem dL_law_83 : decode cL_law 83 = .ok (.aload_n 2, 1) := by decide +kernel
theorem dL_law_84 : decode cL_law 84 = .ok (.aload_n 0, 1) := by decide +kernel
theorem dL_law_85 : decode cL_law 85 = .ok (.iload_n 3, 1) := by decide +kernel
theorem dL_law_86 : decode cL_law 86 = .ok (.iconst 1, 1) := by decide +kernel
theorem dL_law_87 : decode cL_law 87 = .ok (.iadd, 1) := by decide +kernel
theorem dL_law_88 : decode cL_law 88 = .ok (.iaload, 1) := by decide +kernel
theorem dL_law_89 : decode cL_law 89 = .ok (.aload_n 0, 1) := by decide +kernel
theorem dL_law_90 : decode cL_law 90 = .ok (.iload_n 3, 1) := by decide +kernel
theorem dL_law_91 : decode cL_law 91 = .ok (.iconst 2, 1) := by decide +kernel
theorem dL_law_92 : decode cL_law 92 = .ok (.iadd, 1) := by decide +kernel
theorem dL_law_93 : decode cL_law 93 = .ok (.iaload, 1) := by decide +kernel
theorem dL_law_94 : decode cL_law 94 = .ok (.invokevirtual 17, 3) := by decide +kernel
theorem dL_law_97 : decode cL_law 97 = .ok (.pop, 1) := by decide +kernel
theorem dL_law_98 : decode cL_law 98 = .ok (.goto 85, 3) := by decide +kernel
theorem dL_law_101 : decode cL_law 101 = .ok (.aload_n 1, 1) := by decide +kernel
theorem dL_law_102 : decode cL_law 102 = .ok (.invokevirtual 18, 3) := by decide +kernel
theorem dL_law_105 : decode cL_law 105 = .ok (.pop, 1) := by decide +kernel
theorem dL_law_106 : decode cL_law 106 = .ok (.aload_n 2, 1) := by decide +kernel
theorem dL_law_107 : decode cL_law 107 = .ok (.invokevirtual 22, 3) := by decide +kernel
theorem dL_law_110 : decode cL_law 110 = .ok (.pop, 1) := by decide +kernel
theorem dL_law_111 : decode cL_law 111 = .ok (.goto 72, 3) := by decide +kernel
theorem dL_law_114 : decode cL_law 114 = .ok (.aload_n 1, 1) := by decide +kernel
theorem dL_law_115 : decode cL_law 115 = .ok (.aload_n 0, 1) := by decide +kernel
theorem dL_law_116 : decode cL_law 116 = .ok (.iload_n 3, 1) := by decide +kernel
theorem dL_law_117 : decode cL_law 117 = .ok (.iconst 1, 1) := by decide +kernel
theorem dL_law_118 : decode cL_law 118 = .ok (.iadd, 1) := by decide +kernel
theorem dL_law_119 : decode cL_law 119 = .ok (.iaload, 1) := by decide +kernel
theorem dL_law_120 : decode cL_law 120 = .ok (.invokevirtual 23, 3) := by decide +kernel
theorem dL_law_123 : decode cL_law 123 = .ok (.pop, 1) := by decide +kernel
theorem dL_law_124 : decode cL_law 124 = .ok (.aload_n 2, 1) := by decide +kernel
theorem dL_law_125 : decode cL_law 125 = .ok (.aload_n 0, 1) := by decide +kernel
theorem dL_law_126 : decode cL_law 126 = .ok (.iload_n 3, 1) := by decide +kernel
theorem dL_law_127 : decode cL_law 127 = .ok (.iconst 1, 1) := by decide +kernel
theorem dL_law_128 : decode cL_law 128 = .ok (.iadd, 1) := by decide +kernel
theorem dL_law_129 : decode cL_law 129 = .ok (.iaload, 1) := by decide +kernel
theorem dL_law_130 : decode cL_law 130 = .ok (.invokevirtual 27, 3) := by decide +kernel
theorem dL_law_133 : decode cL_law 133 = .ok (.pop, 1) := by decide +kernel
theorem dL_law_134 : decode cL_law 134 = .ok (.goto 49, 3) := by decide +kernel
theorem dL_law_137 : decode cL_law 137 = .ok (.aload_n 1, 1) := by decide +kernel
theorem dL_law_138 : decode cL_law 138 = .ok (.aload_n 0, 1) := by decide +kernel
theorem dL_law_139 : decode cL_law 139 = .ok (.iload_n 3, 1) := by decide +kernel
theorem dL_law_140 : decode cL_law 140 = .ok (.iconst 1, 1) := by decide +kernel
theorem dL_law_141 : decode cL_law 141 = .ok (.iadd, 1) := by decide +kernel
theorem dL_law_142 : decode cL_law 142 = .ok (.iaload, 1) := by decide +kernel
theorem dL_law_143 : decode cL_law 143 = .ok (.invokevirtual 28, 3) := by decide +kernel
theorem dL_law_146 : decode cL_law 146 = .ok (.aload_n 2, 1) := by decide +kernel
theorem dL_law_147 : decode cL_law 147 = .ok (.aload_n 0, 1) := by decide +kernel
theorem dL_law_148 : decode cL_law 148 = .ok (.iload_n 3, 1) := by decide +kernel
theorem dL_law_149 : decode cL_law 149 = .ok (.iconst 1, 1) := by decide +kernel
theorem dL_law_150 : decode cL_law 150 = .ok (.iadd, 1) := by decide +kernel
theorem dL_law_151 : decode cL_law 151 = .ok (.iaload, 1) := by decide +kernel
theorem dL_law_152 : decode cL_law 152 = .ok (.invokevirtual 31, 3) := by decide +kernel
theorem dL_law_155 : decode cL_law 155 = .ok (.if_icmp .eq 28, 3) := by decide +kernel
theorem dL_law_160 : decode cL_law 160 = .ok (.aload_n 1, 1) := by decide +kernel
theorem dL_law_161 : decode cL_law 161 = .ok (.aload_n 0, 1) := by decide +kernel
theorem dL_law_162 : decode cL_law 162 = .ok (.iload_n 3, 1) := by decide +kernel
theorem dL_law_163 : decode cL_law 163 = .ok (.iconst 1, 1) := by decide +kernel
theorem dL_law_164 : decode cL_law 164 = .ok (.iadd, 1) := by decide +kernel
theorem dL_law_165 : decode cL_law 165 = .ok (.iaload, 1) := by decide +kernel
theorem dL_law_166 : decode cL_law 166 = .ok (.invokevirtual 32, 3) := by decide +kernel
theorem dL_law_169 : decode cL_law 169 = .ok (.pop, 1) := by decide +kernel
theorem dL_law_170 : decode cL_law 170 = .ok (.aload_n 2, 1) := by decide +kernel
theorem dL_law_171 : decode cL_law 171 = .ok (.aload_n 0, 1) := by decide +kernel
theorem dL_law_172 : decode cL_law 172 = .ok (.iload_n 3, 1) := by decide +kernel
theorem dL_law_173 : decode cL_law 173 = .ok (.iconst 1, 1) := by decide +kernel
theorem dL_law_174 : decode cL_law 174 = .ok (.iadd, 1) := by decide +kernel
theorem dL_law_175 : decode cL_law 175 = .ok (.iaload, 1) := by decide +kernel
theorem dL_law_176 : decode cL_law 176 = .ok (.invokevirtual 35, 3) := by decide +kernel
theorem dL_law_179 : decode cL_law 179 = .ok (.pop, 1) := by decide +kernel
theorem dL_law_180 : decode cL_law 180 = .ok (.goto 3, 3) := by decide +kernel
theorem dL_law_183 : decode cL_law 183 = .ok (.iinc 3 3, 3) := by decide +kernel
theorem dL_law_186 : decode cL_law 186 = .ok (.goto (-168), 3) := by decide +kernel
theorem dL_law_189 : decode cL_law 189 = .ok (.iconst 1, 1) := by decide +kernel
theorem dL_law_190 : decode cL_law 190 = .ok (.ireturn, 1) := by decide +kernel
-- ===== end of PART A; then your names; then what follows =====
/-! THE CLAIM OUT OF ONE WALK OF THE LAW'S BODY. Your part is whole_start (and what it stands on); all else here is the same for every law, but numbers. -/
def R_law : String := "MarkedNamesLaw"
def lw_P (b : Addr) (xs : List Int32) (args : Array Value) (s : State) : Prop := args = #[.ref b] ∧ s.IntsAt b xs ∧ xs.length ≤ 192 ∧ (Jvm.Cond.and given_1 narrow_1).before args s = true
def lw_Q (_ : Array Value) (s : State) (o : Outcome) (t : State) : Prop := o = .returned (some (.int 1)) ∧ Framed s o t [] 600000 7302250
def lw_Z (below : List Frame) (a : Array Value) (s : State) : State → Prop := fun t => ∃ o, t.status = .running ∧ Ended t below o ∧ lw_Q a s o t
/-- the law's own end, with 1 on the stack, nothing written that was there before, its room as the claim has it -/
theorem lw_ret {p : Program} {l : Launch} {e : Env} {s : State} {m : MethodId} {below : List Frame} {meth : Method} {c : Code} {b : Nat} (hx : p.tables.exec = Jvm.exec) (hb : c.code = code) (hr : meth.sig.returnType = ret) (hlocks : meth.locks = false) {pc : Nat} {H : Heap} {ls : Array Slot} (hdg : decode code pc = .ok (.ireturn, 1)) : W p l e room_1 s m #[Value.ref b] below meth c H [] 600000 7302250 (lw_Z below #[Value.ref b] s) (F0 m pc ls [.int 1]) := by
  intro T hT X
  obtain ⟨fs, hret, hrun, hended, hW, hframe⟩ := X.leave (v := some (.int 1)) (hlocks := hlocks) (fun h => by rw [hr] at h; cases h)
  have hmeth' : T.vm.method? m = some meth := X.method'
  refine ⟨T.setFrames fs, ?_, .returned (some (.int 1)), hrun, hended, rfl, ⟨_, rfl⟩, hW, hframe⟩
  jvm_step X.here [X.here.top, hx, hb, hdg, hmeth', hr, ret, narrow_b1]
  (try refine ⟨rfl, ?_⟩); (try refine ⟨rfl, ?_⟩)
  first | (intro acts; rw [hret _ acts rfl rfl rfl]) | rw [hret _ _ rfl rfl rfl]
  exact Steps.refl _
/-- what holds at the law's entry: the machine, the code, the tables' words (any of lw_tbl by 'hts w (by decide +kernel)'), the script of L ints xs at the cell b, what the Statement gives of the start (any of its parts by flat_of_before) -/
def lw_At (p : Program) (s : State) (m : MethodId) (meth : Method) (c : Code) (b L : Nat) (xs : Nat → Int32) : Prop :=
  p.tables.exec = Jvm.exec ∧ c.code = code ∧ meth.sig.returnType = ret ∧ c.maxLocals = 4 ∧ s.vm.findClass R_law = some m.cls ∧ (∀ w ∈ lw_tbl, w.before #[Value.ref b] s = true) ∧ va_X b L xs s s.heap ∧ b < s.heap.size ∧ meth.locks = false ∧ (Jvm.Cond.and given_1 narrow_1).before #[Value.ref b] s = true
set_option maxHeartbeats 4000000 in
set_option maxRecDepth 100000 in
theorem law_loop {p : Program} {l : Launch} {e : Env} {s : State} {m : MethodId} {below : List Frame} {meth : Method} {c : Code} {dC : Nat → ClassId} {dI : Nat → Nat → Nat} {cA : ClassId} {a b : Nat → Nat} {sb L : Nat} {xs : Nat → Int32} (hL : L ≤ 192) (C : mC p s m #[Value.ref sb] meth c cL_law 4 wsL_law RL ret (dC, dI) vwCl [(cA, .int)] (fun q : Nat => s.heap.size ≤ q)) (hX : va_X sb L xs s s.heap) (hbl : sb < s.heap.size) (hs : eA a (fun q : Nat => s.heap.size ≤ q) s) (Inv : Nat → mS → mS → Prop) (h_type : ∀ (k : Nat) (u v : mS) (x y : Int32), 3 * k + 3 ≤ L → Inv k u v → wp_X8_type x y u (fun r w => wp_X9_type x y v (fun q t => Inv (k + 1) w t))) (h_rules : ∀ (k : Nat) (u v : mS), 3 * k + 3 ≤ L → Inv k u v → wp_X8_rules  u (fun r w => wp_X9_rules  v (fun q t => Inv (k + 1) w t))) (h_expand : ∀ (k : Nat) (u v : mS) (x : Int32), 3 * k + 3 ≤ L → Inv k u v → wp_X8_expand x u (fun r w => wp_X9_expand x v (fun q t => Inv (k + 1) w t))) (h_at : ∀ (k : Nat) (u v : mS) (x : Int32), 3 * k + 3 ≤ L → Inv k u v → wp_X8_at x u (fun r w => wp_X9_at x v (fun q t => r = q ∧ Inv (k + 1) w t))) (h_count : ∀ (k : Nat) (u v : mS) (x : Int32), 3 * k + 3 ≤ L → Inv k u v → wp_X8_count x u (fun r w => wp_X9_count_ x v (fun q t => Inv (k + 1) w t))) (h_skip : ∀ (k : Nat) (u v : mS), 3 * k + 3 ≤ L → Inv k u v → Inv (k + 1) u v) : ∀ (n k : Nat) (u v : mS), L < 3 * k + n → 3 * k ≤ L → Inv k u v → mV p l e room_1 s m #[Value.ref sb] below meth c 4 (dC, dI) vwCl (fun q : Nat => s.heap.size ≤ q) 43 26124 (lw_Z below #[Value.ref sb] s) (wA cA a u ++ wM cA b v) 18 [(0, .ref sb), (1, .ref (a 0)), (2, .ref (b 0)), (3, .int (nI (3 * k)))] [] := by
  have hbA : ¬ (fun q : Nat => s.heap.size ≤ q) sb := Nat.not_le.mpr hbl
  have hx := C.1
  have hb := C.2.1
  have hr := C.2.2.2.2.2.1
  have hlocks := C.2.2.2.2.2.2.1
  intro n
  induction n using Nat.strongRecOn with
  | _ n ih =>
  intro k u v hn hkL hI
  refine mv_iload_n C dL_law_18 rfl 3 rfl ?_
  refine mv_aload_n C dL_law_19 rfl 0 rfl ?_
  refine mv_slen C hX hbl hbA dL_law_20 ?_
  refine mv_iconst (v := (3 : Int32)) C dL_law_21 (by decide) ?_
  refine mv_isub C dL_law_22 ?_
  refine mv_icmp_gt (tgt := 189) C dL_law_23 (by decide) (fun hc => ?_) (fun hc => ?_)
  · refine mv_iconst (v := (1 : Int32)) C dL_law_189 (by decide) ?_
    intro H locs ls hP hD hS hl
    refine va_forget (fun q hq => hS.2.2 q hq) ?_
    refine W.widen (k := 600000) (n := 7302250) (by decide) (by decide) ?_
    exact lw_ret hx hb hr hlocks dL_law_190
  · have hk : 3 * k + 3 ≤ L := by
      rcases Nat.lt_or_ge L (3 * k + 3) with h | h
      · exfalso
        apply hc
        rw [Int32.lt_iff_toInt_lt, show (3 : Int32) = nI 3 from by decide, pk_sub_toInt (by omega) (by omega), nI_toInt (by omega)]
        omega
      · exact h
    have hin0 : vp_in (nI (3 * k)) L := vp_in_nI (by omega) (by omega)
    have hin1 : vp_in (nI (3 * k) + 1) L := by rw [nI_1]; exact vp_in_nI (by omega) (by omega)
    have hin2 : vp_in (nI (3 * k) + 2) L := by rw [show (2 : Int32) = nI 2 from by decide, nI_add]; exact vp_in_nI (by omega) (by omega)
    have next : ∀ (w t : mS), Inv (k + 1) w t → mV p l e room_1 s m #[Value.ref sb] below meth c 4 (dC, dI) vwCl (fun q : Nat => s.heap.size ≤ q) 43 26124 (lw_Z below #[Value.ref sb] s) (wA cA a w ++ wM cA b t) 183 [(0, .ref sb), (1, .ref (a 0)), (2, .ref (b 0)), (3, .int (nI (3 * k)))] [] := by
      intro w t hI2
      refine mv_iinc (v := nI (3 * (k + 1))) (lv1 := [(3, .int (nI (3 * (k + 1)))), (0, .ref sb), (1, .ref (a 0)), (2, .ref (b 0))]) C dL_law_183 3 rfl (by rw [show Int32.ofInt 3 = nI 3 from by decide, nI_add]; rfl) (by decide) rfl ?_
      refine mv_goto (tgt := 18) C dL_law_186 (by decide) ?_
      refine mv_sub [1, 2, 3, 0] rfl ?_
      exact ih (n - 3) (by omega) (k + 1) w t (by omega) (by omega) hI2
    refine mv_aload_n C dL_law_26 rfl 0 rfl ?_
    refine mv_iload_n C dL_law_27 rfl 3 rfl ?_
    refine mv_sld C hX hbl hbA hin0 dL_law_28 ?_
    refine mv_bipush (v := (7 : Int32)) C dL_law_29 (by decide) ?_
    refine mv_iand C dL_law_31 ?_
    refine mv_topi (fun o eo => ?_)
    by_cases hc0 : o = 0
    · have hw := h_type k u v (xs (nI (3 * k) + 1).toNatClampNeg) (xs (nI (3 * k) + 2).toNatClampNeg) hk hI
      refine mv_tableIn (tgt := 68) C dL_law_32 (by rw [hc0]; decide) (by rw [hc0]; decide) (by rw [hc0]; rfl) (by decide) ?_
      refine mv_aload_n C dL_law_68 rfl 1 rfl ?_
      refine mv_aload_n C dL_law_69 rfl 0 rfl ?_
      refine mv_iload_n C dL_law_70 rfl 3 rfl ?_
      refine mv_iconst (v := (1 : Int32)) C dL_law_71 (by decide) ?_
      refine mv_iadd C dL_law_72 ?_
      refine mv_sld C hX hbl hbA hin1 dL_law_73 ?_
      refine mv_aload_n C dL_law_74 rfl 0 rfl ?_
      refine mv_iload_n C dL_law_75 rfl 3 rfl ?_
      refine mv_iconst (v := (2 : Int32)) C dL_law_76 (by decide) ?_
      refine mv_iadd C dL_law_77 ?_
      refine mv_sld C hX hbl hbA hin2 dL_law_78 ?_
      refine mv_callVs (f := wA cA a) (As := [.int (xs (nI (3 * k) + 1).toNatClampNeg), .int (xs (nI (3 * k) + 2).toNatClampNeg)]) (rest := []) (wr := wM cA b v) C (eA_ok a) hs [0, 1, 2, 3, 4, 5, 6, 7, 8, 9, 10, 11, 12, 13, 14, 15, 16, 17, 18, 19, 20, 21] [22, 23, 24, 25, 26, 27, 28, 29, 30, 31, 32, 33, 34, 35, 36, 37, 38, 39, 40, 41, 42] rfl rfl (by decide) rfl (by decide) (by decide) 0 rfl rfl (X8_type_met (l := l) (lev := 1) (Nat.le_refl _) hw) (cwV 2 C.2.2.2.2.1 gL_law_X8_type rfl rfl rfl (by decide +kernel) (by decide)) rfl rfl (Nat.le_of_ble_eq_true rfl) dL_law_79 (by decide) (fun r w hw => ?_)
      have hw := hw.2
      refine mv_pop C dL_law_82 rfl ?_
      refine mv_aload_n C dL_law_83 rfl 2 rfl ?_
      refine mv_aload_n C dL_law_84 rfl 0 rfl ?_
      refine mv_iload_n C dL_law_85 rfl 3 rfl ?_
      refine mv_iconst (v := (1 : Int32)) C dL_law_86 (by decide) ?_
      refine mv_iadd C dL_law_87 ?_
      refine mv_sld C hX hbl hbA hin1 dL_law_88 ?_
      refine mv_aload_n C dL_law_89 rfl 0 rfl ?_
      refine mv_iload_n C dL_law_90 rfl 3 rfl ?_
      refine mv_iconst (v := (2 : Int32)) C dL_law_91 (by decide) ?_
      refine mv_iadd C dL_law_92 ?_
      refine mv_sld C hX hbl hbA hin2 dL_law_93 ?_
      refine mv_callVs (f := wM cA b) (As := [.int (xs (nI (3 * k) + 1).toNatClampNeg), .int (xs (nI (3 * k) + 2).toNatClampNeg)]) (rest := []) (wr := wA cA a w) C eM_ok trivial [0, 1, 2, 3, 4, 5, 6, 7, 8, 9, 10, 11, 12, 13, 14, 15, 16, 17, 18, 19, 20] [21, 22, 23, 24, 25, 26, 27, 28, 29, 30, 31, 32, 33, 34, 35, 36, 37, 38, 39, 40, 41, 42] rfl rfl (by decide) rfl (by decide) (by decide) 0 rfl rfl (X9_type_met (l := l) (lev := 0) (Nat.le_refl _) hw) (cwV 2 C.2.2.2.2.1 gL_law_X9_type rfl rfl rfl (by decide +kernel) (by decide)) rfl rfl (Nat.le_of_ble_eq_true rfl) dL_law_94 (by decide) (fun q t hw => ?_)
      have hw := hw.2
      refine mv_pop C dL_law_97 rfl ?_
      refine mv_goto (tgt := 183) C dL_law_98 (by decide) ?_
      exact next w t hw
    by_cases hc1 : o = 1
    · have hw := h_rules k u v  hk hI
      refine mv_tableIn (tgt := 101) C dL_law_32 (by rw [hc1]; decide) (by rw [hc1]; decide) (by rw [hc1]; rfl) (by decide) ?_
      refine mv_aload_n C dL_law_101 rfl 1 rfl ?_
      refine mv_callVs (f := wA cA a) (As := []) (rest := []) (wr := wM cA b v) C (eA_ok a) hs [0, 1, 2, 3, 4, 5, 6, 7, 8, 9, 10, 11, 12, 13, 14, 15, 16, 17, 18, 19, 20, 21] [22, 23, 24, 25, 26, 27, 28, 29, 30, 31, 32, 33, 34, 35, 36, 37, 38, 39, 40, 41, 42] rfl rfl (by decide) rfl (by decide) (by decide) 0 rfl rfl (X8_rules_met (l := l) (lev := 6) (Nat.le_refl _) hw) (cwV 0 C.2.2.2.2.1 gL_law_X8_rules rfl rfl rfl (by decide +kernel) (by decide)) rfl rfl (Nat.le_of_ble_eq_true rfl) dL_law_102 (by decide) (fun r w hw => ?_)
      refine mv_pop C dL_law_105 rfl ?_
      refine mv_aload_n C dL_law_106 rfl 2 rfl ?_
      refine mv_callVs (f := wM cA b) (As := []) (rest := []) (wr := wA cA a w) C eM_ok trivial [0, 1, 2, 3, 4, 5, 6, 7, 8, 9, 10, 11, 12, 13, 14, 15, 16, 17, 18, 19, 20] [21, 22, 23, 24, 25, 26, 27, 28, 29, 30, 31, 32, 33, 34, 35, 36, 37, 38, 39, 40, 41, 42] rfl rfl (by decide) rfl (by decide) (by decide) 0 rfl rfl (X9_rules_met (l := l) (lev := 6) (Nat.le_refl _) hw) (cwV 0 C.2.2.2.2.1 gL_law_X9_rules rfl rfl rfl (by decide +kernel) (by decide)) rfl rfl (Nat.le_of_ble_eq_true rfl) dL_law_107 (by decide) (fun q t hw => ?_)
      refine mv_pop C dL_law_110 rfl ?_
      refine mv_goto (tgt := 183) C dL_law_111 (by decide) ?_
      exact next w t hw
    by_cases hc2 : o = 2
    · have hw := h_expand k u v (xs (nI (3 * k) + 1).toNatClampNeg) hk hI
      refine mv_tableIn (tgt := 114) C dL_law_32 (by rw [hc2]; decide) (by rw [hc2]; decide) (by rw [hc2]; rfl) (by decide) ?_
      refine mv_aload_n C dL_law_114 rfl 1 rfl ?_
      refine mv_aload_n C dL_law_115 rfl 0 rfl ?_
      refine mv_iload_n C dL_law_116 rfl 3 rfl ?_
      refine mv_iconst (v := (1 : Int32)) C dL_law_117 (by decide) ?_
      refine mv_iadd C dL_law_118 ?_
      refine mv_sld C hX hbl hbA hin1 dL_law_119 ?_
      refine mv_callVs (f := wA cA a) (As := [.int (xs (nI (3 * k) + 1).toNatClampNeg)]) (rest := []) (wr := wM cA b v) C (eA_ok a) hs [0, 1, 2, 3, 4, 5, 6, 7, 8, 9, 10, 11, 12, 13, 14, 15, 16, 17, 18, 19, 20, 21] [22, 23, 24, 25, 26, 27, 28, 29, 30, 31, 32, 33, 34, 35, 36, 37, 38, 39, 40, 41, 42] rfl rfl (by decide) rfl (by decide) (by decide) 0 rfl rfl (X8_expand_met (l := l) (lev := 83) (Nat.le_refl _) hw) (cwV 1 C.2.2.2.2.1 gL_law_X8_expand rfl rfl rfl (by decide +kernel) (by decide)) rfl rfl (Nat.le_of_ble_eq_true rfl) dL_law_120 (by decide) (fun r w hw => ?_)
      refine mv_pop C dL_law_123 rfl ?_
      refine mv_aload_n C dL_law_124 rfl 2 rfl ?_
      refine mv_aload_n C dL_law_125 rfl 0 rfl ?_
      refine mv_iload_n C dL_law_126 rfl 3 rfl ?_
      refine mv_iconst (v := (1 : Int32)) C dL_law_127 (by decide) ?_
      refine mv_iadd C dL_law_128 ?_
      refine mv_sld C hX hbl hbA hin1 dL_law_129 ?_
      refine mv_callVs (f := wM cA b) (As := [.int (xs (nI (3 * k) + 1).toNatClampNeg)]) (rest := []) (wr := wA cA a w) C eM_ok trivial [0, 1, 2, 3, 4, 5, 6, 7, 8, 9, 10, 11, 12, 13, 14, 15, 16, 17, 18, 19, 20] [21, 22, 23, 24, 25, 26, 27, 28, 29, 30, 31, 32, 33, 34, 35, 36, 37, 38, 39, 40, 41, 42] rfl rfl (by decide) rfl (by decide) (by decide) 0 rfl rfl (X9_expand_met (l := l) (lev := 10) (Nat.le_refl _) hw) (cwV 1 C.2.2.2.2.1 gL_law_X9_expand rfl rfl rfl (by decide +kernel) (by decide)) rfl rfl (Nat.le_of_ble_eq_true rfl) dL_law_130 (by decide) (fun q t hw => ?_)
      refine mv_pop C dL_law_133 rfl ?_
      refine mv_goto (tgt := 183) C dL_law_134 (by decide) ?_
      exact next w t hw
    by_cases hc3 : o = 3
    · have hw := h_at k u v (xs (nI (3 * k) + 1).toNatClampNeg) hk hI
      refine mv_tableIn (tgt := 137) C dL_law_32 (by rw [hc3]; decide) (by rw [hc3]; decide) (by rw [hc3]; rfl) (by decide) ?_
      refine mv_aload_n C dL_law_137 rfl 1 rfl ?_
      refine mv_aload_n C dL_law_138 rfl 0 rfl ?_
      refine mv_iload_n C dL_law_139 rfl 3 rfl ?_
      refine mv_iconst (v := (1 : Int32)) C dL_law_140 (by decide) ?_
      refine mv_iadd C dL_law_141 ?_
      refine mv_sld C hX hbl hbA hin1 dL_law_142 ?_
      refine mv_callVs (f := wA cA a) (As := [.int (xs (nI (3 * k) + 1).toNatClampNeg)]) (rest := []) (wr := wM cA b v) C (eA_ok a) hs [0, 1, 2, 3, 4, 5, 6, 7, 8, 9, 10, 11, 12, 13, 14, 15, 16, 17, 18, 19, 20, 21] [22, 23, 24, 25, 26, 27, 28, 29, 30, 31, 32, 33, 34, 35, 36, 37, 38, 39, 40, 41, 42] rfl rfl (by decide) rfl (by decide) (by decide) 0 rfl rfl (X8_at_met (l := l) (lev := 1) (Nat.le_refl _) hw) (cwV 1 C.2.2.2.2.1 gL_law_X8_at rfl rfl rfl (by decide +kernel) (by decide)) rfl rfl (Nat.le_of_ble_eq_true rfl) dL_law_143 (by decide) (fun r w hw => ?_)
      refine mv_aload_n C dL_law_146 rfl 2 rfl ?_
      refine mv_aload_n C dL_law_147 rfl 0 rfl ?_
      refine mv_iload_n C dL_law_148 rfl 3 rfl ?_
      refine mv_iconst (v := (1 : Int32)) C dL_law_149 (by decide) ?_
      refine mv_iadd C dL_law_150 ?_
      refine mv_sld C hX hbl hbA hin1 dL_law_151 ?_
      refine mv_callVs (f := wM cA b) (As := [.int (xs (nI (3 * k) + 1).toNatClampNeg)]) (rest := [.int r]) (wr := wA cA a w) C eM_ok trivial [0, 1, 2, 3, 4, 5, 6, 7, 8, 9, 10, 11, 12, 13, 14, 15, 16, 17, 18, 19, 20] [21, 22, 23, 24, 25, 26, 27, 28, 29, 30, 31, 32, 33, 34, 35, 36, 37, 38, 39, 40, 41, 42] rfl rfl (by decide) rfl (by decide) (by decide) 0 rfl rfl (X9_at_met (l := l) (lev := 0) (Nat.le_refl _) hw) (cwV 1 C.2.2.2.2.1 gL_law_X9_at rfl rfl rfl (by decide +kernel) (by decide)) rfl rfl (Nat.le_of_ble_eq_true rfl) dL_law_152 (by decide) (fun q t hw => ?_)
      refine mv_icmp_eq (tgt := 183) C dL_law_155 (by decide) (fun _ => ?_) (fun hc => absurd hw.1 hc)
      have hw := hw.2
      exact next w t hw
    by_cases hc4 : o = 4
    · have hw := h_count k u v (xs (nI (3 * k) + 1).toNatClampNeg) hk hI
      refine mv_tableIn (tgt := 160) C dL_law_32 (by rw [hc4]; decide) (by rw [hc4]; decide) (by rw [hc4]; rfl) (by decide) ?_
      refine mv_aload_n C dL_law_160 rfl 1 rfl ?_
      refine mv_aload_n C dL_law_161 rfl 0 rfl ?_
      refine mv_iload_n C dL_law_162 rfl 3 rfl ?_
      refine mv_iconst (v := (1 : Int32)) C dL_law_163 (by decide) ?_
      refine mv_iadd C dL_law_164 ?_
      refine mv_sld C hX hbl hbA hin1 dL_law_165 ?_
      refine mv_callVs (f := wA cA a) (As := [.int (xs (nI (3 * k) + 1).toNatClampNeg)]) (rest := []) (wr := wM cA b v) C (eA_ok a) hs [0, 1, 2, 3, 4, 5, 6, 7, 8, 9, 10, 11, 12, 13, 14, 15, 16, 17, 18, 19, 20, 21] [22, 23, 24, 25, 26, 27, 28, 29, 30, 31, 32, 33, 34, 35, 36, 37, 38, 39, 40, 41, 42] rfl rfl (by decide) rfl (by decide) (by decide) 0 rfl rfl (X8_count_met (l := l) (lev := 0) (Nat.le_refl _) hw) (cwV 1 C.2.2.2.2.1 gL_law_X8_count rfl rfl rfl (by decide +kernel) (by decide)) rfl rfl (Nat.le_of_ble_eq_true rfl) dL_law_166 (by decide) (fun r w hw => ?_)
      refine mv_pop C dL_law_169 rfl ?_
      refine mv_aload_n C dL_law_170 rfl 2 rfl ?_
      refine mv_aload_n C dL_law_171 rfl 0 rfl ?_
      refine mv_iload_n C dL_law_172 rfl 3 rfl ?_
      refine mv_iconst (v := (1 : Int32)) C dL_law_173 (by decide) ?_
      refine mv_iadd C dL_law_174 ?_
      refine mv_sld C hX hbl hbA hin1 dL_law_175 ?_
      refine mv_callVs (f := wM cA b) (As := [.int (xs (nI (3 * k) + 1).toNatClampNeg)]) (rest := []) (wr := wA cA a w) C eM_ok trivial [0, 1, 2, 3, 4, 5, 6, 7, 8, 9, 10, 11, 12, 13, 14, 15, 16, 17, 18, 19, 20] [21, 22, 23, 24, 25, 26, 27, 28, 29, 30, 31, 32, 33, 34, 35, 36, 37, 38, 39, 40, 41, 42] rfl rfl (by decide) rfl (by decide) (by decide) 0 rfl rfl (X9_count__met (l := l) (lev := 0) (Nat.le_refl _) hw) (cwV 1 C.2.2.2.2.1 gL_law_X9_count_ rfl rfl rfl (by decide +kernel) (by decide)) rfl rfl (Nat.le_of_ble_eq_true rfl) dL_law_176 (by decide) (fun q t hw => ?_)
      refine mv_pop C dL_law_179 rfl ?_
      refine mv_goto (tgt := 183) C dL_law_180 (by decide) ?_
      exact next w t hw
    have q0 : ¬ o.toInt = 0 := mne hc0
    have q1 : ¬ o.toInt = 1 := mne hc1
    have q2 : ¬ o.toInt = 2 := mne hc2
    have q3 : ¬ o.toInt = 3 := mne hc3
    have q4 : ¬ o.toInt = 4 := mne hc4
    refine mv_tableOut (tgt := 183) C dL_law_32 (by omega) (by decide) ?_
    exact next u v (h_skip k u v hk hI)
theorem nest_in : ∀ w ∈ nestW, w ∈ lw_tbl := mem_r _ [113, 158, 169, 191, 193, 194, 195, 225, 260, 262, 264, 266, 104, 185, 217, 398, 417, 502, 547, 601, 603, 658, 686, 697] (by decide +kernel)
set_option maxHeartbeats 4000000 in
set_option maxRecDepth 100000 in
/-- YOUR PART: from the entry, for every script of at most 192 ints, the law comes to its end with true -/
theorem whole_start {p : Program} {e : Env} {s : State} {m : MethodId} {below : List Frame} {meth : Method} {c : Code} (l : Launch) {b L : Nat} {xs : Nat → Int32} (hL : L ≤ 192) (C0 : lw_At p s m meth c b L xs) : W p l e room_1 s m #[Value.ref b] below meth c s.heap [] 0 0 (lw_Z below #[Value.ref b] s) (entryFrame m ([Value.ref b] : List Value).toArray 4) := by
  obtain ⟨hx, hb, hr, hml, hown, hts, hX, hbl, hlocks, hgv⟩ := id C0
  have hts2 : ∀ w ∈ wsL_law, w.before #[Value.ref b] s = true := fun w h => hts w (wsL_law_in w h)
  have hg := flat_of_before _ hgv
  have hnA : ∀ q : Nat, q < s.heap.size → ¬ (fun q : Nat => s.heap.size ≤ q) q := fun q h => Nat.not_le.mpr h
  obtain ⟨c0, i0, k0⟩ := u_known (C := RX0) (T := TX0) (N := 9) (n := 9) hts li_wsX00 (hts (.instantiable RX0 9) (by decide +kernel))
  obtain ⟨c1, i1, k1⟩ := u_known (C := RX1) (T := TX1) (N := 6) (n := 6) hts li_wsX10 (hts (.instantiable RX1 6) (by decide +kernel))
  obtain ⟨c2, i2, k2⟩ := u_known (C := RX2) (T := TX2) (N := 3) (n := 3) hts li_wsX20 (hts (.instantiable RX2 3) (by decide +kernel))
  obtain ⟨c3, i3, k3⟩ := u_known (C := RX3) (T := TX3) (N := 2) (n := 2) hts li_wsX30 (hts (.instantiable RX3 2) (by decide +kernel))
  obtain ⟨c4, i4, k4⟩ := u_known (C := RX4) (T := TX4) (N := 4) (n := 4) hts li_wsX40 (hts (.instantiable RX4 4) (by decide +kernel))
  obtain ⟨c5, i5, k5⟩ := u_known (C := RX5) (T := TX5) (N := 6) (n := 6) hts li_wsX50 (hts (.instantiable RX5 6) (by decide +kernel))
  obtain ⟨c6, i6, k6⟩ := u_known (C := RX6) (T := TX6) (N := 1) (n := 1) hts li_wsX60 (hts (.instantiable RX6 1) (by decide +kernel))
  obtain ⟨c7, i7, k7⟩ := u_known (C := RX7) (T := TX7) (N := 6) (n := 6) hts li_wsX70 (hts (.instantiable RX7 6) (by decide +kernel))
  obtain ⟨c8, i8, k8⟩ := u_known (C := RX8) (T := TX8) (N := 8) (n := 8) hts li_wsX80 (hts (.instantiable RX8 8) (by decide +kernel))
  obtain ⟨c9, i9, k9⟩ := u_known (C := RX9) (T := TX9) (N := 36) (n := 36) hts li_wsX90 (hts (.instantiable RX9 36) (by decide +kernel))
  obtain ⟨dC, dI, hKc⟩ : ∃ (dC : Nat → ClassId) (dI : Nat → Nat → Nat), ∀ (k : Nat) (q : vw_C), vwCl[k]? = some q → u_Kn s q.1 q.2.1 q.2.2 (dC k) (dI k) := by
    refine ⟨fun k => match k with | 0 => c0 | 1 => c1 | 2 => c2 | 3 => c3 | 4 => c4 | 5 => c5 | 6 => c6 | 7 => c7 | 8 => c8 | _ => c9, fun k => match k with | 0 => i0 | 1 => i1 | 2 => i2 | 3 => i3 | 4 => i4 | 5 => i5 | 6 => i6 | 7 => i7 | 8 => i8 | _ => i9, ?_⟩
    intro k q hq
    match k, hq with
    | 0, hq => cases hq; exact k0
    | 1, hq => cases hq; exact k1
    | 2, hq => cases hq; exact k2
    | 3, hq => cases hq; exact k3
    | 4, hq => cases hq; exact k4
    | 5, hq => cases hq; exact k5
    | 6, hq => cases hq; exact k6
    | 7, hq => cases hq; exact k7
    | 8, hq => cases hq; exact k8
    | 9, hq => cases hq; exact k9
    | k + 10, hq => simp [vwCl] at hq
  obtain ⟨cA, kA, comp, hfc, hkA, hkind⟩ := Cond.arrayClass_spec (hts (.arrayClass .int) (by decide +kernel))
  have hK : va_K (dC, dI) vwCl [(cA, .int)] s := by
    refine ⟨hKc, fun k q h => ?_⟩
    match k, h with
    | 0, h => cases h; exact ⟨fun n z => ⟨fun k h => (by cases h), kA, hkA, comp, hkind⟩, hfc⟩
    | k + 1, h => simp at h
  have hel : ∀ j : Nat, j < 8 → (Term.elem (.static "MarkedNames" "FIRST_NAMES" "[I") (.int (Int32.ofNat j))).eval #[Value.ref b] s none [] s = some (.int (tabF j)) := by
    intro j hj
    match j, hj with
    | 0, _ => exact va_eqt (hg (.eq (.elem (.static "MarkedNames" "FIRST_NAMES" "[I") (.int 0)) (.int 91758)) (by decide +kernel))
    | 1, _ => exact va_eqt (hg (.eq (.elem (.static "MarkedNames" "FIRST_NAMES" "[I") (.int 1)) (.int 92518)) (by decide +kernel))
    | 2, _ => exact va_eqt (hg (.eq (.elem (.static "MarkedNames" "FIRST_NAMES" "[I") (.int 2)) (.int 369)) (by decide +kernel))
    | 3, _ => exact va_eqt (hg (.eq (.elem (.static "MarkedNames" "FIRST_NAMES" "[I") (.int 3)) (.int 93299)) (by decide +kernel))
    | 4, _ => exact va_eqt (hg (.eq (.elem (.static "MarkedNames" "FIRST_NAMES" "[I") (.int 4)) (.int 299)) (by decide +kernel))
    | 5, _ => exact va_eqt (hg (.eq (.elem (.static "MarkedNames" "FIRST_NAMES" "[I") (.int 5)) (.int 298)) (by decide +kernel))
    | 6, _ => exact va_eqt (hg (.eq (.elem (.static "MarkedNames" "FIRST_NAMES" "[I") (.int 6)) (.int 317)) (by decide +kernel))
    | 7, _ => exact va_eqt (hg (.eq (.elem (.static "MarkedNames" "FIRST_NAMES" "[I") (.int 7)) (.int 316)) (by decide +kernel))
    | j + 8, hj => exact absurd hj (by omega)
  obtain ⟨t, htv, hT⟩ := va_Tof (tm := .static "MarkedNames" "FIRST_NAMES" "[I") (ty := .int) (N := 8) (f := fun j => .int (tabF j)) (A := fun q : Nat => s.heap.size ≤ q) (by decide) (hg (.arrayOf (.static "MarkedNames" "FIRST_NAMES" "[I") .int) (by decide +kernel)) (va_eqt (hg (.eq (.length (.static "MarkedNames" "FIRST_NAMES" "[I")) (.int 8)) (by decide +kernel))) hel hnA
  have hZ := va_Zof (A := fun q : Nat => s.heap.size ≤ q) (hts (.laysStatic "MarkedNames" "FIRST_NAMES" "[I") (by decide +kernel)) (hts (.initialized "MarkedNames") (by decide +kernel)) htv hnA
  have hs0 : eA (fun _ => t) (fun q : Nat => s.heap.size ≤ q) s := ⟨fun w hw => va_Nw.of (nest_tab w hw) (hts w (nest_in w hw)), hZ, hT⟩
  have C : mC p s m #[Value.ref b] meth c cL_law 4 wsL_law RL ret (dC, dI) vwCl [(cA, .int)] (fun q : Nat => s.heap.size ≤ q) := ⟨hx, hb, hml, hown, hts2, hr, hlocks, hK, fun _ h => h⟩
  have hS : va_S (fun q : Nat => s.heap.size ≤ q) s.heap s.heap [] := va_S.rf
  have hP : va_P (dC, dI) vwCl [] s.heap := fun k q h => by simp at h
  have hD : va_D (fun q : Nat => s.heap.size ≤ q) [] := ⟨fun i j p q h => by simp at h, fun k q h => by simp at h⟩
  have hl := lv_entry ([.ref b]) (n := 4) (Nat.le_of_ble_eq_true rfl)
  rw [lg_entry_eq]
  refine (?_ : mV p l e room_1 s m #[Value.ref b] below meth c 4 (dC, dI) vwCl (fun q : Nat => s.heap.size ≤ q) 0 0 (lw_Z below #[Value.ref b] s) [] 0 [(0, .ref b)] []) s.heap [] _ hP hD hS hl
  refine mv_new (C0 := RX8) (T := TX8) (N := 8) (ci := 8) (fs := [.null, .int 0, .null, .null, .null, .null, .null, .null]) C (by decide +kernel) tyX8 tyX8_ok (by decide +kernel) (by decide +kernel) (by decide +kernel) rfl (fun j hj => by rcases (show j = 0 ∨ j = 1 ∨ j = 2 ∨ j = 3 ∨ j = 4 ∨ j = 5 ∨ j = 6 ∨ j = 7 by omega) with rfl | rfl | rfl | rfl | rfl | rfl | rfl | rfl <;> rfl) (by decide) (by decide) dL_law_0 (fun q1 => ?_)
  refine mv_dup C dL_law_3 rfl ?_
  refine mv_callI (As := []) (rest := [.ref q1]) (wr := []) C (eA_ok (fun _ => t)) hs0 0 [] rfl rfl (by decide) (by decide) (X8_init_met (l := l) (a := fun _ => t) (lev := 4) (by decide) q1) (cwI 0 C.2.2.2.2.1 gL_law_X8_init rfl rfl rfl (C.2.2.2.2.1 (.initialized RX8) (by decide +kernel)) (C.2.2.2.2.1 (.methodLink RL 9 yX8_init) (by decide +kernel)) (C.2.2.2.2.1 (.instanceMethod yX8_init) (by decide +kernel)) rfl (by decide +kernel) (by decide)) rfl rfl (Nat.le_of_ble_eq_true rfl) dL_law_4 (by decide) (fun a hz => ?_)
  obtain ⟨rfl, hz2⟩ := hz
  have hs : eA a (fun q : Nat => s.heap.size ≤ q) s := by
    unfold eA
    rw [hz2]
    exact hs0
  refine mv_ws (ws1 := wA cA a uA0) rfl ?_
  refine mv_astore_n (lv1 := [(1, .ref (a 0)), (0, .ref b)]) C dL_law_7 rfl (by decide) rfl ?_
  refine mv_new (C0 := RX9) (T := TX9) (N := 36) (ci := 9) (fs := [.null, .int 0, .null, .null, .int 0, .null, .null, .int 0, .int 0, .null, .null, .int 0, .int 0, .null, .null, .null, .null, .null, .null, .null, .int 0, .int 0, .null, .null, .null, .null, .null, .int 0, .null, .int 0, .int 0, .int 0, .int 0, .int 0, .int 0, .int 0]) C (by decide +kernel) tyX9 tyX9_ok (by decide +kernel) (by decide +kernel) (by decide +kernel) rfl (fun j hj => by rcases (show j = 0 ∨ j = 1 ∨ j = 2 ∨ j = 3 ∨ j = 4 ∨ j = 5 ∨ j = 6 ∨ j = 7 ∨ j = 8 ∨ j = 9 ∨ j = 10 ∨ j = 11 ∨ j = 12 ∨ j = 13 ∨ j = 14 ∨ j = 15 ∨ j = 16 ∨ j = 17 ∨ j = 18 ∨ j = 19 ∨ j = 20 ∨ j = 21 ∨ j = 22 ∨ j = 23 ∨ j = 24 ∨ j = 25 ∨ j = 26 ∨ j = 27 ∨ j = 28 ∨ j = 29 ∨ j = 30 ∨ j = 31 ∨ j = 32 ∨ j = 33 ∨ j = 34 ∨ j = 35 by omega) with rfl | rfl | rfl | rfl | rfl | rfl | rfl | rfl | rfl | rfl | rfl | rfl | rfl | rfl | rfl | rfl | rfl | rfl | rfl | rfl | rfl | rfl | rfl | rfl | rfl | rfl | rfl | rfl | rfl | rfl | rfl | rfl | rfl | rfl | rfl | rfl <;> rfl) (by decide) (by decide) dL_law_8 (fun q2 => ?_)
  refine mv_dup C dL_law_11 rfl ?_
  refine mv_callI (As := []) (rest := [.ref q2]) (wr := wA cA a uA0) C eM_ok trivial 22 [0, 1, 2, 3, 4, 5, 6, 7, 8, 9, 10, 11, 12, 13, 14, 15, 16, 17, 18, 19, 20, 21] rfl rfl (by decide) (by decide) (X9_init_met (l := l) (lev := 1) (by decide) q2) (cwI 0 C.2.2.2.2.1 gL_law_X9_init rfl rfl rfl (C.2.2.2.2.1 (.initialized RX9) (by decide +kernel)) (C.2.2.2.2.1 (.methodLink RL 12 yX9_init) (by decide +kernel)) (C.2.2.2.2.1 (.instanceMethod yX9_init) (by decide +kernel)) rfl (by decide +kernel) (by decide)) rfl rfl (Nat.le_of_ble_eq_true rfl) dL_law_12 (by decide) (fun d hz => ?_)
  obtain rfl := hz
  refine mv_astore_n (lv1 := [(2, .ref (d 0)), (1, .ref (a 0)), (0, .ref b)]) C dL_law_15 rfl (by decide) rfl ?_
  refine mv_iconst (v := (0 : Int32)) C dL_law_16 (by decide) ?_
  refine mv_istore_n (lv1 := [(3, .int 0), (2, .ref (d 0)), (1, .ref (a 0)), (0, .ref b)]) C dL_law_17 rfl (by decide) rfl ?_
  refine mv_sub [3, 2, 1, 0] rfl ?_
  refine law_loop (L := L) (b := d) hL C hX hbl hs (fun _ u v => inv6 u v) (fun k u v x y _ h => inv6_type h) (fun k u v _ h => inv6_rules h) (fun k u v x _ h => inv6_expand h) (fun k u v x _ h => inv6_atC h) (fun k u v x _ h => inv6_countN h) (fun k u v _ h => h) (L + 1) 0 uA0 uM0 (by omega) (by omega) inv6_0
-- ===== YOUR PART ENDS =====
set_option maxHeartbeats 4000000 in
theorem lw_walk (l : Launch) (b : Addr) (xs : List Int32) : MetFree l x (headSpec (Jvm.Cond.code x code maxLocals ret :: tables_1) room_1) (lw_P b xs) (fun _ _ _ _ _ => True) lw_Q := by
  refine MetFree.of_bodyS (code := code) (maxLocals := maxLocals) (ret := ret) (by decide) ?_ ?_
  · intro args s m h hn
    obtain ⟨meth, c, h1, h2, h3, h4, h5, h6, -, -⟩ := Cond.code_spec hn (atoms_spec (ws := Jvm.Cond.code x code maxLocals ret :: tables_1) h _ List.mem_cons_self)
    exact ⟨meth, c, h1, h2, h3, h4, h5, h6⟩
  · intro p e s m args below meth c s₁ B hml0 hP _
    obtain ⟨rfl, hx, hbd, hgv⟩ := hP
    obtain ⟨scr, harrAt, hlist, hof, hsmall⟩ := hx
    obtain ⟨hcb, hkn, -, -⟩ := State.arrayAt?_spec harrAt
    have hown : s.vm.findClass R_law = some m.cls := findClass_of_methodNamed B.named
    have hts0 : ∀ c ∈ (Jvm.Cond.code x code maxLocals ret :: tables_1), c.before #[Value.ref b] s = true := atoms_spec (ws := Jvm.Cond.code x code maxLocals ret :: tables_1) B.pre
    have hts : ∀ w ∈ lw_tbl, w.before #[Value.ref b] s = true := k2_hts_sels lw_privs (fun w hw => hts0 w (List.mem_cons_of_mem _ hw)) lw_privs_ok
    have hml : c.maxLocals = 4 := B.maxLocals_eq (hts0 _ List.mem_cons_self)
    have X₀ : Stand p l e room_1 s m #[Value.ref b] below meth c s₁ [] 0 0 := Stand.of_body B
    have hh0 : s₁.heap = s.heap := by rw [B.state]; rfl
    have hsz : scr.slots.size = xs.length := by rw [← Array.length_toList, hlist, List.length_map]
    have hval : ∀ j : Nat, j < xs.length → scr.slots[j]? = some (.int (xs.getD j 0)) := fun j hj => by
      rw [← Array.getElem?_toList, hlist]
      simp [hj]
    have hbl : b < s.heap.size := (Array.getElem?_eq_some_iff.mp hcb).1
    have hX : va_X b xs.length (fun j => xs.getD j 0) s s.heap := ⟨scr, hcb, hof, hkn, hsz, hval⟩
    have K : W p l e room_1 s m #[Value.ref b] below meth c s₁.heap [] 0 0 (lw_Z below #[Value.ref b] s) (entryFrame m ([Value.ref b] : List Value).toArray 4) := by
      rw [hh0]
      exact whole_start l hbd ⟨B.exec, B.bytes, B.returns, hml, hown, hts, hX, hbl, B.notSynchronized, hgv⟩
    obtain ⟨t, a1, o, b1, b2, b3⟩ := K s₁ rfl X₀
    exact ⟨t, o, a1, b1, b2, b3⟩
theorem lw_pre_spec {args : Array Value} {s : State} (h : (Jvm.Cond.and given_1 narrow_1).before args s = true) (hr : rest_1_c.before args s = true) : ∃ (b : Addr) (xs : List Int32), lw_P b xs args s := by
  have hs := flat_of_before _ h
  have hq := flat_of_before _ hr
  have hc : (Cond.count 1).before args s = true := hs _ (by decide +kernel)
  have harr : (Cond.arrayOf (.arg 0) .int).before args s = true := hs _ (by decide +kernel)
  have hle : (Cond.le (.length (.arg 0)) (.int 192)).before args s = true := hs _ (by decide +kernel)
  have hlen : (Cond.isInt (.length (.arg 0))).before args s = true := hq _ (by decide +kernel)
  have hall : (Cond.all (.arg 0) (.isInt (.elem (.arg 0) (.index 0)))).before args s = true := hq _ (by decide +kernel)
  obtain ⟨b, xs, hb, hx⟩ := State.ints_of_pre rfl harr hlen hall
  have hsm : xs.length < 2 ^ 31 := hx.choose_spec.2.2.2
  have hev : (Term.length (.arg 0)).eval args s none [] s = some (.int xs.length.toInt32) := hx.length_eval hb
  have hv := Cond.le_ints hev (show (Term.int 192).eval args s none [] s = some (.int 192) from rfl)
  have hd : xs.length.toInt32 ≤ 192 := by
    simpa [Cond.before, Cond.holds, hv] using hle
  have hN : xs.length ≤ 192 := (Int32.ofNat_le_ofNat hsm (by decide)).mp (show Int32.ofNat xs.length ≤ Int32.ofNat 192 from hd)
  exact ⟨b, xs, Cond.one_arg hc (show args[0]? = some (.ref b) from hb), hx, hN, h⟩
theorem lw_comes (l : Launch) : Comes l x (Jvm.Cond.code x code maxLocals ret :: tables_1) room_1 (fun tb e args s => Calls_1 tb e args s ∧ rest_1 tb e args s ∧ Pre_1 tb e args s)
    (fun _ _ args s o t => lw_Q args s o t) := by
  intro p e ha hc hk s m args below hf hfit hheap happ hpre
  obtain ⟨b, xs, hP⟩ := lw_pre_spec hpre.2.2 hpre.2.1
  obtain ⟨k, o, h1, h2, h3, hQ⟩ := lw_walk l b xs p e ha hc hk s m args below hf ((Spec.applies_iff_loose hf).mp happ).1 hP trivial
  exact ⟨k, o, h1, h2, h3, hQ⟩
theorem lw_frame {s t : State} {o : Outcome} {args : Array Value} (h : Framed s o t [] 600000 7302250) :
    Framed s o t (fieldLocs frame_1_writes args s ++ arrayLocs frame_1_arrays args s ++ staticLocs frame_1_statics s) 600000 7302250 := h
theorem lw_limb (L : Cond) (hL : ∀ (args : Array Value) (s t : State), L.after args s (.returned (some (.int 1))) t = true) :
    ArmFor flags0 classFile x code maxLocals ret World_1 tables_1 room_1 Calls_1 rest_1 Pre_1
      (fun tb e a s o t => postC L tb e a s o t ∧ Framed s o t (fieldLocs frame_1_writes a s ++ arrayLocs frame_1_arrays a s ++ staticLocs frame_1_statics s) 600000 7302250) := by
  intro l _ _ _ p e ha hc hk s m args below hf hfit hheap happ hpre
  obtain ⟨k, o, h1, h2, h3, rfl, hF⟩ := lw_comes l p e ha hc hk s m args below hf hfit hheap happ hpre
  exact ⟨k, _, h1, h2, h3, hL args s _, lw_frame hF⟩
theorem i_vc : Claimed_1_1 ∧ Claimed_1_2 := ⟨lw_limb limb_1_1 (fun args s t => by simp [limb_1_1, Cond.after, Cond.holds, Cond.value]), lw_limb limb_1_2 (fun args s t => Cond.after_iff.mpr (by
  first | (rw [show limb_1_2 = Cond.eq .result (.int 1) from rfl, Cond.eq_ints (x := 1) (y := 1) rfl rfl]; simp; done) | (simp [limb_1_2, Cond.value, Term.eval]; done)))⟩
