-- rows of constructors
def mRc (k mc ms : Nat) : Room := { frames := k, cells := mc, slots := ms, locals := 64 * k }
def u00 : mS := (fun _ => 0, fun _ _ => 0)
def mKc (l : Launch) (y : MethodName) (ws : List Cond) (k mc ms : Nat) (E : (Nat → Prop) → State → Prop) (D : va_G) (cl : List vw_C) (tys : List (ClassId × FieldType)) (w0 : va_W) (av : List Value) (Pz : (Nat → Nat) → Prop) (F : (Nat → Nat) → va_W) : Prop :=
  ∀ sz : Nat, Met l y ws (mRc k mc ms) (mPc E D cl tys (fun _ => w0) av u00 sz) (va_Qv Pz (fun z t => va_P D cl (F z) t.heap ∧ va_K D cl tys t ∧ va_D (va_A w0 sz) (F z)) (va_A w0 sz)) mc ms (va_A w0 sz)
def mQc (below : List Frame) (args : Array Value) (s : State) (D : va_G) (cl : List vw_C) (tys : List (ClassId × FieldType)) (A : Nat → Prop) (mc ms : Nat) (Pz : (Nat → Nat) → Prop) (F : (Nat → Nat) → va_W) : State → Prop := MQ below (va_Qv Pz (fun z t => va_P D cl (F z) t.heap ∧ va_K D cl tys t ∧ va_D A (F z)) A) args s mc ms A
theorem mRc_le {k lev mx mc ms a b : Nat} (h : k + 1 ≤ lev) (hm : mx ≤ 45) : (mRc k mc ms).frames + 1 ≤ (mRc lev a b).frames ∧ 8 + (mx + 11) + (mRc k mc ms).locals ≤ (mRc lev a b).locals := by
  simp only [mRc]; omega
section MC
variable {p : Program} {l : Launch} {e : Env} {R : Room} {s : State} {m : MethodId} {args : Array Value} {below : List Frame} {meth : Method} {c : Code} {cells slots : Nat} {Q : State → Prop}
variable {cc : ByteArray} {nL : Nat} {Ts : List Cond} {own : String} {ret : Option FieldType} {D : va_G} {cl : List vw_C} {tys : List (ClassId × FieldType)} {A : Nat → Prop} {ws : va_W} {pc : Nat} {lv : List (Nat × Value)} {st : List Value}
theorem mv_topv {x v : Int32} (h : x = v) (k : mV p l e R s m args below meth c nL D cl A cells slots Q ws pc lv (.int v :: st)) : mV p l e R s m args below meth c nL D cl A cells slots Q ws pc lv (.int x :: st) := by rw [h]; exact k
theorem mv_perm {ws1 : va_W} (is : List Nat) (hn : va_nd is = true) (h1 : is.filterMap (fun i => ws[i]?) = ws1) (h2 : is.map (fun i => ws[i]?) = ws1.map some) (k : mV p l e R s m args below meth c nL D cl A cells slots Q ws1 pc lv st) : mV p l e R s m args below meth c nL D cl A cells slots Q ws pc lv st := fun H locs ls hP hD hS hl => k H locs ls (hP.sub is h1) (hD.sub is hn h2) hS hl
theorem mv_objInit (C : mC p s m args meth c cc nL Ts own ret D cl tys A) {idx a : Nat} (hlink : Cond.methodLink own idx Lib.objectInit ∈ Ts) (hinst : Cond.instanceMethod Lib.objectInit ∈ Ts) (hcode : Cond.code Lib.objectInit ⟨#[0xb1]⟩ 1 none ∈ Ts) (hd : decode cc pc = .ok (.invokespecial idx, 3)) (hfr : 1 ≤ R.frames) (hlo : (st.map fun v => v.category).sum + 12 ≤ R.locals) (k : mV p l e R s m args below meth c nL D cl A cells slots Q ws (pc + 3) lv st) : mV p l e R s m args below meth c nL D cl A cells slots Q ws pc lv (.ref a :: st) := fun H locs ls hP hD hS hl => W.objInit C.1 C.2.1 C.2.2.2.1 (C.2.2.2.2.1 _ hlink) (C.2.2.2.2.1 _ hinst) (C.2.2.2.2.1 _ hcode) (g := F0 m pc ls (.ref a :: st)) rfl (hl.1.trans C.2.2.1.symm) rfl hd hfr (by show 2 * 0 + _ + 12 ≤ _; omega) (k H locs ls hP hD hS hl)
theorem mv_newa {cA : ClassId} (C : mC p s m args meth c cc nL Ts own ret D cl [(cA, .int)] A) (harr : Cond.arrayClass .int ∈ Ts) {n : Int32} {N : Nat} (hn : ¬ n < 0) (hN : n.toNatClampNeg = N) (hbytes : N * 4 ≤ 536870912) (hcells : cells + 1 ≤ R.cells) (hslots : slots + N ≤ R.slots) (hd : decode cc pc = .ok (.newarray .int, 2)) (kk : ∀ q : Nat, mV p l e R s m args below meth c nL D cl A (cells + 1) (slots + N) Q (ws ++ [(q, .inl (cA, N, .inl (fun _ => 0)))]) (pc + 2) lv (.ref q :: st)) : mV p l e R s m args below meth c nL D cl A cells slots Q ws pc lv (.int n :: st) := by
  intro H locs ls hP hD hS hl
  refine va_newa (atype := .int) (ty := .int) (a0 := (N, .inl (fun _ => 0))) C.1 C.2.1 (C.2.2.2.2.1 _ harr) rfl C.2.2.2.2.2.2.2.1 hP hD hS C.2.2.2.2.2.2.2.2 (fun _ => rfl) hn hN hbytes hcells hslots hd (fun q cB H1 hK1 hP1 hD1 hS1 => ?_)
  have e1 : s.vm.findClass ("[" ++ FieldType.int.toString) = some cA := (hK1.2 0 (cA, .int) rfl).2
  have e2 : s.vm.findClass ("[" ++ FieldType.int.toString) = some cB := (hK1.2 1 (cB, .int) rfl).2
  have e3 : cA = cB := Option.some.inj (e1.symm.trans e2)
  subst e3
  exact kk q H1 locs ls hP1 hD1 hS1 hl
theorem mv_new (C : mC p s m args meth c cc nL Ts own ret D cl tys A) {C0 : String} {T : u_T} {N ci index : Nat} {fs : List Value} (hin : ∀ w ∈ u_ws C0 T N, w ∈ Ts) (ty0 : Nat → FieldType) (hty : ∀ k, k < N → parseFieldDescriptor (T k).2.2.1 = some (ty0 k)) (hcl : Cond.classLink own index C0 ∈ Ts) (hinst : Cond.instantiable C0 N ∈ Ts) (hini : Cond.initialized C0 ∈ Ts) (hc : cl[ci]? = some (C0, T, N)) (hfs : ∀ j, j < N → defaultValue (ty0 j) = vp_V fs j) (hcells : cells + 1 ≤ R.cells) (hslots : slots + N ≤ R.slots) (hd : decode cc pc = .ok (.new index, 3)) (kk : ∀ q : Nat, mV p l e R s m args below meth c nL D cl A (cells + 1) (slots + N) Q (ws ++ [(q, .inr (ci, fs))]) (pc + 3) lv (.ref q :: st)) : mV p l e R s m args below meth c nL D cl A cells slots Q ws pc lv st := fun H locs ls hP hD hS hl => va_new C.1 C.2.1 C.2.2.2.2.1 hin ty0 hty C.2.2.2.1 (C.2.2.2.2.1 _ hcl) (C.2.2.2.2.1 _ hinst) (C.2.2.2.2.1 _ hini) C.2.2.2.2.2.2.2.1 hP hD hS C.2.2.2.2.2.2.2.2 hc hfs hcells hslots hd (fun q H1 hP1 hD1 hS1 => kk q H1 locs ls hP1 hD1 hS1 hl)
theorem mv_cret (C : mC p s m args meth c cc nL Ts own none D cl tys A) {Pz : (Nat → Nat) → Prop} {F : (Nat → Nat) → va_W} (z : Nat → Nat) (hp : Pz z) (hz : ws = F z) (hd : decode cc pc = .ok (.return_, 1)) : mV p l e R s m args below meth c nL D cl A cells slots (mQc below args s D cl tys A cells slots Pz F) ws pc lv [] := by
  subst hz
  exact fun H locs ls hP hD hS hl => W.vret C.1 C.2.1 C.2.2.2.2.2.1 (fun t ht hW => ⟨⟨z, rfl, hp, by rw [ht]; exact hP, va_K.moved hW.alike C.2.2.2.2.2.2.2.1, hD⟩, hS.F ht⟩) hS.2.2 hd C.2.2.2.2.2.2.1
theorem mv_callI (C : mC p s m args meth c cc nL Ts own ret D cl tys A) {E : (Nat → Prop) → State → Prop} (hE : mEok E) (hs : E A s) {As rest : List Value} {y : MethodName} {bytes : ByteArray} {maxL index kl n mc ms b : Nat} {wsy : List Cond} {Pz : (Nat → Nat) → Prop} {F : (Nat → Nat) → va_W} {x0 : Nat × va_E} {wr : va_W} (q0 : Nat) (isR : List Nat) (he : [q0].map (fun i => ws[i]?) = [x0].map some) (hR : isR.map (fun i => ws[i]?) = wr.map some) (hnd : va_nd isR = true) (hdis : ∀ i ∈ isR, i ∉ [q0]) (hM : mKc l y wsy kl mc ms E D cl tys [x0] (.ref b :: As) Pz F) (cw : CallB R s args own index y bytes maxL none wsy (mRc kl mc ms) mc ms n ∧ y.name = "<init>" ∧ (Cond.instanceMethod y).before args s = true) (hst : st = As.reverse ++ .ref b :: rest) (hn : As.length = n) (hW : (rest.map fun v => v.category).sum ≤ 8) (hd : decode cc pc = .ok (.invokespecial index, 3)) (hf : cells + mc ≤ R.cells ∧ slots + ms ≤ R.slots) (kk : ∀ z : Nat → Nat, Pz z → mV p l e R s m args below meth c nL D cl A (cells + mc) (slots + ms) Q (wr ++ F z) (pc + 3) lv rest) : mV p l e R s m args below meth c nL D cl A cells slots Q ws pc lv st := by
  subst hst
  intro H locs ls hP hD hS hl
  have he' : ws[q0]? = some x0 := by simpa using he
  have hPc : va_P D cl [x0] H := hP.sub [q0] (by simp [he'])
  have hDc : va_D A [x0] := hD.sub [q0] rfl he
  have hFc := va_free (wc := [x0]) hD hS C.2.2.2.2.2.2.2.2 [q0] he
  refine va_callv (va_runI (As := As) (rest := rest) ⟨C.1, C.2.1, C.2.2.1, C.2.2.2.1, C.2.2.2.2.1⟩ (hM H.size) cw ⟨mblind hE, mpre (f := fun _ => [x0]) hE hs C.2.2.2.2.2.2.2.1 C.2.2.2.2.2.2.2.2 hPc hDc hS⟩ rfl hn hl.1 rfl (lv_room hW) hd hf) hS (fun q _ h => hFc q h) hFc (fun z t H1 locs1 ht hvm hw hB hz1 hk1 hS1 => ?_)
  obtain ⟨hP1, hK1, hD1⟩ := hB
  rw [ht] at hP1
  obtain ⟨hP2, hD2⟩ := va_join (wr := wr) (w1 := F z) hP hD [q0] isR he hR hnd hdis hk1 hFc hP1 hD1
  exact kk z hw H1 locs1 ls hP2 hD2 hS1 hl
theorem mv_callIN (C : mC p s m args meth c cc nL Ts own ret D cl tys A) {E : (Nat → Prop) → State → Prop} (hE : mEok E) (hs : E A s) {As rest : List Value} {y : MethodName} {bytes : ByteArray} {maxL index kl n mc ms b : Nat} {wsy : List Cond} {host : String} {Pz : (Nat → Nat) → Prop} {F : (Nat → Nat) → va_W} {x0 : Nat × va_E} {wr : va_W} (q0 : Nat) (isR : List Nat) (he : [q0].map (fun i => ws[i]?) = [x0].map some) (hR : isR.map (fun i => ws[i]?) = wr.map some) (hnd : va_nd isR = true) (hdis : ∀ i ∈ isR, i ∉ [q0]) (hM : mKc l y wsy kl mc ms E D cl tys [x0] (.ref b :: As) Pz F) (cw : va_CN R s args own index y host bytes maxL none wsy (mRc kl mc ms) mc ms n ∧ y.name = "<init>" ∧ (Cond.instanceMethod y).before args s = true) (hst : st = As.reverse ++ .ref b :: rest) (hn : As.length = n) (hW : (rest.map fun v => v.category).sum ≤ 8) (hd : decode cc pc = .ok (.invokespecial index, 3)) (hf : cells + mc ≤ R.cells ∧ slots + ms ≤ R.slots) (kk : ∀ z : Nat → Nat, Pz z → mV p l e R s m args below meth c nL D cl A (cells + mc) (slots + ms) Q (wr ++ F z) (pc + 3) lv rest) : mV p l e R s m args below meth c nL D cl A cells slots Q ws pc lv st := by
  subst hst
  intro H locs ls hP hD hS hl
  have he' : ws[q0]? = some x0 := by simpa using he
  have hPc : va_P D cl [x0] H := hP.sub [q0] (by simp [he'])
  have hDc : va_D A [x0] := hD.sub [q0] rfl he
  have hFc := va_free (wc := [x0]) hD hS C.2.2.2.2.2.2.2.2 [q0] he
  refine va_callv (va_runIN (As := As) (rest := rest) ⟨C.1, C.2.1, C.2.2.1, C.2.2.2.1, C.2.2.2.2.1⟩ (hM H.size) cw ⟨mblind hE, mpre (f := fun _ => [x0]) hE hs C.2.2.2.2.2.2.2.1 C.2.2.2.2.2.2.2.2 hPc hDc hS⟩ rfl hn hl.1 rfl (lv_room hW) hd hf) hS (fun q _ h => hFc q h) hFc (fun z t H1 locs1 ht hvm hw hB hz1 hk1 hS1 => ?_)
  obtain ⟨hP1, hK1, hD1⟩ := hB
  rw [ht] at hP1
  obtain ⟨hP2, hD2⟩ := va_join (wr := wr) (w1 := F z) hP hD [q0] isR he hR hnd hdis hk1 hFc hP1 hD1
  exact kk z hw H1 locs1 ls hP2 hD2 hS1 hl
end MC
theorem mKc_of {l : Launch} {y : MethodName} {ws ws' : List Cond} {cc : ByteArray} {maxL lev mc ms : Nat} {E : (Nat → Prop) → State → Prop} {D : va_G} {cl : List vw_C} {tys : List (ClassId × FieldType)} {w0 : va_W} {av : List Value} {Pz : (Nat → Nat) → Prop} {F : (Nat → Nat) → va_W} {lv : List (Nat × Value)} {own : String} (hy : plainName y.cls = true) (hw : ws = Cond.code y cc maxL none :: ws') (ho : y.cls = own) (hlen : (lg_sl av).length ≤ maxL) (hlv : lv_args 0 av = lv)
    (body : ∀ (p : Program) (e : Env) (s : State) (m : MethodId) (args : Array Value) (below : List Frame) (meth : Method) (c : Code) (A : Nat → Prop), mC p s m args meth c cc maxL ws own none D cl tys A → E A s → meth.name = y.name → mV p l e (mRc lev mc ms) s m args below meth c maxL D cl A 0 0 (mQc below args s D cl tys A mc ms Pz F) w0 0 lv []) : mKc l y ws lev mc ms E D cl tys w0 av Pz F := by
  intro sz
  subst ho
  refine Met.ofW (cc := cc) (maxL := maxL) (ret := none) hy hw ?_
  intro p e s m args below meth c s₁ B hml hv
  obtain ⟨rfl, hsz, hP, hK, hD0, hEs⟩ := hv
  subst hsz
  have hts := atoms_spec (ws := ws) B.pre
  have hown : s.vm.findClass y.cls = some m.cls := findClass_of_methodNamed B.named
  have hl := lv_entry av (n := maxL) hlen
  rw [lg_entry_eq]
  rw [hlv] at hl
  exact body p e s m av.toArray below meth c (va_A w0 s.heap.size) ⟨B.exec, B.bytes, hml, hown, hts, B.returns, B.notSynchronized, hK, fun q h => Or.inr h⟩ hEs (name_of_methodNamed B.named B.method).1 s.heap [] _ hP (hD0.self (sz := s.heap.size)) va_S.rf hl
set_option maxRecDepth 20000 in
theorem ggX0_init_X1_init : GoodIn wsX0_init wsX1_init := goodIn_r _ [14, 15, 2, 3, 16, 17, 18, 19, 20, 21, 22, 23, 24, 25, 26, 27, 28, 44, 45, 46, 47, 38, 39, 40, 41, 42, 43] (by decide +kernel) (by decide +kernel)
set_option maxRecDepth 20000 in
theorem gX0_init_X1_init : GoodIn wsX0_init (wsX1_init) := ggX0_init_X1_init
theorem dX0_init_0 : decode cX0_init 0 = .ok (.aload_n 0, 1) := by decide +kernel
theorem dX0_init_1 : decode cX0_init 1 = .ok (.invokespecial 3, 3) := by decide +kernel
theorem dX0_init_4 : decode cX0_init 4 = .ok (.aload_n 0, 1) := by decide +kernel
theorem dX0_init_5 : decode cX0_init 5 = .ok (.aload_n 1, 1) := by decide +kernel
theorem dX0_init_6 : decode cX0_init 6 = .ok (.putfield 9, 3) := by decide +kernel
theorem dX0_init_9 : decode cX0_init 9 = .ok (.aload_n 0, 1) := by decide +kernel
theorem dX0_init_10 : decode cX0_init 10 = .ok (.aload_n 2, 1) := by decide +kernel
theorem dX0_init_11 : decode cX0_init 11 = .ok (.putfield 15, 3) := by decide +kernel
theorem dX0_init_14 : decode cX0_init 14 = .ok (.aload_n 0, 1) := by decide +kernel
theorem dX0_init_15 : decode cX0_init 15 = .ok (.aload_n 3, 1) := by decide +kernel
theorem dX0_init_16 : decode cX0_init 16 = .ok (.putfield 19, 3) := by decide +kernel
theorem dX0_init_19 : decode cX0_init 19 = .ok (.aload_n 0, 1) := by decide +kernel
theorem dX0_init_20 : decode cX0_init 20 = .ok (.aload 4, 2) := by decide +kernel
theorem dX0_init_22 : decode cX0_init 22 = .ok (.putfield 23, 3) := by decide +kernel
theorem dX0_init_25 : decode cX0_init 25 = .ok (.aload_n 0, 1) := by decide +kernel
theorem dX0_init_26 : decode cX0_init 26 = .ok (.new 27, 3) := by decide +kernel
theorem dX0_init_29 : decode cX0_init 29 = .ok (.dup, 1) := by decide +kernel
theorem dX0_init_30 : decode cX0_init 30 = .ok (.aload_n 1, 1) := by decide +kernel
theorem dX0_init_31 : decode cX0_init 31 = .ok (.aload 4, 2) := by decide +kernel
theorem dX0_init_33 : decode cX0_init 33 = .ok (.invokespecial 29, 3) := by decide +kernel
theorem dX0_init_36 : decode cX0_init 36 = .ok (.putfield 32, 3) := by decide +kernel
theorem dX0_init_39 : decode cX0_init 39 = .ok (.return_, 1) := by decide +kernel
set_option maxRecDepth 20000 in
theorem ggX1_init_X4_init : GoodIn wsX1_init wsX4_init := goodIn_r _ [11, 12, 2, 3, 13, 14, 15, 16, 17, 18, 19, 20] (by decide +kernel) (by decide +kernel)
theorem dX1_init_0 : decode cX1_init 0 = .ok (.aload_n 0, 1) := by decide +kernel
theorem dX1_init_1 : decode cX1_init 1 = .ok (.invokespecial 3, 3) := by decide +kernel
theorem dX1_init_4 : decode cX1_init 4 = .ok (.aload_n 0, 1) := by decide +kernel
theorem dX1_init_5 : decode cX1_init 5 = .ok (.new 9, 3) := by decide +kernel
theorem dX1_init_8 : decode cX1_init 8 = .ok (.dup, 1) := by decide +kernel
theorem dX1_init_9 : decode cX1_init 9 = .ok (.invokespecial 11, 3) := by decide +kernel
theorem dX1_init_12 : decode cX1_init 12 = .ok (.putfield 12, 3) := by decide +kernel
theorem dX1_init_15 : decode cX1_init 15 = .ok (.aload_n 0, 1) := by decide +kernel
theorem dX1_init_16 : decode cX1_init 16 = .ok (.aload_n 1, 1) := by decide +kernel
theorem dX1_init_17 : decode cX1_init 17 = .ok (.putfield 18, 3) := by decide +kernel
theorem dX1_init_20 : decode cX1_init 20 = .ok (.aload_n 0, 1) := by decide +kernel
theorem dX1_init_21 : decode cX1_init 21 = .ok (.aload_n 2, 1) := by decide +kernel
theorem dX1_init_22 : decode cX1_init 22 = .ok (.putfield 22, 3) := by decide +kernel
theorem dX1_init_25 : decode cX1_init 25 = .ok (.return_, 1) := by decide +kernel
theorem dX2_init_0 : decode cX2_init 0 = .ok (.aload_n 0, 1) := by decide +kernel
theorem dX2_init_1 : decode cX2_init 1 = .ok (.invokespecial 3, 3) := by decide +kernel
theorem dX2_init_4 : decode cX2_init 4 = .ok (.aload_n 0, 1) := by decide +kernel
theorem dX2_init_5 : decode cX2_init 5 = .ok (.sipush 200, 3) := by decide +kernel
theorem dX2_init_8 : decode cX2_init 8 = .ok (.newarray .int, 2) := by decide +kernel
theorem dX2_init_10 : decode cX2_init 10 = .ok (.putfield 9, 3) := by decide +kernel
theorem dX2_init_13 : decode cX2_init 13 = .ok (.return_, 1) := by decide +kernel
theorem dX3_init_0 : decode cX3_init 0 = .ok (.aload_n 0, 1) := by decide +kernel
theorem dX3_init_1 : decode cX3_init 1 = .ok (.invokespecial 3, 3) := by decide +kernel
theorem dX3_init_4 : decode cX3_init 4 = .ok (.aload_n 0, 1) := by decide +kernel
theorem dX3_init_5 : decode cX3_init 5 = .ok (.aload_n 1, 1) := by decide +kernel
theorem dX3_init_6 : decode cX3_init 6 = .ok (.putfield 9, 3) := by decide +kernel
theorem dX3_init_9 : decode cX3_init 9 = .ok (.return_, 1) := by decide +kernel
theorem dX4_init_0 : decode cX4_init 0 = .ok (.aload_n 0, 1) := by decide +kernel
theorem dX4_init_1 : decode cX4_init 1 = .ok (.invokespecial 3, 3) := by decide +kernel
theorem dX4_init_4 : decode cX4_init 4 = .ok (.aload_n 0, 1) := by decide +kernel
theorem dX4_init_5 : decode cX4_init 5 = .ok (.iconst 2, 1) := by decide +kernel
theorem dX4_init_6 : decode cX4_init 6 = .ok (.newarray .int, 2) := by decide +kernel
theorem dX4_init_8 : decode cX4_init 8 = .ok (.putfield 9, 3) := by decide +kernel
theorem dX4_init_11 : decode cX4_init 11 = .ok (.aload_n 0, 1) := by decide +kernel
theorem dX4_init_12 : decode cX4_init 12 = .ok (.iconst 2, 1) := by decide +kernel
theorem dX4_init_13 : decode cX4_init 13 = .ok (.newarray .int, 2) := by decide +kernel
theorem dX4_init_15 : decode cX4_init 15 = .ok (.putfield 15, 3) := by decide +kernel
theorem dX4_init_18 : decode cX4_init 18 = .ok (.aload_n 0, 1) := by decide +kernel
theorem dX4_init_19 : decode cX4_init 19 = .ok (.iconst 2, 1) := by decide +kernel
theorem dX4_init_20 : decode cX4_init 20 = .ok (.newarray .int, 2) := by decide +kernel
theorem dX4_init_22 : decode cX4_init 22 = .ok (.putfield 18, 3) := by decide +kernel
theorem dX4_init_25 : decode cX4_init 25 = .ok (.return_, 1) := by decide +kernel
theorem dX5_init_0 : decode cX5_init 0 = .ok (.aload_n 0, 1) := by decide +kernel
theorem dX5_init_1 : decode cX5_init 1 = .ok (.invokespecial 3, 3) := by decide +kernel
theorem dX5_init_4 : decode cX5_init 4 = .ok (.aload_n 0, 1) := by decide +kernel
theorem dX5_init_5 : decode cX5_init 5 = .ok (.sipush 3000, 3) := by decide +kernel
theorem dX5_init_8 : decode cX5_init 8 = .ok (.newarray .int, 2) := by decide +kernel
theorem dX5_init_10 : decode cX5_init 10 = .ok (.putfield 9, 3) := by decide +kernel
theorem dX5_init_13 : decode cX5_init 13 = .ok (.aload_n 0, 1) := by decide +kernel
theorem dX5_init_14 : decode cX5_init 14 = .ok (.sipush 3000, 3) := by decide +kernel
theorem dX5_init_17 : decode cX5_init 17 = .ok (.newarray .int, 2) := by decide +kernel
theorem dX5_init_19 : decode cX5_init 19 = .ok (.putfield 15, 3) := by decide +kernel
theorem dX5_init_22 : decode cX5_init 22 = .ok (.aload_n 0, 1) := by decide +kernel
theorem dX5_init_23 : decode cX5_init 23 = .ok (.sipush 3000, 3) := by decide +kernel
theorem dX5_init_26 : decode cX5_init 26 = .ok (.newarray .int, 2) := by decide +kernel
theorem dX5_init_28 : decode cX5_init 28 = .ok (.putfield 18, 3) := by decide +kernel
theorem dX5_init_31 : decode cX5_init 31 = .ok (.aload_n 0, 1) := by decide +kernel
theorem dX5_init_32 : decode cX5_init 32 = .ok (.sipush 3000, 3) := by decide +kernel
theorem dX5_init_35 : decode cX5_init 35 = .ok (.newarray .int, 2) := by decide +kernel
theorem dX5_init_37 : decode cX5_init 37 = .ok (.putfield 21, 3) := by decide +kernel
theorem dX5_init_40 : decode cX5_init 40 = .ok (.aload_n 0, 1) := by decide +kernel
theorem dX5_init_41 : decode cX5_init 41 = .ok (.sipush 480, 3) := by decide +kernel
theorem dX5_init_44 : decode cX5_init 44 = .ok (.putfield 24, 3) := by decide +kernel
theorem dX5_init_47 : decode cX5_init 47 = .ok (.aload_n 0, 1) := by decide +kernel
theorem dX5_init_48 : decode cX5_init 48 = .ok (.iconst (-1), 1) := by decide +kernel
theorem dX5_init_49 : decode cX5_init 49 = .ok (.putfield 28, 3) := by decide +kernel
theorem dX5_init_52 : decode cX5_init 52 = .ok (.return_, 1) := by decide +kernel
theorem dX6_init_0 : decode cX6_init 0 = .ok (.aload_n 0, 1) := by decide +kernel
theorem dX6_init_1 : decode cX6_init 1 = .ok (.invokespecial 3, 3) := by decide +kernel
theorem dX6_init_4 : decode cX6_init 4 = .ok (.aload_n 0, 1) := by decide +kernel
theorem dX6_init_5 : decode cX6_init 5 = .ok (.aload_n 1, 1) := by decide +kernel
theorem dX6_init_6 : decode cX6_init 6 = .ok (.putfield 9, 3) := by decide +kernel
theorem dX6_init_9 : decode cX6_init 9 = .ok (.return_, 1) := by decide +kernel
theorem dX7_init_0 : decode cX7_init 0 = .ok (.aload_n 0, 1) := by decide +kernel
theorem dX7_init_1 : decode cX7_init 1 = .ok (.invokespecial 3, 3) := by decide +kernel
theorem dX7_init_4 : decode cX7_init 4 = .ok (.aload_n 0, 1) := by decide +kernel
theorem dX7_init_5 : decode cX7_init 5 = .ok (.bipush 40, 2) := by decide +kernel
theorem dX7_init_7 : decode cX7_init 7 = .ok (.newarray .int, 2) := by decide +kernel
theorem dX7_init_9 : decode cX7_init 9 = .ok (.putfield 9, 3) := by decide +kernel
theorem dX7_init_12 : decode cX7_init 12 = .ok (.aload_n 0, 1) := by decide +kernel
theorem dX7_init_13 : decode cX7_init 13 = .ok (.bipush 40, 2) := by decide +kernel
theorem dX7_init_15 : decode cX7_init 15 = .ok (.newarray .int, 2) := by decide +kernel
theorem dX7_init_17 : decode cX7_init 17 = .ok (.putfield 15, 3) := by decide +kernel
theorem dX7_init_20 : decode cX7_init 20 = .ok (.aload_n 0, 1) := by decide +kernel
theorem dX7_init_21 : decode cX7_init 21 = .ok (.bipush 40, 2) := by decide +kernel
theorem dX7_init_23 : decode cX7_init 23 = .ok (.newarray .int, 2) := by decide +kernel
theorem dX7_init_25 : decode cX7_init 25 = .ok (.putfield 18, 3) := by decide +kernel
theorem dX7_init_28 : decode cX7_init 28 = .ok (.aload_n 0, 1) := by decide +kernel
theorem dX7_init_29 : decode cX7_init 29 = .ok (.bipush 40, 2) := by decide +kernel
theorem dX7_init_31 : decode cX7_init 31 = .ok (.newarray .int, 2) := by decide +kernel
theorem dX7_init_33 : decode cX7_init 33 = .ok (.putfield 21, 3) := by decide +kernel
theorem dX7_init_36 : decode cX7_init 36 = .ok (.iconst 0, 1) := by decide +kernel
theorem dX7_init_37 : decode cX7_init 37 = .ok (.istore_n 1, 1) := by decide +kernel
theorem dX7_init_38 : decode cX7_init 38 = .ok (.iload_n 1, 1) := by decide +kernel
theorem dX7_init_39 : decode cX7_init 39 = .ok (.getstatic 24, 3) := by decide +kernel
theorem dX7_init_42 : decode cX7_init 42 = .ok (.arraylength, 1) := by decide +kernel
theorem dX7_init_43 : decode cX7_init 43 = .ok (.if_icmp .ge 37, 3) := by decide +kernel
theorem dX7_init_46 : decode cX7_init 46 = .ok (.iload_n 1, 1) := by decide +kernel
theorem dX7_init_47 : decode cX7_init 47 = .ok (.bipush 40, 2) := by decide +kernel
theorem dX7_init_49 : decode cX7_init 49 = .ok (.if_icmp .ge 31, 3) := by decide +kernel
theorem dX7_init_52 : decode cX7_init 52 = .ok (.aload_n 0, 1) := by decide +kernel
theorem dX7_init_53 : decode cX7_init 53 = .ok (.getfield 9, 3) := by decide +kernel
theorem dX7_init_56 : decode cX7_init 56 = .ok (.iload_n 1, 1) := by decide +kernel
theorem dX7_init_57 : decode cX7_init 57 = .ok (.getstatic 24, 3) := by decide +kernel
theorem dX7_init_60 : decode cX7_init 60 = .ok (.iload_n 1, 1) := by decide +kernel
theorem dX7_init_61 : decode cX7_init 61 = .ok (.iaload, 1) := by decide +kernel
theorem dX7_init_62 : decode cX7_init 62 = .ok (.iastore, 1) := by decide +kernel
theorem dX7_init_63 : decode cX7_init 63 = .ok (.aload_n 0, 1) := by decide +kernel
theorem dX7_init_64 : decode cX7_init 64 = .ok (.getfield 18, 3) := by decide +kernel
theorem dX7_init_67 : decode cX7_init 67 = .ok (.iload_n 1, 1) := by decide +kernel
theorem dX7_init_68 : decode cX7_init 68 = .ok (.iload_n 1, 1) := by decide +kernel
theorem dX7_init_69 : decode cX7_init 69 = .ok (.iconst 4, 1) := by decide +kernel
theorem dX7_init_70 : decode cX7_init 70 = .ok (.invokestatic 27, 3) := by decide +kernel
theorem dX7_init_73 : decode cX7_init 73 = .ok (.iastore, 1) := by decide +kernel
theorem dX7_init_74 : decode cX7_init 74 = .ok (.iinc 1 1, 3) := by decide +kernel
theorem dX7_init_77 : decode cX7_init 77 = .ok (.goto (-39), 3) := by decide +kernel
theorem dX7_init_80 : decode cX7_init 80 = .ok (.aload_n 0, 1) := by decide +kernel
theorem dX7_init_81 : decode cX7_init 81 = .ok (.getstatic 24, 3) := by decide +kernel
theorem dX7_init_84 : decode cX7_init 84 = .ok (.arraylength, 1) := by decide +kernel
theorem dX7_init_85 : decode cX7_init 85 = .ok (.putfield 33, 3) := by decide +kernel
theorem dX7_init_88 : decode cX7_init 88 = .ok (.return_, 1) := by decide +kernel
set_option maxRecDepth 20000 in
theorem ggX8_init_X5_init : GoodIn wsX8_init wsX5_init := goodIn_r _ [31, 32, 2, 3, 4, 33, 34, 35, 36, 37, 38, 102, 103, 104, 105, 106, 107] (by decide +kernel) (by decide +kernel)
set_option maxRecDepth 20000 in
theorem ggX8_init_X3_init : GoodIn wsX8_init wsX3_init := goodIn_r _ [41, 42, 2, 3, 43, 108, 109] (by decide +kernel) (by decide +kernel)
set_option maxRecDepth 20000 in
theorem gX8_init_X3_init : GoodIn wsX8_init (wsX3_init) := ggX8_init_X3_init
set_option maxRecDepth 20000 in
theorem ggX8_init_X6_init : GoodIn wsX8_init wsX6_init := goodIn_r _ [46, 47, 2, 3, 48, 110] (by decide +kernel) (by decide +kernel)
set_option maxRecDepth 20000 in
theorem gX8_init_X6_init : GoodIn wsX8_init (wsX6_init) := ggX8_init_X6_init
set_option maxRecDepth 20000 in
theorem ggX8_init_X7_init : GoodIn wsX8_init wsX7_init := goodIn_r _ [51, 52, 2, 3, 4, 53, 54, 55, 56, 57, 58, 59, 60, 61, 111, 112, 113, 114, 115, 116] (by decide +kernel) (by decide +kernel)
set_option maxRecDepth 20000 in
theorem gX8_init_X7_init : GoodIn wsX8_init (wsX7_init) := ggX8_init_X7_init
set_option maxRecDepth 20000 in
theorem ggX8_init_X2_init : GoodIn wsX8_init wsX2_init := goodIn_r _ [63, 64, 2, 3, 4, 65, 117, 118, 119] (by decide +kernel) (by decide +kernel)
set_option maxRecDepth 20000 in
theorem ggX8_init_X0_init : GoodIn wsX8_init wsX0_init := goodIn_r _ [68, 69, 2, 3, 70, 71, 72, 73, 74, 75, 76, 77, 78, 79, 80, 81, 82, 83, 84, 85, 86, 87, 88, 89, 90, 4, 91, 92, 93, 120, 121, 122, 123, 124, 125, 126, 127, 128, 129, 130, 131, 132, 133, 134, 135, 136, 137, 138] (by decide +kernel) (by decide +kernel)
set_option maxRecDepth 20000 in
theorem gX8_init_X0_init : GoodIn wsX8_init (wsX0_init) := ggX8_init_X0_init
theorem dX8_init_0 : decode cX8_init 0 = .ok (.aload_n 0, 1) := by decide +kernel
theorem dX8_init_1 : decode cX8_init 1 = .ok (.invokespecial 3, 3) := by decide +kernel
theorem dX8_init_4 : decode cX8_init 4 = .ok (.aload_n 0, 1) := by decide +kernel
theorem dX8_init_5 : decode cX8_init 5 = .ok (.bipush 120, 2) := by decide +kernel
theorem dX8_init_7 : decode cX8_init 7 = .ok (.newarray .int, 2) := by decide +kernel
theorem dX8_init_9 : decode cX8_init 9 = .ok (.putfield 9, 3) := by decide +kernel
theorem dX8_init_12 : decode cX8_init 12 = .ok (.aload_n 0, 1) := by decide +kernel
theorem dX8_init_13 : decode cX8_init 13 = .ok (.new 13, 3) := by decide +kernel
theorem dX8_init_16 : decode cX8_init 16 = .ok (.dup, 1) := by decide +kernel
theorem dX8_init_17 : decode cX8_init 17 = .ok (.invokespecial 15, 3) := by decide +kernel
theorem dX8_init_20 : decode cX8_init 20 = .ok (.putfield 16, 3) := by decide +kernel
theorem dX8_init_23 : decode cX8_init 23 = .ok (.aload_n 0, 1) := by decide +kernel
theorem dX8_init_24 : decode cX8_init 24 = .ok (.new 20, 3) := by decide +kernel
theorem dX8_init_27 : decode cX8_init 27 = .ok (.dup, 1) := by decide +kernel
theorem dX8_init_28 : decode cX8_init 28 = .ok (.aload_n 0, 1) := by decide +kernel
theorem dX8_init_29 : decode cX8_init 29 = .ok (.getfield 16, 3) := by decide +kernel
theorem dX8_init_32 : decode cX8_init 32 = .ok (.invokespecial 22, 3) := by decide +kernel
theorem dX8_init_35 : decode cX8_init 35 = .ok (.putfield 25, 3) := by decide +kernel
theorem dX8_init_38 : decode cX8_init 38 = .ok (.aload_n 0, 1) := by decide +kernel
theorem dX8_init_39 : decode cX8_init 39 = .ok (.new 29, 3) := by decide +kernel
theorem dX8_init_42 : decode cX8_init 42 = .ok (.dup, 1) := by decide +kernel
theorem dX8_init_43 : decode cX8_init 43 = .ok (.aload_n 0, 1) := by decide +kernel
theorem dX8_init_44 : decode cX8_init 44 = .ok (.getfield 16, 3) := by decide +kernel
theorem dX8_init_47 : decode cX8_init 47 = .ok (.invokespecial 31, 3) := by decide +kernel
theorem dX8_init_50 : decode cX8_init 50 = .ok (.putfield 32, 3) := by decide +kernel
theorem dX8_init_53 : decode cX8_init 53 = .ok (.aload_n 0, 1) := by decide +kernel
theorem dX8_init_54 : decode cX8_init 54 = .ok (.new 36, 3) := by decide +kernel
theorem dX8_init_57 : decode cX8_init 57 = .ok (.dup, 1) := by decide +kernel
theorem dX8_init_58 : decode cX8_init 58 = .ok (.invokespecial 38, 3) := by decide +kernel
theorem dX8_init_61 : decode cX8_init 61 = .ok (.putfield 39, 3) := by decide +kernel
theorem dX8_init_64 : decode cX8_init 64 = .ok (.aload_n 0, 1) := by decide +kernel
theorem dX8_init_65 : decode cX8_init 65 = .ok (.new 43, 3) := by decide +kernel
theorem dX8_init_68 : decode cX8_init 68 = .ok (.dup, 1) := by decide +kernel
theorem dX8_init_69 : decode cX8_init 69 = .ok (.invokespecial 45, 3) := by decide +kernel
theorem dX8_init_72 : decode cX8_init 72 = .ok (.putfield 46, 3) := by decide +kernel
theorem dX8_init_75 : decode cX8_init 75 = .ok (.aload_n 0, 1) := by decide +kernel
theorem dX8_init_76 : decode cX8_init 76 = .ok (.new 50, 3) := by decide +kernel
theorem dX8_init_79 : decode cX8_init 79 = .ok (.dup, 1) := by decide +kernel
theorem dX8_init_80 : decode cX8_init 80 = .ok (.aload_n 0, 1) := by decide +kernel
theorem dX8_init_81 : decode cX8_init 81 = .ok (.getfield 16, 3) := by decide +kernel
theorem dX8_init_84 : decode cX8_init 84 = .ok (.aload_n 0, 1) := by decide +kernel
theorem dX8_init_85 : decode cX8_init 85 = .ok (.getfield 32, 3) := by decide +kernel
theorem dX8_init_88 : decode cX8_init 88 = .ok (.aload_n 0, 1) := by decide +kernel
theorem dX8_init_89 : decode cX8_init 89 = .ok (.getfield 39, 3) := by decide +kernel
theorem dX8_init_92 : decode cX8_init 92 = .ok (.aload_n 0, 1) := by decide +kernel
theorem dX8_init_93 : decode cX8_init 93 = .ok (.getfield 46, 3) := by decide +kernel
theorem dX8_init_96 : decode cX8_init 96 = .ok (.invokespecial 52, 3) := by decide +kernel
theorem dX8_init_99 : decode cX8_init 99 = .ok (.putfield 55, 3) := by decide +kernel
theorem dX8_init_102 : decode cX8_init 102 = .ok (.return_, 1) := by decide +kernel
theorem dX9_init_0 : decode cX9_init 0 = .ok (.aload_n 0, 1) := by decide +kernel
theorem dX9_init_1 : decode cX9_init 1 = .ok (.invokespecial 1, 3) := by decide +kernel
theorem dX9_init_4 : decode cX9_init 4 = .ok (.aload_n 0, 1) := by decide +kernel
theorem dX9_init_5 : decode cX9_init 5 = .ok (.bipush 120, 2) := by decide +kernel
theorem dX9_init_7 : decode cX9_init 7 = .ok (.newarray .int, 2) := by decide +kernel
theorem dX9_init_9 : decode cX9_init 9 = .ok (.putfield 7, 3) := by decide +kernel
theorem dX9_init_12 : decode cX9_init 12 = .ok (.aload_n 0, 1) := by decide +kernel
theorem dX9_init_13 : decode cX9_init 13 = .ok (.sipush 2600, 3) := by decide +kernel
theorem dX9_init_16 : decode cX9_init 16 = .ok (.newarray .int, 2) := by decide +kernel
theorem dX9_init_18 : decode cX9_init 18 = .ok (.putfield 13, 3) := by decide +kernel
theorem dX9_init_21 : decode cX9_init 21 = .ok (.aload_n 0, 1) := by decide +kernel
theorem dX9_init_22 : decode cX9_init 22 = .ok (.sipush 2600, 3) := by decide +kernel
theorem dX9_init_25 : decode cX9_init 25 = .ok (.newarray .int, 2) := by decide +kernel
theorem dX9_init_27 : decode cX9_init 27 = .ok (.putfield 16, 3) := by decide +kernel
theorem dX9_init_30 : decode cX9_init 30 = .ok (.aload_n 0, 1) := by decide +kernel
theorem dX9_init_31 : decode cX9_init 31 = .ok (.sipush 3200, 3) := by decide +kernel
theorem dX9_init_34 : decode cX9_init 34 = .ok (.newarray .int, 2) := by decide +kernel
theorem dX9_init_36 : decode cX9_init 36 = .ok (.putfield 19, 3) := by decide +kernel
theorem dX9_init_39 : decode cX9_init 39 = .ok (.aload_n 0, 1) := by decide +kernel
theorem dX9_init_40 : decode cX9_init 40 = .ok (.sipush 3200, 3) := by decide +kernel
theorem dX9_init_43 : decode cX9_init 43 = .ok (.newarray .int, 2) := by decide +kernel
theorem dX9_init_45 : decode cX9_init 45 = .ok (.putfield 22, 3) := by decide +kernel
theorem dX9_init_48 : decode cX9_init 48 = .ok (.aload_n 0, 1) := by decide +kernel
theorem dX9_init_49 : decode cX9_init 49 = .ok (.iconst 4, 1) := by decide +kernel
theorem dX9_init_50 : decode cX9_init 50 = .ok (.newarray .int, 2) := by decide +kernel
theorem dX9_init_52 : decode cX9_init 52 = .ok (.putfield 25, 3) := by decide +kernel
theorem dX9_init_55 : decode cX9_init 55 = .ok (.aload_n 0, 1) := by decide +kernel
theorem dX9_init_56 : decode cX9_init 56 = .ok (.iconst 4, 1) := by decide +kernel
theorem dX9_init_57 : decode cX9_init 57 = .ok (.newarray .int, 2) := by decide +kernel
theorem dX9_init_59 : decode cX9_init 59 = .ok (.putfield 28, 3) := by decide +kernel
theorem dX9_init_62 : decode cX9_init 62 = .ok (.aload_n 0, 1) := by decide +kernel
theorem dX9_init_63 : decode cX9_init 63 = .ok (.bipush 40, 2) := by decide +kernel
theorem dX9_init_65 : decode cX9_init 65 = .ok (.newarray .int, 2) := by decide +kernel
theorem dX9_init_67 : decode cX9_init 67 = .ok (.putfield 31, 3) := by decide +kernel
theorem dX9_init_70 : decode cX9_init 70 = .ok (.aload_n 0, 1) := by decide +kernel
theorem dX9_init_71 : decode cX9_init 71 = .ok (.bipush 40, 2) := by decide +kernel
theorem dX9_init_73 : decode cX9_init 73 = .ok (.newarray .int, 2) := by decide +kernel
theorem dX9_init_75 : decode cX9_init 75 = .ok (.putfield 34, 3) := by decide +kernel
theorem dX9_init_78 : decode cX9_init 78 = .ok (.aload_n 0, 1) := by decide +kernel
theorem dX9_init_79 : decode cX9_init 79 = .ok (.bipush 40, 2) := by decide +kernel
theorem dX9_init_81 : decode cX9_init 81 = .ok (.newarray .int, 2) := by decide +kernel
theorem dX9_init_83 : decode cX9_init 83 = .ok (.putfield 37, 3) := by decide +kernel
theorem dX9_init_86 : decode cX9_init 86 = .ok (.aload_n 0, 1) := by decide +kernel
theorem dX9_init_87 : decode cX9_init 87 = .ok (.bipush 40, 2) := by decide +kernel
theorem dX9_init_89 : decode cX9_init 89 = .ok (.newarray .int, 2) := by decide +kernel
theorem dX9_init_91 : decode cX9_init 91 = .ok (.putfield 40, 3) := by decide +kernel
theorem dX9_init_94 : decode cX9_init 94 = .ok (.aload_n 0, 1) := by decide +kernel
theorem dX9_init_95 : decode cX9_init 95 = .ok (.bipush 40, 2) := by decide +kernel
theorem dX9_init_97 : decode cX9_init 97 = .ok (.newarray .int, 2) := by decide +kernel
theorem dX9_init_99 : decode cX9_init 99 = .ok (.putfield 43, 3) := by decide +kernel
theorem dX9_init_102 : decode cX9_init 102 = .ok (.aload_n 0, 1) := by decide +kernel
theorem dX9_init_103 : decode cX9_init 103 = .ok (.sipush 310, 3) := by decide +kernel
theorem dX9_init_106 : decode cX9_init 106 = .ok (.newarray .int, 2) := by decide +kernel
theorem dX9_init_108 : decode cX9_init 108 = .ok (.putfield 46, 3) := by decide +kernel
theorem dX9_init_111 : decode cX9_init 111 = .ok (.aload_n 0, 1) := by decide +kernel
theorem dX9_init_112 : decode cX9_init 112 = .ok (.sipush 310, 3) := by decide +kernel
theorem dX9_init_115 : decode cX9_init 115 = .ok (.newarray .int, 2) := by decide +kernel
theorem dX9_init_117 : decode cX9_init 117 = .ok (.putfield 49, 3) := by decide +kernel
theorem dX9_init_120 : decode cX9_init 120 = .ok (.aload_n 0, 1) := by decide +kernel
theorem dX9_init_121 : decode cX9_init 121 = .ok (.sipush 400, 3) := by decide +kernel
theorem dX9_init_124 : decode cX9_init 124 = .ok (.newarray .int, 2) := by decide +kernel
theorem dX9_init_126 : decode cX9_init 126 = .ok (.putfield 52, 3) := by decide +kernel
theorem dX9_init_129 : decode cX9_init 129 = .ok (.aload_n 0, 1) := by decide +kernel
theorem dX9_init_130 : decode cX9_init 130 = .ok (.sipush 400, 3) := by decide +kernel
theorem dX9_init_133 : decode cX9_init 133 = .ok (.newarray .int, 2) := by decide +kernel
theorem dX9_init_135 : decode cX9_init 135 = .ok (.putfield 55, 3) := by decide +kernel
theorem dX9_init_138 : decode cX9_init 138 = .ok (.aload_n 0, 1) := by decide +kernel
theorem dX9_init_139 : decode cX9_init 139 = .ok (.iconst 3, 1) := by decide +kernel
theorem dX9_init_140 : decode cX9_init 140 = .ok (.newarray .int, 2) := by decide +kernel
theorem dX9_init_142 : decode cX9_init 142 = .ok (.putfield 58, 3) := by decide +kernel
theorem dX9_init_145 : decode cX9_init 145 = .ok (.aload_n 0, 1) := by decide +kernel
theorem dX9_init_146 : decode cX9_init 146 = .ok (.iconst 3, 1) := by decide +kernel
theorem dX9_init_147 : decode cX9_init 147 = .ok (.newarray .int, 2) := by decide +kernel
theorem dX9_init_149 : decode cX9_init 149 = .ok (.putfield 61, 3) := by decide +kernel
theorem dX9_init_152 : decode cX9_init 152 = .ok (.aload_n 0, 1) := by decide +kernel
theorem dX9_init_153 : decode cX9_init 153 = .ok (.iconst 3, 1) := by decide +kernel
theorem dX9_init_154 : decode cX9_init 154 = .ok (.newarray .int, 2) := by decide +kernel
theorem dX9_init_156 : decode cX9_init 156 = .ok (.putfield 64, 3) := by decide +kernel
theorem dX9_init_159 : decode cX9_init 159 = .ok (.aload_n 0, 1) := by decide +kernel
theorem dX9_init_160 : decode cX9_init 160 = .ok (.sipush 200, 3) := by decide +kernel
theorem dX9_init_163 : decode cX9_init 163 = .ok (.newarray .int, 2) := by decide +kernel
theorem dX9_init_165 : decode cX9_init 165 = .ok (.putfield 67, 3) := by decide +kernel
theorem dX9_init_168 : decode cX9_init 168 = .ok (.return_, 1) := by decide +kernel
theorem iw_X4_init_X4 : ∀ w ∈ wsX40, w ∈ wsX4_init := by decide +kernel
theorem lk_X4_init_9 : Cond.fieldLink RX4 9 "MarkedNames$Rounds" "held" "[I" ∈ wsX4_init := by decide +kernel
theorem lk_X4_init_15 : Cond.fieldLink RX4 15 "MarkedNames$Rounds" "round" "[I" ∈ wsX4_init := by decide +kernel
theorem lk_X4_init_18 : Cond.fieldLink RX4 18 "MarkedNames$Rounds" "rounds" "[I" ∈ wsX4_init := by decide +kernel
theorem iw_X1_init_X4 : ∀ w ∈ wsX40, w ∈ wsX1_init := by decide +kernel
theorem iw_X1_init_X1 : ∀ w ∈ wsX10, w ∈ wsX1_init := by decide +kernel
theorem lk_X1_init_12 : Cond.fieldLink RX1 12 "MarkedNames$Filler" "rounds" "LMarkedNames$Rounds;" ∈ wsX1_init := by decide +kernel
theorem lk_X1_init_18 : Cond.fieldLink RX1 18 "MarkedNames$Filler" "row" "LMarkedNames$Row;" ∈ wsX1_init := by decide +kernel
theorem lk_X1_init_22 : Cond.fieldLink RX1 22 "MarkedNames$Filler" "outcome" "LMarkedNames$Outcome;" ∈ wsX1_init := by decide +kernel
theorem iw_X5_init_X5 : ∀ w ∈ wsX50, w ∈ wsX5_init := by decide +kernel
theorem lk_X5_init_9 : Cond.fieldLink RX5 9 "MarkedNames$Row" "word" "[I" ∈ wsX5_init := by decide +kernel
theorem lk_X5_init_15 : Cond.fieldLink RX5 15 "MarkedNames$Row" "marks" "[I" ∈ wsX5_init := by decide +kernel
theorem lk_X5_init_18 : Cond.fieldLink RX5 18 "MarkedNames$Row" "size" "[I" ∈ wsX5_init := by decide +kernel
theorem lk_X5_init_21 : Cond.fieldLink RX5 21 "MarkedNames$Row" "use" "[I" ∈ wsX5_init := by decide +kernel
theorem lk_X5_init_24 : Cond.fieldLink RX5 24 "MarkedNames$Row" "top" "I" ∈ wsX5_init := by decide +kernel
theorem lk_X5_init_28 : Cond.fieldLink RX5 28 "MarkedNames$Row" "open" "I" ∈ wsX5_init := by decide +kernel
theorem iw_X3_init_X3 : ∀ w ∈ wsX30, w ∈ wsX3_init := by decide +kernel
theorem lk_X3_init_9 : Cond.fieldLink RX3 9 "MarkedNames$Reader" "row" "LMarkedNames$Row;" ∈ wsX3_init := by decide +kernel
theorem iw_X6_init_X6 : ∀ w ∈ wsX60, w ∈ wsX6_init := by decide +kernel
theorem lk_X6_init_9 : Cond.fieldLink RX6 9 "MarkedNames$RuleCheck" "row" "LMarkedNames$Row;" ∈ wsX6_init := by decide +kernel
theorem iw_X7_init_X7 : ∀ w ∈ wsX70, w ∈ wsX7_init := by decide +kernel
theorem lk_X7_init_9 : Cond.fieldLink RX7 9 "MarkedNames$Table" "name" "[I" ∈ wsX7_init := by decide +kernel
theorem lk_X7_init_15 : Cond.fieldLink RX7 15 "MarkedNames$Table" "marks" "[I" ∈ wsX7_init := by decide +kernel
theorem lk_X7_init_18 : Cond.fieldLink RX7 18 "MarkedNames$Table" "kind" "[I" ∈ wsX7_init := by decide +kernel
theorem lk_X7_init_21 : Cond.fieldLink RX7 21 "MarkedNames$Table" "value" "[I" ∈ wsX7_init := by decide +kernel
theorem ml_X7_init_27 : Cond.methodLink RX7 27 Lib.Math.min.name ∈ wsX7_init := by decide +kernel
theorem ms_X7_init_min : Cond.static Lib.Math.min.name ∈ wsX7_init := by decide +kernel
theorem mi_X7_init_Math : Cond.initialized "java/lang/Math" ∈ wsX7_init := by decide +kernel
theorem mc_X7_init_min : Cond.code Lib.Math.min.name Lib.Math.min.code 2 (some .int) ∈ wsX7_init := by decide +kernel
theorem lk_X7_init_33 : Cond.fieldLink RX7 33 "MarkedNames$Table" "length" "I" ∈ wsX7_init := by decide +kernel
theorem iw_X2_init_X2 : ∀ w ∈ wsX20, w ∈ wsX2_init := by decide +kernel
theorem lk_X2_init_9 : Cond.fieldLink RX2 9 "MarkedNames$Outcome" "text" "[I" ∈ wsX2_init := by decide +kernel
theorem iw_X0_init_X0 : ∀ w ∈ wsX00, w ∈ wsX0_init := by decide +kernel
theorem lk_X0_init_9 : Cond.fieldLink RX0 9 "MarkedNames$Expander" "row" "LMarkedNames$Row;" ∈ wsX0_init := by decide +kernel
theorem lk_X0_init_15 : Cond.fieldLink RX0 15 "MarkedNames$Expander" "check" "LMarkedNames$RuleCheck;" ∈ wsX0_init := by decide +kernel
theorem lk_X0_init_19 : Cond.fieldLink RX0 19 "MarkedNames$Expander" "table" "LMarkedNames$Table;" ∈ wsX0_init := by decide +kernel
theorem lk_X0_init_23 : Cond.fieldLink RX0 23 "MarkedNames$Expander" "outcome" "LMarkedNames$Outcome;" ∈ wsX0_init := by decide +kernel
theorem iw_X0_init_X1 : ∀ w ∈ wsX10, w ∈ wsX0_init := by decide +kernel
theorem lk_X0_init_32 : Cond.fieldLink RX0 32 "MarkedNames$Expander" "filler" "LMarkedNames$Filler;" ∈ wsX0_init := by decide +kernel
theorem iw_X8_init_X8 : ∀ w ∈ wsX80, w ∈ wsX8_init := by decide +kernel
theorem lk_X8_init_9 : Cond.fieldLink RX8 9 "MarkedNames" "typed" "[I" ∈ wsX8_init := by decide +kernel
theorem iw_X8_init_X5 : ∀ w ∈ wsX50, w ∈ wsX8_init := by decide +kernel
theorem lk_X8_init_16 : Cond.fieldLink RX8 16 "MarkedNames" "row" "LMarkedNames$Row;" ∈ wsX8_init := by decide +kernel
theorem iw_X8_init_X3 : ∀ w ∈ wsX30, w ∈ wsX8_init := by decide +kernel
theorem lk_X8_init_25 : Cond.fieldLink RX8 25 "MarkedNames" "reader" "LMarkedNames$Reader;" ∈ wsX8_init := by decide +kernel
theorem iw_X8_init_X6 : ∀ w ∈ wsX60, w ∈ wsX8_init := by decide +kernel
theorem lk_X8_init_32 : Cond.fieldLink RX8 32 "MarkedNames" "check" "LMarkedNames$RuleCheck;" ∈ wsX8_init := by decide +kernel
theorem iw_X8_init_X7 : ∀ w ∈ wsX70, w ∈ wsX8_init := by decide +kernel
theorem lk_X8_init_39 : Cond.fieldLink RX8 39 "MarkedNames" "table" "LMarkedNames$Table;" ∈ wsX8_init := by decide +kernel
theorem iw_X8_init_X2 : ∀ w ∈ wsX20, w ∈ wsX8_init := by decide +kernel
theorem lk_X8_init_46 : Cond.fieldLink RX8 46 "MarkedNames" "outcome" "LMarkedNames$Outcome;" ∈ wsX8_init := by decide +kernel
theorem iw_X8_init_X0 : ∀ w ∈ wsX00, w ∈ wsX8_init := by decide +kernel
theorem lk_X8_init_55 : Cond.fieldLink RX8 55 "MarkedNames" "expander" "LMarkedNames$Expander;" ∈ wsX8_init := by decide +kernel
theorem iw_X9_init_X9 : ∀ w ∈ wsX90, w ∈ wsX9_init := by decide +kernel
theorem lk_X9_init_7 : Cond.fieldLink RX9 7 "MarkedNamesModel" "typed" "[I" ∈ wsX9_init := by decide +kernel
theorem lk_X9_init_13 : Cond.fieldLink RX9 13 "MarkedNamesModel" "row" "[I" ∈ wsX9_init := by decide +kernel
theorem lk_X9_init_16 : Cond.fieldLink RX9 16 "MarkedNamesModel" "set" "[I" ∈ wsX9_init := by decide +kernel
theorem lk_X9_init_19 : Cond.fieldLink RX9 19 "MarkedNamesModel" "kept" "[I" ∈ wsX9_init := by decide +kernel
theorem lk_X9_init_22 : Cond.fieldLink RX9 22 "MarkedNamesModel" "keptSet" "[I" ∈ wsX9_init := by decide +kernel
theorem lk_X9_init_25 : Cond.fieldLink RX9 25 "MarkedNamesModel" "ownName" "[I" ∈ wsX9_init := by decide +kernel
theorem lk_X9_init_28 : Cond.fieldLink RX9 28 "MarkedNamesModel" "ownEnd" "[I" ∈ wsX9_init := by decide +kernel
theorem lk_X9_init_31 : Cond.fieldLink RX9 31 "MarkedNamesModel" "name" "[I" ∈ wsX9_init := by decide +kernel
theorem lk_X9_init_34 : Cond.fieldLink RX9 34 "MarkedNamesModel" "scopes" "[I" ∈ wsX9_init := by decide +kernel
theorem lk_X9_init_37 : Cond.fieldLink RX9 37 "MarkedNamesModel" "meaning" "[I" ∈ wsX9_init := by decide +kernel
theorem lk_X9_init_40 : Cond.fieldLink RX9 40 "MarkedNamesModel" "from" "[I" ∈ wsX9_init := by decide +kernel
theorem lk_X9_init_43 : Cond.fieldLink RX9 43 "MarkedNamesModel" "to" "[I" ∈ wsX9_init := by decide +kernel
theorem lk_X9_init_46 : Cond.fieldLink RX9 46 "MarkedNamesModel" "made" "[I" ∈ wsX9_init := by decide +kernel
theorem lk_X9_init_49 : Cond.fieldLink RX9 49 "MarkedNamesModel" "madeSet" "[I" ∈ wsX9_init := by decide +kernel
theorem lk_X9_init_52 : Cond.fieldLink RX9 52 "MarkedNamesModel" "left" "[I" ∈ wsX9_init := by decide +kernel
theorem lk_X9_init_55 : Cond.fieldLink RX9 55 "MarkedNamesModel" "right" "[I" ∈ wsX9_init := by decide +kernel
theorem lk_X9_init_58 : Cond.fieldLink RX9 58 "MarkedNamesModel" "begins" "[I" ∈ wsX9_init := by decide +kernel
theorem lk_X9_init_61 : Cond.fieldLink RX9 61 "MarkedNamesModel" "rounds" "[I" ∈ wsX9_init := by decide +kernel
theorem lk_X9_init_64 : Cond.fieldLink RX9 64 "MarkedNamesModel" "round" "[I" ∈ wsX9_init := by decide +kernel
theorem lk_X9_init_67 : Cond.fieldLink RX9 67 "MarkedNamesModel" "text" "[I" ∈ wsX9_init := by decide +kernel
section
variable {l : Launch} {p : Program} {e : Env} {s : State} {m : MethodId} {args : Array Value} {below : List Frame} {meth : Method} {c : Code} {A : Nat → Prop} {dC : Nat → ClassId} {dI : Nat → Nat → Nat} {cA : ClassId} {a b : Nat → Nat} {lev : Nat}
set_option maxHeartbeats 4000000 in
set_option maxRecDepth 100000 in
theorem X4_init_met (hlev : 1 ≤ lev) (h0 : Nat) : mKc l yX4_init wsX4_init lev 3 6 (eA a) (dC, dI) vwCl [(cA, .int)] [(h0, .inr (4, [.null, .null, .null, .int 0]))] [.ref h0] (fun _ => True) (fun z => [(h0, .inr (4, [.ref (z 0), .ref (z 1), .ref (z 2), .int 0])), (z 0, .inl (cA, 2, .inl (fun _ => 0))), (z 1, .inl (cA, 2, .inl (fun _ => 0))), (z 2, .inl (cA, 2, .inl (fun _ => 0)))]) := by
  refine mKc_of (cc := cX4_init) (maxL := 1) (by decide) rfl rfl (Nat.le_of_ble_eq_true rfl) rfl ?_
  intro p e s m args below meth c A C hs hinit
  refine mv_aload_n C dX4_init_0 rfl 0 rfl ?_
  refine mv_objInit C (by decide +kernel) (by decide +kernel) (by decide +kernel) dX4_init_1 (by show 1 ≤ lev; omega) (by show _ ≤ 64 * lev; exact Nat.le_trans (Nat.le_of_ble_eq_true rfl : _ ≤ 64) (by omega)) ?_
  refine mv_aload_n C dX4_init_4 rfl 0 rfl ?_
  refine mv_iconst (v := (2 : Int32)) C dX4_init_5 (by decide) ?_
  refine mv_newa (N := 2) C (by decide +kernel) (by decide) (by decide) (by decide) (by show _ ≤ 3; decide) (by show _ ≤ 6; decide) dX4_init_6 (fun q1 => ?_)
  refine mv_ws (ws1 := [(h0, .inr (4, [.null, .null, .null, .int 0])), (q1, .inl (cA, 2, .inl (fun _ => 0)))]) rfl ?_
  refine mv_putF (ty := (.array .int)) (ws1 := [(h0, .inr (4, [.ref q1, .null, .null, .int 0])), (q1, .inl (cA, 2, .inl (fun _ => 0)))]) C hinit iw_X4_init_X4 tyX4 tyX4_ok nmX4 0 rfl rfl 0 (by decide) lk_X4_init_9 rfl rfl rfl rfl rfl rfl (Nat.le_of_ble_eq_true rfl) rfl dX4_init_8 ?_
  refine mv_aload_n C dX4_init_11 rfl 0 rfl ?_
  refine mv_iconst (v := (2 : Int32)) C dX4_init_12 (by decide) ?_
  refine mv_newa (N := 2) C (by decide +kernel) (by decide) (by decide) (by decide) (by show _ ≤ 3; decide) (by show _ ≤ 6; decide) dX4_init_13 (fun q2 => ?_)
  refine mv_ws (ws1 := [(h0, .inr (4, [.ref q1, .null, .null, .int 0])), (q1, .inl (cA, 2, .inl (fun _ => 0))), (q2, .inl (cA, 2, .inl (fun _ => 0)))]) rfl ?_
  refine mv_putF (ty := (.array .int)) (ws1 := [(h0, .inr (4, [.ref q1, .ref q2, .null, .int 0])), (q1, .inl (cA, 2, .inl (fun _ => 0))), (q2, .inl (cA, 2, .inl (fun _ => 0)))]) C hinit iw_X4_init_X4 tyX4 tyX4_ok nmX4 0 rfl rfl 1 (by decide) lk_X4_init_15 rfl rfl rfl rfl rfl rfl (Nat.le_of_ble_eq_true rfl) rfl dX4_init_15 ?_
  refine mv_aload_n C dX4_init_18 rfl 0 rfl ?_
  refine mv_iconst (v := (2 : Int32)) C dX4_init_19 (by decide) ?_
  refine mv_newa (N := 2) C (by decide +kernel) (by decide) (by decide) (by decide) (by show _ ≤ 3; decide) (by show _ ≤ 6; decide) dX4_init_20 (fun q3 => ?_)
  refine mv_ws (ws1 := [(h0, .inr (4, [.ref q1, .ref q2, .null, .int 0])), (q1, .inl (cA, 2, .inl (fun _ => 0))), (q2, .inl (cA, 2, .inl (fun _ => 0))), (q3, .inl (cA, 2, .inl (fun _ => 0)))]) rfl ?_
  refine mv_putF (ty := (.array .int)) (ws1 := [(h0, .inr (4, [.ref q1, .ref q2, .ref q3, .int 0])), (q1, .inl (cA, 2, .inl (fun _ => 0))), (q2, .inl (cA, 2, .inl (fun _ => 0))), (q3, .inl (cA, 2, .inl (fun _ => 0)))]) C hinit iw_X4_init_X4 tyX4 tyX4_ok nmX4 0 rfl rfl 2 (by decide) lk_X4_init_18 rfl rfl rfl rfl rfl rfl (Nat.le_of_ble_eq_true rfl) rfl dX4_init_22 ?_
  exact mv_cret C (fun k => match k with | 0 => q1 | 1 => q2 | 2 => q3 | _ => 0) trivial rfl dX4_init_25
set_option maxHeartbeats 4000000 in
set_option maxRecDepth 100000 in
theorem X1_init_met (hlev : 2 ≤ lev) (h0 h1 h2 : Nat) : mKc l yX1_init wsX1_init lev 4 10 (eA a) (dC, dI) vwCl [(cA, .int)] [(h0, .inr (1, [.null, .null, .null, .int 0, .int 0, .int 0]))] [.ref h0, .ref h1, .ref h2] (fun _ => True) (fun z => [(h0, .inr (1, [.ref h1, .ref h2, .ref (z 0), .int 0, .int 0, .int 0])), (z 0, .inr (4, [.ref (z 1), .ref (z 2), .ref (z 3), .int 0])), (z 1, .inl (cA, 2, .inl (fun _ => 0))), (z 2, .inl (cA, 2, .inl (fun _ => 0))), (z 3, .inl (cA, 2, .inl (fun _ => 0)))]) := by
  refine mKc_of (cc := cX1_init) (maxL := 3) (by decide) rfl rfl (Nat.le_of_ble_eq_true rfl) rfl ?_
  intro p e s m args below meth c A C hs hinit
  refine mv_aload_n C dX1_init_0 rfl 0 rfl ?_
  refine mv_objInit C (by decide +kernel) (by decide +kernel) (by decide +kernel) dX1_init_1 (by show 1 ≤ lev; omega) (by show _ ≤ 64 * lev; exact Nat.le_trans (Nat.le_of_ble_eq_true rfl : _ ≤ 64) (by omega)) ?_
  refine mv_aload_n C dX1_init_4 rfl 0 rfl ?_
  refine mv_new (C0 := RX4) (T := TX4) (N := 4) (ci := 4) (fs := [.null, .null, .null, .int 0]) C iw_X1_init_X4 tyX4 tyX4_ok (by decide +kernel) (by decide +kernel) (by decide +kernel) rfl (fun j hj => by rcases (show j = 0 ∨ j = 1 ∨ j = 2 ∨ j = 3 by omega) with rfl | rfl | rfl | rfl <;> rfl) (by show _ ≤ 4; decide) (by show _ ≤ 10; decide) dX1_init_5 (fun q1 => ?_)
  refine mv_ws (ws1 := [(h0, .inr (1, [.null, .null, .null, .int 0, .int 0, .int 0])), (q1, .inr (4, [.null, .null, .null, .int 0]))]) rfl ?_
  refine mv_dup C dX1_init_8 rfl ?_
  refine mv_callIN (As := []) (rest := [.ref q1, .ref h0]) (wr := [(h0, .inr (1, [.null, .null, .null, .int 0, .int 0, .int 0]))]) C (eA_ok a) hs 1 [0] rfl rfl (by decide) (by decide) (X4_init_met (l := l) (lev := lev - 1) (by omega) q1) ⟨va_cnB 0 C.2.2.2.2.1 ggX1_init_X4_init rfl rfl rfl (hs.1 _ nw_14) (C.2.2.2.2.1 _ (by decide +kernel)) (by decide +kernel) (mRc_le (by omega) (by decide)), rfl, C.2.2.2.2.1 _ (by decide +kernel)⟩ rfl rfl (Nat.le_of_ble_eq_true rfl) dX1_init_9 ⟨(by show _ ≤ 4; decide), (by show _ ≤ 10; decide)⟩ (fun z2 hz2 => ?_)
  refine mv_ws (ws1 := [(h0, .inr (1, [.null, .null, .null, .int 0, .int 0, .int 0])), (q1, .inr (4, [.ref (z2 0), .ref (z2 1), .ref (z2 2), .int 0])), (z2 0, .inl (cA, 2, .inl (fun _ => 0))), (z2 1, .inl (cA, 2, .inl (fun _ => 0))), (z2 2, .inl (cA, 2, .inl (fun _ => 0)))]) rfl ?_
  refine mv_putF (ty := (.object "MarkedNames$Rounds")) (ws1 := [(h0, .inr (1, [.null, .null, .ref q1, .int 0, .int 0, .int 0])), (q1, .inr (4, [.ref (z2 0), .ref (z2 1), .ref (z2 2), .int 0])), (z2 0, .inl (cA, 2, .inl (fun _ => 0))), (z2 1, .inl (cA, 2, .inl (fun _ => 0))), (z2 2, .inl (cA, 2, .inl (fun _ => 0)))]) C hinit iw_X1_init_X1 tyX1 tyX1_ok nmX1 0 rfl rfl 2 (by decide) lk_X1_init_12 rfl rfl rfl rfl rfl rfl (Nat.le_of_ble_eq_true rfl) rfl dX1_init_12 ?_
  refine mv_aload_n C dX1_init_15 rfl 0 rfl ?_
  refine mv_aload_n C dX1_init_16 rfl 1 rfl ?_
  refine mv_putF (ty := (.object "MarkedNames$Row")) (ws1 := [(h0, .inr (1, [.ref h1, .null, .ref q1, .int 0, .int 0, .int 0])), (q1, .inr (4, [.ref (z2 0), .ref (z2 1), .ref (z2 2), .int 0])), (z2 0, .inl (cA, 2, .inl (fun _ => 0))), (z2 1, .inl (cA, 2, .inl (fun _ => 0))), (z2 2, .inl (cA, 2, .inl (fun _ => 0)))]) C hinit iw_X1_init_X1 tyX1 tyX1_ok nmX1 0 rfl rfl 0 (by decide) lk_X1_init_18 rfl rfl rfl rfl rfl rfl (Nat.le_of_ble_eq_true rfl) rfl dX1_init_17 ?_
  refine mv_aload_n C dX1_init_20 rfl 0 rfl ?_
  refine mv_aload_n C dX1_init_21 rfl 2 rfl ?_
  refine mv_putF (ty := (.object "MarkedNames$Outcome")) (ws1 := [(h0, .inr (1, [.ref h1, .ref h2, .ref q1, .int 0, .int 0, .int 0])), (q1, .inr (4, [.ref (z2 0), .ref (z2 1), .ref (z2 2), .int 0])), (z2 0, .inl (cA, 2, .inl (fun _ => 0))), (z2 1, .inl (cA, 2, .inl (fun _ => 0))), (z2 2, .inl (cA, 2, .inl (fun _ => 0)))]) C hinit iw_X1_init_X1 tyX1 tyX1_ok nmX1 0 rfl rfl 1 (by decide) lk_X1_init_22 rfl rfl rfl rfl rfl rfl (Nat.le_of_ble_eq_true rfl) rfl dX1_init_22 ?_
  exact mv_cret C (fun k => match k with | 0 => q1 | 1 => z2 0 | 2 => z2 1 | 3 => z2 2 | _ => 0) trivial rfl dX1_init_25
set_option maxHeartbeats 4000000 in
set_option maxRecDepth 100000 in
theorem X5_init_met (hlev : 1 ≤ lev) (h0 : Nat) : mKc l yX5_init wsX5_init lev 4 12000 (eA a) (dC, dI) vwCl [(cA, .int)] [(h0, .inr (5, [.null, .null, .null, .null, .int 0, .int 0]))] [.ref h0] (fun _ => True) (fun z => [(h0, .inr (5, [.ref (z 0), .ref (z 1), .ref (z 2), .ref (z 3), .int (480 : Int32), .int (-1 : Int32)])), (z 0, .inl (cA, 3000, .inl (fun _ => 0))), (z 1, .inl (cA, 3000, .inl (fun _ => 0))), (z 2, .inl (cA, 3000, .inl (fun _ => 0))), (z 3, .inl (cA, 3000, .inl (fun _ => 0)))]) := by
  refine mKc_of (cc := cX5_init) (maxL := 1) (by decide) rfl rfl (Nat.le_of_ble_eq_true rfl) rfl ?_
  intro p e s m args below meth c A C hs hinit
  refine mv_aload_n C dX5_init_0 rfl 0 rfl ?_
  refine mv_objInit C (by decide +kernel) (by decide +kernel) (by decide +kernel) dX5_init_1 (by show 1 ≤ lev; omega) (by show _ ≤ 64 * lev; exact Nat.le_trans (Nat.le_of_ble_eq_true rfl : _ ≤ 64) (by omega)) ?_
  refine mv_aload_n C dX5_init_4 rfl 0 rfl ?_
  refine mv_sipush (v := (3000 : Int32)) C dX5_init_5 (by decide) ?_
  refine mv_newa (N := 3000) C (by decide +kernel) (by decide) (by decide) (by decide) (by show _ ≤ 4; decide) (by show _ ≤ 12000; decide) dX5_init_8 (fun q1 => ?_)
  refine mv_ws (ws1 := [(h0, .inr (5, [.null, .null, .null, .null, .int 0, .int 0])), (q1, .inl (cA, 3000, .inl (fun _ => 0)))]) rfl ?_
  refine mv_putF (ty := (.array .int)) (ws1 := [(h0, .inr (5, [.ref q1, .null, .null, .null, .int 0, .int 0])), (q1, .inl (cA, 3000, .inl (fun _ => 0)))]) C hinit iw_X5_init_X5 tyX5 tyX5_ok nmX5 0 rfl rfl 0 (by decide) lk_X5_init_9 rfl rfl rfl rfl rfl rfl (Nat.le_of_ble_eq_true rfl) rfl dX5_init_10 ?_
  refine mv_aload_n C dX5_init_13 rfl 0 rfl ?_
  refine mv_sipush (v := (3000 : Int32)) C dX5_init_14 (by decide) ?_
  refine mv_newa (N := 3000) C (by decide +kernel) (by decide) (by decide) (by decide) (by show _ ≤ 4; decide) (by show _ ≤ 12000; decide) dX5_init_17 (fun q2 => ?_)
  refine mv_ws (ws1 := [(h0, .inr (5, [.ref q1, .null, .null, .null, .int 0, .int 0])), (q1, .inl (cA, 3000, .inl (fun _ => 0))), (q2, .inl (cA, 3000, .inl (fun _ => 0)))]) rfl ?_
  refine mv_putF (ty := (.array .int)) (ws1 := [(h0, .inr (5, [.ref q1, .ref q2, .null, .null, .int 0, .int 0])), (q1, .inl (cA, 3000, .inl (fun _ => 0))), (q2, .inl (cA, 3000, .inl (fun _ => 0)))]) C hinit iw_X5_init_X5 tyX5 tyX5_ok nmX5 0 rfl rfl 1 (by decide) lk_X5_init_15 rfl rfl rfl rfl rfl rfl (Nat.le_of_ble_eq_true rfl) rfl dX5_init_19 ?_
  refine mv_aload_n C dX5_init_22 rfl 0 rfl ?_
  refine mv_sipush (v := (3000 : Int32)) C dX5_init_23 (by decide) ?_
  refine mv_newa (N := 3000) C (by decide +kernel) (by decide) (by decide) (by decide) (by show _ ≤ 4; decide) (by show _ ≤ 12000; decide) dX5_init_26 (fun q3 => ?_)
  refine mv_ws (ws1 := [(h0, .inr (5, [.ref q1, .ref q2, .null, .null, .int 0, .int 0])), (q1, .inl (cA, 3000, .inl (fun _ => 0))), (q2, .inl (cA, 3000, .inl (fun _ => 0))), (q3, .inl (cA, 3000, .inl (fun _ => 0)))]) rfl ?_
  refine mv_putF (ty := (.array .int)) (ws1 := [(h0, .inr (5, [.ref q1, .ref q2, .ref q3, .null, .int 0, .int 0])), (q1, .inl (cA, 3000, .inl (fun _ => 0))), (q2, .inl (cA, 3000, .inl (fun _ => 0))), (q3, .inl (cA, 3000, .inl (fun _ => 0)))]) C hinit iw_X5_init_X5 tyX5 tyX5_ok nmX5 0 rfl rfl 2 (by decide) lk_X5_init_18 rfl rfl rfl rfl rfl rfl (Nat.le_of_ble_eq_true rfl) rfl dX5_init_28 ?_
  refine mv_aload_n C dX5_init_31 rfl 0 rfl ?_
  refine mv_sipush (v := (3000 : Int32)) C dX5_init_32 (by decide) ?_
  refine mv_newa (N := 3000) C (by decide +kernel) (by decide) (by decide) (by decide) (by show _ ≤ 4; decide) (by show _ ≤ 12000; decide) dX5_init_35 (fun q4 => ?_)
  refine mv_ws (ws1 := [(h0, .inr (5, [.ref q1, .ref q2, .ref q3, .null, .int 0, .int 0])), (q1, .inl (cA, 3000, .inl (fun _ => 0))), (q2, .inl (cA, 3000, .inl (fun _ => 0))), (q3, .inl (cA, 3000, .inl (fun _ => 0))), (q4, .inl (cA, 3000, .inl (fun _ => 0)))]) rfl ?_
  refine mv_putF (ty := (.array .int)) (ws1 := [(h0, .inr (5, [.ref q1, .ref q2, .ref q3, .ref q4, .int 0, .int 0])), (q1, .inl (cA, 3000, .inl (fun _ => 0))), (q2, .inl (cA, 3000, .inl (fun _ => 0))), (q3, .inl (cA, 3000, .inl (fun _ => 0))), (q4, .inl (cA, 3000, .inl (fun _ => 0)))]) C hinit iw_X5_init_X5 tyX5 tyX5_ok nmX5 0 rfl rfl 3 (by decide) lk_X5_init_21 rfl rfl rfl rfl rfl rfl (Nat.le_of_ble_eq_true rfl) rfl dX5_init_37 ?_
  refine mv_aload_n C dX5_init_40 rfl 0 rfl ?_
  refine mv_sipush (v := (480 : Int32)) C dX5_init_41 (by decide) ?_
  refine mv_put (ty := .int) (ws1 := [(h0, .inr (5, [.ref q1, .ref q2, .ref q3, .ref q4, .int (480 : Int32), .int 0])), (q1, .inl (cA, 3000, .inl (fun _ => 0))), (q2, .inl (cA, 3000, .inl (fun _ => 0))), (q3, .inl (cA, 3000, .inl (fun _ => 0))), (q4, .inl (cA, 3000, .inl (fun _ => 0)))]) C iw_X5_init_X5 tyX5 tyX5_ok nmX5 0 rfl rfl 4 (by decide) lk_X5_init_24 rfl rfl rfl rfl rfl (Nat.le_of_ble_eq_true rfl) rfl dX5_init_44 ?_
  refine mv_aload_n C dX5_init_47 rfl 0 rfl ?_
  refine mv_iconst (v := (-1 : Int32)) C dX5_init_48 (by decide) ?_
  refine mv_put (ty := .int) (ws1 := [(h0, .inr (5, [.ref q1, .ref q2, .ref q3, .ref q4, .int (480 : Int32), .int (-1 : Int32)])), (q1, .inl (cA, 3000, .inl (fun _ => 0))), (q2, .inl (cA, 3000, .inl (fun _ => 0))), (q3, .inl (cA, 3000, .inl (fun _ => 0))), (q4, .inl (cA, 3000, .inl (fun _ => 0)))]) C iw_X5_init_X5 tyX5 tyX5_ok nmX5 0 rfl rfl 5 (by decide) lk_X5_init_28 rfl rfl rfl rfl rfl (Nat.le_of_ble_eq_true rfl) rfl dX5_init_49 ?_
  exact mv_cret C (fun k => match k with | 0 => q1 | 1 => q2 | 2 => q3 | 3 => q4 | _ => 0) trivial rfl dX5_init_52
set_option maxHeartbeats 4000000 in
set_option maxRecDepth 100000 in
theorem X3_init_met (hlev : 1 ≤ lev) (h0 h1 : Nat) : mKc l yX3_init wsX3_init lev 0 0 (eA a) (dC, dI) vwCl [(cA, .int)] [(h0, .inr (3, [.null, .int 0]))] [.ref h0, .ref h1] (fun _ => True) (fun z => [(h0, .inr (3, [.ref h1, .int 0]))]) := by
  refine mKc_of (cc := cX3_init) (maxL := 2) (by decide) rfl rfl (Nat.le_of_ble_eq_true rfl) rfl ?_
  intro p e s m args below meth c A C hs hinit
  refine mv_aload_n C dX3_init_0 rfl 0 rfl ?_
  refine mv_objInit C (by decide +kernel) (by decide +kernel) (by decide +kernel) dX3_init_1 (by show 1 ≤ lev; omega) (by show _ ≤ 64 * lev; exact Nat.le_trans (Nat.le_of_ble_eq_true rfl : _ ≤ 64) (by omega)) ?_
  refine mv_aload_n C dX3_init_4 rfl 0 rfl ?_
  refine mv_aload_n C dX3_init_5 rfl 1 rfl ?_
  refine mv_putF (ty := (.object "MarkedNames$Row")) (ws1 := [(h0, .inr (3, [.ref h1, .int 0]))]) C hinit iw_X3_init_X3 tyX3 tyX3_ok nmX3 0 rfl rfl 0 (by decide) lk_X3_init_9 rfl rfl rfl rfl rfl rfl (Nat.le_of_ble_eq_true rfl) rfl dX3_init_6 ?_
  exact mv_cret C (fun k => match k with  | _ => 0) trivial rfl dX3_init_9
set_option maxHeartbeats 4000000 in
set_option maxRecDepth 100000 in
theorem X6_init_met (hlev : 1 ≤ lev) (h0 h1 : Nat) : mKc l yX6_init wsX6_init lev 0 0 (eA a) (dC, dI) vwCl [(cA, .int)] [(h0, .inr (6, [.null]))] [.ref h0, .ref h1] (fun _ => True) (fun z => [(h0, .inr (6, [.ref h1]))]) := by
  refine mKc_of (cc := cX6_init) (maxL := 2) (by decide) rfl rfl (Nat.le_of_ble_eq_true rfl) rfl ?_
  intro p e s m args below meth c A C hs hinit
  refine mv_aload_n C dX6_init_0 rfl 0 rfl ?_
  refine mv_objInit C (by decide +kernel) (by decide +kernel) (by decide +kernel) dX6_init_1 (by show 1 ≤ lev; omega) (by show _ ≤ 64 * lev; exact Nat.le_trans (Nat.le_of_ble_eq_true rfl : _ ≤ 64) (by omega)) ?_
  refine mv_aload_n C dX6_init_4 rfl 0 rfl ?_
  refine mv_aload_n C dX6_init_5 rfl 1 rfl ?_
  refine mv_putF (ty := (.object "MarkedNames$Row")) (ws1 := [(h0, .inr (6, [.ref h1]))]) C hinit iw_X6_init_X6 tyX6 tyX6_ok nmX6 0 rfl rfl 0 (by decide) lk_X6_init_9 rfl rfl rfl rfl rfl rfl (Nat.le_of_ble_eq_true rfl) rfl dX6_init_6 ?_
  exact mv_cret C (fun k => match k with  | _ => 0) trivial rfl dX6_init_9
set_option maxHeartbeats 4000000 in
set_option maxRecDepth 100000 in
theorem X7_init_met (hlev : 1 ≤ lev) (h0 : Nat) : mKc l yX7_init wsX7_init lev 4 160 (eA a) (dC, dI) vwCl [(cA, .int)] [(h0, .inr (7, [.null, .null, .null, .null, .int 0, .int 0]))] [.ref h0] (fun _ => True) (fun z => [(h0, .inr (7, [.ref (z 0), .ref (z 1), .ref (z 2), .ref (z 3), .int (8 : Int32), .int 0])), (z 0, .inl (cA, 40, .inl (upd (upd (upd (upd (upd (upd (upd (upd (fun _ => 0) 0 (91758 : Int32)) 1 (92518 : Int32)) 2 (369 : Int32)) 3 (93299 : Int32)) 4 (299 : Int32)) 5 (298 : Int32)) 6 (317 : Int32)) 7 (316 : Int32)))), (z 1, .inl (cA, 40, .inl (fun _ => 0))), (z 2, .inl (cA, 40, .inl (upd (upd (upd (upd (upd (upd (upd (upd (fun _ => 0) 0 (0 : Int32)) 1 (1 : Int32)) 2 (2 : Int32)) 3 (3 : Int32)) 4 (4 : Int32)) 5 (4 : Int32)) 6 (4 : Int32)) 7 (4 : Int32)))), (z 3, .inl (cA, 40, .inl (fun _ => 0)))]) := by
  refine mKc_of (cc := cX7_init) (maxL := 2) (by decide) rfl rfl (Nat.le_of_ble_eq_true rfl) rfl ?_
  intro p e s m args below meth c A C hs hinit
  refine mv_aload_n C dX7_init_0 rfl 0 rfl ?_
  refine mv_objInit C (by decide +kernel) (by decide +kernel) (by decide +kernel) dX7_init_1 (by show 1 ≤ lev; omega) (by show _ ≤ 64 * lev; exact Nat.le_trans (Nat.le_of_ble_eq_true rfl : _ ≤ 64) (by omega)) ?_
  refine mv_aload_n C dX7_init_4 rfl 0 rfl ?_
  refine mv_bipush (v := (40 : Int32)) C dX7_init_5 (by decide) ?_
  refine mv_newa (N := 40) C (by decide +kernel) (by decide) (by decide) (by decide) (by show _ ≤ 4; decide) (by show _ ≤ 160; decide) dX7_init_7 (fun q1 => ?_)
  refine mv_ws (ws1 := [(h0, .inr (7, [.null, .null, .null, .null, .int 0, .int 0])), (q1, .inl (cA, 40, .inl (fun _ => 0)))]) rfl ?_
  refine mv_putF (ty := (.array .int)) (ws1 := [(h0, .inr (7, [.ref q1, .null, .null, .null, .int 0, .int 0])), (q1, .inl (cA, 40, .inl (fun _ => 0)))]) C hinit iw_X7_init_X7 tyX7 tyX7_ok nmX7 0 rfl rfl 0 (by decide) lk_X7_init_9 rfl rfl rfl rfl rfl rfl (Nat.le_of_ble_eq_true rfl) rfl dX7_init_9 ?_
  refine mv_aload_n C dX7_init_12 rfl 0 rfl ?_
  refine mv_bipush (v := (40 : Int32)) C dX7_init_13 (by decide) ?_
  refine mv_newa (N := 40) C (by decide +kernel) (by decide) (by decide) (by decide) (by show _ ≤ 4; decide) (by show _ ≤ 160; decide) dX7_init_15 (fun q2 => ?_)
  refine mv_ws (ws1 := [(h0, .inr (7, [.ref q1, .null, .null, .null, .int 0, .int 0])), (q1, .inl (cA, 40, .inl (fun _ => 0))), (q2, .inl (cA, 40, .inl (fun _ => 0)))]) rfl ?_
  refine mv_putF (ty := (.array .int)) (ws1 := [(h0, .inr (7, [.ref q1, .ref q2, .null, .null, .int 0, .int 0])), (q1, .inl (cA, 40, .inl (fun _ => 0))), (q2, .inl (cA, 40, .inl (fun _ => 0)))]) C hinit iw_X7_init_X7 tyX7 tyX7_ok nmX7 0 rfl rfl 1 (by decide) lk_X7_init_15 rfl rfl rfl rfl rfl rfl (Nat.le_of_ble_eq_true rfl) rfl dX7_init_17 ?_
  refine mv_aload_n C dX7_init_20 rfl 0 rfl ?_
  refine mv_bipush (v := (40 : Int32)) C dX7_init_21 (by decide) ?_
  refine mv_newa (N := 40) C (by decide +kernel) (by decide) (by decide) (by decide) (by show _ ≤ 4; decide) (by show _ ≤ 160; decide) dX7_init_23 (fun q3 => ?_)
  refine mv_ws (ws1 := [(h0, .inr (7, [.ref q1, .ref q2, .null, .null, .int 0, .int 0])), (q1, .inl (cA, 40, .inl (fun _ => 0))), (q2, .inl (cA, 40, .inl (fun _ => 0))), (q3, .inl (cA, 40, .inl (fun _ => 0)))]) rfl ?_
  refine mv_putF (ty := (.array .int)) (ws1 := [(h0, .inr (7, [.ref q1, .ref q2, .ref q3, .null, .int 0, .int 0])), (q1, .inl (cA, 40, .inl (fun _ => 0))), (q2, .inl (cA, 40, .inl (fun _ => 0))), (q3, .inl (cA, 40, .inl (fun _ => 0)))]) C hinit iw_X7_init_X7 tyX7 tyX7_ok nmX7 0 rfl rfl 2 (by decide) lk_X7_init_18 rfl rfl rfl rfl rfl rfl (Nat.le_of_ble_eq_true rfl) rfl dX7_init_25 ?_
  refine mv_aload_n C dX7_init_28 rfl 0 rfl ?_
  refine mv_bipush (v := (40 : Int32)) C dX7_init_29 (by decide) ?_
  refine mv_newa (N := 40) C (by decide +kernel) (by decide) (by decide) (by decide) (by show _ ≤ 4; decide) (by show _ ≤ 160; decide) dX7_init_31 (fun q4 => ?_)
  refine mv_ws (ws1 := [(h0, .inr (7, [.ref q1, .ref q2, .ref q3, .null, .int 0, .int 0])), (q1, .inl (cA, 40, .inl (fun _ => 0))), (q2, .inl (cA, 40, .inl (fun _ => 0))), (q3, .inl (cA, 40, .inl (fun _ => 0))), (q4, .inl (cA, 40, .inl (fun _ => 0)))]) rfl ?_
  refine mv_putF (ty := (.array .int)) (ws1 := [(h0, .inr (7, [.ref q1, .ref q2, .ref q3, .ref q4, .int 0, .int 0])), (q1, .inl (cA, 40, .inl (fun _ => 0))), (q2, .inl (cA, 40, .inl (fun _ => 0))), (q3, .inl (cA, 40, .inl (fun _ => 0))), (q4, .inl (cA, 40, .inl (fun _ => 0)))]) C hinit iw_X7_init_X7 tyX7 tyX7_ok nmX7 0 rfl rfl 3 (by decide) lk_X7_init_21 rfl rfl rfl rfl rfl rfl (Nat.le_of_ble_eq_true rfl) rfl dX7_init_33 ?_
  refine mv_iconst (v := (0 : Int32)) C dX7_init_36 (by decide) ?_
  refine mv_istore_n (lv1 := [(1, .int (0 : Int32)), (0, .ref h0)]) C dX7_init_37 rfl (by decide) rfl ?_
  refine mv_iload_n C dX7_init_38 rfl 0 rfl ?_
  refine mv_getsN C hs.2.1 (hs.1 _ nw_1) dX7_init_39 ?_
  refine mv_tlen (v := (8 : Int32)) C hs.2.2 (by decide) dX7_init_42 ?_
  refine mv_icmp_ge (tgt := 80) C dX7_init_43 (by decide) (fun h => absurd h (by decide)) (fun _ => ?_)
  refine mv_iload_n C dX7_init_46 rfl 0 rfl ?_
  refine mv_bipush (v := (40 : Int32)) C dX7_init_47 (by decide) ?_
  refine mv_icmp_ge (tgt := 80) C dX7_init_49 (by decide) (fun h => absurd h (by decide)) (fun _ => ?_)
  refine mv_aload_n C dX7_init_52 rfl 1 rfl ?_
  refine mv_get (v := .ref q1) C iw_X7_init_X7 0 rfl rfl 0 (by decide) lk_X7_init_9 rfl rfl dX7_init_53 ?_
  refine mv_iload_n C dX7_init_56 rfl 0 rfl ?_
  refine mv_getsN C hs.2.1 (hs.1 _ nw_1) dX7_init_57 ?_
  refine mv_iload_n C dX7_init_60 rfl 0 rfl ?_
  refine mv_ti (v := .int (91758 : Int32)) C hs.2.2 (by unfold vp_in; decide) rfl dX7_init_61 ?_
  refine mv_iast (ws1 := [(h0, .inr (7, [.ref q1, .ref q2, .ref q3, .ref q4, .int 0, .int 0])), (q1, .inl (cA, 40, .inl (upd (fun _ => 0) 0 (91758 : Int32)))), (q2, .inl (cA, 40, .inl (fun _ => 0))), (q3, .inl (cA, 40, .inl (fun _ => 0))), (q4, .inl (cA, 40, .inl (fun _ => 0)))]) C 1 0 rfl rfl (by unfold vp_in; decide) rfl dX7_init_62 ?_
  refine mv_aload_n C dX7_init_63 rfl 1 rfl ?_
  refine mv_get (v := .ref q3) C iw_X7_init_X7 0 rfl rfl 2 (by decide) lk_X7_init_18 rfl rfl dX7_init_64 ?_
  refine mv_iload_n C dX7_init_67 rfl 0 rfl ?_
  refine mv_iload_n C dX7_init_68 rfl 0 rfl ?_
  refine mv_iconst (v := (4 : Int32)) C dX7_init_69 (by decide) ?_
  refine mv_mmin C ml_X7_init_27 ms_X7_init_min mi_X7_init_Math mc_X7_init_min (by show 1 ≤ lev; omega) (by show _ ≤ 64 * lev; exact Nat.le_trans (Nat.le_of_ble_eq_true rfl : _ ≤ 64) (by omega)) (by show _ ≤ 4; decide) (by show _ ≤ 160; decide) dX7_init_70 ?_
  refine mv_topv (v := (0 : Int32)) (by decide) ?_
  refine mv_iast (ws1 := [(h0, .inr (7, [.ref q1, .ref q2, .ref q3, .ref q4, .int 0, .int 0])), (q1, .inl (cA, 40, .inl (upd (fun _ => 0) 0 (91758 : Int32)))), (q2, .inl (cA, 40, .inl (fun _ => 0))), (q3, .inl (cA, 40, .inl (upd (fun _ => 0) 0 (0 : Int32)))), (q4, .inl (cA, 40, .inl (fun _ => 0)))]) C 3 0 rfl rfl (by unfold vp_in; decide) rfl dX7_init_73 ?_
  refine mv_iinc (v := (1 : Int32)) (lv1 := [(1, .int (1 : Int32)), (0, .ref h0)]) C dX7_init_74 0 rfl (by decide) (by decide) rfl ?_
  refine mv_goto (tgt := 38) C dX7_init_77 (by decide) ?_
  refine mv_iload_n C dX7_init_38 rfl 0 rfl ?_
  refine mv_getsN C hs.2.1 (hs.1 _ nw_1) dX7_init_39 ?_
  refine mv_tlen (v := (8 : Int32)) C hs.2.2 (by decide) dX7_init_42 ?_
  refine mv_icmp_ge (tgt := 80) C dX7_init_43 (by decide) (fun h => absurd h (by decide)) (fun _ => ?_)
  refine mv_iload_n C dX7_init_46 rfl 0 rfl ?_
  refine mv_bipush (v := (40 : Int32)) C dX7_init_47 (by decide) ?_
  refine mv_icmp_ge (tgt := 80) C dX7_init_49 (by decide) (fun h => absurd h (by decide)) (fun _ => ?_)
  refine mv_aload_n C dX7_init_52 rfl 1 rfl ?_
  refine mv_get (v := .ref q1) C iw_X7_init_X7 0 rfl rfl 0 (by decide) lk_X7_init_9 rfl rfl dX7_init_53 ?_
  refine mv_iload_n C dX7_init_56 rfl 0 rfl ?_
  refine mv_getsN C hs.2.1 (hs.1 _ nw_1) dX7_init_57 ?_
  refine mv_iload_n C dX7_init_60 rfl 0 rfl ?_
  refine mv_ti (v := .int (92518 : Int32)) C hs.2.2 (by unfold vp_in; decide) rfl dX7_init_61 ?_
  refine mv_iast (ws1 := [(h0, .inr (7, [.ref q1, .ref q2, .ref q3, .ref q4, .int 0, .int 0])), (q1, .inl (cA, 40, .inl (upd (upd (fun _ => 0) 0 (91758 : Int32)) 1 (92518 : Int32)))), (q2, .inl (cA, 40, .inl (fun _ => 0))), (q3, .inl (cA, 40, .inl (upd (fun _ => 0) 0 (0 : Int32)))), (q4, .inl (cA, 40, .inl (fun _ => 0)))]) C 1 0 rfl rfl (by unfold vp_in; decide) rfl dX7_init_62 ?_
  refine mv_aload_n C dX7_init_63 rfl 1 rfl ?_
  refine mv_get (v := .ref q3) C iw_X7_init_X7 0 rfl rfl 2 (by decide) lk_X7_init_18 rfl rfl dX7_init_64 ?_
  refine mv_iload_n C dX7_init_67 rfl 0 rfl ?_
  refine mv_iload_n C dX7_init_68 rfl 0 rfl ?_
  refine mv_iconst (v := (4 : Int32)) C dX7_init_69 (by decide) ?_
  refine mv_mmin C ml_X7_init_27 ms_X7_init_min mi_X7_init_Math mc_X7_init_min (by show 1 ≤ lev; omega) (by show _ ≤ 64 * lev; exact Nat.le_trans (Nat.le_of_ble_eq_true rfl : _ ≤ 64) (by omega)) (by show _ ≤ 4; decide) (by show _ ≤ 160; decide) dX7_init_70 ?_
  refine mv_topv (v := (1 : Int32)) (by decide) ?_
  refine mv_iast (ws1 := [(h0, .inr (7, [.ref q1, .ref q2, .ref q3, .ref q4, .int 0, .int 0])), (q1, .inl (cA, 40, .inl (upd (upd (fun _ => 0) 0 (91758 : Int32)) 1 (92518 : Int32)))), (q2, .inl (cA, 40, .inl (fun _ => 0))), (q3, .inl (cA, 40, .inl (upd (upd (fun _ => 0) 0 (0 : Int32)) 1 (1 : Int32)))), (q4, .inl (cA, 40, .inl (fun _ => 0)))]) C 3 0 rfl rfl (by unfold vp_in; decide) rfl dX7_init_73 ?_
  refine mv_iinc (v := (2 : Int32)) (lv1 := [(1, .int (2 : Int32)), (0, .ref h0)]) C dX7_init_74 0 rfl (by decide) (by decide) rfl ?_
  refine mv_goto (tgt := 38) C dX7_init_77 (by decide) ?_
  refine mv_iload_n C dX7_init_38 rfl 0 rfl ?_
  refine mv_getsN C hs.2.1 (hs.1 _ nw_1) dX7_init_39 ?_
  refine mv_tlen (v := (8 : Int32)) C hs.2.2 (by decide) dX7_init_42 ?_
  refine mv_icmp_ge (tgt := 80) C dX7_init_43 (by decide) (fun h => absurd h (by decide)) (fun _ => ?_)
  refine mv_iload_n C dX7_init_46 rfl 0 rfl ?_
  refine mv_bipush (v := (40 : Int32)) C dX7_init_47 (by decide) ?_
  refine mv_icmp_ge (tgt := 80) C dX7_init_49 (by decide) (fun h => absurd h (by decide)) (fun _ => ?_)
  refine mv_aload_n C dX7_init_52 rfl 1 rfl ?_
  refine mv_get (v := .ref q1) C iw_X7_init_X7 0 rfl rfl 0 (by decide) lk_X7_init_9 rfl rfl dX7_init_53 ?_
  refine mv_iload_n C dX7_init_56 rfl 0 rfl ?_
  refine mv_getsN C hs.2.1 (hs.1 _ nw_1) dX7_init_57 ?_
  refine mv_iload_n C dX7_init_60 rfl 0 rfl ?_
  refine mv_ti (v := .int (369 : Int32)) C hs.2.2 (by unfold vp_in; decide) rfl dX7_init_61 ?_
  refine mv_iast (ws1 := [(h0, .inr (7, [.ref q1, .ref q2, .ref q3, .ref q4, .int 0, .int 0])), (q1, .inl (cA, 40, .inl (upd (upd (upd (fun _ => 0) 0 (91758 : Int32)) 1 (92518 : Int32)) 2 (369 : Int32)))), (q2, .inl (cA, 40, .inl (fun _ => 0))), (q3, .inl (cA, 40, .inl (upd (upd (fun _ => 0) 0 (0 : Int32)) 1 (1 : Int32)))), (q4, .inl (cA, 40, .inl (fun _ => 0)))]) C 1 0 rfl rfl (by unfold vp_in; decide) rfl dX7_init_62 ?_
  refine mv_aload_n C dX7_init_63 rfl 1 rfl ?_
  refine mv_get (v := .ref q3) C iw_X7_init_X7 0 rfl rfl 2 (by decide) lk_X7_init_18 rfl rfl dX7_init_64 ?_
  refine mv_iload_n C dX7_init_67 rfl 0 rfl ?_
  refine mv_iload_n C dX7_init_68 rfl 0 rfl ?_
  refine mv_iconst (v := (4 : Int32)) C dX7_init_69 (by decide) ?_
  refine mv_mmin C ml_X7_init_27 ms_X7_init_min mi_X7_init_Math mc_X7_init_min (by show 1 ≤ lev; omega) (by show _ ≤ 64 * lev; exact Nat.le_trans (Nat.le_of_ble_eq_true rfl : _ ≤ 64) (by omega)) (by show _ ≤ 4; decide) (by show _ ≤ 160; decide) dX7_init_70 ?_
  refine mv_topv (v := (2 : Int32)) (by decide) ?_
  refine mv_iast (ws1 := [(h0, .inr (7, [.ref q1, .ref q2, .ref q3, .ref q4, .int 0, .int 0])), (q1, .inl (cA, 40, .inl (upd (upd (upd (fun _ => 0) 0 (91758 : Int32)) 1 (92518 : Int32)) 2 (369 : Int32)))), (q2, .inl (cA, 40, .inl (fun _ => 0))), (q3, .inl (cA, 40, .inl (upd (upd (upd (fun _ => 0) 0 (0 : Int32)) 1 (1 : Int32)) 2 (2 : Int32)))), (q4, .inl (cA, 40, .inl (fun _ => 0)))]) C 3 0 rfl rfl (by unfold vp_in; decide) rfl dX7_init_73 ?_
  refine mv_iinc (v := (3 : Int32)) (lv1 := [(1, .int (3 : Int32)), (0, .ref h0)]) C dX7_init_74 0 rfl (by decide) (by decide) rfl ?_
  refine mv_goto (tgt := 38) C dX7_init_77 (by decide) ?_
  refine mv_iload_n C dX7_init_38 rfl 0 rfl ?_
  refine mv_getsN C hs.2.1 (hs.1 _ nw_1) dX7_init_39 ?_
  refine mv_tlen (v := (8 : Int32)) C hs.2.2 (by decide) dX7_init_42 ?_
  refine mv_icmp_ge (tgt := 80) C dX7_init_43 (by decide) (fun h => absurd h (by decide)) (fun _ => ?_)
  refine mv_iload_n C dX7_init_46 rfl 0 rfl ?_
  refine mv_bipush (v := (40 : Int32)) C dX7_init_47 (by decide) ?_
  refine mv_icmp_ge (tgt := 80) C dX7_init_49 (by decide) (fun h => absurd h (by decide)) (fun _ => ?_)
  refine mv_aload_n C dX7_init_52 rfl 1 rfl ?_
  refine mv_get (v := .ref q1) C iw_X7_init_X7 0 rfl rfl 0 (by decide) lk_X7_init_9 rfl rfl dX7_init_53 ?_
  refine mv_iload_n C dX7_init_56 rfl 0 rfl ?_
  refine mv_getsN C hs.2.1 (hs.1 _ nw_1) dX7_init_57 ?_
  refine mv_iload_n C dX7_init_60 rfl 0 rfl ?_
  refine mv_ti (v := .int (93299 : Int32)) C hs.2.2 (by unfold vp_in; decide) rfl dX7_init_61 ?_
  refine mv_iast (ws1 := [(h0, .inr (7, [.ref q1, .ref q2, .ref q3, .ref q4, .int 0, .int 0])), (q1, .inl (cA, 40, .inl (upd (upd (upd (upd (fun _ => 0) 0 (91758 : Int32)) 1 (92518 : Int32)) 2 (369 : Int32)) 3 (93299 : Int32)))), (q2, .inl (cA, 40, .inl (fun _ => 0))), (q3, .inl (cA, 40, .inl (upd (upd (upd (fun _ => 0) 0 (0 : Int32)) 1 (1 : Int32)) 2 (2 : Int32)))), (q4, .inl (cA, 40, .inl (fun _ => 0)))]) C 1 0 rfl rfl (by unfold vp_in; decide) rfl dX7_init_62 ?_
  refine mv_aload_n C dX7_init_63 rfl 1 rfl ?_
  refine mv_get (v := .ref q3) C iw_X7_init_X7 0 rfl rfl 2 (by decide) lk_X7_init_18 rfl rfl dX7_init_64 ?_
  refine mv_iload_n C dX7_init_67 rfl 0 rfl ?_
  refine mv_iload_n C dX7_init_68 rfl 0 rfl ?_
  refine mv_iconst (v := (4 : Int32)) C dX7_init_69 (by decide) ?_
  refine mv_mmin C ml_X7_init_27 ms_X7_init_min mi_X7_init_Math mc_X7_init_min (by show 1 ≤ lev; omega) (by show _ ≤ 64 * lev; exact Nat.le_trans (Nat.le_of_ble_eq_true rfl : _ ≤ 64) (by omega)) (by show _ ≤ 4; decide) (by show _ ≤ 160; decide) dX7_init_70 ?_
  refine mv_topv (v := (3 : Int32)) (by decide) ?_
  refine mv_iast (ws1 := [(h0, .inr (7, [.ref q1, .ref q2, .ref q3, .ref q4, .int 0, .int 0])), (q1, .inl (cA, 40, .inl (upd (upd (upd (upd (fun _ => 0) 0 (91758 : Int32)) 1 (92518 : Int32)) 2 (369 : Int32)) 3 (93299 : Int32)))), (q2, .inl (cA, 40, .inl (fun _ => 0))), (q3, .inl (cA, 40, .inl (upd (upd (upd (upd (fun _ => 0) 0 (0 : Int32)) 1 (1 : Int32)) 2 (2 : Int32)) 3 (3 : Int32)))), (q4, .inl (cA, 40, .inl (fun _ => 0)))]) C 3 0 rfl rfl (by unfold vp_in; decide) rfl dX7_init_73 ?_
  refine mv_iinc (v := (4 : Int32)) (lv1 := [(1, .int (4 : Int32)), (0, .ref h0)]) C dX7_init_74 0 rfl (by decide) (by decide) rfl ?_
  refine mv_goto (tgt := 38) C dX7_init_77 (by decide) ?_
  refine mv_iload_n C dX7_init_38 rfl 0 rfl ?_
  refine mv_getsN C hs.2.1 (hs.1 _ nw_1) dX7_init_39 ?_
  refine mv_tlen (v := (8 : Int32)) C hs.2.2 (by decide) dX7_init_42 ?_
  refine mv_icmp_ge (tgt := 80) C dX7_init_43 (by decide) (fun h => absurd h (by decide)) (fun _ => ?_)
  refine mv_iload_n C dX7_init_46 rfl 0 rfl ?_
  refine mv_bipush (v := (40 : Int32)) C dX7_init_47 (by decide) ?_
  refine mv_icmp_ge (tgt := 80) C dX7_init_49 (by decide) (fun h => absurd h (by decide)) (fun _ => ?_)
  refine mv_aload_n C dX7_init_52 rfl 1 rfl ?_
  refine mv_get (v := .ref q1) C iw_X7_init_X7 0 rfl rfl 0 (by decide) lk_X7_init_9 rfl rfl dX7_init_53 ?_
  refine mv_iload_n C dX7_init_56 rfl 0 rfl ?_
  refine mv_getsN C hs.2.1 (hs.1 _ nw_1) dX7_init_57 ?_
  refine mv_iload_n C dX7_init_60 rfl 0 rfl ?_
  refine mv_ti (v := .int (299 : Int32)) C hs.2.2 (by unfold vp_in; decide) rfl dX7_init_61 ?_
  refine mv_iast (ws1 := [(h0, .inr (7, [.ref q1, .ref q2, .ref q3, .ref q4, .int 0, .int 0])), (q1, .inl (cA, 40, .inl (upd (upd (upd (upd (upd (fun _ => 0) 0 (91758 : Int32)) 1 (92518 : Int32)) 2 (369 : Int32)) 3 (93299 : Int32)) 4 (299 : Int32)))), (q2, .inl (cA, 40, .inl (fun _ => 0))), (q3, .inl (cA, 40, .inl (upd (upd (upd (upd (fun _ => 0) 0 (0 : Int32)) 1 (1 : Int32)) 2 (2 : Int32)) 3 (3 : Int32)))), (q4, .inl (cA, 40, .inl (fun _ => 0)))]) C 1 0 rfl rfl (by unfold vp_in; decide) rfl dX7_init_62 ?_
  refine mv_aload_n C dX7_init_63 rfl 1 rfl ?_
  refine mv_get (v := .ref q3) C iw_X7_init_X7 0 rfl rfl 2 (by decide) lk_X7_init_18 rfl rfl dX7_init_64 ?_
  refine mv_iload_n C dX7_init_67 rfl 0 rfl ?_
  refine mv_iload_n C dX7_init_68 rfl 0 rfl ?_
  refine mv_iconst (v := (4 : Int32)) C dX7_init_69 (by decide) ?_
  refine mv_mmin C ml_X7_init_27 ms_X7_init_min mi_X7_init_Math mc_X7_init_min (by show 1 ≤ lev; omega) (by show _ ≤ 64 * lev; exact Nat.le_trans (Nat.le_of_ble_eq_true rfl : _ ≤ 64) (by omega)) (by show _ ≤ 4; decide) (by show _ ≤ 160; decide) dX7_init_70 ?_
  refine mv_topv (v := (4 : Int32)) (by decide) ?_
  refine mv_iast (ws1 := [(h0, .inr (7, [.ref q1, .ref q2, .ref q3, .ref q4, .int 0, .int 0])), (q1, .inl (cA, 40, .inl (upd (upd (upd (upd (upd (fun _ => 0) 0 (91758 : Int32)) 1 (92518 : Int32)) 2 (369 : Int32)) 3 (93299 : Int32)) 4 (299 : Int32)))), (q2, .inl (cA, 40, .inl (fun _ => 0))), (q3, .inl (cA, 40, .inl (upd (upd (upd (upd (upd (fun _ => 0) 0 (0 : Int32)) 1 (1 : Int32)) 2 (2 : Int32)) 3 (3 : Int32)) 4 (4 : Int32)))), (q4, .inl (cA, 40, .inl (fun _ => 0)))]) C 3 0 rfl rfl (by unfold vp_in; decide) rfl dX7_init_73 ?_
  refine mv_iinc (v := (5 : Int32)) (lv1 := [(1, .int (5 : Int32)), (0, .ref h0)]) C dX7_init_74 0 rfl (by decide) (by decide) rfl ?_
  refine mv_goto (tgt := 38) C dX7_init_77 (by decide) ?_
  refine mv_iload_n C dX7_init_38 rfl 0 rfl ?_
  refine mv_getsN C hs.2.1 (hs.1 _ nw_1) dX7_init_39 ?_
  refine mv_tlen (v := (8 : Int32)) C hs.2.2 (by decide) dX7_init_42 ?_
  refine mv_icmp_ge (tgt := 80) C dX7_init_43 (by decide) (fun h => absurd h (by decide)) (fun _ => ?_)
  refine mv_iload_n C dX7_init_46 rfl 0 rfl ?_
  refine mv_bipush (v := (40 : Int32)) C dX7_init_47 (by decide) ?_
  refine mv_icmp_ge (tgt := 80) C dX7_init_49 (by decide) (fun h => absurd h (by decide)) (fun _ => ?_)
  refine mv_aload_n C dX7_init_52 rfl 1 rfl ?_
  refine mv_get (v := .ref q1) C iw_X7_init_X7 0 rfl rfl 0 (by decide) lk_X7_init_9 rfl rfl dX7_init_53 ?_
  refine mv_iload_n C dX7_init_56 rfl 0 rfl ?_
  refine mv_getsN C hs.2.1 (hs.1 _ nw_1) dX7_init_57 ?_
  refine mv_iload_n C dX7_init_60 rfl 0 rfl ?_
  refine mv_ti (v := .int (298 : Int32)) C hs.2.2 (by unfold vp_in; decide) rfl dX7_init_61 ?_
  refine mv_iast (ws1 := [(h0, .inr (7, [.ref q1, .ref q2, .ref q3, .ref q4, .int 0, .int 0])), (q1, .inl (cA, 40, .inl (upd (upd (upd (upd (upd (upd (fun _ => 0) 0 (91758 : Int32)) 1 (92518 : Int32)) 2 (369 : Int32)) 3 (93299 : Int32)) 4 (299 : Int32)) 5 (298 : Int32)))), (q2, .inl (cA, 40, .inl (fun _ => 0))), (q3, .inl (cA, 40, .inl (upd (upd (upd (upd (upd (fun _ => 0) 0 (0 : Int32)) 1 (1 : Int32)) 2 (2 : Int32)) 3 (3 : Int32)) 4 (4 : Int32)))), (q4, .inl (cA, 40, .inl (fun _ => 0)))]) C 1 0 rfl rfl (by unfold vp_in; decide) rfl dX7_init_62 ?_
  refine mv_aload_n C dX7_init_63 rfl 1 rfl ?_
  refine mv_get (v := .ref q3) C iw_X7_init_X7 0 rfl rfl 2 (by decide) lk_X7_init_18 rfl rfl dX7_init_64 ?_
  refine mv_iload_n C dX7_init_67 rfl 0 rfl ?_
  refine mv_iload_n C dX7_init_68 rfl 0 rfl ?_
  refine mv_iconst (v := (4 : Int32)) C dX7_init_69 (by decide) ?_
  refine mv_mmin C ml_X7_init_27 ms_X7_init_min mi_X7_init_Math mc_X7_init_min (by show 1 ≤ lev; omega) (by show _ ≤ 64 * lev; exact Nat.le_trans (Nat.le_of_ble_eq_true rfl : _ ≤ 64) (by omega)) (by show _ ≤ 4; decide) (by show _ ≤ 160; decide) dX7_init_70 ?_
  refine mv_topv (v := (4 : Int32)) (by decide) ?_
  refine mv_iast (ws1 := [(h0, .inr (7, [.ref q1, .ref q2, .ref q3, .ref q4, .int 0, .int 0])), (q1, .inl (cA, 40, .inl (upd (upd (upd (upd (upd (upd (fun _ => 0) 0 (91758 : Int32)) 1 (92518 : Int32)) 2 (369 : Int32)) 3 (93299 : Int32)) 4 (299 : Int32)) 5 (298 : Int32)))), (q2, .inl (cA, 40, .inl (fun _ => 0))), (q3, .inl (cA, 40, .inl (upd (upd (upd (upd (upd (upd (fun _ => 0) 0 (0 : Int32)) 1 (1 : Int32)) 2 (2 : Int32)) 3 (3 : Int32)) 4 (4 : Int32)) 5 (4 : Int32)))), (q4, .inl (cA, 40, .inl (fun _ => 0)))]) C 3 0 rfl rfl (by unfold vp_in; decide) rfl dX7_init_73 ?_
  refine mv_iinc (v := (6 : Int32)) (lv1 := [(1, .int (6 : Int32)), (0, .ref h0)]) C dX7_init_74 0 rfl (by decide) (by decide) rfl ?_
  refine mv_goto (tgt := 38) C dX7_init_77 (by decide) ?_
  refine mv_iload_n C dX7_init_38 rfl 0 rfl ?_
  refine mv_getsN C hs.2.1 (hs.1 _ nw_1) dX7_init_39 ?_
  refine mv_tlen (v := (8 : Int32)) C hs.2.2 (by decide) dX7_init_42 ?_
  refine mv_icmp_ge (tgt := 80) C dX7_init_43 (by decide) (fun h => absurd h (by decide)) (fun _ => ?_)
  refine mv_iload_n C dX7_init_46 rfl 0 rfl ?_
  refine mv_bipush (v := (40 : Int32)) C dX7_init_47 (by decide) ?_
  refine mv_icmp_ge (tgt := 80) C dX7_init_49 (by decide) (fun h => absurd h (by decide)) (fun _ => ?_)
  refine mv_aload_n C dX7_init_52 rfl 1 rfl ?_
  refine mv_get (v := .ref q1) C iw_X7_init_X7 0 rfl rfl 0 (by decide) lk_X7_init_9 rfl rfl dX7_init_53 ?_
  refine mv_iload_n C dX7_init_56 rfl 0 rfl ?_
  refine mv_getsN C hs.2.1 (hs.1 _ nw_1) dX7_init_57 ?_
  refine mv_iload_n C dX7_init_60 rfl 0 rfl ?_
  refine mv_ti (v := .int (317 : Int32)) C hs.2.2 (by unfold vp_in; decide) rfl dX7_init_61 ?_
  refine mv_iast (ws1 := [(h0, .inr (7, [.ref q1, .ref q2, .ref q3, .ref q4, .int 0, .int 0])), (q1, .inl (cA, 40, .inl (upd (upd (upd (upd (upd (upd (upd (fun _ => 0) 0 (91758 : Int32)) 1 (92518 : Int32)) 2 (369 : Int32)) 3 (93299 : Int32)) 4 (299 : Int32)) 5 (298 : Int32)) 6 (317 : Int32)))), (q2, .inl (cA, 40, .inl (fun _ => 0))), (q3, .inl (cA, 40, .inl (upd (upd (upd (upd (upd (upd (fun _ => 0) 0 (0 : Int32)) 1 (1 : Int32)) 2 (2 : Int32)) 3 (3 : Int32)) 4 (4 : Int32)) 5 (4 : Int32)))), (q4, .inl (cA, 40, .inl (fun _ => 0)))]) C 1 0 rfl rfl (by unfold vp_in; decide) rfl dX7_init_62 ?_
  refine mv_aload_n C dX7_init_63 rfl 1 rfl ?_
  refine mv_get (v := .ref q3) C iw_X7_init_X7 0 rfl rfl 2 (by decide) lk_X7_init_18 rfl rfl dX7_init_64 ?_
  refine mv_iload_n C dX7_init_67 rfl 0 rfl ?_
  refine mv_iload_n C dX7_init_68 rfl 0 rfl ?_
  refine mv_iconst (v := (4 : Int32)) C dX7_init_69 (by decide) ?_
  refine mv_mmin C ml_X7_init_27 ms_X7_init_min mi_X7_init_Math mc_X7_init_min (by show 1 ≤ lev; omega) (by show _ ≤ 64 * lev; exact Nat.le_trans (Nat.le_of_ble_eq_true rfl : _ ≤ 64) (by omega)) (by show _ ≤ 4; decide) (by show _ ≤ 160; decide) dX7_init_70 ?_
  refine mv_topv (v := (4 : Int32)) (by decide) ?_
  refine mv_iast (ws1 := [(h0, .inr (7, [.ref q1, .ref q2, .ref q3, .ref q4, .int 0, .int 0])), (q1, .inl (cA, 40, .inl (upd (upd (upd (upd (upd (upd (upd (fun _ => 0) 0 (91758 : Int32)) 1 (92518 : Int32)) 2 (369 : Int32)) 3 (93299 : Int32)) 4 (299 : Int32)) 5 (298 : Int32)) 6 (317 : Int32)))), (q2, .inl (cA, 40, .inl (fun _ => 0))), (q3, .inl (cA, 40, .inl (upd (upd (upd (upd (upd (upd (upd (fun _ => 0) 0 (0 : Int32)) 1 (1 : Int32)) 2 (2 : Int32)) 3 (3 : Int32)) 4 (4 : Int32)) 5 (4 : Int32)) 6 (4 : Int32)))), (q4, .inl (cA, 40, .inl (fun _ => 0)))]) C 3 0 rfl rfl (by unfold vp_in; decide) rfl dX7_init_73 ?_
  refine mv_iinc (v := (7 : Int32)) (lv1 := [(1, .int (7 : Int32)), (0, .ref h0)]) C dX7_init_74 0 rfl (by decide) (by decide) rfl ?_
  refine mv_goto (tgt := 38) C dX7_init_77 (by decide) ?_
  refine mv_iload_n C dX7_init_38 rfl 0 rfl ?_
  refine mv_getsN C hs.2.1 (hs.1 _ nw_1) dX7_init_39 ?_
  refine mv_tlen (v := (8 : Int32)) C hs.2.2 (by decide) dX7_init_42 ?_
  refine mv_icmp_ge (tgt := 80) C dX7_init_43 (by decide) (fun h => absurd h (by decide)) (fun _ => ?_)
  refine mv_iload_n C dX7_init_46 rfl 0 rfl ?_
  refine mv_bipush (v := (40 : Int32)) C dX7_init_47 (by decide) ?_
  refine mv_icmp_ge (tgt := 80) C dX7_init_49 (by decide) (fun h => absurd h (by decide)) (fun _ => ?_)
  refine mv_aload_n C dX7_init_52 rfl 1 rfl ?_
  refine mv_get (v := .ref q1) C iw_X7_init_X7 0 rfl rfl 0 (by decide) lk_X7_init_9 rfl rfl dX7_init_53 ?_
  refine mv_iload_n C dX7_init_56 rfl 0 rfl ?_
  refine mv_getsN C hs.2.1 (hs.1 _ nw_1) dX7_init_57 ?_
  refine mv_iload_n C dX7_init_60 rfl 0 rfl ?_
  refine mv_ti (v := .int (316 : Int32)) C hs.2.2 (by unfold vp_in; decide) rfl dX7_init_61 ?_
  refine mv_iast (ws1 := [(h0, .inr (7, [.ref q1, .ref q2, .ref q3, .ref q4, .int 0, .int 0])), (q1, .inl (cA, 40, .inl (upd (upd (upd (upd (upd (upd (upd (upd (fun _ => 0) 0 (91758 : Int32)) 1 (92518 : Int32)) 2 (369 : Int32)) 3 (93299 : Int32)) 4 (299 : Int32)) 5 (298 : Int32)) 6 (317 : Int32)) 7 (316 : Int32)))), (q2, .inl (cA, 40, .inl (fun _ => 0))), (q3, .inl (cA, 40, .inl (upd (upd (upd (upd (upd (upd (upd (fun _ => 0) 0 (0 : Int32)) 1 (1 : Int32)) 2 (2 : Int32)) 3 (3 : Int32)) 4 (4 : Int32)) 5 (4 : Int32)) 6 (4 : Int32)))), (q4, .inl (cA, 40, .inl (fun _ => 0)))]) C 1 0 rfl rfl (by unfold vp_in; decide) rfl dX7_init_62 ?_
  refine mv_aload_n C dX7_init_63 rfl 1 rfl ?_
  refine mv_get (v := .ref q3) C iw_X7_init_X7 0 rfl rfl 2 (by decide) lk_X7_init_18 rfl rfl dX7_init_64 ?_
  refine mv_iload_n C dX7_init_67 rfl 0 rfl ?_
  refine mv_iload_n C dX7_init_68 rfl 0 rfl ?_
  refine mv_iconst (v := (4 : Int32)) C dX7_init_69 (by decide) ?_
  refine mv_mmin C ml_X7_init_27 ms_X7_init_min mi_X7_init_Math mc_X7_init_min (by show 1 ≤ lev; omega) (by show _ ≤ 64 * lev; exact Nat.le_trans (Nat.le_of_ble_eq_true rfl : _ ≤ 64) (by omega)) (by show _ ≤ 4; decide) (by show _ ≤ 160; decide) dX7_init_70 ?_
  refine mv_topv (v := (4 : Int32)) (by decide) ?_
  refine mv_iast (ws1 := [(h0, .inr (7, [.ref q1, .ref q2, .ref q3, .ref q4, .int 0, .int 0])), (q1, .inl (cA, 40, .inl (upd (upd (upd (upd (upd (upd (upd (upd (fun _ => 0) 0 (91758 : Int32)) 1 (92518 : Int32)) 2 (369 : Int32)) 3 (93299 : Int32)) 4 (299 : Int32)) 5 (298 : Int32)) 6 (317 : Int32)) 7 (316 : Int32)))), (q2, .inl (cA, 40, .inl (fun _ => 0))), (q3, .inl (cA, 40, .inl (upd (upd (upd (upd (upd (upd (upd (upd (fun _ => 0) 0 (0 : Int32)) 1 (1 : Int32)) 2 (2 : Int32)) 3 (3 : Int32)) 4 (4 : Int32)) 5 (4 : Int32)) 6 (4 : Int32)) 7 (4 : Int32)))), (q4, .inl (cA, 40, .inl (fun _ => 0)))]) C 3 0 rfl rfl (by unfold vp_in; decide) rfl dX7_init_73 ?_
  refine mv_iinc (v := (8 : Int32)) (lv1 := [(1, .int (8 : Int32)), (0, .ref h0)]) C dX7_init_74 0 rfl (by decide) (by decide) rfl ?_
  refine mv_goto (tgt := 38) C dX7_init_77 (by decide) ?_
  refine mv_iload_n C dX7_init_38 rfl 0 rfl ?_
  refine mv_getsN C hs.2.1 (hs.1 _ nw_1) dX7_init_39 ?_
  refine mv_tlen (v := (8 : Int32)) C hs.2.2 (by decide) dX7_init_42 ?_
  refine mv_icmp_ge (tgt := 80) C dX7_init_43 (by decide) (fun _ => ?_) (fun h => absurd (by decide) h)
  refine mv_aload_n C dX7_init_80 rfl 1 rfl ?_
  refine mv_getsN C hs.2.1 (hs.1 _ nw_1) dX7_init_81 ?_
  refine mv_tlen (v := (8 : Int32)) C hs.2.2 (by decide) dX7_init_84 ?_
  refine mv_put (ty := .int) (ws1 := [(h0, .inr (7, [.ref q1, .ref q2, .ref q3, .ref q4, .int (8 : Int32), .int 0])), (q1, .inl (cA, 40, .inl (upd (upd (upd (upd (upd (upd (upd (upd (fun _ => 0) 0 (91758 : Int32)) 1 (92518 : Int32)) 2 (369 : Int32)) 3 (93299 : Int32)) 4 (299 : Int32)) 5 (298 : Int32)) 6 (317 : Int32)) 7 (316 : Int32)))), (q2, .inl (cA, 40, .inl (fun _ => 0))), (q3, .inl (cA, 40, .inl (upd (upd (upd (upd (upd (upd (upd (upd (fun _ => 0) 0 (0 : Int32)) 1 (1 : Int32)) 2 (2 : Int32)) 3 (3 : Int32)) 4 (4 : Int32)) 5 (4 : Int32)) 6 (4 : Int32)) 7 (4 : Int32)))), (q4, .inl (cA, 40, .inl (fun _ => 0)))]) C iw_X7_init_X7 tyX7 tyX7_ok nmX7 0 rfl rfl 4 (by decide) lk_X7_init_33 rfl rfl rfl rfl rfl (Nat.le_of_ble_eq_true rfl) rfl dX7_init_85 ?_
  exact mv_cret C (fun k => match k with | 0 => q1 | 1 => q2 | 2 => q3 | 3 => q4 | _ => 0) trivial rfl dX7_init_88
set_option maxHeartbeats 4000000 in
set_option maxRecDepth 100000 in
theorem X2_init_met (hlev : 1 ≤ lev) (h0 : Nat) : mKc l yX2_init wsX2_init lev 1 200 (eA a) (dC, dI) vwCl [(cA, .int)] [(h0, .inr (2, [.null, .int 0, .int 0]))] [.ref h0] (fun _ => True) (fun z => [(h0, .inr (2, [.ref (z 0), .int 0, .int 0])), (z 0, .inl (cA, 200, .inl (fun _ => 0)))]) := by
  refine mKc_of (cc := cX2_init) (maxL := 1) (by decide) rfl rfl (Nat.le_of_ble_eq_true rfl) rfl ?_
  intro p e s m args below meth c A C hs hinit
  refine mv_aload_n C dX2_init_0 rfl 0 rfl ?_
  refine mv_objInit C (by decide +kernel) (by decide +kernel) (by decide +kernel) dX2_init_1 (by show 1 ≤ lev; omega) (by show _ ≤ 64 * lev; exact Nat.le_trans (Nat.le_of_ble_eq_true rfl : _ ≤ 64) (by omega)) ?_
  refine mv_aload_n C dX2_init_4 rfl 0 rfl ?_
  refine mv_sipush (v := (200 : Int32)) C dX2_init_5 (by decide) ?_
  refine mv_newa (N := 200) C (by decide +kernel) (by decide) (by decide) (by decide) (by show _ ≤ 1; decide) (by show _ ≤ 200; decide) dX2_init_8 (fun q1 => ?_)
  refine mv_ws (ws1 := [(h0, .inr (2, [.null, .int 0, .int 0])), (q1, .inl (cA, 200, .inl (fun _ => 0)))]) rfl ?_
  refine mv_putF (ty := (.array .int)) (ws1 := [(h0, .inr (2, [.ref q1, .int 0, .int 0])), (q1, .inl (cA, 200, .inl (fun _ => 0)))]) C hinit iw_X2_init_X2 tyX2 tyX2_ok nmX2 0 rfl rfl 0 (by decide) lk_X2_init_9 rfl rfl rfl rfl rfl rfl (Nat.le_of_ble_eq_true rfl) rfl dX2_init_10 ?_
  exact mv_cret C (fun k => match k with | 0 => q1 | _ => 0) trivial rfl dX2_init_13
set_option maxHeartbeats 4000000 in
set_option maxRecDepth 100000 in
theorem X0_init_met (hlev : 3 ≤ lev) (h0 h1 h2 h3 h4 : Nat) : mKc l yX0_init wsX0_init lev 5 16 (eA a) (dC, dI) vwCl [(cA, .int)] [(h0, .inr (0, [.null, .null, .null, .null, .null, .int 0, .int 0, .int 0, .int 0]))] [.ref h0, .ref h1, .ref h2, .ref h3, .ref h4] (fun _ => True) (fun z => [(h0, .inr (0, [.ref h1, .ref h2, .ref h3, .ref h4, .ref (z 0), .int 0, .int 0, .int 0, .int 0])), (z 0, .inr (1, [.ref h1, .ref h4, .ref (z 1), .int 0, .int 0, .int 0])), (z 1, .inr (4, [.ref (z 2), .ref (z 3), .ref (z 4), .int 0])), (z 2, .inl (cA, 2, .inl (fun _ => 0))), (z 3, .inl (cA, 2, .inl (fun _ => 0))), (z 4, .inl (cA, 2, .inl (fun _ => 0)))]) := by
  refine mKc_of (cc := cX0_init) (maxL := 5) (by decide) rfl rfl (Nat.le_of_ble_eq_true rfl) rfl ?_
  intro p e s m args below meth c A C hs hinit
  refine mv_aload_n C dX0_init_0 rfl 0 rfl ?_
  refine mv_objInit C (by decide +kernel) (by decide +kernel) (by decide +kernel) dX0_init_1 (by show 1 ≤ lev; omega) (by show _ ≤ 64 * lev; exact Nat.le_trans (Nat.le_of_ble_eq_true rfl : _ ≤ 64) (by omega)) ?_
  refine mv_aload_n C dX0_init_4 rfl 0 rfl ?_
  refine mv_aload_n C dX0_init_5 rfl 1 rfl ?_
  refine mv_putF (ty := (.object "MarkedNames$Row")) (ws1 := [(h0, .inr (0, [.ref h1, .null, .null, .null, .null, .int 0, .int 0, .int 0, .int 0]))]) C hinit iw_X0_init_X0 tyX0 tyX0_ok nmX0 0 rfl rfl 0 (by decide) lk_X0_init_9 rfl rfl rfl rfl rfl rfl (Nat.le_of_ble_eq_true rfl) rfl dX0_init_6 ?_
  refine mv_aload_n C dX0_init_9 rfl 0 rfl ?_
  refine mv_aload_n C dX0_init_10 rfl 2 rfl ?_
  refine mv_putF (ty := (.object "MarkedNames$RuleCheck")) (ws1 := [(h0, .inr (0, [.ref h1, .ref h2, .null, .null, .null, .int 0, .int 0, .int 0, .int 0]))]) C hinit iw_X0_init_X0 tyX0 tyX0_ok nmX0 0 rfl rfl 1 (by decide) lk_X0_init_15 rfl rfl rfl rfl rfl rfl (Nat.le_of_ble_eq_true rfl) rfl dX0_init_11 ?_
  refine mv_aload_n C dX0_init_14 rfl 0 rfl ?_
  refine mv_aload_n C dX0_init_15 rfl 3 rfl ?_
  refine mv_putF (ty := (.object "MarkedNames$Table")) (ws1 := [(h0, .inr (0, [.ref h1, .ref h2, .ref h3, .null, .null, .int 0, .int 0, .int 0, .int 0]))]) C hinit iw_X0_init_X0 tyX0 tyX0_ok nmX0 0 rfl rfl 2 (by decide) lk_X0_init_19 rfl rfl rfl rfl rfl rfl (Nat.le_of_ble_eq_true rfl) rfl dX0_init_16 ?_
  refine mv_aload_n C dX0_init_19 rfl 0 rfl ?_
  refine mv_aload C dX0_init_20 4 rfl ?_
  refine mv_putF (ty := (.object "MarkedNames$Outcome")) (ws1 := [(h0, .inr (0, [.ref h1, .ref h2, .ref h3, .ref h4, .null, .int 0, .int 0, .int 0, .int 0]))]) C hinit iw_X0_init_X0 tyX0 tyX0_ok nmX0 0 rfl rfl 3 (by decide) lk_X0_init_23 rfl rfl rfl rfl rfl rfl (Nat.le_of_ble_eq_true rfl) rfl dX0_init_22 ?_
  refine mv_aload_n C dX0_init_25 rfl 0 rfl ?_
  refine mv_new (C0 := RX1) (T := TX1) (N := 6) (ci := 1) (fs := [.null, .null, .null, .int 0, .int 0, .int 0]) C iw_X0_init_X1 tyX1 tyX1_ok (by decide +kernel) (by decide +kernel) (by decide +kernel) rfl (fun j hj => by rcases (show j = 0 ∨ j = 1 ∨ j = 2 ∨ j = 3 ∨ j = 4 ∨ j = 5 by omega) with rfl | rfl | rfl | rfl | rfl | rfl <;> rfl) (by show _ ≤ 5; decide) (by show _ ≤ 16; decide) dX0_init_26 (fun q1 => ?_)
  refine mv_ws (ws1 := [(h0, .inr (0, [.ref h1, .ref h2, .ref h3, .ref h4, .null, .int 0, .int 0, .int 0, .int 0])), (q1, .inr (1, [.null, .null, .null, .int 0, .int 0, .int 0]))]) rfl ?_
  refine mv_dup C dX0_init_29 rfl ?_
  refine mv_aload_n C dX0_init_30 rfl 1 rfl ?_
  refine mv_aload C dX0_init_31 4 rfl ?_
  refine mv_callI (As := [.ref h1, .ref h4]) (rest := [.ref q1, .ref h0]) (wr := [(h0, .inr (0, [.ref h1, .ref h2, .ref h3, .ref h4, .null, .int 0, .int 0, .int 0, .int 0]))]) C (eA_ok a) hs 1 [0] rfl rfl (by decide) (by decide) (X1_init_met (l := l) (lev := lev - 1) (by omega) q1 h1 h4) (cwI 2 C.2.2.2.2.1 gX0_init_X1_init rfl rfl rfl (C.2.2.2.2.1 (.initialized RX1) (by decide +kernel)) (C.2.2.2.2.1 (.methodLink RX0 29 yX1_init) (by decide +kernel)) (C.2.2.2.2.1 (.instanceMethod yX1_init) (by decide +kernel)) rfl (by decide +kernel) (mRc_le (by omega) (by decide))) rfl rfl (Nat.le_of_ble_eq_true rfl) dX0_init_33 ⟨(by show _ ≤ 5; decide), (by show _ ≤ 16; decide)⟩ (fun z2 hz2 => ?_)
  refine mv_ws (ws1 := [(h0, .inr (0, [.ref h1, .ref h2, .ref h3, .ref h4, .null, .int 0, .int 0, .int 0, .int 0])), (q1, .inr (1, [.ref h1, .ref h4, .ref (z2 0), .int 0, .int 0, .int 0])), (z2 0, .inr (4, [.ref (z2 1), .ref (z2 2), .ref (z2 3), .int 0])), (z2 1, .inl (cA, 2, .inl (fun _ => 0))), (z2 2, .inl (cA, 2, .inl (fun _ => 0))), (z2 3, .inl (cA, 2, .inl (fun _ => 0)))]) rfl ?_
  refine mv_putF (ty := (.object "MarkedNames$Filler")) (ws1 := [(h0, .inr (0, [.ref h1, .ref h2, .ref h3, .ref h4, .ref q1, .int 0, .int 0, .int 0, .int 0])), (q1, .inr (1, [.ref h1, .ref h4, .ref (z2 0), .int 0, .int 0, .int 0])), (z2 0, .inr (4, [.ref (z2 1), .ref (z2 2), .ref (z2 3), .int 0])), (z2 1, .inl (cA, 2, .inl (fun _ => 0))), (z2 2, .inl (cA, 2, .inl (fun _ => 0))), (z2 3, .inl (cA, 2, .inl (fun _ => 0)))]) C hinit iw_X0_init_X0 tyX0 tyX0_ok nmX0 0 rfl rfl 4 (by decide) lk_X0_init_32 rfl rfl rfl rfl rfl rfl (Nat.le_of_ble_eq_true rfl) rfl dX0_init_36 ?_
  exact mv_cret C (fun k => match k with | 0 => q1 | 1 => z2 0 | 2 => z2 1 | 3 => z2 2 | 4 => z2 3 | _ => 0) trivial rfl dX0_init_39
set_option maxHeartbeats 4000000 in
set_option maxRecDepth 100000 in
theorem X8_init_met (hlev : 4 ≤ lev) (h0 : Nat) : mKc l yX8_init wsX8_init lev 21 12523 (eA a) (dC, dI) vwCl [(cA, .int)] [(h0, .inr (8, [.null, .int 0, .null, .null, .null, .null, .null, .null]))] [.ref h0] (fun z => z 0 = h0 ∧ z 22 = a 22) (fun z => wA cA z uA0) := by
  refine mKc_of (cc := cX8_init) (maxL := 1) (by decide) rfl rfl (Nat.le_of_ble_eq_true rfl) rfl ?_
  intro p e s m args below meth c A C hs hinit
  refine mv_aload_n C dX8_init_0 rfl 0 rfl ?_
  refine mv_objInit C (by decide +kernel) (by decide +kernel) (by decide +kernel) dX8_init_1 (by show 1 ≤ lev; omega) (by show _ ≤ 64 * lev; exact Nat.le_trans (Nat.le_of_ble_eq_true rfl : _ ≤ 64) (by omega)) ?_
  refine mv_aload_n C dX8_init_4 rfl 0 rfl ?_
  refine mv_bipush (v := (120 : Int32)) C dX8_init_5 (by decide) ?_
  refine mv_newa (N := 120) C (by decide +kernel) (by decide) (by decide) (by decide) (by show _ ≤ 21; decide) (by show _ ≤ 12523; decide) dX8_init_7 (fun q1 => ?_)
  refine mv_ws (ws1 := [(h0, .inr (8, [.null, .int 0, .null, .null, .null, .null, .null, .null])), (q1, .inl (cA, 120, .inl (fun _ => 0)))]) rfl ?_
  refine mv_putF (ty := (.array .int)) (ws1 := [(h0, .inr (8, [.ref q1, .int 0, .null, .null, .null, .null, .null, .null])), (q1, .inl (cA, 120, .inl (fun _ => 0)))]) C hinit iw_X8_init_X8 tyX8 tyX8_ok nmX8 0 rfl rfl 0 (by decide) lk_X8_init_9 rfl rfl rfl rfl rfl rfl (Nat.le_of_ble_eq_true rfl) rfl dX8_init_9 ?_
  refine mv_aload_n C dX8_init_12 rfl 0 rfl ?_
  refine mv_new (C0 := RX5) (T := TX5) (N := 6) (ci := 5) (fs := [.null, .null, .null, .null, .int 0, .int 0]) C iw_X8_init_X5 tyX5 tyX5_ok (by decide +kernel) (by decide +kernel) (by decide +kernel) rfl (fun j hj => by rcases (show j = 0 ∨ j = 1 ∨ j = 2 ∨ j = 3 ∨ j = 4 ∨ j = 5 by omega) with rfl | rfl | rfl | rfl | rfl | rfl <;> rfl) (by show _ ≤ 21; decide) (by show _ ≤ 12523; decide) dX8_init_13 (fun q2 => ?_)
  refine mv_ws (ws1 := [(h0, .inr (8, [.ref q1, .int 0, .null, .null, .null, .null, .null, .null])), (q1, .inl (cA, 120, .inl (fun _ => 0))), (q2, .inr (5, [.null, .null, .null, .null, .int 0, .int 0]))]) rfl ?_
  refine mv_dup C dX8_init_16 rfl ?_
  refine mv_callIN (As := []) (rest := [.ref q2, .ref h0]) (wr := [(h0, .inr (8, [.ref q1, .int 0, .null, .null, .null, .null, .null, .null])), (q1, .inl (cA, 120, .inl (fun _ => 0)))]) C (eA_ok a) hs 2 [0, 1] rfl rfl (by decide) (by decide) (X5_init_met (l := l) (lev := lev - 1) (by omega) q2) ⟨va_cnB 0 C.2.2.2.2.1 ggX8_init_X5_init rfl rfl rfl (hs.1 _ nw_12) (C.2.2.2.2.1 _ (by decide +kernel)) (by decide +kernel) (mRc_le (by omega) (by decide)), rfl, C.2.2.2.2.1 _ (by decide +kernel)⟩ rfl rfl (Nat.le_of_ble_eq_true rfl) dX8_init_17 ⟨(by show _ ≤ 21; decide), (by show _ ≤ 12523; decide)⟩ (fun z3 hz3 => ?_)
  refine mv_ws (ws1 := [(h0, .inr (8, [.ref q1, .int 0, .null, .null, .null, .null, .null, .null])), (q1, .inl (cA, 120, .inl (fun _ => 0))), (q2, .inr (5, [.ref (z3 0), .ref (z3 1), .ref (z3 2), .ref (z3 3), .int (480 : Int32), .int (-1 : Int32)])), (z3 0, .inl (cA, 3000, .inl (fun _ => 0))), (z3 1, .inl (cA, 3000, .inl (fun _ => 0))), (z3 2, .inl (cA, 3000, .inl (fun _ => 0))), (z3 3, .inl (cA, 3000, .inl (fun _ => 0)))]) rfl ?_
  refine mv_putF (ty := (.object "MarkedNames$Row")) (ws1 := [(h0, .inr (8, [.ref q1, .int 0, .ref q2, .null, .null, .null, .null, .null])), (q1, .inl (cA, 120, .inl (fun _ => 0))), (q2, .inr (5, [.ref (z3 0), .ref (z3 1), .ref (z3 2), .ref (z3 3), .int (480 : Int32), .int (-1 : Int32)])), (z3 0, .inl (cA, 3000, .inl (fun _ => 0))), (z3 1, .inl (cA, 3000, .inl (fun _ => 0))), (z3 2, .inl (cA, 3000, .inl (fun _ => 0))), (z3 3, .inl (cA, 3000, .inl (fun _ => 0)))]) C hinit iw_X8_init_X8 tyX8 tyX8_ok nmX8 0 rfl rfl 2 (by decide) lk_X8_init_16 rfl rfl rfl rfl rfl rfl (Nat.le_of_ble_eq_true rfl) rfl dX8_init_20 ?_
  refine mv_aload_n C dX8_init_23 rfl 0 rfl ?_
  refine mv_new (C0 := RX3) (T := TX3) (N := 2) (ci := 3) (fs := [.null, .int 0]) C iw_X8_init_X3 tyX3 tyX3_ok (by decide +kernel) (by decide +kernel) (by decide +kernel) rfl (fun j hj => by rcases (show j = 0 ∨ j = 1 by omega) with rfl | rfl <;> rfl) (by show _ ≤ 21; decide) (by show _ ≤ 12523; decide) dX8_init_24 (fun q4 => ?_)
  refine mv_ws (ws1 := [(h0, .inr (8, [.ref q1, .int 0, .ref q2, .null, .null, .null, .null, .null])), (q1, .inl (cA, 120, .inl (fun _ => 0))), (q2, .inr (5, [.ref (z3 0), .ref (z3 1), .ref (z3 2), .ref (z3 3), .int (480 : Int32), .int (-1 : Int32)])), (z3 0, .inl (cA, 3000, .inl (fun _ => 0))), (z3 1, .inl (cA, 3000, .inl (fun _ => 0))), (z3 2, .inl (cA, 3000, .inl (fun _ => 0))), (z3 3, .inl (cA, 3000, .inl (fun _ => 0))), (q4, .inr (3, [.null, .int 0]))]) rfl ?_
  refine mv_dup C dX8_init_27 rfl ?_
  refine mv_aload_n C dX8_init_28 rfl 0 rfl ?_
  refine mv_get (v := .ref q2) C iw_X8_init_X8 0 rfl rfl 2 (by decide) lk_X8_init_16 rfl rfl dX8_init_29 ?_
  refine mv_callI (As := [.ref q2]) (rest := [.ref q4, .ref h0]) (wr := [(h0, .inr (8, [.ref q1, .int 0, .ref q2, .null, .null, .null, .null, .null])), (q1, .inl (cA, 120, .inl (fun _ => 0))), (q2, .inr (5, [.ref (z3 0), .ref (z3 1), .ref (z3 2), .ref (z3 3), .int (480 : Int32), .int (-1 : Int32)])), (z3 0, .inl (cA, 3000, .inl (fun _ => 0))), (z3 1, .inl (cA, 3000, .inl (fun _ => 0))), (z3 2, .inl (cA, 3000, .inl (fun _ => 0))), (z3 3, .inl (cA, 3000, .inl (fun _ => 0)))]) C (eA_ok a) hs 7 [0, 1, 2, 3, 4, 5, 6] rfl rfl (by decide) (by decide) (X3_init_met (l := l) (lev := lev - 1) (by omega) q4 q2) (cwI 1 C.2.2.2.2.1 gX8_init_X3_init rfl rfl rfl (C.2.2.2.2.1 (.initialized RX3) (by decide +kernel)) (C.2.2.2.2.1 (.methodLink RX8 22 yX3_init) (by decide +kernel)) (C.2.2.2.2.1 (.instanceMethod yX3_init) (by decide +kernel)) rfl (by decide +kernel) (mRc_le (by omega) (by decide))) rfl rfl (Nat.le_of_ble_eq_true rfl) dX8_init_32 ⟨(by show _ ≤ 21; decide), (by show _ ≤ 12523; decide)⟩ (fun z5 hz5 => ?_)
  refine mv_ws (ws1 := [(h0, .inr (8, [.ref q1, .int 0, .ref q2, .null, .null, .null, .null, .null])), (q1, .inl (cA, 120, .inl (fun _ => 0))), (q2, .inr (5, [.ref (z3 0), .ref (z3 1), .ref (z3 2), .ref (z3 3), .int (480 : Int32), .int (-1 : Int32)])), (z3 0, .inl (cA, 3000, .inl (fun _ => 0))), (z3 1, .inl (cA, 3000, .inl (fun _ => 0))), (z3 2, .inl (cA, 3000, .inl (fun _ => 0))), (z3 3, .inl (cA, 3000, .inl (fun _ => 0))), (q4, .inr (3, [.ref q2, .int 0]))]) rfl ?_
  refine mv_putF (ty := (.object "MarkedNames$Reader")) (ws1 := [(h0, .inr (8, [.ref q1, .int 0, .ref q2, .ref q4, .null, .null, .null, .null])), (q1, .inl (cA, 120, .inl (fun _ => 0))), (q2, .inr (5, [.ref (z3 0), .ref (z3 1), .ref (z3 2), .ref (z3 3), .int (480 : Int32), .int (-1 : Int32)])), (z3 0, .inl (cA, 3000, .inl (fun _ => 0))), (z3 1, .inl (cA, 3000, .inl (fun _ => 0))), (z3 2, .inl (cA, 3000, .inl (fun _ => 0))), (z3 3, .inl (cA, 3000, .inl (fun _ => 0))), (q4, .inr (3, [.ref q2, .int 0]))]) C hinit iw_X8_init_X8 tyX8 tyX8_ok nmX8 0 rfl rfl 3 (by decide) lk_X8_init_25 rfl rfl rfl rfl rfl rfl (Nat.le_of_ble_eq_true rfl) rfl dX8_init_35 ?_
  refine mv_aload_n C dX8_init_38 rfl 0 rfl ?_
  refine mv_new (C0 := RX6) (T := TX6) (N := 1) (ci := 6) (fs := [.null]) C iw_X8_init_X6 tyX6 tyX6_ok (by decide +kernel) (by decide +kernel) (by decide +kernel) rfl (fun j hj => by rcases (show j = 0 by omega) with rfl <;> rfl) (by show _ ≤ 21; decide) (by show _ ≤ 12523; decide) dX8_init_39 (fun q6 => ?_)
  refine mv_ws (ws1 := [(h0, .inr (8, [.ref q1, .int 0, .ref q2, .ref q4, .null, .null, .null, .null])), (q1, .inl (cA, 120, .inl (fun _ => 0))), (q2, .inr (5, [.ref (z3 0), .ref (z3 1), .ref (z3 2), .ref (z3 3), .int (480 : Int32), .int (-1 : Int32)])), (z3 0, .inl (cA, 3000, .inl (fun _ => 0))), (z3 1, .inl (cA, 3000, .inl (fun _ => 0))), (z3 2, .inl (cA, 3000, .inl (fun _ => 0))), (z3 3, .inl (cA, 3000, .inl (fun _ => 0))), (q4, .inr (3, [.ref q2, .int 0])), (q6, .inr (6, [.null]))]) rfl ?_
  refine mv_dup C dX8_init_42 rfl ?_
  refine mv_aload_n C dX8_init_43 rfl 0 rfl ?_
  refine mv_get (v := .ref q2) C iw_X8_init_X8 0 rfl rfl 2 (by decide) lk_X8_init_16 rfl rfl dX8_init_44 ?_
  refine mv_callI (As := [.ref q2]) (rest := [.ref q6, .ref h0]) (wr := [(h0, .inr (8, [.ref q1, .int 0, .ref q2, .ref q4, .null, .null, .null, .null])), (q1, .inl (cA, 120, .inl (fun _ => 0))), (q2, .inr (5, [.ref (z3 0), .ref (z3 1), .ref (z3 2), .ref (z3 3), .int (480 : Int32), .int (-1 : Int32)])), (z3 0, .inl (cA, 3000, .inl (fun _ => 0))), (z3 1, .inl (cA, 3000, .inl (fun _ => 0))), (z3 2, .inl (cA, 3000, .inl (fun _ => 0))), (z3 3, .inl (cA, 3000, .inl (fun _ => 0))), (q4, .inr (3, [.ref q2, .int 0]))]) C (eA_ok a) hs 8 [0, 1, 2, 3, 4, 5, 6, 7] rfl rfl (by decide) (by decide) (X6_init_met (l := l) (lev := lev - 1) (by omega) q6 q2) (cwI 1 C.2.2.2.2.1 gX8_init_X6_init rfl rfl rfl (C.2.2.2.2.1 (.initialized RX6) (by decide +kernel)) (C.2.2.2.2.1 (.methodLink RX8 31 yX6_init) (by decide +kernel)) (C.2.2.2.2.1 (.instanceMethod yX6_init) (by decide +kernel)) rfl (by decide +kernel) (mRc_le (by omega) (by decide))) rfl rfl (Nat.le_of_ble_eq_true rfl) dX8_init_47 ⟨(by show _ ≤ 21; decide), (by show _ ≤ 12523; decide)⟩ (fun z7 hz7 => ?_)
  refine mv_ws (ws1 := [(h0, .inr (8, [.ref q1, .int 0, .ref q2, .ref q4, .null, .null, .null, .null])), (q1, .inl (cA, 120, .inl (fun _ => 0))), (q2, .inr (5, [.ref (z3 0), .ref (z3 1), .ref (z3 2), .ref (z3 3), .int (480 : Int32), .int (-1 : Int32)])), (z3 0, .inl (cA, 3000, .inl (fun _ => 0))), (z3 1, .inl (cA, 3000, .inl (fun _ => 0))), (z3 2, .inl (cA, 3000, .inl (fun _ => 0))), (z3 3, .inl (cA, 3000, .inl (fun _ => 0))), (q4, .inr (3, [.ref q2, .int 0])), (q6, .inr (6, [.ref q2]))]) rfl ?_
  refine mv_putF (ty := (.object "MarkedNames$RuleCheck")) (ws1 := [(h0, .inr (8, [.ref q1, .int 0, .ref q2, .ref q4, .ref q6, .null, .null, .null])), (q1, .inl (cA, 120, .inl (fun _ => 0))), (q2, .inr (5, [.ref (z3 0), .ref (z3 1), .ref (z3 2), .ref (z3 3), .int (480 : Int32), .int (-1 : Int32)])), (z3 0, .inl (cA, 3000, .inl (fun _ => 0))), (z3 1, .inl (cA, 3000, .inl (fun _ => 0))), (z3 2, .inl (cA, 3000, .inl (fun _ => 0))), (z3 3, .inl (cA, 3000, .inl (fun _ => 0))), (q4, .inr (3, [.ref q2, .int 0])), (q6, .inr (6, [.ref q2]))]) C hinit iw_X8_init_X8 tyX8 tyX8_ok nmX8 0 rfl rfl 4 (by decide) lk_X8_init_32 rfl rfl rfl rfl rfl rfl (Nat.le_of_ble_eq_true rfl) rfl dX8_init_50 ?_
  refine mv_aload_n C dX8_init_53 rfl 0 rfl ?_
  refine mv_new (C0 := RX7) (T := TX7) (N := 6) (ci := 7) (fs := [.null, .null, .null, .null, .int 0, .int 0]) C iw_X8_init_X7 tyX7 tyX7_ok (by decide +kernel) (by decide +kernel) (by decide +kernel) rfl (fun j hj => by rcases (show j = 0 ∨ j = 1 ∨ j = 2 ∨ j = 3 ∨ j = 4 ∨ j = 5 by omega) with rfl | rfl | rfl | rfl | rfl | rfl <;> rfl) (by show _ ≤ 21; decide) (by show _ ≤ 12523; decide) dX8_init_54 (fun q8 => ?_)
  refine mv_ws (ws1 := [(h0, .inr (8, [.ref q1, .int 0, .ref q2, .ref q4, .ref q6, .null, .null, .null])), (q1, .inl (cA, 120, .inl (fun _ => 0))), (q2, .inr (5, [.ref (z3 0), .ref (z3 1), .ref (z3 2), .ref (z3 3), .int (480 : Int32), .int (-1 : Int32)])), (z3 0, .inl (cA, 3000, .inl (fun _ => 0))), (z3 1, .inl (cA, 3000, .inl (fun _ => 0))), (z3 2, .inl (cA, 3000, .inl (fun _ => 0))), (z3 3, .inl (cA, 3000, .inl (fun _ => 0))), (q4, .inr (3, [.ref q2, .int 0])), (q6, .inr (6, [.ref q2])), (q8, .inr (7, [.null, .null, .null, .null, .int 0, .int 0]))]) rfl ?_
  refine mv_dup C dX8_init_57 rfl ?_
  refine mv_callI (As := []) (rest := [.ref q8, .ref h0]) (wr := [(h0, .inr (8, [.ref q1, .int 0, .ref q2, .ref q4, .ref q6, .null, .null, .null])), (q1, .inl (cA, 120, .inl (fun _ => 0))), (q2, .inr (5, [.ref (z3 0), .ref (z3 1), .ref (z3 2), .ref (z3 3), .int (480 : Int32), .int (-1 : Int32)])), (z3 0, .inl (cA, 3000, .inl (fun _ => 0))), (z3 1, .inl (cA, 3000, .inl (fun _ => 0))), (z3 2, .inl (cA, 3000, .inl (fun _ => 0))), (z3 3, .inl (cA, 3000, .inl (fun _ => 0))), (q4, .inr (3, [.ref q2, .int 0])), (q6, .inr (6, [.ref q2]))]) C (eA_ok a) hs 9 [0, 1, 2, 3, 4, 5, 6, 7, 8] rfl rfl (by decide) (by decide) (X7_init_met (l := l) (lev := lev - 1) (by omega) q8) (cwI 0 C.2.2.2.2.1 gX8_init_X7_init rfl rfl rfl (C.2.2.2.2.1 (.initialized RX7) (by decide +kernel)) (C.2.2.2.2.1 (.methodLink RX8 38 yX7_init) (by decide +kernel)) (C.2.2.2.2.1 (.instanceMethod yX7_init) (by decide +kernel)) rfl (by decide +kernel) (mRc_le (by omega) (by decide))) rfl rfl (Nat.le_of_ble_eq_true rfl) dX8_init_58 ⟨(by show _ ≤ 21; decide), (by show _ ≤ 12523; decide)⟩ (fun z9 hz9 => ?_)
  refine mv_ws (ws1 := [(h0, .inr (8, [.ref q1, .int 0, .ref q2, .ref q4, .ref q6, .null, .null, .null])), (q1, .inl (cA, 120, .inl (fun _ => 0))), (q2, .inr (5, [.ref (z3 0), .ref (z3 1), .ref (z3 2), .ref (z3 3), .int (480 : Int32), .int (-1 : Int32)])), (z3 0, .inl (cA, 3000, .inl (fun _ => 0))), (z3 1, .inl (cA, 3000, .inl (fun _ => 0))), (z3 2, .inl (cA, 3000, .inl (fun _ => 0))), (z3 3, .inl (cA, 3000, .inl (fun _ => 0))), (q4, .inr (3, [.ref q2, .int 0])), (q6, .inr (6, [.ref q2])), (q8, .inr (7, [.ref (z9 0), .ref (z9 1), .ref (z9 2), .ref (z9 3), .int (8 : Int32), .int 0])), (z9 0, .inl (cA, 40, .inl (upd (upd (upd (upd (upd (upd (upd (upd (fun _ => 0) 0 (91758 : Int32)) 1 (92518 : Int32)) 2 (369 : Int32)) 3 (93299 : Int32)) 4 (299 : Int32)) 5 (298 : Int32)) 6 (317 : Int32)) 7 (316 : Int32)))), (z9 1, .inl (cA, 40, .inl (fun _ => 0))), (z9 2, .inl (cA, 40, .inl (upd (upd (upd (upd (upd (upd (upd (upd (fun _ => 0) 0 (0 : Int32)) 1 (1 : Int32)) 2 (2 : Int32)) 3 (3 : Int32)) 4 (4 : Int32)) 5 (4 : Int32)) 6 (4 : Int32)) 7 (4 : Int32)))), (z9 3, .inl (cA, 40, .inl (fun _ => 0)))]) rfl ?_
  refine mv_putF (ty := (.object "MarkedNames$Table")) (ws1 := [(h0, .inr (8, [.ref q1, .int 0, .ref q2, .ref q4, .ref q6, .ref q8, .null, .null])), (q1, .inl (cA, 120, .inl (fun _ => 0))), (q2, .inr (5, [.ref (z3 0), .ref (z3 1), .ref (z3 2), .ref (z3 3), .int (480 : Int32), .int (-1 : Int32)])), (z3 0, .inl (cA, 3000, .inl (fun _ => 0))), (z3 1, .inl (cA, 3000, .inl (fun _ => 0))), (z3 2, .inl (cA, 3000, .inl (fun _ => 0))), (z3 3, .inl (cA, 3000, .inl (fun _ => 0))), (q4, .inr (3, [.ref q2, .int 0])), (q6, .inr (6, [.ref q2])), (q8, .inr (7, [.ref (z9 0), .ref (z9 1), .ref (z9 2), .ref (z9 3), .int (8 : Int32), .int 0])), (z9 0, .inl (cA, 40, .inl (upd (upd (upd (upd (upd (upd (upd (upd (fun _ => 0) 0 (91758 : Int32)) 1 (92518 : Int32)) 2 (369 : Int32)) 3 (93299 : Int32)) 4 (299 : Int32)) 5 (298 : Int32)) 6 (317 : Int32)) 7 (316 : Int32)))), (z9 1, .inl (cA, 40, .inl (fun _ => 0))), (z9 2, .inl (cA, 40, .inl (upd (upd (upd (upd (upd (upd (upd (upd (fun _ => 0) 0 (0 : Int32)) 1 (1 : Int32)) 2 (2 : Int32)) 3 (3 : Int32)) 4 (4 : Int32)) 5 (4 : Int32)) 6 (4 : Int32)) 7 (4 : Int32)))), (z9 3, .inl (cA, 40, .inl (fun _ => 0)))]) C hinit iw_X8_init_X8 tyX8 tyX8_ok nmX8 0 rfl rfl 5 (by decide) lk_X8_init_39 rfl rfl rfl rfl rfl rfl (Nat.le_of_ble_eq_true rfl) rfl dX8_init_61 ?_
  refine mv_aload_n C dX8_init_64 rfl 0 rfl ?_
  refine mv_new (C0 := RX2) (T := TX2) (N := 3) (ci := 2) (fs := [.null, .int 0, .int 0]) C iw_X8_init_X2 tyX2 tyX2_ok (by decide +kernel) (by decide +kernel) (by decide +kernel) rfl (fun j hj => by rcases (show j = 0 ∨ j = 1 ∨ j = 2 by omega) with rfl | rfl | rfl <;> rfl) (by show _ ≤ 21; decide) (by show _ ≤ 12523; decide) dX8_init_65 (fun q10 => ?_)
  refine mv_ws (ws1 := [(h0, .inr (8, [.ref q1, .int 0, .ref q2, .ref q4, .ref q6, .ref q8, .null, .null])), (q1, .inl (cA, 120, .inl (fun _ => 0))), (q2, .inr (5, [.ref (z3 0), .ref (z3 1), .ref (z3 2), .ref (z3 3), .int (480 : Int32), .int (-1 : Int32)])), (z3 0, .inl (cA, 3000, .inl (fun _ => 0))), (z3 1, .inl (cA, 3000, .inl (fun _ => 0))), (z3 2, .inl (cA, 3000, .inl (fun _ => 0))), (z3 3, .inl (cA, 3000, .inl (fun _ => 0))), (q4, .inr (3, [.ref q2, .int 0])), (q6, .inr (6, [.ref q2])), (q8, .inr (7, [.ref (z9 0), .ref (z9 1), .ref (z9 2), .ref (z9 3), .int (8 : Int32), .int 0])), (z9 0, .inl (cA, 40, .inl (upd (upd (upd (upd (upd (upd (upd (upd (fun _ => 0) 0 (91758 : Int32)) 1 (92518 : Int32)) 2 (369 : Int32)) 3 (93299 : Int32)) 4 (299 : Int32)) 5 (298 : Int32)) 6 (317 : Int32)) 7 (316 : Int32)))), (z9 1, .inl (cA, 40, .inl (fun _ => 0))), (z9 2, .inl (cA, 40, .inl (upd (upd (upd (upd (upd (upd (upd (upd (fun _ => 0) 0 (0 : Int32)) 1 (1 : Int32)) 2 (2 : Int32)) 3 (3 : Int32)) 4 (4 : Int32)) 5 (4 : Int32)) 6 (4 : Int32)) 7 (4 : Int32)))), (z9 3, .inl (cA, 40, .inl (fun _ => 0))), (q10, .inr (2, [.null, .int 0, .int 0]))]) rfl ?_
  refine mv_dup C dX8_init_68 rfl ?_
  refine mv_callIN (As := []) (rest := [.ref q10, .ref h0]) (wr := [(h0, .inr (8, [.ref q1, .int 0, .ref q2, .ref q4, .ref q6, .ref q8, .null, .null])), (q1, .inl (cA, 120, .inl (fun _ => 0))), (q2, .inr (5, [.ref (z3 0), .ref (z3 1), .ref (z3 2), .ref (z3 3), .int (480 : Int32), .int (-1 : Int32)])), (z3 0, .inl (cA, 3000, .inl (fun _ => 0))), (z3 1, .inl (cA, 3000, .inl (fun _ => 0))), (z3 2, .inl (cA, 3000, .inl (fun _ => 0))), (z3 3, .inl (cA, 3000, .inl (fun _ => 0))), (q4, .inr (3, [.ref q2, .int 0])), (q6, .inr (6, [.ref q2])), (q8, .inr (7, [.ref (z9 0), .ref (z9 1), .ref (z9 2), .ref (z9 3), .int (8 : Int32), .int 0])), (z9 0, .inl (cA, 40, .inl (upd (upd (upd (upd (upd (upd (upd (upd (fun _ => 0) 0 (91758 : Int32)) 1 (92518 : Int32)) 2 (369 : Int32)) 3 (93299 : Int32)) 4 (299 : Int32)) 5 (298 : Int32)) 6 (317 : Int32)) 7 (316 : Int32)))), (z9 1, .inl (cA, 40, .inl (fun _ => 0))), (z9 2, .inl (cA, 40, .inl (upd (upd (upd (upd (upd (upd (upd (upd (fun _ => 0) 0 (0 : Int32)) 1 (1 : Int32)) 2 (2 : Int32)) 3 (3 : Int32)) 4 (4 : Int32)) 5 (4 : Int32)) 6 (4 : Int32)) 7 (4 : Int32)))), (z9 3, .inl (cA, 40, .inl (fun _ => 0)))]) C (eA_ok a) hs 14 [0, 1, 2, 3, 4, 5, 6, 7, 8, 9, 10, 11, 12, 13] rfl rfl (by decide) (by decide) (X2_init_met (l := l) (lev := lev - 1) (by omega) q10) ⟨va_cnB 0 C.2.2.2.2.1 ggX8_init_X2_init rfl rfl rfl (hs.1 _ nw_13) (C.2.2.2.2.1 _ (by decide +kernel)) (by decide +kernel) (mRc_le (by omega) (by decide)), rfl, C.2.2.2.2.1 _ (by decide +kernel)⟩ rfl rfl (Nat.le_of_ble_eq_true rfl) dX8_init_69 ⟨(by show _ ≤ 21; decide), (by show _ ≤ 12523; decide)⟩ (fun z11 hz11 => ?_)
  refine mv_ws (ws1 := [(h0, .inr (8, [.ref q1, .int 0, .ref q2, .ref q4, .ref q6, .ref q8, .null, .null])), (q1, .inl (cA, 120, .inl (fun _ => 0))), (q2, .inr (5, [.ref (z3 0), .ref (z3 1), .ref (z3 2), .ref (z3 3), .int (480 : Int32), .int (-1 : Int32)])), (z3 0, .inl (cA, 3000, .inl (fun _ => 0))), (z3 1, .inl (cA, 3000, .inl (fun _ => 0))), (z3 2, .inl (cA, 3000, .inl (fun _ => 0))), (z3 3, .inl (cA, 3000, .inl (fun _ => 0))), (q4, .inr (3, [.ref q2, .int 0])), (q6, .inr (6, [.ref q2])), (q8, .inr (7, [.ref (z9 0), .ref (z9 1), .ref (z9 2), .ref (z9 3), .int (8 : Int32), .int 0])), (z9 0, .inl (cA, 40, .inl (upd (upd (upd (upd (upd (upd (upd (upd (fun _ => 0) 0 (91758 : Int32)) 1 (92518 : Int32)) 2 (369 : Int32)) 3 (93299 : Int32)) 4 (299 : Int32)) 5 (298 : Int32)) 6 (317 : Int32)) 7 (316 : Int32)))), (z9 1, .inl (cA, 40, .inl (fun _ => 0))), (z9 2, .inl (cA, 40, .inl (upd (upd (upd (upd (upd (upd (upd (upd (fun _ => 0) 0 (0 : Int32)) 1 (1 : Int32)) 2 (2 : Int32)) 3 (3 : Int32)) 4 (4 : Int32)) 5 (4 : Int32)) 6 (4 : Int32)) 7 (4 : Int32)))), (z9 3, .inl (cA, 40, .inl (fun _ => 0))), (q10, .inr (2, [.ref (z11 0), .int 0, .int 0])), (z11 0, .inl (cA, 200, .inl (fun _ => 0)))]) rfl ?_
  refine mv_putF (ty := (.object "MarkedNames$Outcome")) (ws1 := [(h0, .inr (8, [.ref q1, .int 0, .ref q2, .ref q4, .ref q6, .ref q8, .ref q10, .null])), (q1, .inl (cA, 120, .inl (fun _ => 0))), (q2, .inr (5, [.ref (z3 0), .ref (z3 1), .ref (z3 2), .ref (z3 3), .int (480 : Int32), .int (-1 : Int32)])), (z3 0, .inl (cA, 3000, .inl (fun _ => 0))), (z3 1, .inl (cA, 3000, .inl (fun _ => 0))), (z3 2, .inl (cA, 3000, .inl (fun _ => 0))), (z3 3, .inl (cA, 3000, .inl (fun _ => 0))), (q4, .inr (3, [.ref q2, .int 0])), (q6, .inr (6, [.ref q2])), (q8, .inr (7, [.ref (z9 0), .ref (z9 1), .ref (z9 2), .ref (z9 3), .int (8 : Int32), .int 0])), (z9 0, .inl (cA, 40, .inl (upd (upd (upd (upd (upd (upd (upd (upd (fun _ => 0) 0 (91758 : Int32)) 1 (92518 : Int32)) 2 (369 : Int32)) 3 (93299 : Int32)) 4 (299 : Int32)) 5 (298 : Int32)) 6 (317 : Int32)) 7 (316 : Int32)))), (z9 1, .inl (cA, 40, .inl (fun _ => 0))), (z9 2, .inl (cA, 40, .inl (upd (upd (upd (upd (upd (upd (upd (upd (fun _ => 0) 0 (0 : Int32)) 1 (1 : Int32)) 2 (2 : Int32)) 3 (3 : Int32)) 4 (4 : Int32)) 5 (4 : Int32)) 6 (4 : Int32)) 7 (4 : Int32)))), (z9 3, .inl (cA, 40, .inl (fun _ => 0))), (q10, .inr (2, [.ref (z11 0), .int 0, .int 0])), (z11 0, .inl (cA, 200, .inl (fun _ => 0)))]) C hinit iw_X8_init_X8 tyX8 tyX8_ok nmX8 0 rfl rfl 6 (by decide) lk_X8_init_46 rfl rfl rfl rfl rfl rfl (Nat.le_of_ble_eq_true rfl) rfl dX8_init_72 ?_
  refine mv_aload_n C dX8_init_75 rfl 0 rfl ?_
  refine mv_new (C0 := RX0) (T := TX0) (N := 9) (ci := 0) (fs := [.null, .null, .null, .null, .null, .int 0, .int 0, .int 0, .int 0]) C iw_X8_init_X0 tyX0 tyX0_ok (by decide +kernel) (by decide +kernel) (by decide +kernel) rfl (fun j hj => by rcases (show j = 0 ∨ j = 1 ∨ j = 2 ∨ j = 3 ∨ j = 4 ∨ j = 5 ∨ j = 6 ∨ j = 7 ∨ j = 8 by omega) with rfl | rfl | rfl | rfl | rfl | rfl | rfl | rfl | rfl <;> rfl) (by show _ ≤ 21; decide) (by show _ ≤ 12523; decide) dX8_init_76 (fun q12 => ?_)
  refine mv_ws (ws1 := [(h0, .inr (8, [.ref q1, .int 0, .ref q2, .ref q4, .ref q6, .ref q8, .ref q10, .null])), (q1, .inl (cA, 120, .inl (fun _ => 0))), (q2, .inr (5, [.ref (z3 0), .ref (z3 1), .ref (z3 2), .ref (z3 3), .int (480 : Int32), .int (-1 : Int32)])), (z3 0, .inl (cA, 3000, .inl (fun _ => 0))), (z3 1, .inl (cA, 3000, .inl (fun _ => 0))), (z3 2, .inl (cA, 3000, .inl (fun _ => 0))), (z3 3, .inl (cA, 3000, .inl (fun _ => 0))), (q4, .inr (3, [.ref q2, .int 0])), (q6, .inr (6, [.ref q2])), (q8, .inr (7, [.ref (z9 0), .ref (z9 1), .ref (z9 2), .ref (z9 3), .int (8 : Int32), .int 0])), (z9 0, .inl (cA, 40, .inl (upd (upd (upd (upd (upd (upd (upd (upd (fun _ => 0) 0 (91758 : Int32)) 1 (92518 : Int32)) 2 (369 : Int32)) 3 (93299 : Int32)) 4 (299 : Int32)) 5 (298 : Int32)) 6 (317 : Int32)) 7 (316 : Int32)))), (z9 1, .inl (cA, 40, .inl (fun _ => 0))), (z9 2, .inl (cA, 40, .inl (upd (upd (upd (upd (upd (upd (upd (upd (fun _ => 0) 0 (0 : Int32)) 1 (1 : Int32)) 2 (2 : Int32)) 3 (3 : Int32)) 4 (4 : Int32)) 5 (4 : Int32)) 6 (4 : Int32)) 7 (4 : Int32)))), (z9 3, .inl (cA, 40, .inl (fun _ => 0))), (q10, .inr (2, [.ref (z11 0), .int 0, .int 0])), (z11 0, .inl (cA, 200, .inl (fun _ => 0))), (q12, .inr (0, [.null, .null, .null, .null, .null, .int 0, .int 0, .int 0, .int 0]))]) rfl ?_
  refine mv_dup C dX8_init_79 rfl ?_
  refine mv_aload_n C dX8_init_80 rfl 0 rfl ?_
  refine mv_get (v := .ref q2) C iw_X8_init_X8 0 rfl rfl 2 (by decide) lk_X8_init_16 rfl rfl dX8_init_81 ?_
  refine mv_aload_n C dX8_init_84 rfl 0 rfl ?_
  refine mv_get (v := .ref q6) C iw_X8_init_X8 0 rfl rfl 4 (by decide) lk_X8_init_32 rfl rfl dX8_init_85 ?_
  refine mv_aload_n C dX8_init_88 rfl 0 rfl ?_
  refine mv_get (v := .ref q8) C iw_X8_init_X8 0 rfl rfl 5 (by decide) lk_X8_init_39 rfl rfl dX8_init_89 ?_
  refine mv_aload_n C dX8_init_92 rfl 0 rfl ?_
  refine mv_get (v := .ref q10) C iw_X8_init_X8 0 rfl rfl 6 (by decide) lk_X8_init_46 rfl rfl dX8_init_93 ?_
  refine mv_callI (As := [.ref q2, .ref q6, .ref q8, .ref q10]) (rest := [.ref q12, .ref h0]) (wr := [(h0, .inr (8, [.ref q1, .int 0, .ref q2, .ref q4, .ref q6, .ref q8, .ref q10, .null])), (q1, .inl (cA, 120, .inl (fun _ => 0))), (q2, .inr (5, [.ref (z3 0), .ref (z3 1), .ref (z3 2), .ref (z3 3), .int (480 : Int32), .int (-1 : Int32)])), (z3 0, .inl (cA, 3000, .inl (fun _ => 0))), (z3 1, .inl (cA, 3000, .inl (fun _ => 0))), (z3 2, .inl (cA, 3000, .inl (fun _ => 0))), (z3 3, .inl (cA, 3000, .inl (fun _ => 0))), (q4, .inr (3, [.ref q2, .int 0])), (q6, .inr (6, [.ref q2])), (q8, .inr (7, [.ref (z9 0), .ref (z9 1), .ref (z9 2), .ref (z9 3), .int (8 : Int32), .int 0])), (z9 0, .inl (cA, 40, .inl (upd (upd (upd (upd (upd (upd (upd (upd (fun _ => 0) 0 (91758 : Int32)) 1 (92518 : Int32)) 2 (369 : Int32)) 3 (93299 : Int32)) 4 (299 : Int32)) 5 (298 : Int32)) 6 (317 : Int32)) 7 (316 : Int32)))), (z9 1, .inl (cA, 40, .inl (fun _ => 0))), (z9 2, .inl (cA, 40, .inl (upd (upd (upd (upd (upd (upd (upd (upd (fun _ => 0) 0 (0 : Int32)) 1 (1 : Int32)) 2 (2 : Int32)) 3 (3 : Int32)) 4 (4 : Int32)) 5 (4 : Int32)) 6 (4 : Int32)) 7 (4 : Int32)))), (z9 3, .inl (cA, 40, .inl (fun _ => 0))), (q10, .inr (2, [.ref (z11 0), .int 0, .int 0])), (z11 0, .inl (cA, 200, .inl (fun _ => 0)))]) C (eA_ok a) hs 16 [0, 1, 2, 3, 4, 5, 6, 7, 8, 9, 10, 11, 12, 13, 14, 15] rfl rfl (by decide) (by decide) (X0_init_met (l := l) (lev := lev - 1) (by omega) q12 q2 q6 q8 q10) (cwI 4 C.2.2.2.2.1 gX8_init_X0_init rfl rfl rfl (C.2.2.2.2.1 (.initialized RX0) (by decide +kernel)) (C.2.2.2.2.1 (.methodLink RX8 52 yX0_init) (by decide +kernel)) (C.2.2.2.2.1 (.instanceMethod yX0_init) (by decide +kernel)) rfl (by decide +kernel) (mRc_le (by omega) (by decide))) rfl rfl (Nat.le_of_ble_eq_true rfl) dX8_init_96 ⟨(by show _ ≤ 21; decide), (by show _ ≤ 12523; decide)⟩ (fun z13 hz13 => ?_)
  refine mv_ws (ws1 := [(h0, .inr (8, [.ref q1, .int 0, .ref q2, .ref q4, .ref q6, .ref q8, .ref q10, .null])), (q1, .inl (cA, 120, .inl (fun _ => 0))), (q2, .inr (5, [.ref (z3 0), .ref (z3 1), .ref (z3 2), .ref (z3 3), .int (480 : Int32), .int (-1 : Int32)])), (z3 0, .inl (cA, 3000, .inl (fun _ => 0))), (z3 1, .inl (cA, 3000, .inl (fun _ => 0))), (z3 2, .inl (cA, 3000, .inl (fun _ => 0))), (z3 3, .inl (cA, 3000, .inl (fun _ => 0))), (q4, .inr (3, [.ref q2, .int 0])), (q6, .inr (6, [.ref q2])), (q8, .inr (7, [.ref (z9 0), .ref (z9 1), .ref (z9 2), .ref (z9 3), .int (8 : Int32), .int 0])), (z9 0, .inl (cA, 40, .inl (upd (upd (upd (upd (upd (upd (upd (upd (fun _ => 0) 0 (91758 : Int32)) 1 (92518 : Int32)) 2 (369 : Int32)) 3 (93299 : Int32)) 4 (299 : Int32)) 5 (298 : Int32)) 6 (317 : Int32)) 7 (316 : Int32)))), (z9 1, .inl (cA, 40, .inl (fun _ => 0))), (z9 2, .inl (cA, 40, .inl (upd (upd (upd (upd (upd (upd (upd (upd (fun _ => 0) 0 (0 : Int32)) 1 (1 : Int32)) 2 (2 : Int32)) 3 (3 : Int32)) 4 (4 : Int32)) 5 (4 : Int32)) 6 (4 : Int32)) 7 (4 : Int32)))), (z9 3, .inl (cA, 40, .inl (fun _ => 0))), (q10, .inr (2, [.ref (z11 0), .int 0, .int 0])), (z11 0, .inl (cA, 200, .inl (fun _ => 0))), (q12, .inr (0, [.ref q2, .ref q6, .ref q8, .ref q10, .ref (z13 0), .int 0, .int 0, .int 0, .int 0])), (z13 0, .inr (1, [.ref q2, .ref q10, .ref (z13 1), .int 0, .int 0, .int 0])), (z13 1, .inr (4, [.ref (z13 2), .ref (z13 3), .ref (z13 4), .int 0])), (z13 2, .inl (cA, 2, .inl (fun _ => 0))), (z13 3, .inl (cA, 2, .inl (fun _ => 0))), (z13 4, .inl (cA, 2, .inl (fun _ => 0)))]) rfl ?_
  refine mv_putF (ty := (.object "MarkedNames$Expander")) (ws1 := [(h0, .inr (8, [.ref q1, .int 0, .ref q2, .ref q4, .ref q6, .ref q8, .ref q10, .ref q12])), (q1, .inl (cA, 120, .inl (fun _ => 0))), (q2, .inr (5, [.ref (z3 0), .ref (z3 1), .ref (z3 2), .ref (z3 3), .int (480 : Int32), .int (-1 : Int32)])), (z3 0, .inl (cA, 3000, .inl (fun _ => 0))), (z3 1, .inl (cA, 3000, .inl (fun _ => 0))), (z3 2, .inl (cA, 3000, .inl (fun _ => 0))), (z3 3, .inl (cA, 3000, .inl (fun _ => 0))), (q4, .inr (3, [.ref q2, .int 0])), (q6, .inr (6, [.ref q2])), (q8, .inr (7, [.ref (z9 0), .ref (z9 1), .ref (z9 2), .ref (z9 3), .int (8 : Int32), .int 0])), (z9 0, .inl (cA, 40, .inl (upd (upd (upd (upd (upd (upd (upd (upd (fun _ => 0) 0 (91758 : Int32)) 1 (92518 : Int32)) 2 (369 : Int32)) 3 (93299 : Int32)) 4 (299 : Int32)) 5 (298 : Int32)) 6 (317 : Int32)) 7 (316 : Int32)))), (z9 1, .inl (cA, 40, .inl (fun _ => 0))), (z9 2, .inl (cA, 40, .inl (upd (upd (upd (upd (upd (upd (upd (upd (fun _ => 0) 0 (0 : Int32)) 1 (1 : Int32)) 2 (2 : Int32)) 3 (3 : Int32)) 4 (4 : Int32)) 5 (4 : Int32)) 6 (4 : Int32)) 7 (4 : Int32)))), (z9 3, .inl (cA, 40, .inl (fun _ => 0))), (q10, .inr (2, [.ref (z11 0), .int 0, .int 0])), (z11 0, .inl (cA, 200, .inl (fun _ => 0))), (q12, .inr (0, [.ref q2, .ref q6, .ref q8, .ref q10, .ref (z13 0), .int 0, .int 0, .int 0, .int 0])), (z13 0, .inr (1, [.ref q2, .ref q10, .ref (z13 1), .int 0, .int 0, .int 0])), (z13 1, .inr (4, [.ref (z13 2), .ref (z13 3), .ref (z13 4), .int 0])), (z13 2, .inl (cA, 2, .inl (fun _ => 0))), (z13 3, .inl (cA, 2, .inl (fun _ => 0))), (z13 4, .inl (cA, 2, .inl (fun _ => 0)))]) C hinit iw_X8_init_X8 tyX8 tyX8_ok nmX8 0 rfl rfl 7 (by decide) lk_X8_init_55 rfl rfl rfl rfl rfl rfl (Nat.le_of_ble_eq_true rfl) rfl dX8_init_99 ?_
  exact mv_cret C (fun k => match k with | 0 => h0 | 1 => q1 | 2 => q2 | 3 => z3 0 | 4 => z3 1 | 5 => z3 2 | 6 => z3 3 | 7 => q4 | 8 => q6 | 9 => q8 | 10 => z9 0 | 11 => z9 1 | 12 => z9 2 | 13 => z9 3 | 14 => q10 | 15 => z11 0 | 16 => q12 | 17 => z13 0 | 18 => z13 1 | 19 => z13 2 | 20 => z13 3 | 21 => z13 4 | _ => a 22) ⟨rfl, rfl⟩ rfl dX8_init_102
set_option maxHeartbeats 4000000 in
set_option maxRecDepth 100000 in
theorem X9_init_met (hlev : 1 ≤ lev) (h0 : Nat) : mKc l yX9_init wsX9_init lev 20 13557 (eM) (dC, dI) vwCl [(cA, .int)] [(h0, .inr (9, [.null, .int 0, .null, .null, .int 0, .null, .null, .int 0, .int 0, .null, .null, .int 0, .int 0, .null, .null, .null, .null, .null, .null, .null, .int 0, .int 0, .null, .null, .null, .null, .null, .int 0, .null, .int 0, .int 0, .int 0, .int 0, .int 0, .int 0, .int 0]))] [.ref h0] (fun z => z 0 = h0) (fun z => wM cA z uM0) := by
  refine mKc_of (cc := cX9_init) (maxL := 1) (by decide) rfl rfl (Nat.le_of_ble_eq_true rfl) rfl ?_
  intro p e s m args below meth c A C hs hinit
  refine mv_aload_n C dX9_init_0 rfl 0 rfl ?_
  refine mv_objInit C (by decide +kernel) (by decide +kernel) (by decide +kernel) dX9_init_1 (by show 1 ≤ lev; omega) (by show _ ≤ 64 * lev; exact Nat.le_trans (Nat.le_of_ble_eq_true rfl : _ ≤ 64) (by omega)) ?_
  refine mv_aload_n C dX9_init_4 rfl 0 rfl ?_
  refine mv_bipush (v := (120 : Int32)) C dX9_init_5 (by decide) ?_
  refine mv_newa (N := 120) C (by decide +kernel) (by decide) (by decide) (by decide) (by show _ ≤ 20; decide) (by show _ ≤ 13557; decide) dX9_init_7 (fun q1 => ?_)
  refine mv_ws (ws1 := [(h0, .inr (9, [.null, .int 0, .null, .null, .int 0, .null, .null, .int 0, .int 0, .null, .null, .int 0, .int 0, .null, .null, .null, .null, .null, .null, .null, .int 0, .int 0, .null, .null, .null, .null, .null, .int 0, .null, .int 0, .int 0, .int 0, .int 0, .int 0, .int 0, .int 0])), (q1, .inl (cA, 120, .inl (fun _ => 0)))]) rfl ?_
  refine mv_putF (ty := (.array .int)) (ws1 := [(h0, .inr (9, [.ref q1, .int 0, .null, .null, .int 0, .null, .null, .int 0, .int 0, .null, .null, .int 0, .int 0, .null, .null, .null, .null, .null, .null, .null, .int 0, .int 0, .null, .null, .null, .null, .null, .int 0, .null, .int 0, .int 0, .int 0, .int 0, .int 0, .int 0, .int 0])), (q1, .inl (cA, 120, .inl (fun _ => 0)))]) C hinit iw_X9_init_X9 tyX9 tyX9_ok nmX9 0 rfl rfl 0 (by decide) lk_X9_init_7 rfl rfl rfl rfl rfl rfl (Nat.le_of_ble_eq_true rfl) rfl dX9_init_9 ?_
  refine mv_aload_n C dX9_init_12 rfl 0 rfl ?_
  refine mv_sipush (v := (2600 : Int32)) C dX9_init_13 (by decide) ?_
  refine mv_newa (N := 2600) C (by decide +kernel) (by decide) (by decide) (by decide) (by show _ ≤ 20; decide) (by show _ ≤ 13557; decide) dX9_init_16 (fun q2 => ?_)
  refine mv_ws (ws1 := [(h0, .inr (9, [.ref q1, .int 0, .null, .null, .int 0, .null, .null, .int 0, .int 0, .null, .null, .int 0, .int 0, .null, .null, .null, .null, .null, .null, .null, .int 0, .int 0, .null, .null, .null, .null, .null, .int 0, .null, .int 0, .int 0, .int 0, .int 0, .int 0, .int 0, .int 0])), (q1, .inl (cA, 120, .inl (fun _ => 0))), (q2, .inl (cA, 2600, .inl (fun _ => 0)))]) rfl ?_
  refine mv_putF (ty := (.array .int)) (ws1 := [(h0, .inr (9, [.ref q1, .int 0, .ref q2, .null, .int 0, .null, .null, .int 0, .int 0, .null, .null, .int 0, .int 0, .null, .null, .null, .null, .null, .null, .null, .int 0, .int 0, .null, .null, .null, .null, .null, .int 0, .null, .int 0, .int 0, .int 0, .int 0, .int 0, .int 0, .int 0])), (q1, .inl (cA, 120, .inl (fun _ => 0))), (q2, .inl (cA, 2600, .inl (fun _ => 0)))]) C hinit iw_X9_init_X9 tyX9 tyX9_ok nmX9 0 rfl rfl 2 (by decide) lk_X9_init_13 rfl rfl rfl rfl rfl rfl (Nat.le_of_ble_eq_true rfl) rfl dX9_init_18 ?_
  refine mv_aload_n C dX9_init_21 rfl 0 rfl ?_
  refine mv_sipush (v := (2600 : Int32)) C dX9_init_22 (by decide) ?_
  refine mv_newa (N := 2600) C (by decide +kernel) (by decide) (by decide) (by decide) (by show _ ≤ 20; decide) (by show _ ≤ 13557; decide) dX9_init_25 (fun q3 => ?_)
  refine mv_ws (ws1 := [(h0, .inr (9, [.ref q1, .int 0, .ref q2, .null, .int 0, .null, .null, .int 0, .int 0, .null, .null, .int 0, .int 0, .null, .null, .null, .null, .null, .null, .null, .int 0, .int 0, .null, .null, .null, .null, .null, .int 0, .null, .int 0, .int 0, .int 0, .int 0, .int 0, .int 0, .int 0])), (q1, .inl (cA, 120, .inl (fun _ => 0))), (q2, .inl (cA, 2600, .inl (fun _ => 0))), (q3, .inl (cA, 2600, .inl (fun _ => 0)))]) rfl ?_
  refine mv_putF (ty := (.array .int)) (ws1 := [(h0, .inr (9, [.ref q1, .int 0, .ref q2, .ref q3, .int 0, .null, .null, .int 0, .int 0, .null, .null, .int 0, .int 0, .null, .null, .null, .null, .null, .null, .null, .int 0, .int 0, .null, .null, .null, .null, .null, .int 0, .null, .int 0, .int 0, .int 0, .int 0, .int 0, .int 0, .int 0])), (q1, .inl (cA, 120, .inl (fun _ => 0))), (q2, .inl (cA, 2600, .inl (fun _ => 0))), (q3, .inl (cA, 2600, .inl (fun _ => 0)))]) C hinit iw_X9_init_X9 tyX9 tyX9_ok nmX9 0 rfl rfl 3 (by decide) lk_X9_init_16 rfl rfl rfl rfl rfl rfl (Nat.le_of_ble_eq_true rfl) rfl dX9_init_27 ?_
  refine mv_aload_n C dX9_init_30 rfl 0 rfl ?_
  refine mv_sipush (v := (3200 : Int32)) C dX9_init_31 (by decide) ?_
  refine mv_newa (N := 3200) C (by decide +kernel) (by decide) (by decide) (by decide) (by show _ ≤ 20; decide) (by show _ ≤ 13557; decide) dX9_init_34 (fun q4 => ?_)
  refine mv_ws (ws1 := [(h0, .inr (9, [.ref q1, .int 0, .ref q2, .ref q3, .int 0, .null, .null, .int 0, .int 0, .null, .null, .int 0, .int 0, .null, .null, .null, .null, .null, .null, .null, .int 0, .int 0, .null, .null, .null, .null, .null, .int 0, .null, .int 0, .int 0, .int 0, .int 0, .int 0, .int 0, .int 0])), (q1, .inl (cA, 120, .inl (fun _ => 0))), (q2, .inl (cA, 2600, .inl (fun _ => 0))), (q3, .inl (cA, 2600, .inl (fun _ => 0))), (q4, .inl (cA, 3200, .inl (fun _ => 0)))]) rfl ?_
  refine mv_putF (ty := (.array .int)) (ws1 := [(h0, .inr (9, [.ref q1, .int 0, .ref q2, .ref q3, .int 0, .ref q4, .null, .int 0, .int 0, .null, .null, .int 0, .int 0, .null, .null, .null, .null, .null, .null, .null, .int 0, .int 0, .null, .null, .null, .null, .null, .int 0, .null, .int 0, .int 0, .int 0, .int 0, .int 0, .int 0, .int 0])), (q1, .inl (cA, 120, .inl (fun _ => 0))), (q2, .inl (cA, 2600, .inl (fun _ => 0))), (q3, .inl (cA, 2600, .inl (fun _ => 0))), (q4, .inl (cA, 3200, .inl (fun _ => 0)))]) C hinit iw_X9_init_X9 tyX9 tyX9_ok nmX9 0 rfl rfl 5 (by decide) lk_X9_init_19 rfl rfl rfl rfl rfl rfl (Nat.le_of_ble_eq_true rfl) rfl dX9_init_36 ?_
  refine mv_aload_n C dX9_init_39 rfl 0 rfl ?_
  refine mv_sipush (v := (3200 : Int32)) C dX9_init_40 (by decide) ?_
  refine mv_newa (N := 3200) C (by decide +kernel) (by decide) (by decide) (by decide) (by show _ ≤ 20; decide) (by show _ ≤ 13557; decide) dX9_init_43 (fun q5 => ?_)
  refine mv_ws (ws1 := [(h0, .inr (9, [.ref q1, .int 0, .ref q2, .ref q3, .int 0, .ref q4, .null, .int 0, .int 0, .null, .null, .int 0, .int 0, .null, .null, .null, .null, .null, .null, .null, .int 0, .int 0, .null, .null, .null, .null, .null, .int 0, .null, .int 0, .int 0, .int 0, .int 0, .int 0, .int 0, .int 0])), (q1, .inl (cA, 120, .inl (fun _ => 0))), (q2, .inl (cA, 2600, .inl (fun _ => 0))), (q3, .inl (cA, 2600, .inl (fun _ => 0))), (q4, .inl (cA, 3200, .inl (fun _ => 0))), (q5, .inl (cA, 3200, .inl (fun _ => 0)))]) rfl ?_
  refine mv_putF (ty := (.array .int)) (ws1 := [(h0, .inr (9, [.ref q1, .int 0, .ref q2, .ref q3, .int 0, .ref q4, .ref q5, .int 0, .int 0, .null, .null, .int 0, .int 0, .null, .null, .null, .null, .null, .null, .null, .int 0, .int 0, .null, .null, .null, .null, .null, .int 0, .null, .int 0, .int 0, .int 0, .int 0, .int 0, .int 0, .int 0])), (q1, .inl (cA, 120, .inl (fun _ => 0))), (q2, .inl (cA, 2600, .inl (fun _ => 0))), (q3, .inl (cA, 2600, .inl (fun _ => 0))), (q4, .inl (cA, 3200, .inl (fun _ => 0))), (q5, .inl (cA, 3200, .inl (fun _ => 0)))]) C hinit iw_X9_init_X9 tyX9 tyX9_ok nmX9 0 rfl rfl 6 (by decide) lk_X9_init_22 rfl rfl rfl rfl rfl rfl (Nat.le_of_ble_eq_true rfl) rfl dX9_init_45 ?_
  refine mv_aload_n C dX9_init_48 rfl 0 rfl ?_
  refine mv_iconst (v := (4 : Int32)) C dX9_init_49 (by decide) ?_
  refine mv_newa (N := 4) C (by decide +kernel) (by decide) (by decide) (by decide) (by show _ ≤ 20; decide) (by show _ ≤ 13557; decide) dX9_init_50 (fun q6 => ?_)
  refine mv_ws (ws1 := [(h0, .inr (9, [.ref q1, .int 0, .ref q2, .ref q3, .int 0, .ref q4, .ref q5, .int 0, .int 0, .null, .null, .int 0, .int 0, .null, .null, .null, .null, .null, .null, .null, .int 0, .int 0, .null, .null, .null, .null, .null, .int 0, .null, .int 0, .int 0, .int 0, .int 0, .int 0, .int 0, .int 0])), (q1, .inl (cA, 120, .inl (fun _ => 0))), (q2, .inl (cA, 2600, .inl (fun _ => 0))), (q3, .inl (cA, 2600, .inl (fun _ => 0))), (q4, .inl (cA, 3200, .inl (fun _ => 0))), (q5, .inl (cA, 3200, .inl (fun _ => 0))), (q6, .inl (cA, 4, .inl (fun _ => 0)))]) rfl ?_
  refine mv_putF (ty := (.array .int)) (ws1 := [(h0, .inr (9, [.ref q1, .int 0, .ref q2, .ref q3, .int 0, .ref q4, .ref q5, .int 0, .int 0, .ref q6, .null, .int 0, .int 0, .null, .null, .null, .null, .null, .null, .null, .int 0, .int 0, .null, .null, .null, .null, .null, .int 0, .null, .int 0, .int 0, .int 0, .int 0, .int 0, .int 0, .int 0])), (q1, .inl (cA, 120, .inl (fun _ => 0))), (q2, .inl (cA, 2600, .inl (fun _ => 0))), (q3, .inl (cA, 2600, .inl (fun _ => 0))), (q4, .inl (cA, 3200, .inl (fun _ => 0))), (q5, .inl (cA, 3200, .inl (fun _ => 0))), (q6, .inl (cA, 4, .inl (fun _ => 0)))]) C hinit iw_X9_init_X9 tyX9 tyX9_ok nmX9 0 rfl rfl 9 (by decide) lk_X9_init_25 rfl rfl rfl rfl rfl rfl (Nat.le_of_ble_eq_true rfl) rfl dX9_init_52 ?_
  refine mv_aload_n C dX9_init_55 rfl 0 rfl ?_
  refine mv_iconst (v := (4 : Int32)) C dX9_init_56 (by decide) ?_
  refine mv_newa (N := 4) C (by decide +kernel) (by decide) (by decide) (by decide) (by show _ ≤ 20; decide) (by show _ ≤ 13557; decide) dX9_init_57 (fun q7 => ?_)
  refine mv_ws (ws1 := [(h0, .inr (9, [.ref q1, .int 0, .ref q2, .ref q3, .int 0, .ref q4, .ref q5, .int 0, .int 0, .ref q6, .null, .int 0, .int 0, .null, .null, .null, .null, .null, .null, .null, .int 0, .int 0, .null, .null, .null, .null, .null, .int 0, .null, .int 0, .int 0, .int 0, .int 0, .int 0, .int 0, .int 0])), (q1, .inl (cA, 120, .inl (fun _ => 0))), (q2, .inl (cA, 2600, .inl (fun _ => 0))), (q3, .inl (cA, 2600, .inl (fun _ => 0))), (q4, .inl (cA, 3200, .inl (fun _ => 0))), (q5, .inl (cA, 3200, .inl (fun _ => 0))), (q6, .inl (cA, 4, .inl (fun _ => 0))), (q7, .inl (cA, 4, .inl (fun _ => 0)))]) rfl ?_
  refine mv_putF (ty := (.array .int)) (ws1 := [(h0, .inr (9, [.ref q1, .int 0, .ref q2, .ref q3, .int 0, .ref q4, .ref q5, .int 0, .int 0, .ref q6, .ref q7, .int 0, .int 0, .null, .null, .null, .null, .null, .null, .null, .int 0, .int 0, .null, .null, .null, .null, .null, .int 0, .null, .int 0, .int 0, .int 0, .int 0, .int 0, .int 0, .int 0])), (q1, .inl (cA, 120, .inl (fun _ => 0))), (q2, .inl (cA, 2600, .inl (fun _ => 0))), (q3, .inl (cA, 2600, .inl (fun _ => 0))), (q4, .inl (cA, 3200, .inl (fun _ => 0))), (q5, .inl (cA, 3200, .inl (fun _ => 0))), (q6, .inl (cA, 4, .inl (fun _ => 0))), (q7, .inl (cA, 4, .inl (fun _ => 0)))]) C hinit iw_X9_init_X9 tyX9 tyX9_ok nmX9 0 rfl rfl 10 (by decide) lk_X9_init_28 rfl rfl rfl rfl rfl rfl (Nat.le_of_ble_eq_true rfl) rfl dX9_init_59 ?_
  refine mv_aload_n C dX9_init_62 rfl 0 rfl ?_
  refine mv_bipush (v := (40 : Int32)) C dX9_init_63 (by decide) ?_
  refine mv_newa (N := 40) C (by decide +kernel) (by decide) (by decide) (by decide) (by show _ ≤ 20; decide) (by show _ ≤ 13557; decide) dX9_init_65 (fun q8 => ?_)
  refine mv_ws (ws1 := [(h0, .inr (9, [.ref q1, .int 0, .ref q2, .ref q3, .int 0, .ref q4, .ref q5, .int 0, .int 0, .ref q6, .ref q7, .int 0, .int 0, .null, .null, .null, .null, .null, .null, .null, .int 0, .int 0, .null, .null, .null, .null, .null, .int 0, .null, .int 0, .int 0, .int 0, .int 0, .int 0, .int 0, .int 0])), (q1, .inl (cA, 120, .inl (fun _ => 0))), (q2, .inl (cA, 2600, .inl (fun _ => 0))), (q3, .inl (cA, 2600, .inl (fun _ => 0))), (q4, .inl (cA, 3200, .inl (fun _ => 0))), (q5, .inl (cA, 3200, .inl (fun _ => 0))), (q6, .inl (cA, 4, .inl (fun _ => 0))), (q7, .inl (cA, 4, .inl (fun _ => 0))), (q8, .inl (cA, 40, .inl (fun _ => 0)))]) rfl ?_
  refine mv_putF (ty := (.array .int)) (ws1 := [(h0, .inr (9, [.ref q1, .int 0, .ref q2, .ref q3, .int 0, .ref q4, .ref q5, .int 0, .int 0, .ref q6, .ref q7, .int 0, .int 0, .ref q8, .null, .null, .null, .null, .null, .null, .int 0, .int 0, .null, .null, .null, .null, .null, .int 0, .null, .int 0, .int 0, .int 0, .int 0, .int 0, .int 0, .int 0])), (q1, .inl (cA, 120, .inl (fun _ => 0))), (q2, .inl (cA, 2600, .inl (fun _ => 0))), (q3, .inl (cA, 2600, .inl (fun _ => 0))), (q4, .inl (cA, 3200, .inl (fun _ => 0))), (q5, .inl (cA, 3200, .inl (fun _ => 0))), (q6, .inl (cA, 4, .inl (fun _ => 0))), (q7, .inl (cA, 4, .inl (fun _ => 0))), (q8, .inl (cA, 40, .inl (fun _ => 0)))]) C hinit iw_X9_init_X9 tyX9 tyX9_ok nmX9 0 rfl rfl 13 (by decide) lk_X9_init_31 rfl rfl rfl rfl rfl rfl (Nat.le_of_ble_eq_true rfl) rfl dX9_init_67 ?_
  refine mv_aload_n C dX9_init_70 rfl 0 rfl ?_
  refine mv_bipush (v := (40 : Int32)) C dX9_init_71 (by decide) ?_
  refine mv_newa (N := 40) C (by decide +kernel) (by decide) (by decide) (by decide) (by show _ ≤ 20; decide) (by show _ ≤ 13557; decide) dX9_init_73 (fun q9 => ?_)
  refine mv_ws (ws1 := [(h0, .inr (9, [.ref q1, .int 0, .ref q2, .ref q3, .int 0, .ref q4, .ref q5, .int 0, .int 0, .ref q6, .ref q7, .int 0, .int 0, .ref q8, .null, .null, .null, .null, .null, .null, .int 0, .int 0, .null, .null, .null, .null, .null, .int 0, .null, .int 0, .int 0, .int 0, .int 0, .int 0, .int 0, .int 0])), (q1, .inl (cA, 120, .inl (fun _ => 0))), (q2, .inl (cA, 2600, .inl (fun _ => 0))), (q3, .inl (cA, 2600, .inl (fun _ => 0))), (q4, .inl (cA, 3200, .inl (fun _ => 0))), (q5, .inl (cA, 3200, .inl (fun _ => 0))), (q6, .inl (cA, 4, .inl (fun _ => 0))), (q7, .inl (cA, 4, .inl (fun _ => 0))), (q8, .inl (cA, 40, .inl (fun _ => 0))), (q9, .inl (cA, 40, .inl (fun _ => 0)))]) rfl ?_
  refine mv_putF (ty := (.array .int)) (ws1 := [(h0, .inr (9, [.ref q1, .int 0, .ref q2, .ref q3, .int 0, .ref q4, .ref q5, .int 0, .int 0, .ref q6, .ref q7, .int 0, .int 0, .ref q8, .ref q9, .null, .null, .null, .null, .null, .int 0, .int 0, .null, .null, .null, .null, .null, .int 0, .null, .int 0, .int 0, .int 0, .int 0, .int 0, .int 0, .int 0])), (q1, .inl (cA, 120, .inl (fun _ => 0))), (q2, .inl (cA, 2600, .inl (fun _ => 0))), (q3, .inl (cA, 2600, .inl (fun _ => 0))), (q4, .inl (cA, 3200, .inl (fun _ => 0))), (q5, .inl (cA, 3200, .inl (fun _ => 0))), (q6, .inl (cA, 4, .inl (fun _ => 0))), (q7, .inl (cA, 4, .inl (fun _ => 0))), (q8, .inl (cA, 40, .inl (fun _ => 0))), (q9, .inl (cA, 40, .inl (fun _ => 0)))]) C hinit iw_X9_init_X9 tyX9 tyX9_ok nmX9 0 rfl rfl 14 (by decide) lk_X9_init_34 rfl rfl rfl rfl rfl rfl (Nat.le_of_ble_eq_true rfl) rfl dX9_init_75 ?_
  refine mv_aload_n C dX9_init_78 rfl 0 rfl ?_
  refine mv_bipush (v := (40 : Int32)) C dX9_init_79 (by decide) ?_
  refine mv_newa (N := 40) C (by decide +kernel) (by decide) (by decide) (by decide) (by show _ ≤ 20; decide) (by show _ ≤ 13557; decide) dX9_init_81 (fun q10 => ?_)
  refine mv_ws (ws1 := [(h0, .inr (9, [.ref q1, .int 0, .ref q2, .ref q3, .int 0, .ref q4, .ref q5, .int 0, .int 0, .ref q6, .ref q7, .int 0, .int 0, .ref q8, .ref q9, .null, .null, .null, .null, .null, .int 0, .int 0, .null, .null, .null, .null, .null, .int 0, .null, .int 0, .int 0, .int 0, .int 0, .int 0, .int 0, .int 0])), (q1, .inl (cA, 120, .inl (fun _ => 0))), (q2, .inl (cA, 2600, .inl (fun _ => 0))), (q3, .inl (cA, 2600, .inl (fun _ => 0))), (q4, .inl (cA, 3200, .inl (fun _ => 0))), (q5, .inl (cA, 3200, .inl (fun _ => 0))), (q6, .inl (cA, 4, .inl (fun _ => 0))), (q7, .inl (cA, 4, .inl (fun _ => 0))), (q8, .inl (cA, 40, .inl (fun _ => 0))), (q9, .inl (cA, 40, .inl (fun _ => 0))), (q10, .inl (cA, 40, .inl (fun _ => 0)))]) rfl ?_
  refine mv_putF (ty := (.array .int)) (ws1 := [(h0, .inr (9, [.ref q1, .int 0, .ref q2, .ref q3, .int 0, .ref q4, .ref q5, .int 0, .int 0, .ref q6, .ref q7, .int 0, .int 0, .ref q8, .ref q9, .ref q10, .null, .null, .null, .null, .int 0, .int 0, .null, .null, .null, .null, .null, .int 0, .null, .int 0, .int 0, .int 0, .int 0, .int 0, .int 0, .int 0])), (q1, .inl (cA, 120, .inl (fun _ => 0))), (q2, .inl (cA, 2600, .inl (fun _ => 0))), (q3, .inl (cA, 2600, .inl (fun _ => 0))), (q4, .inl (cA, 3200, .inl (fun _ => 0))), (q5, .inl (cA, 3200, .inl (fun _ => 0))), (q6, .inl (cA, 4, .inl (fun _ => 0))), (q7, .inl (cA, 4, .inl (fun _ => 0))), (q8, .inl (cA, 40, .inl (fun _ => 0))), (q9, .inl (cA, 40, .inl (fun _ => 0))), (q10, .inl (cA, 40, .inl (fun _ => 0)))]) C hinit iw_X9_init_X9 tyX9 tyX9_ok nmX9 0 rfl rfl 15 (by decide) lk_X9_init_37 rfl rfl rfl rfl rfl rfl (Nat.le_of_ble_eq_true rfl) rfl dX9_init_83 ?_
  refine mv_aload_n C dX9_init_86 rfl 0 rfl ?_
  refine mv_bipush (v := (40 : Int32)) C dX9_init_87 (by decide) ?_
  refine mv_newa (N := 40) C (by decide +kernel) (by decide) (by decide) (by decide) (by show _ ≤ 20; decide) (by show _ ≤ 13557; decide) dX9_init_89 (fun q11 => ?_)
  refine mv_ws (ws1 := [(h0, .inr (9, [.ref q1, .int 0, .ref q2, .ref q3, .int 0, .ref q4, .ref q5, .int 0, .int 0, .ref q6, .ref q7, .int 0, .int 0, .ref q8, .ref q9, .ref q10, .null, .null, .null, .null, .int 0, .int 0, .null, .null, .null, .null, .null, .int 0, .null, .int 0, .int 0, .int 0, .int 0, .int 0, .int 0, .int 0])), (q1, .inl (cA, 120, .inl (fun _ => 0))), (q2, .inl (cA, 2600, .inl (fun _ => 0))), (q3, .inl (cA, 2600, .inl (fun _ => 0))), (q4, .inl (cA, 3200, .inl (fun _ => 0))), (q5, .inl (cA, 3200, .inl (fun _ => 0))), (q6, .inl (cA, 4, .inl (fun _ => 0))), (q7, .inl (cA, 4, .inl (fun _ => 0))), (q8, .inl (cA, 40, .inl (fun _ => 0))), (q9, .inl (cA, 40, .inl (fun _ => 0))), (q10, .inl (cA, 40, .inl (fun _ => 0))), (q11, .inl (cA, 40, .inl (fun _ => 0)))]) rfl ?_
  refine mv_putF (ty := (.array .int)) (ws1 := [(h0, .inr (9, [.ref q1, .int 0, .ref q2, .ref q3, .int 0, .ref q4, .ref q5, .int 0, .int 0, .ref q6, .ref q7, .int 0, .int 0, .ref q8, .ref q9, .ref q10, .ref q11, .null, .null, .null, .int 0, .int 0, .null, .null, .null, .null, .null, .int 0, .null, .int 0, .int 0, .int 0, .int 0, .int 0, .int 0, .int 0])), (q1, .inl (cA, 120, .inl (fun _ => 0))), (q2, .inl (cA, 2600, .inl (fun _ => 0))), (q3, .inl (cA, 2600, .inl (fun _ => 0))), (q4, .inl (cA, 3200, .inl (fun _ => 0))), (q5, .inl (cA, 3200, .inl (fun _ => 0))), (q6, .inl (cA, 4, .inl (fun _ => 0))), (q7, .inl (cA, 4, .inl (fun _ => 0))), (q8, .inl (cA, 40, .inl (fun _ => 0))), (q9, .inl (cA, 40, .inl (fun _ => 0))), (q10, .inl (cA, 40, .inl (fun _ => 0))), (q11, .inl (cA, 40, .inl (fun _ => 0)))]) C hinit iw_X9_init_X9 tyX9 tyX9_ok nmX9 0 rfl rfl 16 (by decide) lk_X9_init_40 rfl rfl rfl rfl rfl rfl (Nat.le_of_ble_eq_true rfl) rfl dX9_init_91 ?_
  refine mv_aload_n C dX9_init_94 rfl 0 rfl ?_
  refine mv_bipush (v := (40 : Int32)) C dX9_init_95 (by decide) ?_
  refine mv_newa (N := 40) C (by decide +kernel) (by decide) (by decide) (by decide) (by show _ ≤ 20; decide) (by show _ ≤ 13557; decide) dX9_init_97 (fun q12 => ?_)
  refine mv_ws (ws1 := [(h0, .inr (9, [.ref q1, .int 0, .ref q2, .ref q3, .int 0, .ref q4, .ref q5, .int 0, .int 0, .ref q6, .ref q7, .int 0, .int 0, .ref q8, .ref q9, .ref q10, .ref q11, .null, .null, .null, .int 0, .int 0, .null, .null, .null, .null, .null, .int 0, .null, .int 0, .int 0, .int 0, .int 0, .int 0, .int 0, .int 0])), (q1, .inl (cA, 120, .inl (fun _ => 0))), (q2, .inl (cA, 2600, .inl (fun _ => 0))), (q3, .inl (cA, 2600, .inl (fun _ => 0))), (q4, .inl (cA, 3200, .inl (fun _ => 0))), (q5, .inl (cA, 3200, .inl (fun _ => 0))), (q6, .inl (cA, 4, .inl (fun _ => 0))), (q7, .inl (cA, 4, .inl (fun _ => 0))), (q8, .inl (cA, 40, .inl (fun _ => 0))), (q9, .inl (cA, 40, .inl (fun _ => 0))), (q10, .inl (cA, 40, .inl (fun _ => 0))), (q11, .inl (cA, 40, .inl (fun _ => 0))), (q12, .inl (cA, 40, .inl (fun _ => 0)))]) rfl ?_
  refine mv_putF (ty := (.array .int)) (ws1 := [(h0, .inr (9, [.ref q1, .int 0, .ref q2, .ref q3, .int 0, .ref q4, .ref q5, .int 0, .int 0, .ref q6, .ref q7, .int 0, .int 0, .ref q8, .ref q9, .ref q10, .ref q11, .ref q12, .null, .null, .int 0, .int 0, .null, .null, .null, .null, .null, .int 0, .null, .int 0, .int 0, .int 0, .int 0, .int 0, .int 0, .int 0])), (q1, .inl (cA, 120, .inl (fun _ => 0))), (q2, .inl (cA, 2600, .inl (fun _ => 0))), (q3, .inl (cA, 2600, .inl (fun _ => 0))), (q4, .inl (cA, 3200, .inl (fun _ => 0))), (q5, .inl (cA, 3200, .inl (fun _ => 0))), (q6, .inl (cA, 4, .inl (fun _ => 0))), (q7, .inl (cA, 4, .inl (fun _ => 0))), (q8, .inl (cA, 40, .inl (fun _ => 0))), (q9, .inl (cA, 40, .inl (fun _ => 0))), (q10, .inl (cA, 40, .inl (fun _ => 0))), (q11, .inl (cA, 40, .inl (fun _ => 0))), (q12, .inl (cA, 40, .inl (fun _ => 0)))]) C hinit iw_X9_init_X9 tyX9 tyX9_ok nmX9 0 rfl rfl 17 (by decide) lk_X9_init_43 rfl rfl rfl rfl rfl rfl (Nat.le_of_ble_eq_true rfl) rfl dX9_init_99 ?_
  refine mv_aload_n C dX9_init_102 rfl 0 rfl ?_
  refine mv_sipush (v := (310 : Int32)) C dX9_init_103 (by decide) ?_
  refine mv_newa (N := 310) C (by decide +kernel) (by decide) (by decide) (by decide) (by show _ ≤ 20; decide) (by show _ ≤ 13557; decide) dX9_init_106 (fun q13 => ?_)
  refine mv_ws (ws1 := [(h0, .inr (9, [.ref q1, .int 0, .ref q2, .ref q3, .int 0, .ref q4, .ref q5, .int 0, .int 0, .ref q6, .ref q7, .int 0, .int 0, .ref q8, .ref q9, .ref q10, .ref q11, .ref q12, .null, .null, .int 0, .int 0, .null, .null, .null, .null, .null, .int 0, .null, .int 0, .int 0, .int 0, .int 0, .int 0, .int 0, .int 0])), (q1, .inl (cA, 120, .inl (fun _ => 0))), (q2, .inl (cA, 2600, .inl (fun _ => 0))), (q3, .inl (cA, 2600, .inl (fun _ => 0))), (q4, .inl (cA, 3200, .inl (fun _ => 0))), (q5, .inl (cA, 3200, .inl (fun _ => 0))), (q6, .inl (cA, 4, .inl (fun _ => 0))), (q7, .inl (cA, 4, .inl (fun _ => 0))), (q8, .inl (cA, 40, .inl (fun _ => 0))), (q9, .inl (cA, 40, .inl (fun _ => 0))), (q10, .inl (cA, 40, .inl (fun _ => 0))), (q11, .inl (cA, 40, .inl (fun _ => 0))), (q12, .inl (cA, 40, .inl (fun _ => 0))), (q13, .inl (cA, 310, .inl (fun _ => 0)))]) rfl ?_
  refine mv_putF (ty := (.array .int)) (ws1 := [(h0, .inr (9, [.ref q1, .int 0, .ref q2, .ref q3, .int 0, .ref q4, .ref q5, .int 0, .int 0, .ref q6, .ref q7, .int 0, .int 0, .ref q8, .ref q9, .ref q10, .ref q11, .ref q12, .ref q13, .null, .int 0, .int 0, .null, .null, .null, .null, .null, .int 0, .null, .int 0, .int 0, .int 0, .int 0, .int 0, .int 0, .int 0])), (q1, .inl (cA, 120, .inl (fun _ => 0))), (q2, .inl (cA, 2600, .inl (fun _ => 0))), (q3, .inl (cA, 2600, .inl (fun _ => 0))), (q4, .inl (cA, 3200, .inl (fun _ => 0))), (q5, .inl (cA, 3200, .inl (fun _ => 0))), (q6, .inl (cA, 4, .inl (fun _ => 0))), (q7, .inl (cA, 4, .inl (fun _ => 0))), (q8, .inl (cA, 40, .inl (fun _ => 0))), (q9, .inl (cA, 40, .inl (fun _ => 0))), (q10, .inl (cA, 40, .inl (fun _ => 0))), (q11, .inl (cA, 40, .inl (fun _ => 0))), (q12, .inl (cA, 40, .inl (fun _ => 0))), (q13, .inl (cA, 310, .inl (fun _ => 0)))]) C hinit iw_X9_init_X9 tyX9 tyX9_ok nmX9 0 rfl rfl 18 (by decide) lk_X9_init_46 rfl rfl rfl rfl rfl rfl (Nat.le_of_ble_eq_true rfl) rfl dX9_init_108 ?_
  refine mv_aload_n C dX9_init_111 rfl 0 rfl ?_
  refine mv_sipush (v := (310 : Int32)) C dX9_init_112 (by decide) ?_
  refine mv_newa (N := 310) C (by decide +kernel) (by decide) (by decide) (by decide) (by show _ ≤ 20; decide) (by show _ ≤ 13557; decide) dX9_init_115 (fun q14 => ?_)
  refine mv_ws (ws1 := [(h0, .inr (9, [.ref q1, .int 0, .ref q2, .ref q3, .int 0, .ref q4, .ref q5, .int 0, .int 0, .ref q6, .ref q7, .int 0, .int 0, .ref q8, .ref q9, .ref q10, .ref q11, .ref q12, .ref q13, .null, .int 0, .int 0, .null, .null, .null, .null, .null, .int 0, .null, .int 0, .int 0, .int 0, .int 0, .int 0, .int 0, .int 0])), (q1, .inl (cA, 120, .inl (fun _ => 0))), (q2, .inl (cA, 2600, .inl (fun _ => 0))), (q3, .inl (cA, 2600, .inl (fun _ => 0))), (q4, .inl (cA, 3200, .inl (fun _ => 0))), (q5, .inl (cA, 3200, .inl (fun _ => 0))), (q6, .inl (cA, 4, .inl (fun _ => 0))), (q7, .inl (cA, 4, .inl (fun _ => 0))), (q8, .inl (cA, 40, .inl (fun _ => 0))), (q9, .inl (cA, 40, .inl (fun _ => 0))), (q10, .inl (cA, 40, .inl (fun _ => 0))), (q11, .inl (cA, 40, .inl (fun _ => 0))), (q12, .inl (cA, 40, .inl (fun _ => 0))), (q13, .inl (cA, 310, .inl (fun _ => 0))), (q14, .inl (cA, 310, .inl (fun _ => 0)))]) rfl ?_
  refine mv_putF (ty := (.array .int)) (ws1 := [(h0, .inr (9, [.ref q1, .int 0, .ref q2, .ref q3, .int 0, .ref q4, .ref q5, .int 0, .int 0, .ref q6, .ref q7, .int 0, .int 0, .ref q8, .ref q9, .ref q10, .ref q11, .ref q12, .ref q13, .ref q14, .int 0, .int 0, .null, .null, .null, .null, .null, .int 0, .null, .int 0, .int 0, .int 0, .int 0, .int 0, .int 0, .int 0])), (q1, .inl (cA, 120, .inl (fun _ => 0))), (q2, .inl (cA, 2600, .inl (fun _ => 0))), (q3, .inl (cA, 2600, .inl (fun _ => 0))), (q4, .inl (cA, 3200, .inl (fun _ => 0))), (q5, .inl (cA, 3200, .inl (fun _ => 0))), (q6, .inl (cA, 4, .inl (fun _ => 0))), (q7, .inl (cA, 4, .inl (fun _ => 0))), (q8, .inl (cA, 40, .inl (fun _ => 0))), (q9, .inl (cA, 40, .inl (fun _ => 0))), (q10, .inl (cA, 40, .inl (fun _ => 0))), (q11, .inl (cA, 40, .inl (fun _ => 0))), (q12, .inl (cA, 40, .inl (fun _ => 0))), (q13, .inl (cA, 310, .inl (fun _ => 0))), (q14, .inl (cA, 310, .inl (fun _ => 0)))]) C hinit iw_X9_init_X9 tyX9 tyX9_ok nmX9 0 rfl rfl 19 (by decide) lk_X9_init_49 rfl rfl rfl rfl rfl rfl (Nat.le_of_ble_eq_true rfl) rfl dX9_init_117 ?_
  refine mv_aload_n C dX9_init_120 rfl 0 rfl ?_
  refine mv_sipush (v := (400 : Int32)) C dX9_init_121 (by decide) ?_
  refine mv_newa (N := 400) C (by decide +kernel) (by decide) (by decide) (by decide) (by show _ ≤ 20; decide) (by show _ ≤ 13557; decide) dX9_init_124 (fun q15 => ?_)
  refine mv_ws (ws1 := [(h0, .inr (9, [.ref q1, .int 0, .ref q2, .ref q3, .int 0, .ref q4, .ref q5, .int 0, .int 0, .ref q6, .ref q7, .int 0, .int 0, .ref q8, .ref q9, .ref q10, .ref q11, .ref q12, .ref q13, .ref q14, .int 0, .int 0, .null, .null, .null, .null, .null, .int 0, .null, .int 0, .int 0, .int 0, .int 0, .int 0, .int 0, .int 0])), (q1, .inl (cA, 120, .inl (fun _ => 0))), (q2, .inl (cA, 2600, .inl (fun _ => 0))), (q3, .inl (cA, 2600, .inl (fun _ => 0))), (q4, .inl (cA, 3200, .inl (fun _ => 0))), (q5, .inl (cA, 3200, .inl (fun _ => 0))), (q6, .inl (cA, 4, .inl (fun _ => 0))), (q7, .inl (cA, 4, .inl (fun _ => 0))), (q8, .inl (cA, 40, .inl (fun _ => 0))), (q9, .inl (cA, 40, .inl (fun _ => 0))), (q10, .inl (cA, 40, .inl (fun _ => 0))), (q11, .inl (cA, 40, .inl (fun _ => 0))), (q12, .inl (cA, 40, .inl (fun _ => 0))), (q13, .inl (cA, 310, .inl (fun _ => 0))), (q14, .inl (cA, 310, .inl (fun _ => 0))), (q15, .inl (cA, 400, .inl (fun _ => 0)))]) rfl ?_
  refine mv_putF (ty := (.array .int)) (ws1 := [(h0, .inr (9, [.ref q1, .int 0, .ref q2, .ref q3, .int 0, .ref q4, .ref q5, .int 0, .int 0, .ref q6, .ref q7, .int 0, .int 0, .ref q8, .ref q9, .ref q10, .ref q11, .ref q12, .ref q13, .ref q14, .int 0, .int 0, .ref q15, .null, .null, .null, .null, .int 0, .null, .int 0, .int 0, .int 0, .int 0, .int 0, .int 0, .int 0])), (q1, .inl (cA, 120, .inl (fun _ => 0))), (q2, .inl (cA, 2600, .inl (fun _ => 0))), (q3, .inl (cA, 2600, .inl (fun _ => 0))), (q4, .inl (cA, 3200, .inl (fun _ => 0))), (q5, .inl (cA, 3200, .inl (fun _ => 0))), (q6, .inl (cA, 4, .inl (fun _ => 0))), (q7, .inl (cA, 4, .inl (fun _ => 0))), (q8, .inl (cA, 40, .inl (fun _ => 0))), (q9, .inl (cA, 40, .inl (fun _ => 0))), (q10, .inl (cA, 40, .inl (fun _ => 0))), (q11, .inl (cA, 40, .inl (fun _ => 0))), (q12, .inl (cA, 40, .inl (fun _ => 0))), (q13, .inl (cA, 310, .inl (fun _ => 0))), (q14, .inl (cA, 310, .inl (fun _ => 0))), (q15, .inl (cA, 400, .inl (fun _ => 0)))]) C hinit iw_X9_init_X9 tyX9 tyX9_ok nmX9 0 rfl rfl 22 (by decide) lk_X9_init_52 rfl rfl rfl rfl rfl rfl (Nat.le_of_ble_eq_true rfl) rfl dX9_init_126 ?_
  refine mv_aload_n C dX9_init_129 rfl 0 rfl ?_
  refine mv_sipush (v := (400 : Int32)) C dX9_init_130 (by decide) ?_
  refine mv_newa (N := 400) C (by decide +kernel) (by decide) (by decide) (by decide) (by show _ ≤ 20; decide) (by show _ ≤ 13557; decide) dX9_init_133 (fun q16 => ?_)
  refine mv_ws (ws1 := [(h0, .inr (9, [.ref q1, .int 0, .ref q2, .ref q3, .int 0, .ref q4, .ref q5, .int 0, .int 0, .ref q6, .ref q7, .int 0, .int 0, .ref q8, .ref q9, .ref q10, .ref q11, .ref q12, .ref q13, .ref q14, .int 0, .int 0, .ref q15, .null, .null, .null, .null, .int 0, .null, .int 0, .int 0, .int 0, .int 0, .int 0, .int 0, .int 0])), (q1, .inl (cA, 120, .inl (fun _ => 0))), (q2, .inl (cA, 2600, .inl (fun _ => 0))), (q3, .inl (cA, 2600, .inl (fun _ => 0))), (q4, .inl (cA, 3200, .inl (fun _ => 0))), (q5, .inl (cA, 3200, .inl (fun _ => 0))), (q6, .inl (cA, 4, .inl (fun _ => 0))), (q7, .inl (cA, 4, .inl (fun _ => 0))), (q8, .inl (cA, 40, .inl (fun _ => 0))), (q9, .inl (cA, 40, .inl (fun _ => 0))), (q10, .inl (cA, 40, .inl (fun _ => 0))), (q11, .inl (cA, 40, .inl (fun _ => 0))), (q12, .inl (cA, 40, .inl (fun _ => 0))), (q13, .inl (cA, 310, .inl (fun _ => 0))), (q14, .inl (cA, 310, .inl (fun _ => 0))), (q15, .inl (cA, 400, .inl (fun _ => 0))), (q16, .inl (cA, 400, .inl (fun _ => 0)))]) rfl ?_
  refine mv_putF (ty := (.array .int)) (ws1 := [(h0, .inr (9, [.ref q1, .int 0, .ref q2, .ref q3, .int 0, .ref q4, .ref q5, .int 0, .int 0, .ref q6, .ref q7, .int 0, .int 0, .ref q8, .ref q9, .ref q10, .ref q11, .ref q12, .ref q13, .ref q14, .int 0, .int 0, .ref q15, .ref q16, .null, .null, .null, .int 0, .null, .int 0, .int 0, .int 0, .int 0, .int 0, .int 0, .int 0])), (q1, .inl (cA, 120, .inl (fun _ => 0))), (q2, .inl (cA, 2600, .inl (fun _ => 0))), (q3, .inl (cA, 2600, .inl (fun _ => 0))), (q4, .inl (cA, 3200, .inl (fun _ => 0))), (q5, .inl (cA, 3200, .inl (fun _ => 0))), (q6, .inl (cA, 4, .inl (fun _ => 0))), (q7, .inl (cA, 4, .inl (fun _ => 0))), (q8, .inl (cA, 40, .inl (fun _ => 0))), (q9, .inl (cA, 40, .inl (fun _ => 0))), (q10, .inl (cA, 40, .inl (fun _ => 0))), (q11, .inl (cA, 40, .inl (fun _ => 0))), (q12, .inl (cA, 40, .inl (fun _ => 0))), (q13, .inl (cA, 310, .inl (fun _ => 0))), (q14, .inl (cA, 310, .inl (fun _ => 0))), (q15, .inl (cA, 400, .inl (fun _ => 0))), (q16, .inl (cA, 400, .inl (fun _ => 0)))]) C hinit iw_X9_init_X9 tyX9 tyX9_ok nmX9 0 rfl rfl 23 (by decide) lk_X9_init_55 rfl rfl rfl rfl rfl rfl (Nat.le_of_ble_eq_true rfl) rfl dX9_init_135 ?_
  refine mv_aload_n C dX9_init_138 rfl 0 rfl ?_
  refine mv_iconst (v := (3 : Int32)) C dX9_init_139 (by decide) ?_
  refine mv_newa (N := 3) C (by decide +kernel) (by decide) (by decide) (by decide) (by show _ ≤ 20; decide) (by show _ ≤ 13557; decide) dX9_init_140 (fun q17 => ?_)
  refine mv_ws (ws1 := [(h0, .inr (9, [.ref q1, .int 0, .ref q2, .ref q3, .int 0, .ref q4, .ref q5, .int 0, .int 0, .ref q6, .ref q7, .int 0, .int 0, .ref q8, .ref q9, .ref q10, .ref q11, .ref q12, .ref q13, .ref q14, .int 0, .int 0, .ref q15, .ref q16, .null, .null, .null, .int 0, .null, .int 0, .int 0, .int 0, .int 0, .int 0, .int 0, .int 0])), (q1, .inl (cA, 120, .inl (fun _ => 0))), (q2, .inl (cA, 2600, .inl (fun _ => 0))), (q3, .inl (cA, 2600, .inl (fun _ => 0))), (q4, .inl (cA, 3200, .inl (fun _ => 0))), (q5, .inl (cA, 3200, .inl (fun _ => 0))), (q6, .inl (cA, 4, .inl (fun _ => 0))), (q7, .inl (cA, 4, .inl (fun _ => 0))), (q8, .inl (cA, 40, .inl (fun _ => 0))), (q9, .inl (cA, 40, .inl (fun _ => 0))), (q10, .inl (cA, 40, .inl (fun _ => 0))), (q11, .inl (cA, 40, .inl (fun _ => 0))), (q12, .inl (cA, 40, .inl (fun _ => 0))), (q13, .inl (cA, 310, .inl (fun _ => 0))), (q14, .inl (cA, 310, .inl (fun _ => 0))), (q15, .inl (cA, 400, .inl (fun _ => 0))), (q16, .inl (cA, 400, .inl (fun _ => 0))), (q17, .inl (cA, 3, .inl (fun _ => 0)))]) rfl ?_
  refine mv_putF (ty := (.array .int)) (ws1 := [(h0, .inr (9, [.ref q1, .int 0, .ref q2, .ref q3, .int 0, .ref q4, .ref q5, .int 0, .int 0, .ref q6, .ref q7, .int 0, .int 0, .ref q8, .ref q9, .ref q10, .ref q11, .ref q12, .ref q13, .ref q14, .int 0, .int 0, .ref q15, .ref q16, .ref q17, .null, .null, .int 0, .null, .int 0, .int 0, .int 0, .int 0, .int 0, .int 0, .int 0])), (q1, .inl (cA, 120, .inl (fun _ => 0))), (q2, .inl (cA, 2600, .inl (fun _ => 0))), (q3, .inl (cA, 2600, .inl (fun _ => 0))), (q4, .inl (cA, 3200, .inl (fun _ => 0))), (q5, .inl (cA, 3200, .inl (fun _ => 0))), (q6, .inl (cA, 4, .inl (fun _ => 0))), (q7, .inl (cA, 4, .inl (fun _ => 0))), (q8, .inl (cA, 40, .inl (fun _ => 0))), (q9, .inl (cA, 40, .inl (fun _ => 0))), (q10, .inl (cA, 40, .inl (fun _ => 0))), (q11, .inl (cA, 40, .inl (fun _ => 0))), (q12, .inl (cA, 40, .inl (fun _ => 0))), (q13, .inl (cA, 310, .inl (fun _ => 0))), (q14, .inl (cA, 310, .inl (fun _ => 0))), (q15, .inl (cA, 400, .inl (fun _ => 0))), (q16, .inl (cA, 400, .inl (fun _ => 0))), (q17, .inl (cA, 3, .inl (fun _ => 0)))]) C hinit iw_X9_init_X9 tyX9 tyX9_ok nmX9 0 rfl rfl 24 (by decide) lk_X9_init_58 rfl rfl rfl rfl rfl rfl (Nat.le_of_ble_eq_true rfl) rfl dX9_init_142 ?_
  refine mv_aload_n C dX9_init_145 rfl 0 rfl ?_
  refine mv_iconst (v := (3 : Int32)) C dX9_init_146 (by decide) ?_
  refine mv_newa (N := 3) C (by decide +kernel) (by decide) (by decide) (by decide) (by show _ ≤ 20; decide) (by show _ ≤ 13557; decide) dX9_init_147 (fun q18 => ?_)
  refine mv_ws (ws1 := [(h0, .inr (9, [.ref q1, .int 0, .ref q2, .ref q3, .int 0, .ref q4, .ref q5, .int 0, .int 0, .ref q6, .ref q7, .int 0, .int 0, .ref q8, .ref q9, .ref q10, .ref q11, .ref q12, .ref q13, .ref q14, .int 0, .int 0, .ref q15, .ref q16, .ref q17, .null, .null, .int 0, .null, .int 0, .int 0, .int 0, .int 0, .int 0, .int 0, .int 0])), (q1, .inl (cA, 120, .inl (fun _ => 0))), (q2, .inl (cA, 2600, .inl (fun _ => 0))), (q3, .inl (cA, 2600, .inl (fun _ => 0))), (q4, .inl (cA, 3200, .inl (fun _ => 0))), (q5, .inl (cA, 3200, .inl (fun _ => 0))), (q6, .inl (cA, 4, .inl (fun _ => 0))), (q7, .inl (cA, 4, .inl (fun _ => 0))), (q8, .inl (cA, 40, .inl (fun _ => 0))), (q9, .inl (cA, 40, .inl (fun _ => 0))), (q10, .inl (cA, 40, .inl (fun _ => 0))), (q11, .inl (cA, 40, .inl (fun _ => 0))), (q12, .inl (cA, 40, .inl (fun _ => 0))), (q13, .inl (cA, 310, .inl (fun _ => 0))), (q14, .inl (cA, 310, .inl (fun _ => 0))), (q15, .inl (cA, 400, .inl (fun _ => 0))), (q16, .inl (cA, 400, .inl (fun _ => 0))), (q17, .inl (cA, 3, .inl (fun _ => 0))), (q18, .inl (cA, 3, .inl (fun _ => 0)))]) rfl ?_
  refine mv_putF (ty := (.array .int)) (ws1 := [(h0, .inr (9, [.ref q1, .int 0, .ref q2, .ref q3, .int 0, .ref q4, .ref q5, .int 0, .int 0, .ref q6, .ref q7, .int 0, .int 0, .ref q8, .ref q9, .ref q10, .ref q11, .ref q12, .ref q13, .ref q14, .int 0, .int 0, .ref q15, .ref q16, .ref q17, .ref q18, .null, .int 0, .null, .int 0, .int 0, .int 0, .int 0, .int 0, .int 0, .int 0])), (q1, .inl (cA, 120, .inl (fun _ => 0))), (q2, .inl (cA, 2600, .inl (fun _ => 0))), (q3, .inl (cA, 2600, .inl (fun _ => 0))), (q4, .inl (cA, 3200, .inl (fun _ => 0))), (q5, .inl (cA, 3200, .inl (fun _ => 0))), (q6, .inl (cA, 4, .inl (fun _ => 0))), (q7, .inl (cA, 4, .inl (fun _ => 0))), (q8, .inl (cA, 40, .inl (fun _ => 0))), (q9, .inl (cA, 40, .inl (fun _ => 0))), (q10, .inl (cA, 40, .inl (fun _ => 0))), (q11, .inl (cA, 40, .inl (fun _ => 0))), (q12, .inl (cA, 40, .inl (fun _ => 0))), (q13, .inl (cA, 310, .inl (fun _ => 0))), (q14, .inl (cA, 310, .inl (fun _ => 0))), (q15, .inl (cA, 400, .inl (fun _ => 0))), (q16, .inl (cA, 400, .inl (fun _ => 0))), (q17, .inl (cA, 3, .inl (fun _ => 0))), (q18, .inl (cA, 3, .inl (fun _ => 0)))]) C hinit iw_X9_init_X9 tyX9 tyX9_ok nmX9 0 rfl rfl 25 (by decide) lk_X9_init_61 rfl rfl rfl rfl rfl rfl (Nat.le_of_ble_eq_true rfl) rfl dX9_init_149 ?_
  refine mv_aload_n C dX9_init_152 rfl 0 rfl ?_
  refine mv_iconst (v := (3 : Int32)) C dX9_init_153 (by decide) ?_
  refine mv_newa (N := 3) C (by decide +kernel) (by decide) (by decide) (by decide) (by show _ ≤ 20; decide) (by show _ ≤ 13557; decide) dX9_init_154 (fun q19 => ?_)
  refine mv_ws (ws1 := [(h0, .inr (9, [.ref q1, .int 0, .ref q2, .ref q3, .int 0, .ref q4, .ref q5, .int 0, .int 0, .ref q6, .ref q7, .int 0, .int 0, .ref q8, .ref q9, .ref q10, .ref q11, .ref q12, .ref q13, .ref q14, .int 0, .int 0, .ref q15, .ref q16, .ref q17, .ref q18, .null, .int 0, .null, .int 0, .int 0, .int 0, .int 0, .int 0, .int 0, .int 0])), (q1, .inl (cA, 120, .inl (fun _ => 0))), (q2, .inl (cA, 2600, .inl (fun _ => 0))), (q3, .inl (cA, 2600, .inl (fun _ => 0))), (q4, .inl (cA, 3200, .inl (fun _ => 0))), (q5, .inl (cA, 3200, .inl (fun _ => 0))), (q6, .inl (cA, 4, .inl (fun _ => 0))), (q7, .inl (cA, 4, .inl (fun _ => 0))), (q8, .inl (cA, 40, .inl (fun _ => 0))), (q9, .inl (cA, 40, .inl (fun _ => 0))), (q10, .inl (cA, 40, .inl (fun _ => 0))), (q11, .inl (cA, 40, .inl (fun _ => 0))), (q12, .inl (cA, 40, .inl (fun _ => 0))), (q13, .inl (cA, 310, .inl (fun _ => 0))), (q14, .inl (cA, 310, .inl (fun _ => 0))), (q15, .inl (cA, 400, .inl (fun _ => 0))), (q16, .inl (cA, 400, .inl (fun _ => 0))), (q17, .inl (cA, 3, .inl (fun _ => 0))), (q18, .inl (cA, 3, .inl (fun _ => 0))), (q19, .inl (cA, 3, .inl (fun _ => 0)))]) rfl ?_
  refine mv_putF (ty := (.array .int)) (ws1 := [(h0, .inr (9, [.ref q1, .int 0, .ref q2, .ref q3, .int 0, .ref q4, .ref q5, .int 0, .int 0, .ref q6, .ref q7, .int 0, .int 0, .ref q8, .ref q9, .ref q10, .ref q11, .ref q12, .ref q13, .ref q14, .int 0, .int 0, .ref q15, .ref q16, .ref q17, .ref q18, .ref q19, .int 0, .null, .int 0, .int 0, .int 0, .int 0, .int 0, .int 0, .int 0])), (q1, .inl (cA, 120, .inl (fun _ => 0))), (q2, .inl (cA, 2600, .inl (fun _ => 0))), (q3, .inl (cA, 2600, .inl (fun _ => 0))), (q4, .inl (cA, 3200, .inl (fun _ => 0))), (q5, .inl (cA, 3200, .inl (fun _ => 0))), (q6, .inl (cA, 4, .inl (fun _ => 0))), (q7, .inl (cA, 4, .inl (fun _ => 0))), (q8, .inl (cA, 40, .inl (fun _ => 0))), (q9, .inl (cA, 40, .inl (fun _ => 0))), (q10, .inl (cA, 40, .inl (fun _ => 0))), (q11, .inl (cA, 40, .inl (fun _ => 0))), (q12, .inl (cA, 40, .inl (fun _ => 0))), (q13, .inl (cA, 310, .inl (fun _ => 0))), (q14, .inl (cA, 310, .inl (fun _ => 0))), (q15, .inl (cA, 400, .inl (fun _ => 0))), (q16, .inl (cA, 400, .inl (fun _ => 0))), (q17, .inl (cA, 3, .inl (fun _ => 0))), (q18, .inl (cA, 3, .inl (fun _ => 0))), (q19, .inl (cA, 3, .inl (fun _ => 0)))]) C hinit iw_X9_init_X9 tyX9 tyX9_ok nmX9 0 rfl rfl 26 (by decide) lk_X9_init_64 rfl rfl rfl rfl rfl rfl (Nat.le_of_ble_eq_true rfl) rfl dX9_init_156 ?_
  refine mv_aload_n C dX9_init_159 rfl 0 rfl ?_
  refine mv_sipush (v := (200 : Int32)) C dX9_init_160 (by decide) ?_
  refine mv_newa (N := 200) C (by decide +kernel) (by decide) (by decide) (by decide) (by show _ ≤ 20; decide) (by show _ ≤ 13557; decide) dX9_init_163 (fun q20 => ?_)
  refine mv_ws (ws1 := [(h0, .inr (9, [.ref q1, .int 0, .ref q2, .ref q3, .int 0, .ref q4, .ref q5, .int 0, .int 0, .ref q6, .ref q7, .int 0, .int 0, .ref q8, .ref q9, .ref q10, .ref q11, .ref q12, .ref q13, .ref q14, .int 0, .int 0, .ref q15, .ref q16, .ref q17, .ref q18, .ref q19, .int 0, .null, .int 0, .int 0, .int 0, .int 0, .int 0, .int 0, .int 0])), (q1, .inl (cA, 120, .inl (fun _ => 0))), (q2, .inl (cA, 2600, .inl (fun _ => 0))), (q3, .inl (cA, 2600, .inl (fun _ => 0))), (q4, .inl (cA, 3200, .inl (fun _ => 0))), (q5, .inl (cA, 3200, .inl (fun _ => 0))), (q6, .inl (cA, 4, .inl (fun _ => 0))), (q7, .inl (cA, 4, .inl (fun _ => 0))), (q8, .inl (cA, 40, .inl (fun _ => 0))), (q9, .inl (cA, 40, .inl (fun _ => 0))), (q10, .inl (cA, 40, .inl (fun _ => 0))), (q11, .inl (cA, 40, .inl (fun _ => 0))), (q12, .inl (cA, 40, .inl (fun _ => 0))), (q13, .inl (cA, 310, .inl (fun _ => 0))), (q14, .inl (cA, 310, .inl (fun _ => 0))), (q15, .inl (cA, 400, .inl (fun _ => 0))), (q16, .inl (cA, 400, .inl (fun _ => 0))), (q17, .inl (cA, 3, .inl (fun _ => 0))), (q18, .inl (cA, 3, .inl (fun _ => 0))), (q19, .inl (cA, 3, .inl (fun _ => 0))), (q20, .inl (cA, 200, .inl (fun _ => 0)))]) rfl ?_
  refine mv_putF (ty := (.array .int)) (ws1 := [(h0, .inr (9, [.ref q1, .int 0, .ref q2, .ref q3, .int 0, .ref q4, .ref q5, .int 0, .int 0, .ref q6, .ref q7, .int 0, .int 0, .ref q8, .ref q9, .ref q10, .ref q11, .ref q12, .ref q13, .ref q14, .int 0, .int 0, .ref q15, .ref q16, .ref q17, .ref q18, .ref q19, .int 0, .ref q20, .int 0, .int 0, .int 0, .int 0, .int 0, .int 0, .int 0])), (q1, .inl (cA, 120, .inl (fun _ => 0))), (q2, .inl (cA, 2600, .inl (fun _ => 0))), (q3, .inl (cA, 2600, .inl (fun _ => 0))), (q4, .inl (cA, 3200, .inl (fun _ => 0))), (q5, .inl (cA, 3200, .inl (fun _ => 0))), (q6, .inl (cA, 4, .inl (fun _ => 0))), (q7, .inl (cA, 4, .inl (fun _ => 0))), (q8, .inl (cA, 40, .inl (fun _ => 0))), (q9, .inl (cA, 40, .inl (fun _ => 0))), (q10, .inl (cA, 40, .inl (fun _ => 0))), (q11, .inl (cA, 40, .inl (fun _ => 0))), (q12, .inl (cA, 40, .inl (fun _ => 0))), (q13, .inl (cA, 310, .inl (fun _ => 0))), (q14, .inl (cA, 310, .inl (fun _ => 0))), (q15, .inl (cA, 400, .inl (fun _ => 0))), (q16, .inl (cA, 400, .inl (fun _ => 0))), (q17, .inl (cA, 3, .inl (fun _ => 0))), (q18, .inl (cA, 3, .inl (fun _ => 0))), (q19, .inl (cA, 3, .inl (fun _ => 0))), (q20, .inl (cA, 200, .inl (fun _ => 0)))]) C hinit iw_X9_init_X9 tyX9 tyX9_ok nmX9 0 rfl rfl 28 (by decide) lk_X9_init_67 rfl rfl rfl rfl rfl rfl (Nat.le_of_ble_eq_true rfl) rfl dX9_init_165 ?_
  exact mv_cret C (fun k => match k with | 0 => h0 | 1 => q1 | 2 => q2 | 3 => q3 | 4 => q4 | 5 => q5 | 6 => q6 | 7 => q7 | 8 => q8 | 9 => q9 | 10 => q10 | 11 => q11 | 12 => q12 | 13 => q13 | 14 => q14 | 15 => q15 | 16 => q16 | 17 => q17 | 18 => q18 | 19 => q19 | 20 => q20 | _ => 0) rfl rfl dX9_init_168
end
