def wA (cA : ClassId) (a : Nat → Nat) (u : mS) : va_W := [(a 0, .inr (8, [.ref (a 1), .int (u.1 0), .ref (a 2), .ref (a 7), .ref (a 8), .ref (a 9), .ref (a 14), .ref (a 16)])),
  (a 1, .inl (cA, 120, .inl (u.2 0))),
  (a 2, .inr (5, [.ref (a 3), .ref (a 4), .ref (a 5), .ref (a 6), .int (u.1 1), .int (u.1 2)])),
  (a 3, .inl (cA, 3000, .inl (u.2 1))),
  (a 4, .inl (cA, 3000, .inl (u.2 2))),
  (a 5, .inl (cA, 3000, .inl (u.2 3))),
  (a 6, .inl (cA, 3000, .inl (u.2 4))),
  (a 7, .inr (3, [.ref (a 2), .int (u.1 3)])),
  (a 8, .inr (6, [.ref (a 2)])),
  (a 9, .inr (7, [.ref (a 10), .ref (a 11), .ref (a 12), .ref (a 13), .int (u.1 4), .int (u.1 5)])),
  (a 10, .inl (cA, 40, .inl (u.2 5))),
  (a 11, .inl (cA, 40, .inl (u.2 6))),
  (a 12, .inl (cA, 40, .inl (u.2 7))),
  (a 13, .inl (cA, 40, .inl (u.2 8))),
  (a 14, .inr (2, [.ref (a 15), .int (u.1 6), .int (u.1 7)])),
  (a 15, .inl (cA, 200, .inl (u.2 9))),
  (a 16, .inr (0, [.ref (a 2), .ref (a 8), .ref (a 9), .ref (a 14), .ref (a 17), .int (u.1 8), .int (u.1 9), .int (u.1 10), .int (u.1 11)])),
  (a 17, .inr (1, [.ref (a 2), .ref (a 14), .ref (a 18), .int (u.1 12), .int (u.1 13), .int (u.1 14)])),
  (a 18, .inr (4, [.ref (a 19), .ref (a 20), .ref (a 21), .int (u.1 15)])),
  (a 19, .inl (cA, 2, .inl (u.2 10))),
  (a 20, .inl (cA, 2, .inl (u.2 11))),
  (a 21, .inl (cA, 2, .inl (u.2 12)))]
def wM (cA : ClassId) (b : Nat → Nat) (u : mS) : va_W := [(b 0, .inr (9, [.ref (b 1), .int (u.1 0), .ref (b 2), .ref (b 3), .int (u.1 1), .ref (b 4), .ref (b 5), .int (u.1 2), .int (u.1 3), .ref (b 6), .ref (b 7), .int (u.1 4), .int (u.1 5), .ref (b 8), .ref (b 9), .ref (b 10), .ref (b 11), .ref (b 12), .ref (b 13), .ref (b 14), .int (u.1 6), .int (u.1 7), .ref (b 15), .ref (b 16), .ref (b 17), .ref (b 18), .ref (b 19), .int (u.1 8), .ref (b 20), .int (u.1 9), .int (u.1 10), .int (u.1 11), .int (u.1 12), .int (u.1 13), .int (u.1 14), .int (u.1 15)])),
  (b 1, .inl (cA, 120, .inl (u.2 0))),
  (b 2, .inl (cA, 2600, .inl (u.2 1))),
  (b 3, .inl (cA, 2600, .inl (u.2 2))),
  (b 4, .inl (cA, 3200, .inl (u.2 3))),
  (b 5, .inl (cA, 3200, .inl (u.2 4))),
  (b 6, .inl (cA, 4, .inl (u.2 5))),
  (b 7, .inl (cA, 4, .inl (u.2 6))),
  (b 8, .inl (cA, 40, .inl (u.2 7))),
  (b 9, .inl (cA, 40, .inl (u.2 8))),
  (b 10, .inl (cA, 40, .inl (u.2 9))),
  (b 11, .inl (cA, 40, .inl (u.2 10))),
  (b 12, .inl (cA, 40, .inl (u.2 11))),
  (b 13, .inl (cA, 310, .inl (u.2 12))),
  (b 14, .inl (cA, 310, .inl (u.2 13))),
  (b 15, .inl (cA, 400, .inl (u.2 14))),
  (b 16, .inl (cA, 400, .inl (u.2 15))),
  (b 17, .inl (cA, 3, .inl (u.2 16))),
  (b 18, .inl (cA, 3, .inl (u.2 17))),
  (b 19, .inl (cA, 3, .inl (u.2 18))),
  (b 20, .inl (cA, 200, .inl (u.2 19)))]
def nestW : List Cond := [Cond.fieldLinkNest "MarkedNames$Reader" 39 "MarkedNames$Row" "top" "I" "MarkedNames", Cond.fieldLinkNest "MarkedNames$Table" 24 "MarkedNames" "FIRST_NAMES" "[I" "MarkedNames", Cond.fieldLinkNest "MarkedNames" 90 "MarkedNames$Table" "ownNames" "I" "MarkedNames", Cond.fieldLinkNest "MarkedNames" 106 "MarkedNames$Outcome" "length" "I" "MarkedNames", Cond.fieldLinkNest "MarkedNames$Expander" 54 "MarkedNames$Outcome" "error" "I" "MarkedNames", Cond.fieldLinkNest "MarkedNames" 103 "MarkedNames$Outcome" "error" "I" "MarkedNames", Cond.fieldLinkNest "MarkedNames$Filler" 86 "MarkedNames$Outcome" "error" "I" "MarkedNames", Cond.fieldLinkNest "MarkedNames$Filler" 101 "MarkedNames$Rounds" "depth" "I" "MarkedNames", Cond.fieldLinkNest "MarkedNames" 112 "MarkedNames$Expander" "scopes" "I" "MarkedNames", Cond.fieldLinkNest "MarkedNames" 115 "MarkedNames$Expander" "bindings" "I" "MarkedNames", Cond.fieldLinkNest "MarkedNames" 118 "MarkedNames$Expander" "variables" "I" "MarkedNames", Cond.fieldLinkNest "MarkedNames" 121 "MarkedNames$Expander" "fuel" "I" "MarkedNames", Cond.methodLinkNest "MarkedNames" 15 ⟨"MarkedNames$Row", "<init>", "()V"⟩ "MarkedNames", Cond.methodLinkNest "MarkedNames" 45 ⟨"MarkedNames$Outcome", "<init>", "()V"⟩ "MarkedNames", Cond.methodLinkNest "MarkedNames$Filler" 11 ⟨"MarkedNames$Rounds", "<init>", "()V"⟩ "MarkedNames", Cond.methodLinkNest "MarkedNames$RuleCheck" 24 ⟨"MarkedNames", "isName", "(I)Z"⟩ "MarkedNames", Cond.methodLinkNest "MarkedNames$RuleCheck" 48 ⟨"MarkedNames", "isTree", "(I)Z"⟩ "MarkedNames", Cond.methodLinkNest "MarkedNames$Expander" 69 ⟨"MarkedNames", "isName", "(I)Z"⟩ "MarkedNames", Cond.methodLinkNest "MarkedNames$Row" 48 ⟨"MarkedNames", "isName", "(I)Z"⟩ "MarkedNames", Cond.methodLinkNest "MarkedNames$Outcome" 29 ⟨"MarkedNames", "isName", "(I)Z"⟩ "MarkedNames", Cond.methodLinkNest "MarkedNames$Outcome" 36 ⟨"MarkedNames", "isNumber", "(I)Z"⟩ "MarkedNames", Cond.methodLinkNest "MarkedNames$Filler" 66 ⟨"MarkedNames", "isName", "(I)Z"⟩ "MarkedNames", Cond.methodLinkNest "MarkedNames$Filler" 116 ⟨"MarkedNames", "isTree", "(I)Z"⟩ "MarkedNames", Cond.methodLinkNest "MarkedNames$Expander" 77 ⟨"MarkedNames", "isNumber", "(I)Z"⟩ "MarkedNames"]
theorem nw_0 : Cond.fieldLinkNest "MarkedNames$Reader" 39 "MarkedNames$Row" "top" "I" "MarkedNames" ∈ nestW := List.mem_of_getElem? (i := 0) rfl
theorem nw_1 : Cond.fieldLinkNest "MarkedNames$Table" 24 "MarkedNames" "FIRST_NAMES" "[I" "MarkedNames" ∈ nestW := List.mem_of_getElem? (i := 1) rfl
theorem nw_2 : Cond.fieldLinkNest "MarkedNames" 90 "MarkedNames$Table" "ownNames" "I" "MarkedNames" ∈ nestW := List.mem_of_getElem? (i := 2) rfl
theorem nw_3 : Cond.fieldLinkNest "MarkedNames" 106 "MarkedNames$Outcome" "length" "I" "MarkedNames" ∈ nestW := List.mem_of_getElem? (i := 3) rfl
theorem nw_4 : Cond.fieldLinkNest "MarkedNames$Expander" 54 "MarkedNames$Outcome" "error" "I" "MarkedNames" ∈ nestW := List.mem_of_getElem? (i := 4) rfl
theorem nw_5 : Cond.fieldLinkNest "MarkedNames" 103 "MarkedNames$Outcome" "error" "I" "MarkedNames" ∈ nestW := List.mem_of_getElem? (i := 5) rfl
theorem nw_6 : Cond.fieldLinkNest "MarkedNames$Filler" 86 "MarkedNames$Outcome" "error" "I" "MarkedNames" ∈ nestW := List.mem_of_getElem? (i := 6) rfl
theorem nw_7 : Cond.fieldLinkNest "MarkedNames$Filler" 101 "MarkedNames$Rounds" "depth" "I" "MarkedNames" ∈ nestW := List.mem_of_getElem? (i := 7) rfl
theorem nw_8 : Cond.fieldLinkNest "MarkedNames" 112 "MarkedNames$Expander" "scopes" "I" "MarkedNames" ∈ nestW := List.mem_of_getElem? (i := 8) rfl
theorem nw_9 : Cond.fieldLinkNest "MarkedNames" 115 "MarkedNames$Expander" "bindings" "I" "MarkedNames" ∈ nestW := List.mem_of_getElem? (i := 9) rfl
theorem nw_10 : Cond.fieldLinkNest "MarkedNames" 118 "MarkedNames$Expander" "variables" "I" "MarkedNames" ∈ nestW := List.mem_of_getElem? (i := 10) rfl
theorem nw_11 : Cond.fieldLinkNest "MarkedNames" 121 "MarkedNames$Expander" "fuel" "I" "MarkedNames" ∈ nestW := List.mem_of_getElem? (i := 11) rfl
theorem nw_12 : Cond.methodLinkNest "MarkedNames" 15 ⟨"MarkedNames$Row", "<init>", "()V"⟩ "MarkedNames" ∈ nestW := List.mem_of_getElem? (i := 12) rfl
theorem nw_13 : Cond.methodLinkNest "MarkedNames" 45 ⟨"MarkedNames$Outcome", "<init>", "()V"⟩ "MarkedNames" ∈ nestW := List.mem_of_getElem? (i := 13) rfl
theorem nw_14 : Cond.methodLinkNest "MarkedNames$Filler" 11 ⟨"MarkedNames$Rounds", "<init>", "()V"⟩ "MarkedNames" ∈ nestW := List.mem_of_getElem? (i := 14) rfl
theorem nw_15 : Cond.methodLinkNest "MarkedNames$RuleCheck" 24 ⟨"MarkedNames", "isName", "(I)Z"⟩ "MarkedNames" ∈ nestW := List.mem_of_getElem? (i := 15) rfl
theorem nw_16 : Cond.methodLinkNest "MarkedNames$RuleCheck" 48 ⟨"MarkedNames", "isTree", "(I)Z"⟩ "MarkedNames" ∈ nestW := List.mem_of_getElem? (i := 16) rfl
theorem nw_17 : Cond.methodLinkNest "MarkedNames$Expander" 69 ⟨"MarkedNames", "isName", "(I)Z"⟩ "MarkedNames" ∈ nestW := List.mem_of_getElem? (i := 17) rfl
theorem nw_18 : Cond.methodLinkNest "MarkedNames$Row" 48 ⟨"MarkedNames", "isName", "(I)Z"⟩ "MarkedNames" ∈ nestW := List.mem_of_getElem? (i := 18) rfl
theorem nw_19 : Cond.methodLinkNest "MarkedNames$Outcome" 29 ⟨"MarkedNames", "isName", "(I)Z"⟩ "MarkedNames" ∈ nestW := List.mem_of_getElem? (i := 19) rfl
theorem nw_20 : Cond.methodLinkNest "MarkedNames$Outcome" 36 ⟨"MarkedNames", "isNumber", "(I)Z"⟩ "MarkedNames" ∈ nestW := List.mem_of_getElem? (i := 20) rfl
theorem nw_21 : Cond.methodLinkNest "MarkedNames$Filler" 66 ⟨"MarkedNames", "isName", "(I)Z"⟩ "MarkedNames" ∈ nestW := List.mem_of_getElem? (i := 21) rfl
theorem nw_22 : Cond.methodLinkNest "MarkedNames$Filler" 116 ⟨"MarkedNames", "isTree", "(I)Z"⟩ "MarkedNames" ∈ nestW := List.mem_of_getElem? (i := 22) rfl
theorem nw_23 : Cond.methodLinkNest "MarkedNames$Expander" 77 ⟨"MarkedNames", "isNumber", "(I)Z"⟩ "MarkedNames" ∈ nestW := List.mem_of_getElem? (i := 23) rfl
def tabF : Nat → Int32 := fun j => match j with
  | 0 => 91758
  | 1 => 92518
  | 2 => 369
  | 3 => 93299
  | 4 => 299
  | 5 => 298
  | 6 => 317
  | _ => 316
def eA (a : Nat → Nat) : (Nat → Prop) → State → Prop := fun A U => (∀ w ∈ nestW, va_Nw w U) ∧ va_Z "MarkedNames" "FIRST_NAMES" "[I" (.ref (a 22)) A U U.heap ∧ va_T .int (a 22) 8 (fun j => .int (tabF j)) A U U.heap
def eM : (Nat → Prop) → State → Prop := fun _ _ => True
theorem eM_ok : mEok eM := ⟨fun _ _ _ _ _ _ _ _ => trivial, fun _ _ _ _ _ _ => trivial⟩
theorem nest_warm {s U : State} (hW : s.WarmedH U.vm) : ∀ w ∈ nestW, va_Nw w s → va_Nw w U := by
  intro w hw h
  simp only [nestW, List.mem_cons, List.not_mem_nil, or_false] at hw
  rcases hw with rfl | rfl | rfl | rfl | rfl | rfl | rfl | rfl | rfl | rfl | rfl | rfl | rfl | rfl | rfl | rfl | rfl | rfl | rfl | rfl | rfl | rfl | rfl | rfl <;> first | exact va_Nw.warmF hW h | exact va_Nw.warmM hW h
theorem nest_tab : ∀ w ∈ nestW, w.onTables = true := by decide +kernel
theorem eA_ok (a : Nat → Nat) : mEok (eA a) := by
  refine ⟨fun A B s U h hAB hW hk => ?_, fun A U g mk x h => ?_⟩
  · obtain ⟨h1, h2, h3⟩ := h
    exact ⟨fun w hw => nest_warm hW w hw (h1 w hw), va_Z.moved hW.alike ((h2.kept hk).narrow hAB), va_T.moved hW.alike ((h3.kept hk).narrow hAB)⟩
  · obtain ⟨h1, h2, h3⟩ := h
    exact ⟨fun w hw => va_Nw.same (u := U) (U := U.calling g mk x) (nest_tab w hw) rfl (h1 w hw), va_Z.moved (u := U) (U := U.calling g mk x) (Vm.Alike.refl U.vm) h2, va_T.moved (u := U) (U := U.calling g mk x) (Vm.Alike.refl U.vm) h3⟩
def tabN : Nat → Int32 := (upd (upd (upd (upd (upd (upd (upd (upd (fun _ => 0) 0 (91758 : Int32)) 1 (92518 : Int32)) 2 (369 : Int32)) 3 (93299 : Int32)) 4 (299 : Int32)) 5 (298 : Int32)) 6 (317 : Int32)) 7 (316 : Int32))
def tabK : Nat → Int32 := (upd (upd (upd (upd (upd (upd (upd (upd (fun _ => 0) 0 (0 : Int32)) 1 (1 : Int32)) 2 (2 : Int32)) 3 (3 : Int32)) 4 (4 : Int32)) 5 (4 : Int32)) 6 (4 : Int32)) 7 (4 : Int32))
def uA0 : mS := (fun k => match k with | 1 => 480 | 2 => -1 | 4 => 8 | _ => 0, fun k => match k with | 5 => tabN | 7 => tabK | _ => fun _ => 0)
def uM0 : mS := (fun _ => 0, fun _ _ => 0)
