section
-- ===== PART A: goes FIRST, ahead of the names: the tables' words, and 'selects' of the private methods out of them =====
/-- a private method of a class that the tables say can be made, by its rows of tables_1 -/
def lw_okq (q : MethodName × Nat) : Prop := (q.1.cls ≠ "java/lang/invoke/MethodHandle" ∧ q.1.cls ≠ "java/lang/invoke/VarHandle") ∧ Cond.instantiable q.1.cls q.2 ∈ tables_1 ∧ Cond.privateMethod q.1 ∈ tables_1 ∧ Cond.instanceMethod q.1 ∈ tables_1
theorem lw_p0 : lw_okq (⟨"MarkedNames", "appendTyped", "(I)V"⟩, 8) := ⟨⟨by decide +kernel, by decide +kernel⟩, List.mem_of_getElem? (i := 15) (by decide +kernel), List.mem_of_getElem? (i := 236) (by decide +kernel), List.mem_of_getElem? (i := 237) (by decide +kernel)⟩
theorem lw_p1 : lw_okq (⟨"MarkedNames", "takeTyped", "()I"⟩, 8) := ⟨⟨by decide +kernel, by decide +kernel⟩, List.mem_of_getElem? (i := 15) (by decide +kernel), List.mem_of_getElem? (i := 244) (by decide +kernel), List.mem_of_getElem? (i := 245) (by decide +kernel)⟩
theorem lw_p2 : lw_okq (⟨"MarkedNames$Reader", "readToken", "([III)I"⟩, 2) := ⟨⟨by decide +kernel, by decide +kernel⟩, List.mem_of_getElem? (i := 50) (by decide +kernel), List.mem_of_getElem? (i := 258) (by decide +kernel), List.mem_of_getElem? (i := 259) (by decide +kernel)⟩
theorem lw_p3 : lw_okq (⟨"MarkedNames$Reader", "isWhole", "()Z"⟩, 2) := ⟨⟨by decide +kernel, by decide +kernel⟩, List.mem_of_getElem? (i := 50) (by decide +kernel), List.mem_of_getElem? (i := 262) (by decide +kernel), List.mem_of_getElem? (i := 263) (by decide +kernel)⟩
theorem lw_p4 : lw_okq (⟨"MarkedNames$Reader", "readName", "([III)I"⟩, 2) := ⟨⟨by decide +kernel, by decide +kernel⟩, List.mem_of_getElem? (i := 50) (by decide +kernel), List.mem_of_getElem? (i := 269) (by decide +kernel), List.mem_of_getElem? (i := 270) (by decide +kernel)⟩
theorem lw_p5 : lw_okq (⟨"MarkedNames$Row", "closeBracket", "()V"⟩, 6) := ⟨⟨by decide +kernel, by decide +kernel⟩, List.mem_of_getElem? (i := 23) (by decide +kernel), List.mem_of_getElem? (i := 277) (by decide +kernel), List.mem_of_getElem? (i := 278) (by decide +kernel)⟩
theorem lw_p6 : lw_okq (⟨"MarkedNames$Reader", "readNumber", "([III)I"⟩, 2) := ⟨⟨by decide +kernel, by decide +kernel⟩, List.mem_of_getElem? (i := 50) (by decide +kernel), List.mem_of_getElem? (i := 281) (by decide +kernel), List.mem_of_getElem? (i := 282) (by decide +kernel)⟩
theorem lw_p7 : lw_okq (⟨"MarkedNames$Reader", "readOpen", "()I"⟩, 2) := ⟨⟨by decide +kernel, by decide +kernel⟩, List.mem_of_getElem? (i := 50) (by decide +kernel), List.mem_of_getElem? (i := 285) (by decide +kernel), List.mem_of_getElem? (i := 286) (by decide +kernel)⟩
theorem lw_p8 : lw_okq (⟨"MarkedNames$Reader", "readClose", "()I"⟩, 2) := ⟨⟨by decide +kernel, by decide +kernel⟩, List.mem_of_getElem? (i := 50) (by decide +kernel), List.mem_of_getElem? (i := 289) (by decide +kernel), List.mem_of_getElem? (i := 290) (by decide +kernel)⟩
theorem lw_p9 : lw_okq (⟨"MarkedNames$Reader", "readDots", "(I)I"⟩, 2) := ⟨⟨by decide +kernel, by decide +kernel⟩, List.mem_of_getElem? (i := 50) (by decide +kernel), List.mem_of_getElem? (i := 293) (by decide +kernel), List.mem_of_getElem? (i := 294) (by decide +kernel)⟩
theorem lw_p10 : lw_okq (⟨"MarkedNames$RuleCheck", "isRule", "(I)Z"⟩, 1) := ⟨⟨by decide +kernel, by decide +kernel⟩, List.mem_of_getElem? (i := 63) (by decide +kernel), List.mem_of_getElem? (i := 322) (by decide +kernel), List.mem_of_getElem? (i := 323) (by decide +kernel)⟩
theorem lw_p11 : lw_okq (⟨"MarkedNames$RuleCheck", "isPattern", "(I)Z"⟩, 1) := ⟨⟨by decide +kernel, by decide +kernel⟩, List.mem_of_getElem? (i := 63) (by decide +kernel), List.mem_of_getElem? (i := 330) (by decide +kernel), List.mem_of_getElem? (i := 331) (by decide +kernel)⟩
theorem lw_p12 : lw_okq (⟨"MarkedNames$RuleCheck", "linkUses", "(II)V"⟩, 1) := ⟨⟨by decide +kernel, by decide +kernel⟩, List.mem_of_getElem? (i := 63) (by decide +kernel), List.mem_of_getElem? (i := 349) (by decide +kernel), List.mem_of_getElem? (i := 350) (by decide +kernel)⟩
theorem lw_p13 : lw_okq (⟨"MarkedNames$RuleCheck", "isTemplate", "(II)Z"⟩, 1) := ⟨⟨by decide +kernel, by decide +kernel⟩, List.mem_of_getElem? (i := 63) (by decide +kernel), List.mem_of_getElem? (i := 357) (by decide +kernel), List.mem_of_getElem? (i := 358) (by decide +kernel)⟩
theorem lw_p14 : lw_okq (⟨"MarkedNames$Expander", "expandList", "(II)V"⟩, 9) := ⟨⟨by decide +kernel, by decide +kernel⟩, List.mem_of_getElem? (i := 124) (by decide +kernel), List.mem_of_getElem? (i := 415) (by decide +kernel), List.mem_of_getElem? (i := 416) (by decide +kernel)⟩
theorem lw_p15 : lw_okq (⟨"MarkedNames$Expander", "meaningOf", "(I)I"⟩, 9) := ⟨⟨by decide +kernel, by decide +kernel⟩, List.mem_of_getElem? (i := 124) (by decide +kernel), List.mem_of_getElem? (i := 424) (by decide +kernel), List.mem_of_getElem? (i := 425) (by decide +kernel)⟩
def lw_privs_1 : List (MethodName × Nat) := [(⟨"MarkedNames", "appendTyped", "(I)V"⟩, 8), (⟨"MarkedNames", "takeTyped", "()I"⟩, 8), (⟨"MarkedNames$Reader", "readToken", "([III)I"⟩, 2), (⟨"MarkedNames$Reader", "isWhole", "()Z"⟩, 2), (⟨"MarkedNames$Reader", "readName", "([III)I"⟩, 2), (⟨"MarkedNames$Row", "closeBracket", "()V"⟩, 6), (⟨"MarkedNames$Reader", "readNumber", "([III)I"⟩, 2), (⟨"MarkedNames$Reader", "readOpen", "()I"⟩, 2), (⟨"MarkedNames$Reader", "readClose", "()I"⟩, 2), (⟨"MarkedNames$Reader", "readDots", "(I)I"⟩, 2), (⟨"MarkedNames$RuleCheck", "isRule", "(I)Z"⟩, 1), (⟨"MarkedNames$RuleCheck", "isPattern", "(I)Z"⟩, 1), (⟨"MarkedNames$RuleCheck", "linkUses", "(II)V"⟩, 1), (⟨"MarkedNames$RuleCheck", "isTemplate", "(II)Z"⟩, 1), (⟨"MarkedNames$Expander", "expandList", "(II)V"⟩, 9), (⟨"MarkedNames$Expander", "meaningOf", "(I)I"⟩, 9)]
theorem lw_r1 : ∀ q ∈ lw_privs_1, lw_okq q := List.forall_mem_cons.mpr ⟨lw_p0, List.forall_mem_cons.mpr ⟨lw_p1, List.forall_mem_cons.mpr ⟨lw_p2, List.forall_mem_cons.mpr ⟨lw_p3, List.forall_mem_cons.mpr ⟨lw_p4, List.forall_mem_cons.mpr ⟨lw_p5, List.forall_mem_cons.mpr ⟨lw_p6, List.forall_mem_cons.mpr ⟨lw_p7, List.forall_mem_cons.mpr ⟨lw_p8, List.forall_mem_cons.mpr ⟨lw_p9, List.forall_mem_cons.mpr ⟨lw_p10, List.forall_mem_cons.mpr ⟨lw_p11, List.forall_mem_cons.mpr ⟨lw_p12, List.forall_mem_cons.mpr ⟨lw_p13, List.forall_mem_cons.mpr ⟨lw_p14, List.forall_mem_cons.mpr ⟨lw_p15, fun _ h => absurd h List.not_mem_nil⟩⟩⟩⟩⟩⟩⟩⟩⟩⟩⟩⟩⟩⟩⟩⟩
theorem lw_p16 : lw_okq (⟨"MarkedNames$Table", "holdsAllOthers", "(II)Z"⟩, 6) := ⟨⟨by decide +kernel, by decide +kernel⟩, List.mem_of_getElem? (i := 73) (by decide +kernel), List.mem_of_getElem? (i := 442) (by decide +kernel), List.mem_of_getElem? (i := 443) (by decide +kernel)⟩
theorem lw_p17 : lw_okq (⟨"MarkedNames$Expander", "expandFn", "(II)V"⟩, 9) := ⟨⟨by decide +kernel, by decide +kernel⟩, List.mem_of_getElem? (i := 124) (by decide +kernel), List.mem_of_getElem? (i := 450) (by decide +kernel), List.mem_of_getElem? (i := 451) (by decide +kernel)⟩
theorem lw_p18 : lw_okq (⟨"MarkedNames$Expander", "areNames", "(I)Z"⟩, 9) := ⟨⟨by decide +kernel, by decide +kernel⟩, List.mem_of_getElem? (i := 124) (by decide +kernel), List.mem_of_getElem? (i := 456) (by decide +kernel), List.mem_of_getElem? (i := 457) (by decide +kernel)⟩
theorem lw_p19 : lw_okq (⟨"MarkedNames$Expander", "newScope", "()I"⟩, 9) := ⟨⟨by decide +kernel, by decide +kernel⟩, List.mem_of_getElem? (i := 124) (by decide +kernel), List.mem_of_getElem? (i := 460) (by decide +kernel), List.mem_of_getElem? (i := 461) (by decide +kernel)⟩
theorem lw_p20 : lw_okq (⟨"MarkedNames$Expander", "bindVariable", "(II)V"⟩, 9) := ⟨⟨by decide +kernel, by decide +kernel⟩, List.mem_of_getElem? (i := 124) (by decide +kernel), List.mem_of_getElem? (i := 470) (by decide +kernel), List.mem_of_getElem? (i := 471) (by decide +kernel)⟩
theorem lw_p21 : lw_okq (⟨"MarkedNames$Expander", "bind", "(III)Z"⟩, 9) := ⟨⟨by decide +kernel, by decide +kernel⟩, List.mem_of_getElem? (i := 124) (by decide +kernel), List.mem_of_getElem? (i := 475) (by decide +kernel), List.mem_of_getElem? (i := 476) (by decide +kernel)⟩
theorem lw_p22 : lw_okq (⟨"MarkedNames$Expander", "putVariables", "(II)V"⟩, 9) := ⟨⟨by decide +kernel, by decide +kernel⟩, List.mem_of_getElem? (i := 124) (by decide +kernel), List.mem_of_getElem? (i := 480) (by decide +kernel), List.mem_of_getElem? (i := 481) (by decide +kernel)⟩
theorem lw_p23 : lw_okq (⟨"MarkedNames$Expander", "expandIf", "(II)V"⟩, 9) := ⟨⟨by decide +kernel, by decide +kernel⟩, List.mem_of_getElem? (i := 124) (by decide +kernel), List.mem_of_getElem? (i := 503) (by decide +kernel), List.mem_of_getElem? (i := 504) (by decide +kernel)⟩
theorem lw_p24 : lw_okq (⟨"MarkedNames$Expander", "expandQ", "(I)V"⟩, 9) := ⟨⟨by decide +kernel, by decide +kernel⟩, List.mem_of_getElem? (i := 124) (by decide +kernel), List.mem_of_getElem? (i := 508) (by decide +kernel), List.mem_of_getElem? (i := 509) (by decide +kernel)⟩
theorem lw_p25 : lw_okq (⟨"MarkedNames$Outcome", "putWord", "(I)V"⟩, 3) := ⟨⟨by decide +kernel, by decide +kernel⟩, List.mem_of_getElem? (i := 104) (by decide +kernel), List.mem_of_getElem? (i := 518) (by decide +kernel), List.mem_of_getElem? (i := 519) (by decide +kernel)⟩
theorem lw_p26 : lw_okq (⟨"MarkedNames$Expander", "expandLs", "(II)V"⟩, 9) := ⟨⟨by decide +kernel, by decide +kernel⟩, List.mem_of_getElem? (i := 124) (by decide +kernel), List.mem_of_getElem? (i := 527) (by decide +kernel), List.mem_of_getElem? (i := 528) (by decide +kernel)⟩
theorem lw_p27 : lw_okq (⟨"MarkedNames$Expander", "expandByRules", "(III)V"⟩, 9) := ⟨⟨by decide +kernel, by decide +kernel⟩, List.mem_of_getElem? (i := 124) (by decide +kernel), List.mem_of_getElem? (i := 536) (by decide +kernel), List.mem_of_getElem? (i := 537) (by decide +kernel)⟩
theorem lw_p28 : lw_okq (⟨"MarkedNames$Filler", "matches", "(II)Z"⟩, 6) := ⟨⟨by decide +kernel, by decide +kernel⟩, List.mem_of_getElem? (i := 130) (by decide +kernel), List.mem_of_getElem? (i := 545) (by decide +kernel), List.mem_of_getElem? (i := 546) (by decide +kernel)⟩
theorem lw_p29 : lw_okq (⟨"MarkedNames$Filler", "hasRoomFor", "(II)Z"⟩, 6) := ⟨⟨by decide +kernel, by decide +kernel⟩, List.mem_of_getElem? (i := 130) (by decide +kernel), List.mem_of_getElem? (i := 549) (by decide +kernel), List.mem_of_getElem? (i := 550) (by decide +kernel)⟩
theorem lw_p30 : lw_okq (⟨"MarkedNames$Rounds", "hasInner", "()Z"⟩, 4) := ⟨⟨by decide +kernel, by decide +kernel⟩, List.mem_of_getElem? (i := 136) (by decide +kernel), List.mem_of_getElem? (i := 566) (by decide +kernel), List.mem_of_getElem? (i := 567) (by decide +kernel)⟩
theorem lw_p31 : lw_okq (⟨"MarkedNames$Filler", "roundsFor", "(I)I"⟩, 6) := ⟨⟨by decide +kernel, by decide +kernel⟩, List.mem_of_getElem? (i := 130) (by decide +kernel), List.mem_of_getElem? (i := 588) (by decide +kernel), List.mem_of_getElem? (i := 589) (by decide +kernel)⟩
def lw_privs_2 : List (MethodName × Nat) := [(⟨"MarkedNames$Table", "holdsAllOthers", "(II)Z"⟩, 6), (⟨"MarkedNames$Expander", "expandFn", "(II)V"⟩, 9), (⟨"MarkedNames$Expander", "areNames", "(I)Z"⟩, 9), (⟨"MarkedNames$Expander", "newScope", "()I"⟩, 9), (⟨"MarkedNames$Expander", "bindVariable", "(II)V"⟩, 9), (⟨"MarkedNames$Expander", "bind", "(III)Z"⟩, 9), (⟨"MarkedNames$Expander", "putVariables", "(II)V"⟩, 9), (⟨"MarkedNames$Expander", "expandIf", "(II)V"⟩, 9), (⟨"MarkedNames$Expander", "expandQ", "(I)V"⟩, 9), (⟨"MarkedNames$Outcome", "putWord", "(I)V"⟩, 3), (⟨"MarkedNames$Expander", "expandLs", "(II)V"⟩, 9), (⟨"MarkedNames$Expander", "expandByRules", "(III)V"⟩, 9), (⟨"MarkedNames$Filler", "matches", "(II)Z"⟩, 6), (⟨"MarkedNames$Filler", "hasRoomFor", "(II)Z"⟩, 6), (⟨"MarkedNames$Rounds", "hasInner", "()Z"⟩, 4), (⟨"MarkedNames$Filler", "roundsFor", "(I)I"⟩, 6)]
theorem lw_r2 : ∀ q ∈ lw_privs_2, lw_okq q := List.forall_mem_cons.mpr ⟨lw_p16, List.forall_mem_cons.mpr ⟨lw_p17, List.forall_mem_cons.mpr ⟨lw_p18, List.forall_mem_cons.mpr ⟨lw_p19, List.forall_mem_cons.mpr ⟨lw_p20, List.forall_mem_cons.mpr ⟨lw_p21, List.forall_mem_cons.mpr ⟨lw_p22, List.forall_mem_cons.mpr ⟨lw_p23, List.forall_mem_cons.mpr ⟨lw_p24, List.forall_mem_cons.mpr ⟨lw_p25, List.forall_mem_cons.mpr ⟨lw_p26, List.forall_mem_cons.mpr ⟨lw_p27, List.forall_mem_cons.mpr ⟨lw_p28, List.forall_mem_cons.mpr ⟨lw_p29, List.forall_mem_cons.mpr ⟨lw_p30, List.forall_mem_cons.mpr ⟨lw_p31, fun _ h => absurd h List.not_mem_nil⟩⟩⟩⟩⟩⟩⟩⟩⟩⟩⟩⟩⟩⟩⟩⟩
theorem lw_p32 : lw_okq (⟨"MarkedNames$Filler", "matchOf", "(II)I"⟩, 6) := ⟨⟨by decide +kernel, by decide +kernel⟩, List.mem_of_getElem? (i := 130) (by decide +kernel), List.mem_of_getElem? (i := 593) (by decide +kernel), List.mem_of_getElem? (i := 594) (by decide +kernel)⟩
theorem lw_p33 : lw_okq (⟨"MarkedNames$Filler", "fillToken", "(I)V"⟩, 6) := ⟨⟨by decide +kernel, by decide +kernel⟩, List.mem_of_getElem? (i := 130) (by decide +kernel), List.mem_of_getElem? (i := 603) (by decide +kernel), List.mem_of_getElem? (i := 604) (by decide +kernel)⟩
theorem lw_p34 : lw_okq (⟨"MarkedNames$Expander", "expandEach", "(II)V"⟩, 9) := ⟨⟨by decide +kernel, by decide +kernel⟩, List.mem_of_getElem? (i := 124) (by decide +kernel), List.mem_of_getElem? (i := 610) (by decide +kernel), List.mem_of_getElem? (i := 611) (by decide +kernel)⟩
theorem lw_p35 : lw_okq (⟨"MarkedNames$Expander", "expandName", "(I)V"⟩, 9) := ⟨⟨by decide +kernel, by decide +kernel⟩, List.mem_of_getElem? (i := 124) (by decide +kernel), List.mem_of_getElem? (i := 614) (by decide +kernel), List.mem_of_getElem? (i := 615) (by decide +kernel)⟩
theorem lw_p36 : lw_okq (⟨"MarkedNamesModel", "read", "()I"⟩, 36) := ⟨⟨by decide +kernel, by decide +kernel⟩, List.mem_of_getElem? (i := 632) (by decide +kernel), List.mem_of_getElem? (i := 755) (by decide +kernel), List.mem_of_getElem? (i := 756) (by decide +kernel)⟩
theorem lw_p37 : lw_okq (⟨"MarkedNamesModel", "look", "(I)I"⟩, 36) := ⟨⟨by decide +kernel, by decide +kernel⟩, List.mem_of_getElem? (i := 632) (by decide +kernel), List.mem_of_getElem? (i := 759) (by decide +kernel), List.mem_of_getElem? (i := 760) (by decide +kernel)⟩
theorem lw_p38 : lw_okq (⟨"MarkedNamesModel", "token", "(I)I"⟩, 36) := ⟨⟨by decide +kernel, by decide +kernel⟩, List.mem_of_getElem? (i := 632) (by decide +kernel), List.mem_of_getElem? (i := 763) (by decide +kernel), List.mem_of_getElem? (i := 764) (by decide +kernel)⟩
theorem lw_p39 : lw_okq (⟨"MarkedNamesModel", "run", "(I)I"⟩, 36) := ⟨⟨by decide +kernel, by decide +kernel⟩, List.mem_of_getElem? (i := 632) (by decide +kernel), List.mem_of_getElem? (i := 770) (by decide +kernel), List.mem_of_getElem? (i := 771) (by decide +kernel)⟩
theorem lw_p40 : lw_okq (⟨"MarkedNamesModel", "code", "(II)I"⟩, 36) := ⟨⟨by decide +kernel, by decide +kernel⟩, List.mem_of_getElem? (i := 632) (by decide +kernel), List.mem_of_getElem? (i := 777) (by decide +kernel), List.mem_of_getElem? (i := 778) (by decide +kernel)⟩
theorem lw_p41 : lw_okq (⟨"MarkedNamesModel", "keep", "(III)I"⟩, 36) := ⟨⟨by decide +kernel, by decide +kernel⟩, List.mem_of_getElem? (i := 632) (by decide +kernel), List.mem_of_getElem? (i := 798) (by decide +kernel), List.mem_of_getElem? (i := 799) (by decide +kernel)⟩
theorem lw_p42 : lw_okq (⟨"MarkedNamesModel", "areRules", "(II)Z"⟩, 36) := ⟨⟨by decide +kernel, by decide +kernel⟩, List.mem_of_getElem? (i := 632) (by decide +kernel), List.mem_of_getElem? (i := 802) (by decide +kernel), List.mem_of_getElem? (i := 803) (by decide +kernel)⟩
theorem lw_p43 : lw_okq (⟨"MarkedNamesModel", "isPattern", "(I)Z"⟩, 36) := ⟨⟨by decide +kernel, by decide +kernel⟩, List.mem_of_getElem? (i := 632) (by decide +kernel), List.mem_of_getElem? (i := 812) (by decide +kernel), List.mem_of_getElem? (i := 813) (by decide +kernel)⟩
theorem lw_p44 : lw_okq (⟨"MarkedNamesModel", "heldBy", "(III)I"⟩, 36) := ⟨⟨by decide +kernel, by decide +kernel⟩, List.mem_of_getElem? (i := 632) (by decide +kernel), List.mem_of_getElem? (i := 816) (by decide +kernel), List.mem_of_getElem? (i := 817) (by decide +kernel)⟩
theorem lw_p45 : lw_okq (⟨"MarkedNamesModel", "variable", "(III)I"⟩, 36) := ⟨⟨by decide +kernel, by decide +kernel⟩, List.mem_of_getElem? (i := 632) (by decide +kernel), List.mem_of_getElem? (i := 820) (by decide +kernel), List.mem_of_getElem? (i := 821) (by decide +kernel)⟩
theorem lw_p46 : lw_okq (⟨"MarkedNamesModel", "isTemplate", "(II)Z"⟩, 36) := ⟨⟨by decide +kernel, by decide +kernel⟩, List.mem_of_getElem? (i := 632) (by decide +kernel), List.mem_of_getElem? (i := 824) (by decide +kernel), List.mem_of_getElem? (i := 825) (by decide +kernel)⟩
theorem lw_p47 : lw_okq (⟨"MarkedNamesModel", "uses", "(III)I"⟩, 36) := ⟨⟨by decide +kernel, by decide +kernel⟩, List.mem_of_getElem? (i := 632) (by decide +kernel), List.mem_of_getElem? (i := 828) (by decide +kernel), List.mem_of_getElem? (i := 829) (by decide +kernel)⟩
def lw_privs_3 : List (MethodName × Nat) := [(⟨"MarkedNames$Filler", "matchOf", "(II)I"⟩, 6), (⟨"MarkedNames$Filler", "fillToken", "(I)V"⟩, 6), (⟨"MarkedNames$Expander", "expandEach", "(II)V"⟩, 9), (⟨"MarkedNames$Expander", "expandName", "(I)V"⟩, 9), (⟨"MarkedNamesModel", "read", "()I"⟩, 36), (⟨"MarkedNamesModel", "look", "(I)I"⟩, 36), (⟨"MarkedNamesModel", "token", "(I)I"⟩, 36), (⟨"MarkedNamesModel", "run", "(I)I"⟩, 36), (⟨"MarkedNamesModel", "code", "(II)I"⟩, 36), (⟨"MarkedNamesModel", "keep", "(III)I"⟩, 36), (⟨"MarkedNamesModel", "areRules", "(II)Z"⟩, 36), (⟨"MarkedNamesModel", "isPattern", "(I)Z"⟩, 36), (⟨"MarkedNamesModel", "heldBy", "(III)I"⟩, 36), (⟨"MarkedNamesModel", "variable", "(III)I"⟩, 36), (⟨"MarkedNamesModel", "isTemplate", "(II)Z"⟩, 36), (⟨"MarkedNamesModel", "uses", "(III)I"⟩, 36)]
theorem lw_r3 : ∀ q ∈ lw_privs_3, lw_okq q := List.forall_mem_cons.mpr ⟨lw_p32, List.forall_mem_cons.mpr ⟨lw_p33, List.forall_mem_cons.mpr ⟨lw_p34, List.forall_mem_cons.mpr ⟨lw_p35, List.forall_mem_cons.mpr ⟨lw_p36, List.forall_mem_cons.mpr ⟨lw_p37, List.forall_mem_cons.mpr ⟨lw_p38, List.forall_mem_cons.mpr ⟨lw_p39, List.forall_mem_cons.mpr ⟨lw_p40, List.forall_mem_cons.mpr ⟨lw_p41, List.forall_mem_cons.mpr ⟨lw_p42, List.forall_mem_cons.mpr ⟨lw_p43, List.forall_mem_cons.mpr ⟨lw_p44, List.forall_mem_cons.mpr ⟨lw_p45, List.forall_mem_cons.mpr ⟨lw_p46, List.forall_mem_cons.mpr ⟨lw_p47, fun _ h => absurd h List.not_mem_nil⟩⟩⟩⟩⟩⟩⟩⟩⟩⟩⟩⟩⟩⟩⟩⟩
theorem lw_p48 : lw_okq (⟨"MarkedNamesModel", "beginning", "()V"⟩, 36) := ⟨⟨by decide +kernel, by decide +kernel⟩, List.mem_of_getElem? (i := 632) (by decide +kernel), List.mem_of_getElem? (i := 842) (by decide +kernel), List.mem_of_getElem? (i := 843) (by decide +kernel)⟩
theorem lw_p49 : lw_okq (⟨"MarkedNamesModel", "bind", "(IIIII)V"⟩, 36) := ⟨⟨by decide +kernel, by decide +kernel⟩, List.mem_of_getElem? (i := 632) (by decide +kernel), List.mem_of_getElem? (i := 846) (by decide +kernel), List.mem_of_getElem? (i := 847) (by decide +kernel)⟩
theorem lw_p50 : lw_okq (⟨"MarkedNamesModel", "fails", "(I)V"⟩, 36) := ⟨⟨by decide +kernel, by decide +kernel⟩, List.mem_of_getElem? (i := 632) (by decide +kernel), List.mem_of_getElem? (i := 850) (by decide +kernel), List.mem_of_getElem? (i := 851) (by decide +kernel)⟩
theorem lw_p51 : lw_okq (⟨"MarkedNamesModel", "step", "()V"⟩, 36) := ⟨⟨by decide +kernel, by decide +kernel⟩, List.mem_of_getElem? (i := 632) (by decide +kernel), List.mem_of_getElem? (i := 858) (by decide +kernel), List.mem_of_getElem? (i := 859) (by decide +kernel)⟩
theorem lw_p52 : lw_okq (⟨"MarkedNamesModel", "put", "(I)V"⟩, 36) := ⟨⟨by decide +kernel, by decide +kernel⟩, List.mem_of_getElem? (i := 632) (by decide +kernel), List.mem_of_getElem? (i := 862) (by decide +kernel), List.mem_of_getElem? (i := 863) (by decide +kernel)⟩
theorem lw_p53 : lw_okq (⟨"MarkedNamesModel", "list", "()V"⟩, 36) := ⟨⟨by decide +kernel, by decide +kernel⟩, List.mem_of_getElem? (i := 632) (by decide +kernel), List.mem_of_getElem? (i := 866) (by decide +kernel), List.mem_of_getElem? (i := 867) (by decide +kernel)⟩
theorem lw_p54 : lw_okq (⟨"MarkedNamesModel", "means", "(II)I"⟩, 36) := ⟨⟨by decide +kernel, by decide +kernel⟩, List.mem_of_getElem? (i := 632) (by decide +kernel), List.mem_of_getElem? (i := 870) (by decide +kernel), List.mem_of_getElem? (i := 871) (by decide +kernel)⟩
theorem lw_p55 : lw_okq (⟨"MarkedNamesModel", "form", "(I)V"⟩, 36) := ⟨⟨by decide +kernel, by decide +kernel⟩, List.mem_of_getElem? (i := 632) (by decide +kernel), List.mem_of_getElem? (i := 874) (by decide +kernel), List.mem_of_getElem? (i := 875) (by decide +kernel)⟩
theorem lw_p56 : lw_okq (⟨"MarkedNamesModel", "function", "()V"⟩, 36) := ⟨⟨by decide +kernel, by decide +kernel⟩, List.mem_of_getElem? (i := 632) (by decide +kernel), List.mem_of_getElem? (i := 878) (by decide +kernel), List.mem_of_getElem? (i := 879) (by decide +kernel)⟩
theorem lw_p57 : lw_okq (⟨"MarkedNamesModel", "scope", "()I"⟩, 36) := ⟨⟨by decide +kernel, by decide +kernel⟩, List.mem_of_getElem? (i := 632) (by decide +kernel), List.mem_of_getElem? (i := 882) (by decide +kernel), List.mem_of_getElem? (i := 883) (by decide +kernel)⟩
theorem lw_p58 : lw_okq (⟨"MarkedNamesModel", "give", "(III)V"⟩, 36) := ⟨⟨by decide +kernel, by decide +kernel⟩, List.mem_of_getElem? (i := 632) (by decide +kernel), List.mem_of_getElem? (i := 886) (by decide +kernel), List.mem_of_getElem? (i := 887) (by decide +kernel)⟩
theorem lw_p59 : lw_okq (⟨"MarkedNamesModel", "putOpen", "()V"⟩, 36) := ⟨⟨by decide +kernel, by decide +kernel⟩, List.mem_of_getElem? (i := 632) (by decide +kernel), List.mem_of_getElem? (i := 890) (by decide +kernel), List.mem_of_getElem? (i := 891) (by decide +kernel)⟩
theorem lw_p60 : lw_okq (⟨"MarkedNamesModel", "space", "()V"⟩, 36) := ⟨⟨by decide +kernel, by decide +kernel⟩, List.mem_of_getElem? (i := 632) (by decide +kernel), List.mem_of_getElem? (i := 894) (by decide +kernel), List.mem_of_getElem? (i := 895) (by decide +kernel)⟩
theorem lw_p61 : lw_okq (⟨"MarkedNamesModel", "putName", "(I)V"⟩, 36) := ⟨⟨by decide +kernel, by decide +kernel⟩, List.mem_of_getElem? (i := 632) (by decide +kernel), List.mem_of_getElem? (i := 898) (by decide +kernel), List.mem_of_getElem? (i := 899) (by decide +kernel)⟩
theorem lw_p62 : lw_okq (⟨"MarkedNamesModel", "putVariable", "(I)V"⟩, 36) := ⟨⟨by decide +kernel, by decide +kernel⟩, List.mem_of_getElem? (i := 632) (by decide +kernel), List.mem_of_getElem? (i := 902) (by decide +kernel), List.mem_of_getElem? (i := 903) (by decide +kernel)⟩
theorem lw_p63 : lw_okq (⟨"MarkedNamesModel", "putNumber", "(I)V"⟩, 36) := ⟨⟨by decide +kernel, by decide +kernel⟩, List.mem_of_getElem? (i := 632) (by decide +kernel), List.mem_of_getElem? (i := 906) (by decide +kernel), List.mem_of_getElem? (i := 907) (by decide +kernel)⟩
def lw_privs_4 : List (MethodName × Nat) := [(⟨"MarkedNamesModel", "beginning", "()V"⟩, 36), (⟨"MarkedNamesModel", "bind", "(IIIII)V"⟩, 36), (⟨"MarkedNamesModel", "fails", "(I)V"⟩, 36), (⟨"MarkedNamesModel", "step", "()V"⟩, 36), (⟨"MarkedNamesModel", "put", "(I)V"⟩, 36), (⟨"MarkedNamesModel", "list", "()V"⟩, 36), (⟨"MarkedNamesModel", "means", "(II)I"⟩, 36), (⟨"MarkedNamesModel", "form", "(I)V"⟩, 36), (⟨"MarkedNamesModel", "function", "()V"⟩, 36), (⟨"MarkedNamesModel", "scope", "()I"⟩, 36), (⟨"MarkedNamesModel", "give", "(III)V"⟩, 36), (⟨"MarkedNamesModel", "putOpen", "()V"⟩, 36), (⟨"MarkedNamesModel", "space", "()V"⟩, 36), (⟨"MarkedNamesModel", "putName", "(I)V"⟩, 36), (⟨"MarkedNamesModel", "putVariable", "(I)V"⟩, 36), (⟨"MarkedNamesModel", "putNumber", "(I)V"⟩, 36)]
theorem lw_r4 : ∀ q ∈ lw_privs_4, lw_okq q := List.forall_mem_cons.mpr ⟨lw_p48, List.forall_mem_cons.mpr ⟨lw_p49, List.forall_mem_cons.mpr ⟨lw_p50, List.forall_mem_cons.mpr ⟨lw_p51, List.forall_mem_cons.mpr ⟨lw_p52, List.forall_mem_cons.mpr ⟨lw_p53, List.forall_mem_cons.mpr ⟨lw_p54, List.forall_mem_cons.mpr ⟨lw_p55, List.forall_mem_cons.mpr ⟨lw_p56, List.forall_mem_cons.mpr ⟨lw_p57, List.forall_mem_cons.mpr ⟨lw_p58, List.forall_mem_cons.mpr ⟨lw_p59, List.forall_mem_cons.mpr ⟨lw_p60, List.forall_mem_cons.mpr ⟨lw_p61, List.forall_mem_cons.mpr ⟨lw_p62, List.forall_mem_cons.mpr ⟨lw_p63, fun _ h => absurd h List.not_mem_nil⟩⟩⟩⟩⟩⟩⟩⟩⟩⟩⟩⟩⟩⟩⟩⟩
theorem lw_p64 : lw_okq (⟨"MarkedNamesModel", "putClose", "()V"⟩, 36) := ⟨⟨by decide +kernel, by decide +kernel⟩, List.mem_of_getElem? (i := 632) (by decide +kernel), List.mem_of_getElem? (i := 910) (by decide +kernel), List.mem_of_getElem? (i := 911) (by decide +kernel)⟩
theorem lw_p65 : lw_okq (⟨"MarkedNamesModel", "local", "()V"⟩, 36) := ⟨⟨by decide +kernel, by decide +kernel⟩, List.mem_of_getElem? (i := 632) (by decide +kernel), List.mem_of_getElem? (i := 914) (by decide +kernel), List.mem_of_getElem? (i := 915) (by decide +kernel)⟩
theorem lw_p66 : lw_okq (⟨"MarkedNamesModel", "putToken", "(I)V"⟩, 36) := ⟨⟨by decide +kernel, by decide +kernel⟩, List.mem_of_getElem? (i := 632) (by decide +kernel), List.mem_of_getElem? (i := 919) (by decide +kernel), List.mem_of_getElem? (i := 920) (by decide +kernel)⟩
theorem lw_p67 : lw_okq (⟨"MarkedNamesModel", "use", "(I)V"⟩, 36) := ⟨⟨by decide +kernel, by decide +kernel⟩, List.mem_of_getElem? (i := 632) (by decide +kernel), List.mem_of_getElem? (i := 923) (by decide +kernel), List.mem_of_getElem? (i := 924) (by decide +kernel)⟩
theorem lw_p68 : lw_okq (⟨"MarkedNamesModel", "turn", "([I[IIII)V"⟩, 36) := ⟨⟨by decide +kernel, by decide +kernel⟩, List.mem_of_getElem? (i := 632) (by decide +kernel), List.mem_of_getElem? (i := 927) (by decide +kernel), List.mem_of_getElem? (i := 928) (by decide +kernel)⟩
theorem lw_p69 : lw_okq (⟨"MarkedNamesModel", "matches", "(II)Z"⟩, 36) := ⟨⟨by decide +kernel, by decide +kernel⟩, List.mem_of_getElem? (i := 632) (by decide +kernel), List.mem_of_getElem? (i := 931) (by decide +kernel), List.mem_of_getElem? (i := 932) (by decide +kernel)⟩
theorem lw_p70 : lw_okq (⟨"MarkedNamesModel", "pairs", "(IIIZ)I"⟩, 36) := ⟨⟨by decide +kernel, by decide +kernel⟩, List.mem_of_getElem? (i := 632) (by decide +kernel), List.mem_of_getElem? (i := 935) (by decide +kernel), List.mem_of_getElem? (i := 936) (by decide +kernel)⟩
theorem lw_p71 : lw_okq (⟨"MarkedNamesModel", "fill", "(II)V"⟩, 36) := ⟨⟨by decide +kernel, by decide +kernel⟩, List.mem_of_getElem? (i := 632) (by decide +kernel), List.mem_of_getElem? (i := 939) (by decide +kernel), List.mem_of_getElem? (i := 940) (by decide +kernel)⟩
theorem lw_p72 : lw_okq (⟨"MarkedNamesModel", "again", "(I)I"⟩, 36) := ⟨⟨by decide +kernel, by decide +kernel⟩, List.mem_of_getElem? (i := 632) (by decide +kernel), List.mem_of_getElem? (i := 943) (by decide +kernel), List.mem_of_getElem? (i := 944) (by decide +kernel)⟩
theorem lw_p73 : lw_okq (⟨"MarkedNamesModel", "isHeld", "(I)Z"⟩, 36) := ⟨⟨by decide +kernel, by decide +kernel⟩, List.mem_of_getElem? (i := 632) (by decide +kernel), List.mem_of_getElem? (i := 947) (by decide +kernel), List.mem_of_getElem? (i := 948) (by decide +kernel)⟩
theorem lw_p74 : lw_okq (⟨"MarkedNamesModel", "hold", "(III)I"⟩, 36) := ⟨⟨by decide +kernel, by decide +kernel⟩, List.mem_of_getElem? (i := 632) (by decide +kernel), List.mem_of_getElem? (i := 951) (by decide +kernel), List.mem_of_getElem? (i := 952) (by decide +kernel)⟩
theorem lw_p75 : lw_okq (⟨"MarkedNamesModel", "roundsOf", "(IIII)I"⟩, 36) := ⟨⟨by decide +kernel, by decide +kernel⟩, List.mem_of_getElem? (i := 632) (by decide +kernel), List.mem_of_getElem? (i := 955) (by decide +kernel), List.mem_of_getElem? (i := 956) (by decide +kernel)⟩
theorem lw_p76 : lw_okq (⟨"MarkedNamesModel", "walk", "(IIII)I"⟩, 36) := ⟨⟨by decide +kernel, by decide +kernel⟩, List.mem_of_getElem? (i := 632) (by decide +kernel), List.mem_of_getElem? (i := 959) (by decide +kernel), List.mem_of_getElem? (i := 960) (by decide +kernel)⟩
theorem lw_p77 : lw_okq (⟨"MarkedNamesModel", "add", "(II)V"⟩, 36) := ⟨⟨by decide +kernel, by decide +kernel⟩, List.mem_of_getElem? (i := 632) (by decide +kernel), List.mem_of_getElem? (i := 963) (by decide +kernel), List.mem_of_getElem? (i := 964) (by decide +kernel)⟩
theorem lw_p78 : lw_okq (⟨"MarkedNamesModel", "bring", "(I)V"⟩, 36) := ⟨⟨by decide +kernel, by decide +kernel⟩, List.mem_of_getElem? (i := 632) (by decide +kernel), List.mem_of_getElem? (i := 967) (by decide +kernel), List.mem_of_getElem? (i := 968) (by decide +kernel)⟩
theorem lw_p79 : lw_okq (⟨"MarkedNamesModel", "word", "()V"⟩, 36) := ⟨⟨by decide +kernel, by decide +kernel⟩, List.mem_of_getElem? (i := 632) (by decide +kernel), List.mem_of_getElem? (i := 971) (by decide +kernel), List.mem_of_getElem? (i := 972) (by decide +kernel)⟩
def lw_privs_5 : List (MethodName × Nat) := [(⟨"MarkedNamesModel", "putClose", "()V"⟩, 36), (⟨"MarkedNamesModel", "local", "()V"⟩, 36), (⟨"MarkedNamesModel", "putToken", "(I)V"⟩, 36), (⟨"MarkedNamesModel", "use", "(I)V"⟩, 36), (⟨"MarkedNamesModel", "turn", "([I[IIII)V"⟩, 36), (⟨"MarkedNamesModel", "matches", "(II)Z"⟩, 36), (⟨"MarkedNamesModel", "pairs", "(IIIZ)I"⟩, 36), (⟨"MarkedNamesModel", "fill", "(II)V"⟩, 36), (⟨"MarkedNamesModel", "again", "(I)I"⟩, 36), (⟨"MarkedNamesModel", "isHeld", "(I)Z"⟩, 36), (⟨"MarkedNamesModel", "hold", "(III)I"⟩, 36), (⟨"MarkedNamesModel", "roundsOf", "(IIII)I"⟩, 36), (⟨"MarkedNamesModel", "walk", "(IIII)I"⟩, 36), (⟨"MarkedNamesModel", "add", "(II)V"⟩, 36), (⟨"MarkedNamesModel", "bring", "(I)V"⟩, 36), (⟨"MarkedNamesModel", "word", "()V"⟩, 36)]
theorem lw_r5 : ∀ q ∈ lw_privs_5, lw_okq q := List.forall_mem_cons.mpr ⟨lw_p64, List.forall_mem_cons.mpr ⟨lw_p65, List.forall_mem_cons.mpr ⟨lw_p66, List.forall_mem_cons.mpr ⟨lw_p67, List.forall_mem_cons.mpr ⟨lw_p68, List.forall_mem_cons.mpr ⟨lw_p69, List.forall_mem_cons.mpr ⟨lw_p70, List.forall_mem_cons.mpr ⟨lw_p71, List.forall_mem_cons.mpr ⟨lw_p72, List.forall_mem_cons.mpr ⟨lw_p73, List.forall_mem_cons.mpr ⟨lw_p74, List.forall_mem_cons.mpr ⟨lw_p75, List.forall_mem_cons.mpr ⟨lw_p76, List.forall_mem_cons.mpr ⟨lw_p77, List.forall_mem_cons.mpr ⟨lw_p78, List.forall_mem_cons.mpr ⟨lw_p79, fun _ h => absurd h List.not_mem_nil⟩⟩⟩⟩⟩⟩⟩⟩⟩⟩⟩⟩⟩⟩⟩⟩
def lw_privs : List (MethodName × Nat) := lw_privs_1 ++ (lw_privs_2 ++ (lw_privs_3 ++ (lw_privs_4 ++ (lw_privs_5))))
def lw_tbl : List Cond := k2_sels lw_privs ++ tables_1
theorem lw_privs_ok : ∀ q ∈ lw_privs, lw_okq q := by
  show ∀ q ∈ lw_privs_1 ++ (lw_privs_2 ++ (lw_privs_3 ++ (lw_privs_4 ++ (lw_privs_5)))), lw_okq q
  exact List.forall_mem_append.mpr ⟨lw_r1, List.forall_mem_append.mpr ⟨lw_r2, List.forall_mem_append.mpr ⟨lw_r3, List.forall_mem_append.mpr ⟨lw_r4, lw_r5⟩⟩⟩⟩
end
section
/-! ===== BEGIN words of one list among another's, by their places ===== -/
theorem goodIn_r {big : List Cond} (ws : List Cond) (ps : List Nat) (hp : ws = ps.filterMap (fun i => big[i]?)) (h : ws.all goodWord = true) : GoodIn big ws := by
  intro w hw
  have h1 := List.all_eq_true.mp h w hw
  rw [hp] at hw
  obtain ⟨i, -, hi⟩ := List.mem_filterMap.mp hw
  have hm : w ∈ big := by first | exact List.mem_of_getElem? hi | exact List.getElem?_mem hi
  exact ⟨hm, good_of_word h1⟩
theorem goodIn_app {big a b : List Cond} (ha : GoodIn big a) (hb : GoodIn big b) : GoodIn big (a ++ b) := fun w h => (List.mem_append.mp h).elim (ha w) (hb w)
theorem goodIn_ca {big a b : List Cond} {c : Cond} (ha : GoodIn big (c :: a)) (hb : GoodIn big b) : GoodIn big (c :: (a ++ b)) := fun w h => (List.mem_cons.mp h).elim (fun e => ha w (List.mem_cons.mpr (Or.inl e))) (fun h => (List.mem_append.mp h).elim (fun h => ha w (List.mem_cons.mpr (Or.inr h))) (hb w))
theorem goodIn_sub {big ws : List Cond} (hm : ∀ w ∈ ws, w ∈ big) (h : ws.all goodWord = true) : GoodIn big ws := fun w hw => ⟨hm w hw, good_of_word (List.all_eq_true.mp h w hw)⟩
/-! ===== END ===== -/

/-! ===== BEGIN printed: names, fields, word lists, decode rows ===== -/
def RX0 : String := "MarkedNames$Expander"
def TX0 : u_T := fun k => match k with
  | 0 => ("MarkedNames$Expander", "row", "LMarkedNames$Row;", true)
  | 1 => ("MarkedNames$Expander", "check", "LMarkedNames$RuleCheck;", true)
  | 2 => ("MarkedNames$Expander", "table", "LMarkedNames$Table;", true)
  | 3 => ("MarkedNames$Expander", "outcome", "LMarkedNames$Outcome;", true)
  | 4 => ("MarkedNames$Expander", "filler", "LMarkedNames$Filler;", true)
  | 5 => ("MarkedNames$Expander", "scopes", "I", false)
  | 6 => ("MarkedNames$Expander", "bindings", "I", false)
  | 7 => ("MarkedNames$Expander", "variables", "I", false)
  | _ => ("MarkedNames$Expander", "fuel", "I", false)
def tyX0 : Nat → FieldType := fun k => match k with
  | 0 => .object "MarkedNames$Row"
  | 1 => .object "MarkedNames$RuleCheck"
  | 2 => .object "MarkedNames$Table"
  | 3 => .object "MarkedNames$Outcome"
  | 4 => .object "MarkedNames$Filler"
  | 5 => .int
  | 6 => .int
  | 7 => .int
  | _ => .int
abbrev wsX00 : List Cond := u_ws RX0 TX0 9
theorem nmX0 : ∀ a, a < 9 → ∀ b, b < 9 → a ≠ b → (TX0 a).2.1 ≠ (TX0 b).2.1 := by decide +kernel
theorem tyX0_ok : ∀ k, k < 9 → parseFieldDescriptor (TX0 k).2.2.1 = some (tyX0 k) := by decide +kernel
abbrev cX0_init : ByteArray := prog_2_method_1_code
def yX0_init : MethodName := ⟨RX0, "<init>", "(LMarkedNames$Row;LMarkedNames$RuleCheck;LMarkedNames$Table;LMarkedNames$Outcome;)V"⟩
abbrev cX0_start : ByteArray := prog_2_method_2_code
def yX0_start : MethodName := ⟨RX0, "start", "(I)V"⟩
abbrev cX0_expandTree : ByteArray := prog_2_method_3_code
def yX0_expandTree : MethodName := ⟨RX0, "expandTree", "(II)V"⟩
abbrev cX0_meaningOf : ByteArray := prog_2_method_4_code
def yX0_meaningOf : MethodName := ⟨RX0, "meaningOf", "(I)I"⟩
abbrev cX0_expandName : ByteArray := prog_2_method_5_code
def yX0_expandName : MethodName := ⟨RX0, "expandName", "(I)V"⟩
abbrev cX0_expandList : ByteArray := prog_2_method_6_code
def yX0_expandList : MethodName := ⟨RX0, "expandList", "(II)V"⟩
abbrev cX0_expandEach : ByteArray := prog_2_method_7_code
def yX0_expandEach : MethodName := ⟨RX0, "expandEach", "(II)V"⟩
abbrev cX0_areNames : ByteArray := prog_2_method_8_code
def yX0_areNames : MethodName := ⟨RX0, "areNames", "(I)Z"⟩
abbrev cX0_expandFn : ByteArray := prog_2_method_9_code
def yX0_expandFn : MethodName := ⟨RX0, "expandFn", "(II)V"⟩
abbrev cX0_putVariables : ByteArray := prog_2_method_10_code
def yX0_putVariables : MethodName := ⟨RX0, "putVariables", "(II)V"⟩
abbrev cX0_bindVariable : ByteArray := prog_2_method_11_code
def yX0_bindVariable : MethodName := ⟨RX0, "bindVariable", "(II)V"⟩
abbrev cX0_expandIf : ByteArray := prog_2_method_12_code
def yX0_expandIf : MethodName := ⟨RX0, "expandIf", "(II)V"⟩
abbrev cX0_expandQ : ByteArray := prog_2_method_13_code
def yX0_expandQ : MethodName := ⟨RX0, "expandQ", "(I)V"⟩
abbrev cX0_expandLs : ByteArray := prog_2_method_14_code
def yX0_expandLs : MethodName := ⟨RX0, "expandLs", "(II)V"⟩
abbrev cX0_expandByRules : ByteArray := prog_2_method_15_code
def yX0_expandByRules : MethodName := ⟨RX0, "expandByRules", "(III)V"⟩
abbrev cX0_newScope : ByteArray := prog_2_method_16_code
def yX0_newScope : MethodName := ⟨RX0, "newScope", "()I"⟩
abbrev cX0_bind : ByteArray := prog_2_method_17_code
def yX0_bind : MethodName := ⟨RX0, "bind", "(III)Z"⟩
def RX1 : String := "MarkedNames$Filler"
def TX1 : u_T := fun k => match k with
  | 0 => ("MarkedNames$Filler", "row", "LMarkedNames$Row;", true)
  | 1 => ("MarkedNames$Filler", "outcome", "LMarkedNames$Outcome;", true)
  | 2 => ("MarkedNames$Filler", "rounds", "LMarkedNames$Rounds;", true)
  | 3 => ("MarkedNames$Filler", "pattern", "I", false)
  | 4 => ("MarkedNames$Filler", "matched", "I", false)
  | _ => ("MarkedNames$Filler", "filled", "I", false)
def tyX1 : Nat → FieldType := fun k => match k with
  | 0 => .object "MarkedNames$Row"
  | 1 => .object "MarkedNames$Outcome"
  | 2 => .object "MarkedNames$Rounds"
  | 3 => .int
  | 4 => .int
  | _ => .int
abbrev wsX10 : List Cond := u_ws RX1 TX1 6
theorem nmX1 : ∀ a, a < 6 → ∀ b, b < 6 → a ≠ b → (TX1 a).2.1 ≠ (TX1 b).2.1 := by decide +kernel
theorem tyX1_ok : ∀ k, k < 6 → parseFieldDescriptor (TX1 k).2.2.1 = some (tyX1 k) := by decide +kernel
abbrev cX1_init : ByteArray := prog_3_method_1_code
def yX1_init : MethodName := ⟨RX1, "<init>", "(LMarkedNames$Row;LMarkedNames$Outcome;)V"⟩
abbrev cX1_firstRule : ByteArray := prog_3_method_2_code
def yX1_firstRule : MethodName := ⟨RX1, "firstRule", "(II)I"⟩
abbrev cX1_matches : ByteArray := prog_3_method_3_code
def yX1_matches : MethodName := ⟨RX1, "matches", "(II)Z"⟩
abbrev cX1_hasRoomFor : ByteArray := prog_3_method_4_code
def yX1_hasRoomFor : MethodName := ⟨RX1, "hasRoomFor", "(II)Z"⟩
abbrev cX1_fill : ByteArray := prog_3_method_5_code
def yX1_fill : MethodName := ⟨RX1, "fill", "(II)I"⟩
abbrev cX1_roundsFor : ByteArray := prog_3_method_6_code
def yX1_roundsFor : MethodName := ⟨RX1, "roundsFor", "(I)I"⟩
abbrev cX1_fillToken : ByteArray := prog_3_method_7_code
def yX1_fillToken : MethodName := ⟨RX1, "fillToken", "(I)V"⟩
abbrev cX1_matchOf : ByteArray := prog_3_method_8_code
def yX1_matchOf : MethodName := ⟨RX1, "matchOf", "(II)I"⟩
def RX2 : String := "MarkedNames$Outcome"
def TX2 : u_T := fun k => match k with
  | 0 => ("MarkedNames$Outcome", "text", "[I", true)
  | 1 => ("MarkedNames$Outcome", "length", "I", false)
  | _ => ("MarkedNames$Outcome", "error", "I", false)
def tyX2 : Nat → FieldType := fun k => match k with
  | 0 => .array .int
  | 1 => .int
  | _ => .int
abbrev wsX20 : List Cond := u_ws RX2 TX2 3
theorem nmX2 : ∀ a, a < 3 → ∀ b, b < 3 → a ≠ b → (TX2 a).2.1 ≠ (TX2 b).2.1 := by decide +kernel
theorem tyX2_ok : ∀ k, k < 3 → parseFieldDescriptor (TX2 k).2.2.1 = some (tyX2 k) := by decide +kernel
abbrev cX2_init : ByteArray := prog_4_method_1_code
def yX2_init : MethodName := ⟨RX2, "<init>", "()V"⟩
abbrev cX2_clear : ByteArray := prog_4_method_2_code
def yX2_clear : MethodName := ⟨RX2, "clear", "()V"⟩
abbrev cX2_fail : ByteArray := prog_4_method_3_code
def yX2_fail : MethodName := ⟨RX2, "fail", "(I)V"⟩
abbrev cX2_charAt : ByteArray := prog_4_method_4_code
def yX2_charAt : MethodName := ⟨RX2, "charAt", "(I)I"⟩
abbrev cX2_put : ByteArray := prog_4_method_5_code
def yX2_put : MethodName := ⟨RX2, "put", "(I)V"⟩
abbrev cX2_putName : ByteArray := prog_4_method_6_code
def yX2_putName : MethodName := ⟨RX2, "putName", "(I)V"⟩
abbrev cX2_putNumber : ByteArray := prog_4_method_7_code
def yX2_putNumber : MethodName := ⟨RX2, "putNumber", "(I)V"⟩
abbrev cX2_putVariable : ByteArray := prog_4_method_8_code
def yX2_putVariable : MethodName := ⟨RX2, "putVariable", "(I)V"⟩
abbrev cX2_putWord : ByteArray := prog_4_method_9_code
def yX2_putWord : MethodName := ⟨RX2, "putWord", "(I)V"⟩
abbrev cX2_putTree : ByteArray := prog_4_method_10_code
def yX2_putTree : MethodName := ⟨RX2, "putTree", "(LMarkedNames$Row;I)V"⟩
def RX3 : String := "MarkedNames$Reader"
def TX3 : u_T := fun k => match k with
  | 0 => ("MarkedNames$Reader", "row", "LMarkedNames$Row;", true)
  | _ => ("MarkedNames$Reader", "depth", "I", false)
def tyX3 : Nat → FieldType := fun k => match k with
  | 0 => .object "MarkedNames$Row"
  | _ => .int
abbrev wsX30 : List Cond := u_ws RX3 TX3 2
theorem nmX3 : ∀ a, a < 2 → ∀ b, b < 2 → a ≠ b → (TX3 a).2.1 ≠ (TX3 b).2.1 := by decide +kernel
theorem tyX3_ok : ∀ k, k < 2 → parseFieldDescriptor (TX3 k).2.2.1 = some (tyX3 k) := by decide +kernel
abbrev cX3_init : ByteArray := prog_5_method_1_code
def yX3_init : MethodName := ⟨RX3, "<init>", "(LMarkedNames$Row;)V"⟩
abbrev cX3_read : ByteArray := prog_5_method_2_code
def yX3_read : MethodName := ⟨RX3, "read", "([II)I"⟩
abbrev cX3_isWhole : ByteArray := prog_5_method_3_code
def yX3_isWhole : MethodName := ⟨RX3, "isWhole", "()Z"⟩
abbrev cX3_readToken : ByteArray := prog_5_method_4_code
def yX3_readToken : MethodName := ⟨RX3, "readToken", "([III)I"⟩
abbrev cX3_runLength : ByteArray := prog_5_method_5_code
def yX3_runLength : MethodName := ⟨RX3, "runLength", "([IIIII)I"⟩
abbrev cX3_readName : ByteArray := prog_5_method_6_code
def yX3_readName : MethodName := ⟨RX3, "readName", "([III)I"⟩
abbrev cX3_readNumber : ByteArray := prog_5_method_7_code
def yX3_readNumber : MethodName := ⟨RX3, "readNumber", "([III)I"⟩
abbrev cX3_readOpen : ByteArray := prog_5_method_8_code
def yX3_readOpen : MethodName := ⟨RX3, "readOpen", "()I"⟩
abbrev cX3_readClose : ByteArray := prog_5_method_9_code
def yX3_readClose : MethodName := ⟨RX3, "readClose", "()I"⟩
abbrev cX3_readDots : ByteArray := prog_5_method_10_code
def yX3_readDots : MethodName := ⟨RX3, "readDots", "(I)I"⟩
def RX4 : String := "MarkedNames$Rounds"
def TX4 : u_T := fun k => match k with
  | 0 => ("MarkedNames$Rounds", "held", "[I", true)
  | 1 => ("MarkedNames$Rounds", "round", "[I", true)
  | 2 => ("MarkedNames$Rounds", "rounds", "[I", true)
  | _ => ("MarkedNames$Rounds", "depth", "I", false)
def tyX4 : Nat → FieldType := fun k => match k with
  | 0 => .array .int
  | 1 => .array .int
  | 2 => .array .int
  | _ => .int
abbrev wsX40 : List Cond := u_ws RX4 TX4 4
theorem nmX4 : ∀ a, a < 4 → ∀ b, b < 4 → a ≠ b → (TX4 a).2.1 ≠ (TX4 b).2.1 := by decide +kernel
theorem tyX4_ok : ∀ k, k < 4 → parseFieldDescriptor (TX4 k).2.2.1 = some (tyX4 k) := by decide +kernel
abbrev cX4_init : ByteArray := prog_6_method_1_code
def yX4_init : MethodName := ⟨RX4, "<init>", "()V"⟩
abbrev cX4_clear : ByteArray := prog_6_method_2_code
def yX4_clear : MethodName := ⟨RX4, "clear", "()V"⟩
abbrev cX4_hasInner : ByteArray := prog_6_method_3_code
def yX4_hasInner : MethodName := ⟨RX4, "hasInner", "()Z"⟩
abbrev cX4_isIn : ByteArray := prog_6_method_4_code
def yX4_isIn : MethodName := ⟨RX4, "isIn", "(I)Z"⟩
abbrev cX4_enter : ByteArray := prog_6_method_5_code
def yX4_enter : MethodName := ⟨RX4, "enter", "(II)V"⟩
abbrev cX4_leave : ByteArray := prog_6_method_6_code
def yX4_leave : MethodName := ⟨RX4, "leave", "(I)I"⟩
abbrev cX4_roundOf : ByteArray := prog_6_method_7_code
def yX4_roundOf : MethodName := ⟨RX4, "roundOf", "(I)I"⟩
def RX5 : String := "MarkedNames$Row"
def TX5 : u_T := fun k => match k with
  | 0 => ("MarkedNames$Row", "word", "[I", true)
  | 1 => ("MarkedNames$Row", "marks", "[I", true)
  | 2 => ("MarkedNames$Row", "size", "[I", true)
  | 3 => ("MarkedNames$Row", "use", "[I", true)
  | 4 => ("MarkedNames$Row", "top", "I", false)
  | _ => ("MarkedNames$Row", "open", "I", false)
def tyX5 : Nat → FieldType := fun k => match k with
  | 0 => .array .int
  | 1 => .array .int
  | 2 => .array .int
  | 3 => .array .int
  | 4 => .int
  | _ => .int
abbrev wsX50 : List Cond := u_ws RX5 TX5 6
theorem nmX5 : ∀ a, a < 6 → ∀ b, b < 6 → a ≠ b → (TX5 a).2.1 ≠ (TX5 b).2.1 := by decide +kernel
theorem tyX5_ok : ∀ k, k < 6 → parseFieldDescriptor (TX5 k).2.2.1 = some (tyX5 k) := by decide +kernel
abbrev cX5_init : ByteArray := prog_7_method_1_code
def yX5_init : MethodName := ⟨RX5, "<init>", "()V"⟩
abbrev cX5_restart : ByteArray := prog_7_method_2_code
def yX5_restart : MethodName := ⟨RX5, "restart", "()V"⟩
abbrev cX5_startTree : ByteArray := prog_7_method_3_code
def yX5_startTree : MethodName := ⟨RX5, "startTree", "()I"⟩
abbrev cX5_add : ByteArray := prog_7_method_4_code
def yX5_add : MethodName := ⟨RX5, "add", "(II)V"⟩
abbrev cX5_closeBracket : ByteArray := prog_7_method_5_code
def yX5_closeBracket : MethodName := ⟨RX5, "closeBracket", "()V"⟩
abbrev cX5_wordAt : ByteArray := prog_7_method_6_code
def yX5_wordAt : MethodName := ⟨RX5, "wordAt", "(I)I"⟩
abbrev cX5_marksAt : ByteArray := prog_7_method_7_code
def yX5_marksAt : MethodName := ⟨RX5, "marksAt", "(I)I"⟩
abbrev cX5_variableAt : ByteArray := prog_7_method_8_code
def yX5_variableAt : MethodName := ⟨RX5, "variableAt", "(I)I"⟩
abbrev cX5_setVariable : ByteArray := prog_7_method_9_code
def yX5_setVariable : MethodName := ⟨RX5, "setVariable", "(II)V"⟩
abbrev cX5_hasUse : ByteArray := prog_7_method_10_code
def yX5_hasUse : MethodName := ⟨RX5, "hasUse", "(I)Z"⟩
abbrev cX5_after : ByteArray := prog_7_method_11_code
def yX5_after : MethodName := ⟨RX5, "after", "(I)I"⟩
abbrev cX5_isHeld : ByteArray := prog_7_method_12_code
def yX5_isHeld : MethodName := ⟨RX5, "isHeld", "(I)Z"⟩
abbrev cX5_itemsFrom : ByteArray := prog_7_method_13_code
def yX5_itemsFrom : MethodName := ⟨RX5, "itemsFrom", "(I)I"⟩
abbrev cX5_hasDots : ByteArray := prog_7_method_14_code
def yX5_hasDots : MethodName := ⟨RX5, "hasDots", "(I)Z"⟩
abbrev cX5_plainLength : ByteArray := prog_7_method_15_code
def yX5_plainLength : MethodName := ⟨RX5, "plainLength", "(I)I"⟩
abbrev cX5_holders : ByteArray := prog_7_method_16_code
def yX5_holders : MethodName := ⟨RX5, "holders", "(II)I"⟩
abbrev cX5_findName : ByteArray := prog_7_method_17_code
def yX5_findName : MethodName := ⟨RX5, "findName", "(III)I"⟩
abbrev cX5_turnScope : ByteArray := prog_7_method_18_code
def yX5_turnScope : MethodName := ⟨RX5, "turnScope", "(II)V"⟩
abbrev cX5_keep : ByteArray := prog_7_method_19_code
def yX5_keep : MethodName := ⟨RX5, "keep", "(II)I"⟩
def RX6 : String := "MarkedNames$RuleCheck"
def TX6 : u_T := fun k => match k with
  | _ => ("MarkedNames$RuleCheck", "row", "LMarkedNames$Row;", true)
def tyX6 : Nat → FieldType := fun k => match k with
  | _ => .object "MarkedNames$Row"
abbrev wsX60 : List Cond := u_ws RX6 TX6 1
theorem nmX6 : ∀ a, a < 1 → ∀ b, b < 1 → a ≠ b → (TX6 a).2.1 ≠ (TX6 b).2.1 := by decide +kernel
theorem tyX6_ok : ∀ k, k < 1 → parseFieldDescriptor (TX6 k).2.2.1 = some (tyX6 k) := by decide +kernel
abbrev cX6_init : ByteArray := prog_8_method_1_code
def yX6_init : MethodName := ⟨RX6, "<init>", "(LMarkedNames$Row;)V"⟩
abbrev cX6_isNameWithRules : ByteArray := prog_8_method_2_code
def yX6_isNameWithRules : MethodName := ⟨RX6, "isNameWithRules", "(I)Z"⟩
abbrev cX6_isRule : ByteArray := prog_8_method_3_code
def yX6_isRule : MethodName := ⟨RX6, "isRule", "(I)Z"⟩
abbrev cX6_isPattern : ByteArray := prog_8_method_4_code
def yX6_isPattern : MethodName := ⟨RX6, "isPattern", "(I)Z"⟩
abbrev cX6_linkUses : ByteArray := prog_8_method_5_code
def yX6_linkUses : MethodName := ⟨RX6, "linkUses", "(II)V"⟩
abbrev cX6_isTemplate : ByteArray := prog_8_method_6_code
def yX6_isTemplate : MethodName := ⟨RX6, "isTemplate", "(II)Z"⟩
def RX7 : String := "MarkedNames$Table"
def TX7 : u_T := fun k => match k with
  | 0 => ("MarkedNames$Table", "name", "[I", true)
  | 1 => ("MarkedNames$Table", "marks", "[I", true)
  | 2 => ("MarkedNames$Table", "kind", "[I", true)
  | 3 => ("MarkedNames$Table", "value", "[I", true)
  | 4 => ("MarkedNames$Table", "length", "I", false)
  | _ => ("MarkedNames$Table", "ownNames", "I", false)
def tyX7 : Nat → FieldType := fun k => match k with
  | 0 => .array .int
  | 1 => .array .int
  | 2 => .array .int
  | 3 => .array .int
  | 4 => .int
  | _ => .int
abbrev wsX70 : List Cond := u_ws RX7 TX7 6
theorem nmX7 : ∀ a, a < 6 → ∀ b, b < 6 → a ≠ b → (TX7 a).2.1 ≠ (TX7 b).2.1 := by decide +kernel
theorem tyX7_ok : ∀ k, k < 6 → parseFieldDescriptor (TX7 k).2.2.1 = some (tyX7 k) := by decide +kernel
abbrev cX7_init : ByteArray := prog_9_method_1_code
def yX7_init : MethodName := ⟨RX7, "<init>", "()V"⟩
abbrev cX7_forgetExpansion : ByteArray := prog_9_method_2_code
def yX7_forgetExpansion : MethodName := ⟨RX7, "forgetExpansion", "()V"⟩
abbrev cX7_bind : ByteArray := prog_9_method_3_code
def yX7_bind : MethodName := ⟨RX7, "bind", "(IIII)Z"⟩
abbrev cX7_ownSlot : ByteArray := prog_9_method_4_code
def yX7_ownSlot : MethodName := ⟨RX7, "ownSlot", "(I)I"⟩
abbrev cX7_bindOwn : ByteArray := prog_9_method_5_code
def yX7_bindOwn : MethodName := ⟨RX7, "bindOwn", "(III)V"⟩
abbrev cX7_meaning : ByteArray := prog_9_method_6_code
def yX7_meaning : MethodName := ⟨RX7, "meaning", "(II)I"⟩
abbrev cX7_holdsAllOthers : ByteArray := prog_9_method_7_code
def yX7_holdsAllOthers : MethodName := ⟨RX7, "holdsAllOthers", "(II)Z"⟩
abbrev cX7_kindOf : ByteArray := prog_9_method_8_code
def yX7_kindOf : MethodName := ⟨RX7, "kindOf", "(I)I"⟩
abbrev cX7_valueOf : ByteArray := prog_9_method_9_code
def yX7_valueOf : MethodName := ⟨RX7, "valueOf", "(I)I"⟩
def RX8 : String := "MarkedNames"
def TX8 : u_T := fun k => match k with
  | 0 => ("MarkedNames", "typed", "[I", true)
  | 1 => ("MarkedNames", "typedLength", "I", false)
  | 2 => ("MarkedNames", "row", "LMarkedNames$Row;", true)
  | 3 => ("MarkedNames", "reader", "LMarkedNames$Reader;", true)
  | 4 => ("MarkedNames", "check", "LMarkedNames$RuleCheck;", true)
  | 5 => ("MarkedNames", "table", "LMarkedNames$Table;", true)
  | 6 => ("MarkedNames", "outcome", "LMarkedNames$Outcome;", true)
  | _ => ("MarkedNames", "expander", "LMarkedNames$Expander;", true)
def tyX8 : Nat → FieldType := fun k => match k with
  | 0 => .array .int
  | 1 => .int
  | 2 => .object "MarkedNames$Row"
  | 3 => .object "MarkedNames$Reader"
  | 4 => .object "MarkedNames$RuleCheck"
  | 5 => .object "MarkedNames$Table"
  | 6 => .object "MarkedNames$Outcome"
  | _ => .object "MarkedNames$Expander"
abbrev wsX80 : List Cond := u_ws RX8 TX8 8
theorem nmX8 : ∀ a, a < 8 → ∀ b, b < 8 → a ≠ b → (TX8 a).2.1 ≠ (TX8 b).2.1 := by decide +kernel
theorem tyX8_ok : ∀ k, k < 8 → parseFieldDescriptor (TX8 k).2.2.1 = some (tyX8 k) := by decide +kernel
abbrev cX8_init : ByteArray := prog_1_method_1_code
def yX8_init : MethodName := ⟨RX8, "<init>", "()V"⟩
abbrev cX8_type : ByteArray := prog_1_method_2_code
def yX8_type : MethodName := ⟨RX8, "type", "(II)Z"⟩
abbrev cX8_rules : ByteArray := prog_1_method_3_code
def yX8_rules : MethodName := ⟨RX8, "rules", "()I"⟩
abbrev cX8_expand : ByteArray := prog_1_method_4_code
def yX8_expand : MethodName := ⟨RX8, "expand", "(I)I"⟩
abbrev cX8_at : ByteArray := prog_1_method_5_code
def yX8_at : MethodName := ⟨RX8, "at", "(I)I"⟩
abbrev cX8_count : ByteArray := prog_1_method_6_code
def yX8_count : MethodName := ⟨RX8, "count", "(I)I"⟩
abbrev cX8_appendTyped : ByteArray := prog_1_method_7_code
def yX8_appendTyped : MethodName := ⟨RX8, "appendTyped", "(I)V"⟩
abbrev cX8_takeTyped : ByteArray := prog_1_method_8_code
def yX8_takeTyped : MethodName := ⟨RX8, "takeTyped", "()I"⟩
abbrev cX8_isName : ByteArray := prog_1_method_9_code
def yX8_isName : MethodName := ⟨RX8, "isName", "(I)Z"⟩
abbrev cX8_isNumber : ByteArray := prog_1_method_10_code
def yX8_isNumber : MethodName := ⟨RX8, "isNumber", "(I)Z"⟩
abbrev cX8_isTree : ByteArray := prog_1_method_11_code
def yX8_isTree : MethodName := ⟨RX8, "isTree", "(I)Z"⟩
def RX9 : String := "MarkedNamesModel"
def TX9 : u_T := fun k => match k with
  | 0 => ("MarkedNamesModel", "typed", "[I", true)
  | 1 => ("MarkedNamesModel", "length", "I", false)
  | 2 => ("MarkedNamesModel", "row", "[I", true)
  | 3 => ("MarkedNamesModel", "set", "[I", true)
  | 4 => ("MarkedNamesModel", "head", "I", false)
  | 5 => ("MarkedNamesModel", "kept", "[I", true)
  | 6 => ("MarkedNamesModel", "keptSet", "[I", true)
  | 7 => ("MarkedNamesModel", "keptEnd", "I", false)
  | 8 => ("MarkedNamesModel", "own", "I", false)
  | 9 => ("MarkedNamesModel", "ownName", "[I", true)
  | 10 => ("MarkedNamesModel", "ownEnd", "[I", true)
  | 11 => ("MarkedNamesModel", "bindings", "I", false)
  | 12 => ("MarkedNamesModel", "atFirst", "I", false)
  | 13 => ("MarkedNamesModel", "name", "[I", true)
  | 14 => ("MarkedNamesModel", "scopes", "[I", true)
  | 15 => ("MarkedNamesModel", "meaning", "[I", true)
  | 16 => ("MarkedNamesModel", "from", "[I", true)
  | 17 => ("MarkedNamesModel", "to", "[I", true)
  | 18 => ("MarkedNamesModel", "made", "[I", true)
  | 19 => ("MarkedNamesModel", "madeSet", "[I", true)
  | 20 => ("MarkedNamesModel", "many", "I", false)
  | 21 => ("MarkedNamesModel", "trees", "I", false)
  | 22 => ("MarkedNamesModel", "left", "[I", true)
  | 23 => ("MarkedNamesModel", "right", "[I", true)
  | 24 => ("MarkedNamesModel", "begins", "[I", true)
  | 25 => ("MarkedNamesModel", "rounds", "[I", true)
  | 26 => ("MarkedNamesModel", "round", "[I", true)
  | 27 => ("MarkedNamesModel", "held", "I", false)
  | 28 => ("MarkedNamesModel", "text", "[I", true)
  | 29 => ("MarkedNamesModel", "size", "I", false)
  | 30 => ("MarkedNamesModel", "gap", "Z", false)
  | 31 => ("MarkedNamesModel", "deep", "I", false)
  | 32 => ("MarkedNamesModel", "error", "I", false)
  | 33 => ("MarkedNamesModel", "scopesMade", "I", false)
  | 34 => ("MarkedNamesModel", "variables", "I", false)
  | _ => ("MarkedNamesModel", "fuelLeft", "I", false)
def tyX9 : Nat → FieldType := fun k => match k with
  | 0 => .array .int
  | 1 => .int
  | 2 => .array .int
  | 3 => .array .int
  | 4 => .int
  | 5 => .array .int
  | 6 => .array .int
  | 7 => .int
  | 8 => .int
  | 9 => .array .int
  | 10 => .array .int
  | 11 => .int
  | 12 => .int
  | 13 => .array .int
  | 14 => .array .int
  | 15 => .array .int
  | 16 => .array .int
  | 17 => .array .int
  | 18 => .array .int
  | 19 => .array .int
  | 20 => .int
  | 21 => .int
  | 22 => .array .int
  | 23 => .array .int
  | 24 => .array .int
  | 25 => .array .int
  | 26 => .array .int
  | 27 => .int
  | 28 => .array .int
  | 29 => .int
  | 30 => .boolean
  | 31 => .int
  | 32 => .int
  | 33 => .int
  | 34 => .int
  | _ => .int
abbrev wsX90 : List Cond := u_ws RX9 TX9 36
theorem nmX9 : ∀ a, a < 36 → ∀ b, b < 36 → a ≠ b → (TX9 a).2.1 ≠ (TX9 b).2.1 := by decide +kernel
theorem tyX9_ok : ∀ k, k < 36 → parseFieldDescriptor (TX9 k).2.2.1 = some (tyX9 k) := by decide +kernel
abbrev cX9_init : ByteArray := prog_11_method_1_code
def yX9_init : MethodName := ⟨RX9, "<init>", "()V"⟩
abbrev cX9_type : ByteArray := prog_11_method_2_code
def yX9_type : MethodName := ⟨RX9, "type", "(II)Z"⟩
abbrev cX9_look : ByteArray := prog_11_method_3_code
def yX9_look : MethodName := ⟨RX9, "look", "(I)I"⟩
abbrev cX9_isLetter : ByteArray := prog_11_method_4_code
def yX9_isLetter : MethodName := ⟨RX9, "isLetter", "(I)Z"⟩
abbrev cX9_isDigit : ByteArray := prog_11_method_5_code
def yX9_isDigit : MethodName := ⟨RX9, "isDigit", "(I)Z"⟩
abbrev cX9_run : ByteArray := prog_11_method_6_code
def yX9_run : MethodName := ⟨RX9, "run", "(I)I"⟩
abbrev cX9_token : ByteArray := prog_11_method_7_code
def yX9_token : MethodName := ⟨RX9, "token", "(I)I"⟩
abbrev cX9_code : ByteArray := prog_11_method_8_code
def yX9_code : MethodName := ⟨RX9, "code", "(II)I"⟩
abbrev cX9_fits : ByteArray := prog_11_method_9_code
def yX9_fits : MethodName := ⟨RX9, "fits", "(III)Z"⟩
abbrev cX9_read : ByteArray := prog_11_method_10_code
def yX9_read : MethodName := ⟨RX9, "read", "()I"⟩
abbrev cX9_kind : ByteArray := prog_11_method_11_code
def yX9_kind : MethodName := ⟨RX9, "kind", "([II)I"⟩
abbrev cX9_what : ByteArray := prog_11_method_12_code
def yX9_what : MethodName := ⟨RX9, "what", "([II)I"⟩
abbrev cX9_end : ByteArray := prog_11_method_13_code
def yX9_end : MethodName := ⟨RX9, "end", "([II)I"⟩
abbrev cX9_count : ByteArray := prog_11_method_14_code
def yX9_count : MethodName := ⟨RX9, "count", "([II)I"⟩
abbrev cX9_dots : ByteArray := prog_11_method_15_code
def yX9_dots : MethodName := ⟨RX9, "dots", "([II)I"⟩
abbrev cX9_isPlain : ByteArray := prog_11_method_16_code
def yX9_isPlain : MethodName := ⟨RX9, "isPlain", "([III)Z"⟩
abbrev cX9_heldBy : ByteArray := prog_11_method_17_code
def yX9_heldBy : MethodName := ⟨RX9, "heldBy", "(III)I"⟩
abbrev cX9_variable : ByteArray := prog_11_method_18_code
def yX9_variable : MethodName := ⟨RX9, "variable", "(III)I"⟩
abbrev cX9_isPattern : ByteArray := prog_11_method_19_code
def yX9_isPattern : MethodName := ⟨RX9, "isPattern", "(I)Z"⟩
abbrev cX9_isTemplate : ByteArray := prog_11_method_20_code
def yX9_isTemplate : MethodName := ⟨RX9, "isTemplate", "(II)Z"⟩
abbrev cX9_uses : ByteArray := prog_11_method_21_code
def yX9_uses : MethodName := ⟨RX9, "uses", "(III)I"⟩
abbrev cX9_areRules : ByteArray := prog_11_method_22_code
def yX9_areRules : MethodName := ⟨RX9, "areRules", "(II)Z"⟩
abbrev cX9_keep : ByteArray := prog_11_method_23_code
def yX9_keep : MethodName := ⟨RX9, "keep", "(III)I"⟩
abbrev cX9_core : ByteArray := prog_11_method_24_code
def yX9_core : MethodName := ⟨RX9, "core", "(I)I"⟩
abbrev cX9_rules : ByteArray := prog_11_method_25_code
def yX9_rules : MethodName := ⟨RX9, "rules", "()I"⟩
abbrev cX9_bind : ByteArray := prog_11_method_26_code
def yX9_bind : MethodName := ⟨RX9, "bind", "(IIIII)V"⟩
abbrev cX9_beginning : ByteArray := prog_11_method_27_code
def yX9_beginning : MethodName := ⟨RX9, "beginning", "()V"⟩
abbrev cX9_means : ByteArray := prog_11_method_28_code
def yX9_means : MethodName := ⟨RX9, "means", "(II)I"⟩
abbrev cX9_fails : ByteArray := prog_11_method_29_code
def yX9_fails : MethodName := ⟨RX9, "fails", "(I)V"⟩
abbrev cX9_scope : ByteArray := prog_11_method_30_code
def yX9_scope : MethodName := ⟨RX9, "scope", "()I"⟩
abbrev cX9_put : ByteArray := prog_11_method_31_code
def yX9_put : MethodName := ⟨RX9, "put", "(I)V"⟩
abbrev cX9_space : ByteArray := prog_11_method_32_code
def yX9_space : MethodName := ⟨RX9, "space", "()V"⟩
abbrev cX9_putNumber : ByteArray := prog_11_method_33_code
def yX9_putNumber : MethodName := ⟨RX9, "putNumber", "(I)V"⟩
abbrev cX9_putName : ByteArray := prog_11_method_34_code
def yX9_putName : MethodName := ⟨RX9, "putName", "(I)V"⟩
abbrev cX9_putOpen : ByteArray := prog_11_method_35_code
def yX9_putOpen : MethodName := ⟨RX9, "putOpen", "()V"⟩
abbrev cX9_putClose : ByteArray := prog_11_method_36_code
def yX9_putClose : MethodName := ⟨RX9, "putClose", "()V"⟩
abbrev cX9_putVariable : ByteArray := prog_11_method_37_code
def yX9_putVariable : MethodName := ⟨RX9, "putVariable", "(I)V"⟩
abbrev cX9_putToken : ByteArray := prog_11_method_38_code
def yX9_putToken : MethodName := ⟨RX9, "putToken", "(I)V"⟩
abbrev cX9_matches : ByteArray := prog_11_method_39_code
def yX9_matches : MethodName := ⟨RX9, "matches", "(II)Z"⟩
abbrev cX9_pairs : ByteArray := prog_11_method_40_code
def yX9_pairs : MethodName := ⟨RX9, "pairs", "(IIIZ)I"⟩
abbrev cX9_walk : ByteArray := prog_11_method_41_code
def yX9_walk : MethodName := ⟨RX9, "walk", "(IIII)I"⟩
abbrev cX9_add : ByteArray := prog_11_method_42_code
def yX9_add : MethodName := ⟨RX9, "add", "(II)V"⟩
abbrev cX9_roundsOf : ByteArray := prog_11_method_43_code
def yX9_roundsOf : MethodName := ⟨RX9, "roundsOf", "(IIII)I"⟩
abbrev cX9_hold : ByteArray := prog_11_method_44_code
def yX9_hold : MethodName := ⟨RX9, "hold", "(III)I"⟩
abbrev cX9_isHeld : ByteArray := prog_11_method_45_code
def yX9_isHeld : MethodName := ⟨RX9, "isHeld", "(I)Z"⟩
abbrev cX9_fill : ByteArray := prog_11_method_46_code
def yX9_fill : MethodName := ⟨RX9, "fill", "(II)V"⟩
abbrev cX9_again : ByteArray := prog_11_method_47_code
def yX9_again : MethodName := ⟨RX9, "again", "(I)I"⟩
abbrev cX9_bring : ByteArray := prog_11_method_48_code
def yX9_bring : MethodName := ⟨RX9, "bring", "(I)V"⟩
abbrev cX9_turn : ByteArray := prog_11_method_49_code
def yX9_turn : MethodName := ⟨RX9, "turn", "([I[IIII)V"⟩
abbrev cX9_give : ByteArray := prog_11_method_50_code
def yX9_give : MethodName := ⟨RX9, "give", "(III)V"⟩
abbrev cX9_use : ByteArray := prog_11_method_51_code
def yX9_use : MethodName := ⟨RX9, "use", "(I)V"⟩
abbrev cX9_function : ByteArray := prog_11_method_52_code
def yX9_function : MethodName := ⟨RX9, "function", "()V"⟩
abbrev cX9_local : ByteArray := prog_11_method_53_code
def yX9_local : MethodName := ⟨RX9, "local", "()V"⟩
abbrev cX9_form : ByteArray := prog_11_method_54_code
def yX9_form : MethodName := ⟨RX9, "form", "(I)V"⟩
abbrev cX9_list : ByteArray := prog_11_method_55_code
def yX9_list : MethodName := ⟨RX9, "list", "()V"⟩
abbrev cX9_word : ByteArray := prog_11_method_56_code
def yX9_word : MethodName := ⟨RX9, "word", "()V"⟩
abbrev cX9_step : ByteArray := prog_11_method_57_code
def yX9_step : MethodName := ⟨RX9, "step", "()V"⟩
abbrev cX9_expand : ByteArray := prog_11_method_58_code
def yX9_expand : MethodName := ⟨RX9, "expand", "(I)I"⟩
abbrev cX9_at : ByteArray := prog_11_method_59_code
def yX9_at : MethodName := ⟨RX9, "at", "(I)I"⟩
abbrev cX9_count_ : ByteArray := prog_11_method_60_code
def yX9_count_ : MethodName := ⟨RX9, "count", "(I)I"⟩
def RJ6 : String := "java/lang/Integer"
def TJ6 : u_T := fun k => match k with
  | _ => ("", "", "", false)
def tyJ6 : Nat → FieldType := fun k => match k with
  | _ => .int
abbrev wsJ60 : List Cond := u_ws RJ6 TJ6 0
theorem nmJ6 : ∀ a, a < 0 → ∀ b, b < 0 → a ≠ b → (TJ6 a).2.1 ≠ (TJ6 b).2.1 := by decide +kernel
theorem tyJ6_ok : ∀ k, k < 0 → parseFieldDescriptor (TJ6 k).2.2.1 = some (tyJ6 k) := by decide +kernel
abbrev cJ6_bitCount_0f7a4 : ByteArray := prog_12_method_49_code
def yJ6_bitCount_0f7a4 : MethodName := ⟨RJ6, "bitCount", "(I)I"⟩
def RJ9 : String := "java/lang/Math"
def TJ9 : u_T := fun k => match k with
  | _ => ("", "", "", false)
def tyJ9 : Nat → FieldType := fun k => match k with
  | _ => .int
abbrev wsJ90 : List Cond := u_ws RJ9 TJ9 0
theorem nmJ9 : ∀ a, a < 0 → ∀ b, b < 0 → a ≠ b → (TJ9 a).2.1 ≠ (TJ9 b).2.1 := by decide +kernel
theorem tyJ9_ok : ∀ k, k < 0 → parseFieldDescriptor (TJ9 k).2.2.1 = some (tyJ9 k) := by decide +kernel
abbrev cJ9_max_7cf53 : ByteArray := prog_13_method_65_code
def yJ9_max_7cf53 : MethodName := ⟨RJ9, "max", "(II)I"⟩
abbrev cJ9_min_7cf53 : ByteArray := prog_13_method_69_code
def yJ9_min_7cf53 : MethodName := ⟨RJ9, "min", "(II)I"⟩
def RJ10 : String := "java/lang/System"
def TJ10 : u_T := fun k => match k with
  | _ => ("", "", "", false)
def tyJ10 : Nat → FieldType := fun k => match k with
  | _ => .int
abbrev wsJ100 : List Cond := u_ws RJ10 TJ10 0
theorem nmJ10 : ∀ a, a < 0 → ∀ b, b < 0 → a ≠ b → (TJ10 a).2.1 ≠ (TJ10 b).2.1 := by decide +kernel
theorem tyJ10_ok : ∀ k, k < 0 → parseFieldDescriptor (TJ10 k).2.2.1 = some (tyJ10 k) := by decide +kernel
def RL : String := "MarkedNamesLaw"
abbrev cL_law : ByteArray := code
def yL_law : MethodName := ⟨RL, "law", "([I)Z"⟩
def wsX4_init : List Cond := .code yX4_init cX4_init 1 none :: ([.methodLink RX4 3 objectInit, .instanceMethod objectInit, .code objectInit ⟨#[0xb1]⟩ 1 none, .arrayClass .int, .fieldLink RX4 9 "MarkedNames$Rounds" "held" "[I", .fieldLink RX4 15 "MarkedNames$Rounds" "round" "[I", .fieldLink RX4 18 "MarkedNames$Rounds" "rounds" "[I"] ++ wsX40)
def wsX1_init : List Cond := .code yX1_init cX1_init 3 none :: ([.methodLink RX1 3 objectInit, .instanceMethod objectInit, .code objectInit ⟨#[0xb1]⟩ 1 none, .classLink RX1 9 RX4, .instantiable RX4 4, .initialized RX4, .fieldLink RX1 12 "MarkedNames$Filler" "rounds" "LMarkedNames$Rounds;", .fieldLink RX1 18 "MarkedNames$Filler" "row" "LMarkedNames$Row;", .fieldLink RX1 22 "MarkedNames$Filler" "outcome" "LMarkedNames$Outcome;", .instanceMethod yX4_init, .code yX4_init cX4_init 1 none, .methodLink RX4 3 objectInit, .arrayClass .int, .fieldLink RX4 9 "MarkedNames$Rounds" "held" "[I", .fieldLink RX4 15 "MarkedNames$Rounds" "round" "[I", .fieldLink RX4 18 "MarkedNames$Rounds" "rounds" "[I"] ++ wsX40 ++ wsX10)
def wsX0_init_r1 : List Cond := [Cond.methodLink RX0 3 objectInit, Cond.instanceMethod objectInit, Cond.code objectInit ⟨#[0xb1]⟩ 1 none, Cond.fieldLink RX0 9 "MarkedNames$Expander" "row" "LMarkedNames$Row;", Cond.fieldLink RX0 15 "MarkedNames$Expander" "check" "LMarkedNames$RuleCheck;", Cond.fieldLink RX0 19 "MarkedNames$Expander" "table" "LMarkedNames$Table;", Cond.fieldLink RX0 23 "MarkedNames$Expander" "outcome" "LMarkedNames$Outcome;", Cond.classLink RX0 27 RX1, Cond.instantiable RX1 6, Cond.initialized RX1, Cond.fieldLink RX0 32 "MarkedNames$Expander" "filler" "LMarkedNames$Filler;", Cond.methodLink RX0 29 yX1_init, Cond.instanceMethod yX1_init, Cond.code yX1_init cX1_init 3 none, Cond.methodLink RX1 3 objectInit, Cond.classLink RX1 9 RX4, Cond.instantiable RX4 4, Cond.initialized RX4, Cond.fieldLink RX1 12 "MarkedNames$Filler" "rounds" "LMarkedNames$Rounds;", Cond.fieldLink RX1 18 "MarkedNames$Filler" "row" "LMarkedNames$Row;", Cond.fieldLink RX1 22 "MarkedNames$Filler" "outcome" "LMarkedNames$Outcome;", Cond.instanceMethod yX4_init, Cond.code yX4_init cX4_init 1 none, Cond.methodLink RX4 3 objectInit]
def wsX0_init_r2 : List Cond := [Cond.arrayClass .int, Cond.fieldLink RX4 9 "MarkedNames$Rounds" "held" "[I", Cond.fieldLink RX4 15 "MarkedNames$Rounds" "round" "[I", Cond.fieldLink RX4 18 "MarkedNames$Rounds" "rounds" "[I"]
def wsX0_init : List Cond := .code yX0_init cX0_init 5 none :: ((wsX0_init_r1 ++ wsX0_init_r2) ++ wsX00 ++ wsX10 ++ wsX40)
def wsX7_forgetExpansion : List Cond := .code yX7_forgetExpansion cX7_forgetExpansion 1 none :: ([.fieldLink RX7 37 "MarkedNames$Table" "ownNames" "I", .fieldLink RX7 33 "MarkedNames$Table" "length" "I"] ++ wsX70)
def wsX0_start : List Cond := .code yX0_start cX0_start 2 none :: ([.fieldLink RX0 36 "MarkedNames$Expander" "scopes" "I", .fieldLink RX0 40 "MarkedNames$Expander" "bindings" "I", .fieldLink RX0 43 "MarkedNames$Expander" "variables" "I", .fieldLink RX0 46 "MarkedNames$Expander" "fuel" "I", .fieldLink RX0 19 "MarkedNames$Expander" "table" "LMarkedNames$Table;", .methodLink RX0 49 yX7_forgetExpansion, .instanceMethod yX7_forgetExpansion, .selects RX7 yX7_forgetExpansion yX7_forgetExpansion, .initialized RX7, .code yX7_forgetExpansion cX7_forgetExpansion 1 none, .fieldLink RX7 37 "MarkedNames$Table" "ownNames" "I", .fieldLink RX7 33 "MarkedNames$Table" "length" "I"] ++ wsX00 ++ wsX70)
def wsX2_fail : List Cond := .code yX2_fail cX2_fail 2 none :: ([.fieldLink RX2 19 "MarkedNames$Outcome" "error" "I"] ++ wsX20)
def wsX0_newScope : List Cond := .code yX0_newScope cX0_newScope 1 (some .int) :: ([.fieldLink RX0 36 "MarkedNames$Expander" "scopes" "I", .fieldLink RX0 23 "MarkedNames$Expander" "outcome" "LMarkedNames$Outcome;", .methodLink RX0 83 yX2_fail, .instanceMethod yX2_fail, .selects RX2 yX2_fail yX2_fail, .initialized RX2, .code yX2_fail cX2_fail 2 none, .fieldLink RX2 19 "MarkedNames$Outcome" "error" "I"] ++ wsX00 ++ wsX20)
def wsX5_after : List Cond := .code yX5_after cX5_after 2 (some .int) :: ([.fieldLink RX5 24 "MarkedNames$Row" "top" "I", .fieldLink RX5 18 "MarkedNames$Row" "size" "[I"] ++ wsX50)
def wsX8_isName : List Cond := .code yX8_isName cX8_isName 1 (some .boolean) :: ([])
def wsX5_turnScope : List Cond := .code yX5_turnScope cX5_turnScope 5 none :: ([.fieldLink RX5 24 "MarkedNames$Row" "top" "I", .fieldLink RX5 9 "MarkedNames$Row" "word" "[I", .fieldLink RX5 15 "MarkedNames$Row" "marks" "[I", .methodLink RX5 45 yX5_after, .instanceMethod yX5_after, .selects RX5 yX5_after yX5_after, .initialized RX5, .code yX5_after cX5_after 2 (some .int), .fieldLink RX5 18 "MarkedNames$Row" "size" "[I", .static yX8_isName, .initialized RX8, .code yX8_isName cX8_isName 1 (some .boolean)] ++ wsX50)
def wsX5_wordAt : List Cond := .code yX5_wordAt cX5_wordAt 2 (some .int) :: ([.fieldLink RX5 24 "MarkedNames$Row" "top" "I", .fieldLink RX5 9 "MarkedNames$Row" "word" "[I"] ++ wsX50)
def wsX5_hasDots : List Cond := .code yX5_hasDots cX5_hasDots 4 (some .boolean) :: ([.fieldLink RX5 24 "MarkedNames$Row" "top" "I", .fieldLink RX5 9 "MarkedNames$Row" "word" "[I"] ++ wsX50)
def wsX5_itemsFrom : List Cond := .code yX5_itemsFrom cX5_itemsFrom 5 (some .int) :: ([.fieldLink RX5 24 "MarkedNames$Row" "top" "I", .fieldLink RX5 9 "MarkedNames$Row" "word" "[I"] ++ wsX50)
def wsX5_plainLength : List Cond := .code yX5_plainLength cX5_plainLength 2 (some .int) :: ([.methodLink RX5 34 yX5_wordAt, .instanceMethod yX5_wordAt, .selects RX5 yX5_wordAt yX5_wordAt, .initialized RX5, .code yX5_wordAt cX5_wordAt 2 (some .int), .fieldLink RX5 24 "MarkedNames$Row" "top" "I", .fieldLink RX5 9 "MarkedNames$Row" "word" "[I", .methodLink RX5 38 yX5_hasDots, .instanceMethod yX5_hasDots, .selects RX5 yX5_hasDots yX5_hasDots, .code yX5_hasDots cX5_hasDots 4 (some .boolean), .methodLink RX5 42 yX5_itemsFrom, .instanceMethod yX5_itemsFrom, .selects RX5 yX5_itemsFrom yX5_itemsFrom, .code yX5_itemsFrom cX5_itemsFrom 5 (some .int)] ++ wsX50)
def wsX1_hasRoomFor : List Cond := .code yX1_hasRoomFor cX1_hasRoomFor 5 (some .boolean) :: ([.fieldLink RX1 18 "MarkedNames$Filler" "row" "LMarkedNames$Row;", .methodLink RX1 26 yX5_plainLength, .instanceMethod yX5_plainLength, .selects RX5 yX5_plainLength yX5_plainLength, .initialized RX5, .code yX5_plainLength cX5_plainLength 2 (some .int), .methodLink RX5 34 yX5_wordAt, .instanceMethod yX5_wordAt, .selects RX5 yX5_wordAt yX5_wordAt, .code yX5_wordAt cX5_wordAt 2 (some .int), .fieldLink RX5 24 "MarkedNames$Row" "top" "I", .fieldLink RX5 9 "MarkedNames$Row" "word" "[I", .methodLink RX5 38 yX5_hasDots, .instanceMethod yX5_hasDots, .selects RX5 yX5_hasDots yX5_hasDots, .code yX5_hasDots cX5_hasDots 4 (some .boolean), .methodLink RX5 42 yX5_itemsFrom, .instanceMethod yX5_itemsFrom, .selects RX5 yX5_itemsFrom yX5_itemsFrom, .code yX5_itemsFrom cX5_itemsFrom 5 (some .int), .methodLink RX1 53 yX5_itemsFrom, .methodLink RX1 69 yX5_hasDots] ++ wsX10 ++ wsX50)
def wsX4_clear : List Cond := .code yX4_clear cX4_clear 1 none :: ([.fieldLink RX4 21 "MarkedNames$Rounds" "depth" "I"] ++ wsX40)
def wsX5_isHeld : List Cond := .code yX5_isHeld cX5_isHeld 3 (some .boolean) :: ([.fieldLink RX5 24 "MarkedNames$Row" "top" "I", .fieldLink RX5 9 "MarkedNames$Row" "word" "[I", .fieldLink RX5 18 "MarkedNames$Row" "size" "[I"] ++ wsX50)
def wsX4_hasInner : List Cond := .code yX4_hasInner cX4_hasInner 1 (some .boolean) :: ([.fieldLink RX4 21 "MarkedNames$Rounds" "depth" "I"] ++ wsX40)
def wsX4_isIn : List Cond := .code yX4_isIn cX4_isIn 2 (some .boolean) :: ([.fieldLink RX4 9 "MarkedNames$Rounds" "held" "[I", .fieldLink RX4 21 "MarkedNames$Rounds" "depth" "I", .methodLink RX4 25 yX4_hasInner, .instanceMethod yX4_hasInner, .selects RX4 yX4_hasInner yX4_hasInner, .initialized RX4, .code yX4_hasInner cX4_hasInner 1 (some .boolean)] ++ wsX40)
def wsX4_enter : List Cond := .code yX4_enter cX4_enter 3 none :: ([.fieldLink RX4 21 "MarkedNames$Rounds" "depth" "I", .fieldLink RX4 9 "MarkedNames$Rounds" "held" "[I", .fieldLink RX4 15 "MarkedNames$Rounds" "round" "[I", .fieldLink RX4 18 "MarkedNames$Rounds" "rounds" "[I"] ++ wsX40)
def wsX4_leave : List Cond := .code yX4_leave cX4_leave 2 (some .int) :: ([.fieldLink RX4 15 "MarkedNames$Rounds" "round" "[I", .fieldLink RX4 21 "MarkedNames$Rounds" "depth" "I", .fieldLink RX4 18 "MarkedNames$Rounds" "rounds" "[I", .fieldLink RX4 9 "MarkedNames$Rounds" "held" "[I", .methodLink RX4 25 yX4_hasInner, .instanceMethod yX4_hasInner, .selects RX4 yX4_hasInner yX4_hasInner, .initialized RX4, .code yX4_hasInner cX4_hasInner 1 (some .boolean)] ++ wsX40)
def wsX1_matches_r1 : List Cond := [Cond.fieldLink RX1 12 "MarkedNames$Filler" "rounds" "LMarkedNames$Rounds;", Cond.fieldLink RX1 18 "MarkedNames$Filler" "row" "LMarkedNames$Row;", Cond.constant RX1 45 (1000000), Cond.methodLink RX1 39 yX1_hasRoomFor, Cond.instanceMethod yX1_hasRoomFor, Cond.selects RX1 yX1_hasRoomFor yX1_hasRoomFor, Cond.initialized RX1, Cond.code yX1_hasRoomFor cX1_hasRoomFor 5 (some .boolean), Cond.methodLink RX1 26 yX5_plainLength, Cond.instanceMethod yX5_plainLength, Cond.selects RX5 yX5_plainLength yX5_plainLength, Cond.initialized RX5, Cond.code yX5_plainLength cX5_plainLength 2 (some .int), Cond.methodLink RX5 34 yX5_wordAt, Cond.instanceMethod yX5_wordAt, Cond.selects RX5 yX5_wordAt yX5_wordAt, Cond.code yX5_wordAt cX5_wordAt 2 (some .int), Cond.fieldLink RX5 24 "MarkedNames$Row" "top" "I", Cond.fieldLink RX5 9 "MarkedNames$Row" "word" "[I", Cond.methodLink RX5 38 yX5_hasDots, Cond.instanceMethod yX5_hasDots, Cond.selects RX5 yX5_hasDots yX5_hasDots, Cond.code yX5_hasDots cX5_hasDots 4 (some .boolean), Cond.methodLink RX5 42 yX5_itemsFrom]
def wsX1_matches_r2 : List Cond := [Cond.instanceMethod yX5_itemsFrom, Cond.selects RX5 yX5_itemsFrom yX5_itemsFrom, Cond.code yX5_itemsFrom cX5_itemsFrom 5 (some .int), Cond.methodLink RX1 53 yX5_itemsFrom, Cond.methodLink RX1 69 yX5_hasDots, Cond.methodLink RX1 42 yX4_clear, Cond.instanceMethod yX4_clear, Cond.selects RX4 yX4_clear yX4_clear, Cond.initialized RX4, Cond.code yX4_clear cX4_clear 1 none, Cond.fieldLink RX4 21 "MarkedNames$Rounds" "depth" "I", Cond.methodLink RX1 36 yX5_after, Cond.instanceMethod yX5_after, Cond.selects RX5 yX5_after yX5_after, Cond.code yX5_after cX5_after 2 (some .int), Cond.fieldLink RX5 18 "MarkedNames$Row" "size" "[I", Cond.methodLink RX1 46 yX5_isHeld, Cond.instanceMethod yX5_isHeld, Cond.selects RX5 yX5_isHeld yX5_isHeld, Cond.code yX5_isHeld cX5_isHeld 3 (some .boolean), Cond.methodLink RX1 50 yX4_isIn, Cond.instanceMethod yX4_isIn, Cond.selects RX4 yX4_isIn yX4_isIn, Cond.code yX4_isIn cX4_isIn 2 (some .boolean)]
def wsX1_matches_r3 : List Cond := [Cond.fieldLink RX4 9 "MarkedNames$Rounds" "held" "[I", Cond.methodLink RX4 25 yX4_hasInner, Cond.instanceMethod yX4_hasInner, Cond.selects RX4 yX4_hasInner yX4_hasInner, Cond.code yX4_hasInner cX4_hasInner 1 (some .boolean), Cond.methodLink RX1 56 yX4_enter, Cond.instanceMethod yX4_enter, Cond.selects RX4 yX4_enter yX4_enter, Cond.code yX4_enter cX4_enter 3 none, Cond.fieldLink RX4 15 "MarkedNames$Rounds" "round" "[I", Cond.fieldLink RX4 18 "MarkedNames$Rounds" "rounds" "[I", Cond.methodLink RX1 60 yX5_wordAt, Cond.methodLink RX1 63 yX4_leave, Cond.instanceMethod yX4_leave, Cond.selects RX4 yX4_leave yX4_leave, Cond.code yX4_leave cX4_leave 2 (some .int), Cond.static yX8_isName, Cond.initialized RX8, Cond.code yX8_isName cX8_isName 1 (some .boolean)]
def wsX1_matches : List Cond := .code yX1_matches cX1_matches 8 (some .boolean) :: ((wsX1_matches_r1 ++ (wsX1_matches_r2 ++ wsX1_matches_r3)) ++ wsX10 ++ wsX50 ++ wsX40)
def wsX1_firstRule_r1 : List Cond := [Cond.fieldLink RX1 18 "MarkedNames$Filler" "row" "LMarkedNames$Row;", Cond.methodLink RX1 26 yX5_plainLength, Cond.instanceMethod yX5_plainLength, Cond.selects RX5 yX5_plainLength yX5_plainLength, Cond.initialized RX5, Cond.code yX5_plainLength cX5_plainLength 2 (some .int), Cond.methodLink RX5 34 yX5_wordAt, Cond.instanceMethod yX5_wordAt, Cond.selects RX5 yX5_wordAt yX5_wordAt, Cond.code yX5_wordAt cX5_wordAt 2 (some .int), Cond.fieldLink RX5 24 "MarkedNames$Row" "top" "I", Cond.fieldLink RX5 9 "MarkedNames$Row" "word" "[I", Cond.methodLink RX5 38 yX5_hasDots, Cond.instanceMethod yX5_hasDots, Cond.selects RX5 yX5_hasDots yX5_hasDots, Cond.code yX5_hasDots cX5_hasDots 4 (some .boolean), Cond.methodLink RX5 42 yX5_itemsFrom, Cond.instanceMethod yX5_itemsFrom, Cond.selects RX5 yX5_itemsFrom yX5_itemsFrom, Cond.code yX5_itemsFrom cX5_itemsFrom 5 (some .int), Cond.methodLink RX1 32 yX1_matches, Cond.instanceMethod yX1_matches, Cond.selects RX1 yX1_matches yX1_matches, Cond.initialized RX1]
def wsX1_firstRule_r2 : List Cond := [Cond.code yX1_matches cX1_matches 8 (some .boolean), Cond.fieldLink RX1 12 "MarkedNames$Filler" "rounds" "LMarkedNames$Rounds;", Cond.constant RX1 45 (1000000), Cond.methodLink RX1 39 yX1_hasRoomFor, Cond.instanceMethod yX1_hasRoomFor, Cond.selects RX1 yX1_hasRoomFor yX1_hasRoomFor, Cond.code yX1_hasRoomFor cX1_hasRoomFor 5 (some .boolean), Cond.methodLink RX1 53 yX5_itemsFrom, Cond.methodLink RX1 69 yX5_hasDots, Cond.methodLink RX1 42 yX4_clear, Cond.instanceMethod yX4_clear, Cond.selects RX4 yX4_clear yX4_clear, Cond.initialized RX4, Cond.code yX4_clear cX4_clear 1 none, Cond.fieldLink RX4 21 "MarkedNames$Rounds" "depth" "I", Cond.methodLink RX1 36 yX5_after, Cond.instanceMethod yX5_after, Cond.selects RX5 yX5_after yX5_after, Cond.code yX5_after cX5_after 2 (some .int), Cond.fieldLink RX5 18 "MarkedNames$Row" "size" "[I", Cond.methodLink RX1 46 yX5_isHeld, Cond.instanceMethod yX5_isHeld, Cond.selects RX5 yX5_isHeld yX5_isHeld, Cond.code yX5_isHeld cX5_isHeld 3 (some .boolean)]
def wsX1_firstRule_r3 : List Cond := [Cond.methodLink RX1 50 yX4_isIn, Cond.instanceMethod yX4_isIn, Cond.selects RX4 yX4_isIn yX4_isIn, Cond.code yX4_isIn cX4_isIn 2 (some .boolean), Cond.fieldLink RX4 9 "MarkedNames$Rounds" "held" "[I", Cond.methodLink RX4 25 yX4_hasInner, Cond.instanceMethod yX4_hasInner, Cond.selects RX4 yX4_hasInner yX4_hasInner, Cond.code yX4_hasInner cX4_hasInner 1 (some .boolean), Cond.methodLink RX1 56 yX4_enter, Cond.instanceMethod yX4_enter, Cond.selects RX4 yX4_enter yX4_enter, Cond.code yX4_enter cX4_enter 3 none, Cond.fieldLink RX4 15 "MarkedNames$Rounds" "round" "[I", Cond.fieldLink RX4 18 "MarkedNames$Rounds" "rounds" "[I", Cond.methodLink RX1 60 yX5_wordAt, Cond.methodLink RX1 63 yX4_leave, Cond.instanceMethod yX4_leave, Cond.selects RX4 yX4_leave yX4_leave, Cond.code yX4_leave cX4_leave 2 (some .int), Cond.static yX8_isName, Cond.initialized RX8, Cond.code yX8_isName cX8_isName 1 (some .boolean)]
def wsX1_firstRule : List Cond := .code yX1_firstRule cX1_firstRule 6 (some .int) :: ((wsX1_firstRule_r1 ++ (wsX1_firstRule_r2 ++ wsX1_firstRule_r3)) ++ wsX10 ++ wsX50 ++ wsX40)
def wsX5_startTree : List Cond := .code yX5_startTree cX5_startTree 1 (some .int) :: ([.fieldLink RX5 28 "MarkedNames$Row" "open" "I", .fieldLink RX5 24 "MarkedNames$Row" "top" "I"] ++ wsX50)
def wsX5_variableAt : List Cond := .code yX5_variableAt cX5_variableAt 2 (some .int) :: ([.fieldLink RX5 24 "MarkedNames$Row" "top" "I", .fieldLink RX5 21 "MarkedNames$Row" "use" "[I"] ++ wsX50)
def wsX4_roundOf : List Cond := .code yX4_roundOf cX4_roundOf 2 (some .int) :: ([.fieldLink RX4 21 "MarkedNames$Rounds" "depth" "I", .fieldLink RX4 15 "MarkedNames$Rounds" "round" "[I"] ++ wsX40)
def wsX1_matchOf : List Cond := .code yX1_matchOf cX1_matchOf 9 (some .int) :: ([.fieldLink RX1 72 "MarkedNames$Filler" "pattern" "I", .fieldLink RX1 76 "MarkedNames$Filler" "matched" "I", .constant RX1 45 (1000000), .fieldLink RX1 18 "MarkedNames$Filler" "row" "LMarkedNames$Row;", .fieldLink RX1 12 "MarkedNames$Filler" "rounds" "LMarkedNames$Rounds;", .methodLink RX1 36 yX5_after, .instanceMethod yX5_after, .selects RX5 yX5_after yX5_after, .initialized RX5, .code yX5_after cX5_after 2 (some .int), .fieldLink RX5 24 "MarkedNames$Row" "top" "I", .fieldLink RX5 18 "MarkedNames$Row" "size" "[I", .methodLink RX1 46 yX5_isHeld, .instanceMethod yX5_isHeld, .selects RX5 yX5_isHeld yX5_isHeld, .code yX5_isHeld cX5_isHeld 3 (some .boolean), .fieldLink RX5 9 "MarkedNames$Row" "word" "[I", .methodLink RX1 125 yX4_roundOf, .instanceMethod yX4_roundOf, .selects RX4 yX4_roundOf yX4_roundOf, .initialized RX4, .code yX4_roundOf cX4_roundOf 2 (some .int), .fieldLink RX4 21 "MarkedNames$Rounds" "depth" "I", .fieldLink RX4 15 "MarkedNames$Rounds" "round" "[I"] ++ wsX10 ++ wsX50 ++ wsX40)
def wsX1_roundsFor_r1 : List Cond := [Cond.fieldLink RX1 18 "MarkedNames$Filler" "row" "LMarkedNames$Row;", Cond.fieldLink RX1 12 "MarkedNames$Filler" "rounds" "LMarkedNames$Rounds;", Cond.fieldLink RX1 22 "MarkedNames$Filler" "outcome" "LMarkedNames$Outcome;", Cond.methodLink RX1 111 Lib.Math.max.name, Cond.static Lib.Math.max.name, Cond.initialized "java/lang/Math", Cond.code Lib.Math.max.name Lib.Math.max.code 2 (some .int), Cond.methodLink RX1 36 yX5_after, Cond.instanceMethod yX5_after, Cond.selects RX5 yX5_after yX5_after, Cond.initialized RX5, Cond.code yX5_after cX5_after 2 (some .int), Cond.fieldLink RX5 24 "MarkedNames$Row" "top" "I", Cond.fieldLink RX5 18 "MarkedNames$Row" "size" "[I", Cond.methodLink RX1 98 yX5_variableAt, Cond.instanceMethod yX5_variableAt, Cond.selects RX5 yX5_variableAt yX5_variableAt, Cond.code yX5_variableAt cX5_variableAt 2 (some .int), Cond.fieldLink RX5 21 "MarkedNames$Row" "use" "[I", Cond.methodLink RX1 104 yX1_matchOf, Cond.instanceMethod yX1_matchOf, Cond.selects RX1 yX1_matchOf yX1_matchOf, Cond.initialized RX1, Cond.code yX1_matchOf cX1_matchOf 9 (some .int)]
def wsX1_roundsFor_r2 : List Cond := [Cond.fieldLink RX1 72 "MarkedNames$Filler" "pattern" "I", Cond.fieldLink RX1 76 "MarkedNames$Filler" "matched" "I", Cond.constant RX1 45 (1000000), Cond.methodLink RX1 46 yX5_isHeld, Cond.instanceMethod yX5_isHeld, Cond.selects RX5 yX5_isHeld yX5_isHeld, Cond.code yX5_isHeld cX5_isHeld 3 (some .boolean), Cond.fieldLink RX5 9 "MarkedNames$Row" "word" "[I", Cond.methodLink RX1 125 yX4_roundOf, Cond.instanceMethod yX4_roundOf, Cond.selects RX4 yX4_roundOf yX4_roundOf, Cond.initialized RX4, Cond.code yX4_roundOf cX4_roundOf 2 (some .int), Cond.fieldLink RX4 21 "MarkedNames$Rounds" "depth" "I", Cond.fieldLink RX4 15 "MarkedNames$Rounds" "round" "[I", Cond.methodLink RX1 53 yX5_itemsFrom, Cond.instanceMethod yX5_itemsFrom, Cond.selects RX5 yX5_itemsFrom yX5_itemsFrom, Cond.code yX5_itemsFrom cX5_itemsFrom 5 (some .int), Cond.methodLink RX1 108 yX2_fail, Cond.instanceMethod yX2_fail, Cond.selects RX2 yX2_fail yX2_fail, Cond.initialized RX2, Cond.code yX2_fail cX2_fail 2 none]
def wsX1_roundsFor_r3 : List Cond := [Cond.fieldLink RX2 19 "MarkedNames$Outcome" "error" "I"]
def wsX1_roundsFor : List Cond := .code yX1_roundsFor cX1_roundsFor 7 (some .int) :: ((wsX1_roundsFor_r1 ++ (wsX1_roundsFor_r2 ++ wsX1_roundsFor_r3)) ++ wsX10 ++ wsX40 ++ wsX50 ++ wsX20)
def wsX8_isTree : List Cond := .code yX8_isTree cX8_isTree 1 (some .boolean) :: ([])
def wsX5_marksAt : List Cond := .code yX5_marksAt cX5_marksAt 2 (some .int) :: ([.fieldLink RX5 24 "MarkedNames$Row" "top" "I", .fieldLink RX5 15 "MarkedNames$Row" "marks" "[I"] ++ wsX50)
def wsX5_closeBracket : List Cond := .code yX5_closeBracket cX5_closeBracket 2 none :: ([.fieldLink RX5 28 "MarkedNames$Row" "open" "I", .fieldLink RX5 18 "MarkedNames$Row" "size" "[I", .fieldLink RX5 24 "MarkedNames$Row" "top" "I"] ++ wsX50)
def wsX5_add : List Cond := .code yX5_add cX5_add 3 none :: ([.fieldLink RX5 24 "MarkedNames$Row" "top" "I", .fieldLink RX5 9 "MarkedNames$Row" "word" "[I", .fieldLink RX5 15 "MarkedNames$Row" "marks" "[I", .fieldLink RX5 18 "MarkedNames$Row" "size" "[I", .fieldLink RX5 21 "MarkedNames$Row" "use" "[I", .fieldLink RX5 28 "MarkedNames$Row" "open" "I", .methodLink RX5 31 yX5_closeBracket, .instanceMethod yX5_closeBracket, .selects RX5 yX5_closeBracket yX5_closeBracket, .initialized RX5, .code yX5_closeBracket cX5_closeBracket 2 none] ++ wsX50)
def wsX1_fillToken_r1 : List Cond := [Cond.fieldLink RX1 18 "MarkedNames$Filler" "row" "LMarkedNames$Row;", Cond.fieldLink RX1 79 "MarkedNames$Filler" "filled" "I", Cond.fieldLink RX1 22 "MarkedNames$Filler" "outcome" "LMarkedNames$Outcome;", Cond.methodLink RX1 98 yX5_variableAt, Cond.instanceMethod yX5_variableAt, Cond.selects RX5 yX5_variableAt yX5_variableAt, Cond.initialized RX5, Cond.code yX5_variableAt cX5_variableAt 2 (some .int), Cond.fieldLink RX5 24 "MarkedNames$Row" "top" "I", Cond.fieldLink RX5 21 "MarkedNames$Row" "use" "[I", Cond.methodLink RX1 104 yX1_matchOf, Cond.instanceMethod yX1_matchOf, Cond.selects RX1 yX1_matchOf yX1_matchOf, Cond.initialized RX1, Cond.code yX1_matchOf cX1_matchOf 9 (some .int), Cond.fieldLink RX1 72 "MarkedNames$Filler" "pattern" "I", Cond.fieldLink RX1 76 "MarkedNames$Filler" "matched" "I", Cond.constant RX1 45 (1000000), Cond.fieldLink RX1 12 "MarkedNames$Filler" "rounds" "LMarkedNames$Rounds;", Cond.methodLink RX1 36 yX5_after, Cond.instanceMethod yX5_after, Cond.selects RX5 yX5_after yX5_after, Cond.code yX5_after cX5_after 2 (some .int), Cond.fieldLink RX5 18 "MarkedNames$Row" "size" "[I"]
def wsX1_fillToken_r2 : List Cond := [Cond.methodLink RX1 46 yX5_isHeld, Cond.instanceMethod yX5_isHeld, Cond.selects RX5 yX5_isHeld yX5_isHeld, Cond.code yX5_isHeld cX5_isHeld 3 (some .boolean), Cond.fieldLink RX5 9 "MarkedNames$Row" "word" "[I", Cond.methodLink RX1 125 yX4_roundOf, Cond.instanceMethod yX4_roundOf, Cond.selects RX4 yX4_roundOf yX4_roundOf, Cond.initialized RX4, Cond.code yX4_roundOf cX4_roundOf 2 (some .int), Cond.fieldLink RX4 21 "MarkedNames$Rounds" "depth" "I", Cond.fieldLink RX4 15 "MarkedNames$Rounds" "round" "[I", Cond.methodLink RX1 60 yX5_wordAt, Cond.instanceMethod yX5_wordAt, Cond.selects RX5 yX5_wordAt yX5_wordAt, Cond.code yX5_wordAt cX5_wordAt 2 (some .int), Cond.static yX8_isTree, Cond.initialized RX8, Cond.code yX8_isTree cX8_isTree 1 (some .boolean), Cond.methodLink RX1 108 yX2_fail, Cond.instanceMethod yX2_fail, Cond.selects RX2 yX2_fail yX2_fail, Cond.initialized RX2, Cond.code yX2_fail cX2_fail 2 none]
def wsX1_fillToken_r3 : List Cond := [Cond.fieldLink RX2 19 "MarkedNames$Outcome" "error" "I", Cond.methodLink RX1 119 yX5_marksAt, Cond.instanceMethod yX5_marksAt, Cond.selects RX5 yX5_marksAt yX5_marksAt, Cond.code yX5_marksAt cX5_marksAt 2 (some .int), Cond.fieldLink RX5 15 "MarkedNames$Row" "marks" "[I", Cond.methodLink RX1 122 yX5_add, Cond.instanceMethod yX5_add, Cond.selects RX5 yX5_add yX5_add, Cond.code yX5_add cX5_add 3 none, Cond.fieldLink RX5 28 "MarkedNames$Row" "open" "I", Cond.methodLink RX5 31 yX5_closeBracket, Cond.instanceMethod yX5_closeBracket, Cond.selects RX5 yX5_closeBracket yX5_closeBracket, Cond.code yX5_closeBracket cX5_closeBracket 2 none]
def wsX1_fillToken : List Cond := .code yX1_fillToken cX1_fillToken 6 none :: ((wsX1_fillToken_r1 ++ (wsX1_fillToken_r2 ++ wsX1_fillToken_r3)) ++ wsX10 ++ wsX50 ++ wsX40 ++ wsX20)
def wsX1_fill_r1 : List Cond := [Cond.fieldLink RX1 72 "MarkedNames$Filler" "pattern" "I", Cond.fieldLink RX1 76 "MarkedNames$Filler" "matched" "I", Cond.fieldLink RX1 79 "MarkedNames$Filler" "filled" "I", Cond.fieldLink RX1 12 "MarkedNames$Filler" "rounds" "LMarkedNames$Rounds;", Cond.fieldLink RX1 18 "MarkedNames$Filler" "row" "LMarkedNames$Row;", Cond.constant RX1 45 (1000000), Cond.fieldLink RX1 22 "MarkedNames$Filler" "outcome" "LMarkedNames$Outcome;", Cond.methodLink RX1 42 yX4_clear, Cond.instanceMethod yX4_clear, Cond.selects RX4 yX4_clear yX4_clear, Cond.initialized RX4, Cond.code yX4_clear cX4_clear 1 none, Cond.fieldLink RX4 21 "MarkedNames$Rounds" "depth" "I", Cond.methodLink RX1 82 yX5_startTree, Cond.instanceMethod yX5_startTree, Cond.selects RX5 yX5_startTree yX5_startTree, Cond.initialized RX5, Cond.code yX5_startTree cX5_startTree 1 (some .int), Cond.fieldLink RX5 28 "MarkedNames$Row" "open" "I", Cond.fieldLink RX5 24 "MarkedNames$Row" "top" "I", Cond.methodLink RX1 36 yX5_after, Cond.instanceMethod yX5_after, Cond.selects RX5 yX5_after yX5_after, Cond.code yX5_after cX5_after 2 (some .int)]
def wsX1_fill_r2 : List Cond := [Cond.fieldLink RX5 18 "MarkedNames$Row" "size" "[I", Cond.methodLink RX1 46 yX5_isHeld, Cond.instanceMethod yX5_isHeld, Cond.selects RX5 yX5_isHeld yX5_isHeld, Cond.code yX5_isHeld cX5_isHeld 3 (some .boolean), Cond.fieldLink RX5 9 "MarkedNames$Row" "word" "[I", Cond.methodLink RX1 50 yX4_isIn, Cond.instanceMethod yX4_isIn, Cond.selects RX4 yX4_isIn yX4_isIn, Cond.code yX4_isIn cX4_isIn 2 (some .boolean), Cond.fieldLink RX4 9 "MarkedNames$Rounds" "held" "[I", Cond.methodLink RX4 25 yX4_hasInner, Cond.instanceMethod yX4_hasInner, Cond.selects RX4 yX4_hasInner yX4_hasInner, Cond.code yX4_hasInner cX4_hasInner 1 (some .boolean), Cond.methodLink RX1 91 yX1_roundsFor, Cond.instanceMethod yX1_roundsFor, Cond.selects RX1 yX1_roundsFor yX1_roundsFor, Cond.initialized RX1, Cond.code yX1_roundsFor cX1_roundsFor 7 (some .int), Cond.methodLink RX1 111 Lib.Math.max.name, Cond.static Lib.Math.max.name, Cond.initialized "java/lang/Math", Cond.code Lib.Math.max.name Lib.Math.max.code 2 (some .int)]
def wsX1_fill_r3 : List Cond := [Cond.methodLink RX1 98 yX5_variableAt, Cond.instanceMethod yX5_variableAt, Cond.selects RX5 yX5_variableAt yX5_variableAt, Cond.code yX5_variableAt cX5_variableAt 2 (some .int), Cond.fieldLink RX5 21 "MarkedNames$Row" "use" "[I", Cond.methodLink RX1 104 yX1_matchOf, Cond.instanceMethod yX1_matchOf, Cond.selects RX1 yX1_matchOf yX1_matchOf, Cond.code yX1_matchOf cX1_matchOf 9 (some .int), Cond.methodLink RX1 125 yX4_roundOf, Cond.instanceMethod yX4_roundOf, Cond.selects RX4 yX4_roundOf yX4_roundOf, Cond.code yX4_roundOf cX4_roundOf 2 (some .int), Cond.fieldLink RX4 15 "MarkedNames$Rounds" "round" "[I", Cond.methodLink RX1 53 yX5_itemsFrom, Cond.instanceMethod yX5_itemsFrom, Cond.selects RX5 yX5_itemsFrom yX5_itemsFrom, Cond.code yX5_itemsFrom cX5_itemsFrom 5 (some .int), Cond.methodLink RX1 108 yX2_fail, Cond.instanceMethod yX2_fail, Cond.selects RX2 yX2_fail yX2_fail, Cond.initialized RX2, Cond.code yX2_fail cX2_fail 2 none, Cond.fieldLink RX2 19 "MarkedNames$Outcome" "error" "I"]
def wsX1_fill_r4 : List Cond := [Cond.methodLink RX1 56 yX4_enter, Cond.instanceMethod yX4_enter, Cond.selects RX4 yX4_enter yX4_enter, Cond.code yX4_enter cX4_enter 3 none, Cond.fieldLink RX4 18 "MarkedNames$Rounds" "rounds" "[I", Cond.methodLink RX1 60 yX5_wordAt, Cond.instanceMethod yX5_wordAt, Cond.selects RX5 yX5_wordAt yX5_wordAt, Cond.code yX5_wordAt cX5_wordAt 2 (some .int), Cond.methodLink RX1 63 yX4_leave, Cond.instanceMethod yX4_leave, Cond.selects RX4 yX4_leave yX4_leave, Cond.code yX4_leave cX4_leave 2 (some .int), Cond.methodLink RX1 94 yX1_fillToken, Cond.instanceMethod yX1_fillToken, Cond.selects RX1 yX1_fillToken yX1_fillToken, Cond.code yX1_fillToken cX1_fillToken 6 none, Cond.static yX8_isTree, Cond.initialized RX8, Cond.code yX8_isTree cX8_isTree 1 (some .boolean), Cond.methodLink RX1 119 yX5_marksAt, Cond.instanceMethod yX5_marksAt, Cond.selects RX5 yX5_marksAt yX5_marksAt, Cond.code yX5_marksAt cX5_marksAt 2 (some .int)]
def wsX1_fill_r5 : List Cond := [Cond.fieldLink RX5 15 "MarkedNames$Row" "marks" "[I", Cond.methodLink RX1 122 yX5_add, Cond.instanceMethod yX5_add, Cond.selects RX5 yX5_add yX5_add, Cond.code yX5_add cX5_add 3 none, Cond.methodLink RX5 31 yX5_closeBracket, Cond.instanceMethod yX5_closeBracket, Cond.selects RX5 yX5_closeBracket yX5_closeBracket, Cond.code yX5_closeBracket cX5_closeBracket 2 none]
def wsX1_fill : List Cond := .code yX1_fill cX1_fill 8 (some .int) :: ((wsX1_fill_r1 ++ (wsX1_fill_r2 ++ (wsX1_fill_r3 ++ (wsX1_fill_r4 ++ wsX1_fill_r5)))) ++ wsX10 ++ wsX20 ++ wsX40 ++ wsX50)
def wsX2_put : List Cond := .code yX2_put cX2_put 2 none :: ([.fieldLink RX2 19 "MarkedNames$Outcome" "error" "I", .fieldLink RX2 15 "MarkedNames$Outcome" "length" "I", .fieldLink RX2 9 "MarkedNames$Outcome" "text" "[I"] ++ wsX20)
def wsX0_areNames : List Cond := .code yX0_areNames cX0_areNames 4 (some .boolean) :: ([.fieldLink RX0 9 "MarkedNames$Expander" "row" "LMarkedNames$Row;", .methodLink RX0 139 yX5_plainLength, .instanceMethod yX5_plainLength, .selects RX5 yX5_plainLength yX5_plainLength, .initialized RX5, .code yX5_plainLength cX5_plainLength 2 (some .int), .methodLink RX5 34 yX5_wordAt, .instanceMethod yX5_wordAt, .selects RX5 yX5_wordAt yX5_wordAt, .code yX5_wordAt cX5_wordAt 2 (some .int), .fieldLink RX5 24 "MarkedNames$Row" "top" "I", .fieldLink RX5 9 "MarkedNames$Row" "word" "[I", .methodLink RX5 38 yX5_hasDots, .instanceMethod yX5_hasDots, .selects RX5 yX5_hasDots yX5_hasDots, .code yX5_hasDots cX5_hasDots 4 (some .boolean), .methodLink RX5 42 yX5_itemsFrom, .instanceMethod yX5_itemsFrom, .selects RX5 yX5_itemsFrom yX5_itemsFrom, .code yX5_itemsFrom cX5_itemsFrom 5 (some .int), .methodLink RX0 59 yX5_wordAt, .static yX8_isName, .initialized RX8, .code yX8_isName cX8_isName 1 (some .boolean)] ++ wsX00 ++ wsX50)
def wsX5_findName : List Cond := .code yX5_findName cX5_findName 5 (some .int) :: ([.fieldLink RX5 24 "MarkedNames$Row" "top" "I", .fieldLink RX5 9 "MarkedNames$Row" "word" "[I", .fieldLink RX5 15 "MarkedNames$Row" "marks" "[I"] ++ wsX50)
def wsX7_bind : List Cond := .code yX7_bind cX7_bind 5 (some .boolean) :: ([.fieldLink RX7 33 "MarkedNames$Table" "length" "I", .fieldLink RX7 9 "MarkedNames$Table" "name" "[I", .fieldLink RX7 15 "MarkedNames$Table" "marks" "[I", .fieldLink RX7 18 "MarkedNames$Table" "kind" "[I", .fieldLink RX7 21 "MarkedNames$Table" "value" "[I"] ++ wsX70)
def wsX0_bind_r1 : List Cond := [Cond.fieldLink RX0 19 "MarkedNames$Expander" "table" "LMarkedNames$Table;", Cond.fieldLink RX0 9 "MarkedNames$Expander" "row" "LMarkedNames$Row;", Cond.fieldLink RX0 23 "MarkedNames$Expander" "outcome" "LMarkedNames$Outcome;", Cond.fieldLink RX0 40 "MarkedNames$Expander" "bindings" "I", Cond.methodLink RX0 59 yX5_wordAt, Cond.instanceMethod yX5_wordAt, Cond.selects RX5 yX5_wordAt yX5_wordAt, Cond.initialized RX5, Cond.code yX5_wordAt cX5_wordAt 2 (some .int), Cond.fieldLink RX5 24 "MarkedNames$Row" "top" "I", Cond.fieldLink RX5 9 "MarkedNames$Row" "word" "[I", Cond.methodLink RX0 86 yX5_marksAt, Cond.instanceMethod yX5_marksAt, Cond.selects RX5 yX5_marksAt yX5_marksAt, Cond.code yX5_marksAt cX5_marksAt 2 (some .int), Cond.fieldLink RX5 15 "MarkedNames$Row" "marks" "[I", Cond.methodLink RX0 183 yX7_bind, Cond.instanceMethod yX7_bind, Cond.selects RX7 yX7_bind yX7_bind, Cond.initialized RX7, Cond.code yX7_bind cX7_bind 5 (some .boolean), Cond.fieldLink RX7 33 "MarkedNames$Table" "length" "I", Cond.fieldLink RX7 9 "MarkedNames$Table" "name" "[I", Cond.fieldLink RX7 15 "MarkedNames$Table" "marks" "[I"]
def wsX0_bind_r2 : List Cond := [Cond.fieldLink RX7 18 "MarkedNames$Table" "kind" "[I", Cond.fieldLink RX7 21 "MarkedNames$Table" "value" "[I", Cond.methodLink RX0 83 yX2_fail, Cond.instanceMethod yX2_fail, Cond.selects RX2 yX2_fail yX2_fail, Cond.initialized RX2, Cond.code yX2_fail cX2_fail 2 none, Cond.fieldLink RX2 19 "MarkedNames$Outcome" "error" "I"]
def wsX0_bind : List Cond := .code yX0_bind cX0_bind 4 (some .boolean) :: ((wsX0_bind_r1 ++ wsX0_bind_r2) ++ wsX00 ++ wsX50 ++ wsX70 ++ wsX20)
def wsX0_bindVariable_r1 : List Cond := [Cond.fieldLink RX0 9 "MarkedNames$Expander" "row" "LMarkedNames$Row;", Cond.fieldLink RX0 23 "MarkedNames$Expander" "outcome" "LMarkedNames$Outcome;", Cond.fieldLink RX0 43 "MarkedNames$Expander" "variables" "I", Cond.methodLink RX0 159 yX5_findName, Cond.instanceMethod yX5_findName, Cond.selects RX5 yX5_findName yX5_findName, Cond.initialized RX5, Cond.code yX5_findName cX5_findName 5 (some .int), Cond.fieldLink RX5 24 "MarkedNames$Row" "top" "I", Cond.fieldLink RX5 9 "MarkedNames$Row" "word" "[I", Cond.fieldLink RX5 15 "MarkedNames$Row" "marks" "[I", Cond.methodLink RX0 83 yX2_fail, Cond.instanceMethod yX2_fail, Cond.selects RX2 yX2_fail yX2_fail, Cond.initialized RX2, Cond.code yX2_fail cX2_fail 2 none, Cond.fieldLink RX2 19 "MarkedNames$Outcome" "error" "I", Cond.methodLink RX0 163 yX0_bind, Cond.instanceMethod yX0_bind, Cond.selects RX0 yX0_bind yX0_bind, Cond.initialized RX0, Cond.code yX0_bind cX0_bind 4 (some .boolean), Cond.fieldLink RX0 19 "MarkedNames$Expander" "table" "LMarkedNames$Table;", Cond.fieldLink RX0 40 "MarkedNames$Expander" "bindings" "I"]
def wsX0_bindVariable_r2 : List Cond := [Cond.methodLink RX0 59 yX5_wordAt, Cond.instanceMethod yX5_wordAt, Cond.selects RX5 yX5_wordAt yX5_wordAt, Cond.code yX5_wordAt cX5_wordAt 2 (some .int), Cond.methodLink RX0 86 yX5_marksAt, Cond.instanceMethod yX5_marksAt, Cond.selects RX5 yX5_marksAt yX5_marksAt, Cond.code yX5_marksAt cX5_marksAt 2 (some .int), Cond.methodLink RX0 183 yX7_bind, Cond.instanceMethod yX7_bind, Cond.selects RX7 yX7_bind yX7_bind, Cond.initialized RX7, Cond.code yX7_bind cX7_bind 5 (some .boolean), Cond.fieldLink RX7 33 "MarkedNames$Table" "length" "I", Cond.fieldLink RX7 9 "MarkedNames$Table" "name" "[I", Cond.fieldLink RX7 15 "MarkedNames$Table" "marks" "[I", Cond.fieldLink RX7 18 "MarkedNames$Table" "kind" "[I", Cond.fieldLink RX7 21 "MarkedNames$Table" "value" "[I"]
def wsX0_bindVariable : List Cond := .code yX0_bindVariable cX0_bindVariable 3 none :: ((wsX0_bindVariable_r1 ++ wsX0_bindVariable_r2) ++ wsX00 ++ wsX50 ++ wsX20 ++ wsX70)
def wsX2_putName : List Cond := .code yX2_putName cX2_putName 3 none :: ([.methodLink RX2 22 yX2_put, .instanceMethod yX2_put, .selects RX2 yX2_put yX2_put, .initialized RX2, .code yX2_put cX2_put 2 none, .fieldLink RX2 19 "MarkedNames$Outcome" "error" "I", .fieldLink RX2 15 "MarkedNames$Outcome" "length" "I", .fieldLink RX2 9 "MarkedNames$Outcome" "text" "[I"] ++ wsX20)
def wsX2_putNumber : List Cond := .code yX2_putNumber cX2_putNumber 2 none :: ([.methodLink RX2 22 yX2_put, .instanceMethod yX2_put, .selects RX2 yX2_put yX2_put, .initialized RX2, .code yX2_put cX2_put 2 none, .fieldLink RX2 19 "MarkedNames$Outcome" "error" "I", .fieldLink RX2 15 "MarkedNames$Outcome" "length" "I", .fieldLink RX2 9 "MarkedNames$Outcome" "text" "[I"] ++ wsX20)
def wsX2_putVariable : List Cond := .code yX2_putVariable cX2_putVariable 2 none :: ([.methodLink RX2 22 yX2_put, .instanceMethod yX2_put, .selects RX2 yX2_put yX2_put, .initialized RX2, .code yX2_put cX2_put 2 none, .fieldLink RX2 19 "MarkedNames$Outcome" "error" "I", .fieldLink RX2 15 "MarkedNames$Outcome" "length" "I", .fieldLink RX2 9 "MarkedNames$Outcome" "text" "[I", .methodLink RX2 26 yX2_putNumber, .instanceMethod yX2_putNumber, .selects RX2 yX2_putNumber yX2_putNumber, .code yX2_putNumber cX2_putNumber 2 none] ++ wsX20)
def wsX0_putVariables : List Cond := .code yX0_putVariables cX0_putVariables 4 none :: ([.fieldLink RX0 23 "MarkedNames$Expander" "outcome" "LMarkedNames$Outcome;", .constant RX0 158 (91758), .methodLink RX0 130 yX2_put, .instanceMethod yX2_put, .selects RX2 yX2_put yX2_put, .initialized RX2, .code yX2_put cX2_put 2 none, .fieldLink RX2 19 "MarkedNames$Outcome" "error" "I", .fieldLink RX2 15 "MarkedNames$Outcome" "length" "I", .fieldLink RX2 9 "MarkedNames$Outcome" "text" "[I", .methodLink RX0 99 yX2_putName, .instanceMethod yX2_putName, .selects RX2 yX2_putName yX2_putName, .code yX2_putName cX2_putName 3 none, .methodLink RX2 22 yX2_put, .methodLink RX0 105 yX2_putVariable, .instanceMethod yX2_putVariable, .selects RX2 yX2_putVariable yX2_putVariable, .code yX2_putVariable cX2_putVariable 2 none, .methodLink RX2 26 yX2_putNumber, .instanceMethod yX2_putNumber, .selects RX2 yX2_putNumber yX2_putNumber, .code yX2_putNumber cX2_putNumber 2 none] ++ wsX00 ++ wsX20)
def wsJ6_bitCount_0f7a4 : List Cond := .code yJ6_bitCount_0f7a4 cJ6_bitCount_0f7a4 1 (some .int) :: ([.constant RJ6 265 (1431655765), .constant RJ6 266 (858993459), .constant RJ6 267 (252645135)])
def wsX7_holdsAllOthers : List Cond := .code yX7_holdsAllOthers cX7_holdsAllOthers 5 (some .boolean) :: ([.fieldLink RX7 33 "MarkedNames$Table" "length" "I", .fieldLink RX7 9 "MarkedNames$Table" "name" "[I", .fieldLink RX7 15 "MarkedNames$Table" "marks" "[I"] ++ wsX70)
def wsX7_meaning : List Cond := .code yX7_meaning cX7_meaning 6 (some .int) :: ([.fieldLink RX7 33 "MarkedNames$Table" "length" "I", .fieldLink RX7 9 "MarkedNames$Table" "name" "[I", .fieldLink RX7 15 "MarkedNames$Table" "marks" "[I", .methodLink RX7 50 yJ6_bitCount_0f7a4, .static yJ6_bitCount_0f7a4, .initialized RJ6, .code yJ6_bitCount_0f7a4 cJ6_bitCount_0f7a4 1 (some .int), .constant RJ6 265 (1431655765), .constant RJ6 266 (858993459), .constant RJ6 267 (252645135), .methodLink RX7 56 yX7_holdsAllOthers, .instanceMethod yX7_holdsAllOthers, .selects RX7 yX7_holdsAllOthers yX7_holdsAllOthers, .initialized RX7, .code yX7_holdsAllOthers cX7_holdsAllOthers 5 (some .boolean)] ++ wsX70)
def wsX0_meaningOf_r1 : List Cond := [Cond.fieldLink RX0 19 "MarkedNames$Expander" "table" "LMarkedNames$Table;", Cond.fieldLink RX0 9 "MarkedNames$Expander" "row" "LMarkedNames$Row;", Cond.fieldLink RX0 23 "MarkedNames$Expander" "outcome" "LMarkedNames$Outcome;", Cond.methodLink RX0 59 yX5_wordAt, Cond.instanceMethod yX5_wordAt, Cond.selects RX5 yX5_wordAt yX5_wordAt, Cond.initialized RX5, Cond.code yX5_wordAt cX5_wordAt 2 (some .int), Cond.fieldLink RX5 24 "MarkedNames$Row" "top" "I", Cond.fieldLink RX5 9 "MarkedNames$Row" "word" "[I", Cond.methodLink RX0 86 yX5_marksAt, Cond.instanceMethod yX5_marksAt, Cond.selects RX5 yX5_marksAt yX5_marksAt, Cond.code yX5_marksAt cX5_marksAt 2 (some .int), Cond.fieldLink RX5 15 "MarkedNames$Row" "marks" "[I", Cond.methodLink RX0 89 yX7_meaning, Cond.instanceMethod yX7_meaning, Cond.selects RX7 yX7_meaning yX7_meaning, Cond.initialized RX7, Cond.code yX7_meaning cX7_meaning 6 (some .int), Cond.fieldLink RX7 33 "MarkedNames$Table" "length" "I", Cond.fieldLink RX7 9 "MarkedNames$Table" "name" "[I", Cond.fieldLink RX7 15 "MarkedNames$Table" "marks" "[I", Cond.methodLink RX7 50 yJ6_bitCount_0f7a4]
def wsX0_meaningOf_r2 : List Cond := [Cond.static yJ6_bitCount_0f7a4, Cond.initialized RJ6, Cond.code yJ6_bitCount_0f7a4 cJ6_bitCount_0f7a4 1 (some .int), Cond.constant RJ6 265 (1431655765), Cond.constant RJ6 266 (858993459), Cond.constant RJ6 267 (252645135), Cond.methodLink RX7 56 yX7_holdsAllOthers, Cond.instanceMethod yX7_holdsAllOthers, Cond.selects RX7 yX7_holdsAllOthers yX7_holdsAllOthers, Cond.code yX7_holdsAllOthers cX7_holdsAllOthers 5 (some .boolean), Cond.methodLink RX0 83 yX2_fail, Cond.instanceMethod yX2_fail, Cond.selects RX2 yX2_fail yX2_fail, Cond.initialized RX2, Cond.code yX2_fail cX2_fail 2 none, Cond.fieldLink RX2 19 "MarkedNames$Outcome" "error" "I"]
def wsX0_meaningOf : List Cond := .code yX0_meaningOf cX0_meaningOf 3 (some .int) :: ((wsX0_meaningOf_r1 ++ wsX0_meaningOf_r2) ++ wsX00 ++ wsX50 ++ wsX70 ++ wsX20)
def wsX7_kindOf : List Cond := .code yX7_kindOf cX7_kindOf 2 (some .int) :: ([.fieldLink RX7 18 "MarkedNames$Table" "kind" "[I"] ++ wsX70)
def wsX8_isNumber : List Cond := .code yX8_isNumber cX8_isNumber 1 (some .boolean) :: ([])
def wsX2_putWord : List Cond := .code yX2_putWord cX2_putWord 2 none :: ([.static yX8_isName, .initialized RX8, .code yX8_isName cX8_isName 1 (some .boolean), .methodLink RX2 33 yX2_putName, .instanceMethod yX2_putName, .selects RX2 yX2_putName yX2_putName, .initialized RX2, .code yX2_putName cX2_putName 3 none, .methodLink RX2 22 yX2_put, .instanceMethod yX2_put, .selects RX2 yX2_put yX2_put, .code yX2_put cX2_put 2 none, .fieldLink RX2 19 "MarkedNames$Outcome" "error" "I", .fieldLink RX2 15 "MarkedNames$Outcome" "length" "I", .fieldLink RX2 9 "MarkedNames$Outcome" "text" "[I", .static yX8_isNumber, .code yX8_isNumber cX8_isNumber 1 (some .boolean), .methodLink RX2 26 yX2_putNumber, .instanceMethod yX2_putNumber, .selects RX2 yX2_putNumber yX2_putNumber, .code yX2_putNumber cX2_putNumber 2 none] ++ wsX20)
def wsX2_putTree_r1 : List Cond := [Cond.methodLink RX2 39 yX5_after, Cond.instanceMethod yX5_after, Cond.selects RX5 yX5_after yX5_after, Cond.initialized RX5, Cond.code yX5_after cX5_after 2 (some .int), Cond.fieldLink RX5 24 "MarkedNames$Row" "top" "I", Cond.fieldLink RX5 18 "MarkedNames$Row" "size" "[I", Cond.methodLink RX2 45 yX5_wordAt, Cond.instanceMethod yX5_wordAt, Cond.selects RX5 yX5_wordAt yX5_wordAt, Cond.code yX5_wordAt cX5_wordAt 2 (some .int), Cond.fieldLink RX5 9 "MarkedNames$Row" "word" "[I", Cond.methodLink RX2 22 yX2_put, Cond.instanceMethod yX2_put, Cond.selects RX2 yX2_put yX2_put, Cond.initialized RX2, Cond.code yX2_put cX2_put 2 none, Cond.fieldLink RX2 19 "MarkedNames$Outcome" "error" "I", Cond.fieldLink RX2 15 "MarkedNames$Outcome" "length" "I", Cond.fieldLink RX2 9 "MarkedNames$Outcome" "text" "[I", Cond.methodLink RX2 48 yX2_putWord, Cond.instanceMethod yX2_putWord, Cond.selects RX2 yX2_putWord yX2_putWord, Cond.code yX2_putWord cX2_putWord 2 none]
def wsX2_putTree_r2 : List Cond := [Cond.static yX8_isName, Cond.initialized RX8, Cond.code yX8_isName cX8_isName 1 (some .boolean), Cond.methodLink RX2 33 yX2_putName, Cond.instanceMethod yX2_putName, Cond.selects RX2 yX2_putName yX2_putName, Cond.code yX2_putName cX2_putName 3 none, Cond.static yX8_isNumber, Cond.code yX8_isNumber cX8_isNumber 1 (some .boolean), Cond.methodLink RX2 26 yX2_putNumber, Cond.instanceMethod yX2_putNumber, Cond.selects RX2 yX2_putNumber yX2_putNumber, Cond.code yX2_putNumber cX2_putNumber 2 none]
def wsX2_putTree : List Cond := .code yX2_putTree cX2_putTree 5 none :: ((wsX2_putTree_r1 ++ wsX2_putTree_r2) ++ wsX50 ++ wsX20)
def wsX0_expandQ_r1 : List Cond := [Cond.fieldLink RX0 9 "MarkedNames$Expander" "row" "LMarkedNames$Row;", Cond.fieldLink RX0 23 "MarkedNames$Expander" "outcome" "LMarkedNames$Outcome;", Cond.methodLink RX0 139 yX5_plainLength, Cond.instanceMethod yX5_plainLength, Cond.selects RX5 yX5_plainLength yX5_plainLength, Cond.initialized RX5, Cond.code yX5_plainLength cX5_plainLength 2 (some .int), Cond.methodLink RX5 34 yX5_wordAt, Cond.instanceMethod yX5_wordAt, Cond.selects RX5 yX5_wordAt yX5_wordAt, Cond.code yX5_wordAt cX5_wordAt 2 (some .int), Cond.fieldLink RX5 24 "MarkedNames$Row" "top" "I", Cond.fieldLink RX5 9 "MarkedNames$Row" "word" "[I", Cond.methodLink RX5 38 yX5_hasDots, Cond.instanceMethod yX5_hasDots, Cond.selects RX5 yX5_hasDots yX5_hasDots, Cond.code yX5_hasDots cX5_hasDots 4 (some .boolean), Cond.methodLink RX5 42 yX5_itemsFrom, Cond.instanceMethod yX5_itemsFrom, Cond.selects RX5 yX5_itemsFrom yX5_itemsFrom, Cond.code yX5_itemsFrom cX5_itemsFrom 5 (some .int), Cond.methodLink RX0 83 yX2_fail, Cond.instanceMethod yX2_fail, Cond.selects RX2 yX2_fail yX2_fail]
def wsX0_expandQ_r2 : List Cond := [Cond.initialized RX2, Cond.code yX2_fail cX2_fail 2 none, Cond.fieldLink RX2 19 "MarkedNames$Outcome" "error" "I", Cond.methodLink RX0 168 yX2_putTree, Cond.instanceMethod yX2_putTree, Cond.selects RX2 yX2_putTree yX2_putTree, Cond.code yX2_putTree cX2_putTree 5 none, Cond.methodLink RX2 39 yX5_after, Cond.instanceMethod yX5_after, Cond.selects RX5 yX5_after yX5_after, Cond.code yX5_after cX5_after 2 (some .int), Cond.fieldLink RX5 18 "MarkedNames$Row" "size" "[I", Cond.methodLink RX2 45 yX5_wordAt, Cond.methodLink RX2 22 yX2_put, Cond.instanceMethod yX2_put, Cond.selects RX2 yX2_put yX2_put, Cond.code yX2_put cX2_put 2 none, Cond.fieldLink RX2 15 "MarkedNames$Outcome" "length" "I", Cond.fieldLink RX2 9 "MarkedNames$Outcome" "text" "[I", Cond.methodLink RX2 48 yX2_putWord, Cond.instanceMethod yX2_putWord, Cond.selects RX2 yX2_putWord yX2_putWord, Cond.code yX2_putWord cX2_putWord 2 none, Cond.static yX8_isName]
def wsX0_expandQ_r3 : List Cond := [Cond.initialized RX8, Cond.code yX8_isName cX8_isName 1 (some .boolean), Cond.methodLink RX2 33 yX2_putName, Cond.instanceMethod yX2_putName, Cond.selects RX2 yX2_putName yX2_putName, Cond.code yX2_putName cX2_putName 3 none, Cond.static yX8_isNumber, Cond.code yX8_isNumber cX8_isNumber 1 (some .boolean), Cond.methodLink RX2 26 yX2_putNumber, Cond.instanceMethod yX2_putNumber, Cond.selects RX2 yX2_putNumber yX2_putNumber, Cond.code yX2_putNumber cX2_putNumber 2 none]
def wsX0_expandQ : List Cond := .code yX0_expandQ cX0_expandQ 2 none :: ((wsX0_expandQ_r1 ++ (wsX0_expandQ_r2 ++ wsX0_expandQ_r3)) ++ wsX00 ++ wsX50 ++ wsX20)
def wsX7_valueOf : List Cond := .code yX7_valueOf cX7_valueOf 2 (some .int) :: ([.fieldLink RX7 21 "MarkedNames$Table" "value" "[I"] ++ wsX70)
def wsX5_holders : List Cond := .code yX5_holders cX5_holders 6 (some .int) :: ([.fieldLink RX5 24 "MarkedNames$Row" "top" "I", .fieldLink RX5 18 "MarkedNames$Row" "size" "[I", .fieldLink RX5 9 "MarkedNames$Row" "word" "[I"] ++ wsX50)
def wsX6_isPattern_r1 : List Cond := [Cond.fieldLink RX6 9 "MarkedNames$RuleCheck" "row" "LMarkedNames$Row;", Cond.methodLink RX6 21 yX5_wordAt, Cond.instanceMethod yX5_wordAt, Cond.selects RX5 yX5_wordAt yX5_wordAt, Cond.initialized RX5, Cond.code yX5_wordAt cX5_wordAt 2 (some .int), Cond.fieldLink RX5 24 "MarkedNames$Row" "top" "I", Cond.fieldLink RX5 9 "MarkedNames$Row" "word" "[I", Cond.methodLink RX6 45 yX5_isHeld, Cond.instanceMethod yX5_isHeld, Cond.selects RX5 yX5_isHeld yX5_isHeld, Cond.code yX5_isHeld cX5_isHeld 3 (some .boolean), Cond.fieldLink RX5 18 "MarkedNames$Row" "size" "[I", Cond.methodLink RX6 31 yX5_after, Cond.instanceMethod yX5_after, Cond.selects RX5 yX5_after yX5_after, Cond.code yX5_after cX5_after 2 (some .int), Cond.static yX8_isTree, Cond.initialized RX8, Cond.code yX8_isTree cX8_isTree 1 (some .boolean), Cond.methodLink RX6 51 yX5_holders, Cond.instanceMethod yX5_holders, Cond.selects RX5 yX5_holders yX5_holders, Cond.code yX5_holders cX5_holders 6 (some .int)]
def wsX6_isPattern_r2 : List Cond := [Cond.methodLink RX6 55 yX5_findName, Cond.instanceMethod yX5_findName, Cond.selects RX5 yX5_findName yX5_findName, Cond.code yX5_findName cX5_findName 5 (some .int), Cond.fieldLink RX5 15 "MarkedNames$Row" "marks" "[I"]
def wsX6_isPattern : List Cond := .code yX6_isPattern cX6_isPattern 7 (some .boolean) :: ((wsX6_isPattern_r1 ++ wsX6_isPattern_r2) ++ wsX60 ++ wsX50)
def wsX5_setVariable : List Cond := .code yX5_setVariable cX5_setVariable 3 none :: ([.fieldLink RX5 24 "MarkedNames$Row" "top" "I", .fieldLink RX5 21 "MarkedNames$Row" "use" "[I"] ++ wsX50)
def wsX6_linkUses : List Cond := .code yX6_linkUses cX6_linkUses 6 none :: ([.fieldLink RX6 9 "MarkedNames$RuleCheck" "row" "LMarkedNames$Row;", .methodLink RX6 31 yX5_after, .instanceMethod yX5_after, .selects RX5 yX5_after yX5_after, .initialized RX5, .code yX5_after cX5_after 2 (some .int), .fieldLink RX5 24 "MarkedNames$Row" "top" "I", .fieldLink RX5 18 "MarkedNames$Row" "size" "[I", .methodLink RX6 55 yX5_findName, .instanceMethod yX5_findName, .selects RX5 yX5_findName yX5_findName, .code yX5_findName cX5_findName 5 (some .int), .fieldLink RX5 9 "MarkedNames$Row" "word" "[I", .fieldLink RX5 15 "MarkedNames$Row" "marks" "[I", .methodLink RX6 59 yX5_setVariable, .instanceMethod yX5_setVariable, .selects RX5 yX5_setVariable yX5_setVariable, .code yX5_setVariable cX5_setVariable 3 none, .fieldLink RX5 21 "MarkedNames$Row" "use" "[I"] ++ wsX60 ++ wsX50)
def wsX5_hasUse : List Cond := .code yX5_hasUse cX5_hasUse 3 (some .boolean) :: ([.fieldLink RX5 24 "MarkedNames$Row" "top" "I", .fieldLink RX5 18 "MarkedNames$Row" "size" "[I", .fieldLink RX5 21 "MarkedNames$Row" "use" "[I"] ++ wsX50)
def wsX6_isTemplate_r1 : List Cond := [Cond.fieldLink RX6 9 "MarkedNames$RuleCheck" "row" "LMarkedNames$Row;", Cond.methodLink RX6 31 yX5_after, Cond.instanceMethod yX5_after, Cond.selects RX5 yX5_after yX5_after, Cond.initialized RX5, Cond.code yX5_after cX5_after 2 (some .int), Cond.fieldLink RX5 24 "MarkedNames$Row" "top" "I", Cond.fieldLink RX5 18 "MarkedNames$Row" "size" "[I", Cond.methodLink RX6 62 yX5_variableAt, Cond.instanceMethod yX5_variableAt, Cond.selects RX5 yX5_variableAt yX5_variableAt, Cond.code yX5_variableAt cX5_variableAt 2 (some .int), Cond.fieldLink RX5 21 "MarkedNames$Row" "use" "[I", Cond.methodLink RX6 51 yX5_holders, Cond.instanceMethod yX5_holders, Cond.selects RX5 yX5_holders yX5_holders, Cond.code yX5_holders cX5_holders 6 (some .int), Cond.fieldLink RX5 9 "MarkedNames$Row" "word" "[I", Cond.methodLink RX6 45 yX5_isHeld, Cond.instanceMethod yX5_isHeld, Cond.selects RX5 yX5_isHeld yX5_isHeld, Cond.code yX5_isHeld cX5_isHeld 3 (some .boolean), Cond.methodLink RX6 65 yX5_hasUse, Cond.instanceMethod yX5_hasUse]
def wsX6_isTemplate_r2 : List Cond := [Cond.selects RX5 yX5_hasUse yX5_hasUse, Cond.code yX5_hasUse cX5_hasUse 3 (some .boolean)]
def wsX6_isTemplate : List Cond := .code yX6_isTemplate cX6_isTemplate 6 (some .boolean) :: ((wsX6_isTemplate_r1 ++ wsX6_isTemplate_r2) ++ wsX60 ++ wsX50)
def wsX6_isRule_r1 : List Cond := [Cond.fieldLink RX6 9 "MarkedNames$RuleCheck" "row" "LMarkedNames$Row;", Cond.methodLink RX6 15 yX5_plainLength, Cond.instanceMethod yX5_plainLength, Cond.selects RX5 yX5_plainLength yX5_plainLength, Cond.initialized RX5, Cond.code yX5_plainLength cX5_plainLength 2 (some .int), Cond.methodLink RX5 34 yX5_wordAt, Cond.instanceMethod yX5_wordAt, Cond.selects RX5 yX5_wordAt yX5_wordAt, Cond.code yX5_wordAt cX5_wordAt 2 (some .int), Cond.fieldLink RX5 24 "MarkedNames$Row" "top" "I", Cond.fieldLink RX5 9 "MarkedNames$Row" "word" "[I", Cond.methodLink RX5 38 yX5_hasDots, Cond.instanceMethod yX5_hasDots, Cond.selects RX5 yX5_hasDots yX5_hasDots, Cond.code yX5_hasDots cX5_hasDots 4 (some .boolean), Cond.methodLink RX5 42 yX5_itemsFrom, Cond.instanceMethod yX5_itemsFrom, Cond.selects RX5 yX5_itemsFrom yX5_itemsFrom, Cond.code yX5_itemsFrom cX5_itemsFrom 5 (some .int), Cond.methodLink RX6 31 yX5_after, Cond.instanceMethod yX5_after, Cond.selects RX5 yX5_after yX5_after, Cond.code yX5_after cX5_after 2 (some .int)]
def wsX6_isRule_r2 : List Cond := [Cond.fieldLink RX5 18 "MarkedNames$Row" "size" "[I", Cond.methodLink RX6 34 yX6_isPattern, Cond.instanceMethod yX6_isPattern, Cond.selects RX6 yX6_isPattern yX6_isPattern, Cond.initialized RX6, Cond.code yX6_isPattern cX6_isPattern 7 (some .boolean), Cond.methodLink RX6 21 yX5_wordAt, Cond.methodLink RX6 45 yX5_isHeld, Cond.instanceMethod yX5_isHeld, Cond.selects RX5 yX5_isHeld yX5_isHeld, Cond.code yX5_isHeld cX5_isHeld 3 (some .boolean), Cond.static yX8_isTree, Cond.initialized RX8, Cond.code yX8_isTree cX8_isTree 1 (some .boolean), Cond.methodLink RX6 51 yX5_holders, Cond.instanceMethod yX5_holders, Cond.selects RX5 yX5_holders yX5_holders, Cond.code yX5_holders cX5_holders 6 (some .int), Cond.methodLink RX6 55 yX5_findName, Cond.instanceMethod yX5_findName, Cond.selects RX5 yX5_findName yX5_findName, Cond.code yX5_findName cX5_findName 5 (some .int), Cond.fieldLink RX5 15 "MarkedNames$Row" "marks" "[I", Cond.methodLink RX6 37 yX6_linkUses]
def wsX6_isRule_r3 : List Cond := [Cond.instanceMethod yX6_linkUses, Cond.selects RX6 yX6_linkUses yX6_linkUses, Cond.code yX6_linkUses cX6_linkUses 6 none, Cond.methodLink RX6 59 yX5_setVariable, Cond.instanceMethod yX5_setVariable, Cond.selects RX5 yX5_setVariable yX5_setVariable, Cond.code yX5_setVariable cX5_setVariable 3 none, Cond.fieldLink RX5 21 "MarkedNames$Row" "use" "[I", Cond.methodLink RX6 41 yX6_isTemplate, Cond.instanceMethod yX6_isTemplate, Cond.selects RX6 yX6_isTemplate yX6_isTemplate, Cond.code yX6_isTemplate cX6_isTemplate 6 (some .boolean), Cond.methodLink RX6 62 yX5_variableAt, Cond.instanceMethod yX5_variableAt, Cond.selects RX5 yX5_variableAt yX5_variableAt, Cond.code yX5_variableAt cX5_variableAt 2 (some .int), Cond.methodLink RX6 65 yX5_hasUse, Cond.instanceMethod yX5_hasUse, Cond.selects RX5 yX5_hasUse yX5_hasUse, Cond.code yX5_hasUse cX5_hasUse 3 (some .boolean)]
def wsX6_isRule : List Cond := .code yX6_isRule cX6_isRule 4 (some .boolean) :: ((wsX6_isRule_r1 ++ (wsX6_isRule_r2 ++ wsX6_isRule_r3)) ++ wsX60 ++ wsX50)
def wsX6_isNameWithRules_r1 : List Cond := [Cond.fieldLink RX6 9 "MarkedNames$RuleCheck" "row" "LMarkedNames$Row;", Cond.methodLink RX6 15 yX5_plainLength, Cond.instanceMethod yX5_plainLength, Cond.selects RX5 yX5_plainLength yX5_plainLength, Cond.initialized RX5, Cond.code yX5_plainLength cX5_plainLength 2 (some .int), Cond.methodLink RX5 34 yX5_wordAt, Cond.instanceMethod yX5_wordAt, Cond.selects RX5 yX5_wordAt yX5_wordAt, Cond.code yX5_wordAt cX5_wordAt 2 (some .int), Cond.fieldLink RX5 24 "MarkedNames$Row" "top" "I", Cond.fieldLink RX5 9 "MarkedNames$Row" "word" "[I", Cond.methodLink RX5 38 yX5_hasDots, Cond.instanceMethod yX5_hasDots, Cond.selects RX5 yX5_hasDots yX5_hasDots, Cond.code yX5_hasDots cX5_hasDots 4 (some .boolean), Cond.methodLink RX5 42 yX5_itemsFrom, Cond.instanceMethod yX5_itemsFrom, Cond.selects RX5 yX5_itemsFrom yX5_itemsFrom, Cond.code yX5_itemsFrom cX5_itemsFrom 5 (some .int), Cond.methodLink RX6 21 yX5_wordAt, Cond.static yX8_isName, Cond.initialized RX8, Cond.code yX8_isName cX8_isName 1 (some .boolean)]
def wsX6_isNameWithRules_r2 : List Cond := [Cond.methodLink RX6 28 yX6_isRule, Cond.instanceMethod yX6_isRule, Cond.selects RX6 yX6_isRule yX6_isRule, Cond.initialized RX6, Cond.code yX6_isRule cX6_isRule 4 (some .boolean), Cond.methodLink RX6 31 yX5_after, Cond.instanceMethod yX5_after, Cond.selects RX5 yX5_after yX5_after, Cond.code yX5_after cX5_after 2 (some .int), Cond.fieldLink RX5 18 "MarkedNames$Row" "size" "[I", Cond.methodLink RX6 34 yX6_isPattern, Cond.instanceMethod yX6_isPattern, Cond.selects RX6 yX6_isPattern yX6_isPattern, Cond.code yX6_isPattern cX6_isPattern 7 (some .boolean), Cond.methodLink RX6 45 yX5_isHeld, Cond.instanceMethod yX5_isHeld, Cond.selects RX5 yX5_isHeld yX5_isHeld, Cond.code yX5_isHeld cX5_isHeld 3 (some .boolean), Cond.static yX8_isTree, Cond.code yX8_isTree cX8_isTree 1 (some .boolean), Cond.methodLink RX6 51 yX5_holders, Cond.instanceMethod yX5_holders, Cond.selects RX5 yX5_holders yX5_holders, Cond.code yX5_holders cX5_holders 6 (some .int)]
def wsX6_isNameWithRules_r3 : List Cond := [Cond.methodLink RX6 55 yX5_findName, Cond.instanceMethod yX5_findName, Cond.selects RX5 yX5_findName yX5_findName, Cond.code yX5_findName cX5_findName 5 (some .int), Cond.fieldLink RX5 15 "MarkedNames$Row" "marks" "[I", Cond.methodLink RX6 37 yX6_linkUses, Cond.instanceMethod yX6_linkUses, Cond.selects RX6 yX6_linkUses yX6_linkUses, Cond.code yX6_linkUses cX6_linkUses 6 none, Cond.methodLink RX6 59 yX5_setVariable, Cond.instanceMethod yX5_setVariable, Cond.selects RX5 yX5_setVariable yX5_setVariable, Cond.code yX5_setVariable cX5_setVariable 3 none, Cond.fieldLink RX5 21 "MarkedNames$Row" "use" "[I", Cond.methodLink RX6 41 yX6_isTemplate, Cond.instanceMethod yX6_isTemplate, Cond.selects RX6 yX6_isTemplate yX6_isTemplate, Cond.code yX6_isTemplate cX6_isTemplate 6 (some .boolean), Cond.methodLink RX6 62 yX5_variableAt, Cond.instanceMethod yX5_variableAt, Cond.selects RX5 yX5_variableAt yX5_variableAt, Cond.code yX5_variableAt cX5_variableAt 2 (some .int), Cond.methodLink RX6 65 yX5_hasUse, Cond.instanceMethod yX5_hasUse]
def wsX6_isNameWithRules_r4 : List Cond := [Cond.selects RX5 yX5_hasUse yX5_hasUse, Cond.code yX5_hasUse cX5_hasUse 3 (some .boolean)]
def wsX6_isNameWithRules : List Cond := .code yX6_isNameWithRules cX6_isNameWithRules 5 (some .boolean) :: ((wsX6_isNameWithRules_r1 ++ (wsX6_isNameWithRules_r2 ++ (wsX6_isNameWithRules_r3 ++ wsX6_isNameWithRules_r4))) ++ wsX60 ++ wsX50)
def wsX0_expandName_r1 : List Cond := [Cond.fieldLink RX0 19 "MarkedNames$Expander" "table" "LMarkedNames$Table;", Cond.fieldLink RX0 23 "MarkedNames$Expander" "outcome" "LMarkedNames$Outcome;", Cond.fieldLink RX0 9 "MarkedNames$Expander" "row" "LMarkedNames$Row;", Cond.methodLink RX0 93 yX0_meaningOf, Cond.instanceMethod yX0_meaningOf, Cond.selects RX0 yX0_meaningOf yX0_meaningOf, Cond.initialized RX0, Cond.code yX0_meaningOf cX0_meaningOf 3 (some .int), Cond.methodLink RX0 59 yX5_wordAt, Cond.instanceMethod yX5_wordAt, Cond.selects RX5 yX5_wordAt yX5_wordAt, Cond.initialized RX5, Cond.code yX5_wordAt cX5_wordAt 2 (some .int), Cond.fieldLink RX5 24 "MarkedNames$Row" "top" "I", Cond.fieldLink RX5 9 "MarkedNames$Row" "word" "[I", Cond.methodLink RX0 86 yX5_marksAt, Cond.instanceMethod yX5_marksAt, Cond.selects RX5 yX5_marksAt yX5_marksAt, Cond.code yX5_marksAt cX5_marksAt 2 (some .int), Cond.fieldLink RX5 15 "MarkedNames$Row" "marks" "[I", Cond.methodLink RX0 89 yX7_meaning, Cond.instanceMethod yX7_meaning, Cond.selects RX7 yX7_meaning yX7_meaning, Cond.initialized RX7]
def wsX0_expandName_r2 : List Cond := [Cond.code yX7_meaning cX7_meaning 6 (some .int), Cond.fieldLink RX7 33 "MarkedNames$Table" "length" "I", Cond.fieldLink RX7 9 "MarkedNames$Table" "name" "[I", Cond.fieldLink RX7 15 "MarkedNames$Table" "marks" "[I", Cond.methodLink RX7 50 yJ6_bitCount_0f7a4, Cond.static yJ6_bitCount_0f7a4, Cond.initialized RJ6, Cond.code yJ6_bitCount_0f7a4 cJ6_bitCount_0f7a4 1 (some .int), Cond.constant RJ6 265 (1431655765), Cond.constant RJ6 266 (858993459), Cond.constant RJ6 267 (252645135), Cond.methodLink RX7 56 yX7_holdsAllOthers, Cond.instanceMethod yX7_holdsAllOthers, Cond.selects RX7 yX7_holdsAllOthers yX7_holdsAllOthers, Cond.code yX7_holdsAllOthers cX7_holdsAllOthers 5 (some .boolean), Cond.methodLink RX0 83 yX2_fail, Cond.instanceMethod yX2_fail, Cond.selects RX2 yX2_fail yX2_fail, Cond.initialized RX2, Cond.code yX2_fail cX2_fail 2 none, Cond.fieldLink RX2 19 "MarkedNames$Outcome" "error" "I", Cond.methodLink RX0 96 yX7_kindOf, Cond.instanceMethod yX7_kindOf, Cond.selects RX7 yX7_kindOf yX7_kindOf]
def wsX0_expandName_r3 : List Cond := [Cond.code yX7_kindOf cX7_kindOf 2 (some .int), Cond.fieldLink RX7 18 "MarkedNames$Table" "kind" "[I", Cond.methodLink RX0 99 yX2_putName, Cond.instanceMethod yX2_putName, Cond.selects RX2 yX2_putName yX2_putName, Cond.code yX2_putName cX2_putName 3 none, Cond.methodLink RX2 22 yX2_put, Cond.instanceMethod yX2_put, Cond.selects RX2 yX2_put yX2_put, Cond.code yX2_put cX2_put 2 none, Cond.fieldLink RX2 15 "MarkedNames$Outcome" "length" "I", Cond.fieldLink RX2 9 "MarkedNames$Outcome" "text" "[I", Cond.methodLink RX0 102 yX7_valueOf, Cond.instanceMethod yX7_valueOf, Cond.selects RX7 yX7_valueOf yX7_valueOf, Cond.code yX7_valueOf cX7_valueOf 2 (some .int), Cond.fieldLink RX7 21 "MarkedNames$Table" "value" "[I", Cond.methodLink RX0 105 yX2_putVariable, Cond.instanceMethod yX2_putVariable, Cond.selects RX2 yX2_putVariable yX2_putVariable, Cond.code yX2_putVariable cX2_putVariable 2 none, Cond.methodLink RX2 26 yX2_putNumber, Cond.instanceMethod yX2_putNumber, Cond.selects RX2 yX2_putNumber yX2_putNumber]
def wsX0_expandName_r4 : List Cond := [Cond.code yX2_putNumber cX2_putNumber 2 none]
def wsX0_expandName : List Cond := .code yX0_expandName cX0_expandName 4 none :: ((wsX0_expandName_r1 ++ (wsX0_expandName_r2 ++ (wsX0_expandName_r3 ++ wsX0_expandName_r4))) ++ wsX00 ++ wsX50 ++ wsX70 ++ wsX20)
def wsX0_expandByRules_r1 : List Cond := [Cond.fieldLink RX0 46 "MarkedNames$Expander" "fuel" "I", Cond.fieldLink RX0 23 "MarkedNames$Expander" "outcome" "LMarkedNames$Outcome;", Cond.fieldLink RX0 9 "MarkedNames$Expander" "row" "LMarkedNames$Row;", Cond.fieldLink RX0 32 "MarkedNames$Expander" "filler" "LMarkedNames$Filler;", Cond.methodLink RX0 83 yX2_fail, Cond.instanceMethod yX2_fail, Cond.selects RX2 yX2_fail yX2_fail, Cond.initialized RX2, Cond.code yX2_fail cX2_fail 2 none, Cond.fieldLink RX2 19 "MarkedNames$Outcome" "error" "I", Cond.methodLink RX0 145 yX0_newScope, Cond.instanceMethod yX0_newScope, Cond.selects RX0 yX0_newScope yX0_newScope, Cond.initialized RX0, Cond.code yX0_newScope cX0_newScope 1 (some .int), Cond.fieldLink RX0 36 "MarkedNames$Expander" "scopes" "I", Cond.methodLink RX0 149 yX5_turnScope, Cond.instanceMethod yX5_turnScope, Cond.selects RX5 yX5_turnScope yX5_turnScope, Cond.initialized RX5, Cond.code yX5_turnScope cX5_turnScope 5 none, Cond.fieldLink RX5 24 "MarkedNames$Row" "top" "I", Cond.fieldLink RX5 9 "MarkedNames$Row" "word" "[I", Cond.fieldLink RX5 15 "MarkedNames$Row" "marks" "[I"]
def wsX0_expandByRules_r2 : List Cond := [Cond.methodLink RX5 45 yX5_after, Cond.instanceMethod yX5_after, Cond.selects RX5 yX5_after yX5_after, Cond.code yX5_after cX5_after 2 (some .int), Cond.fieldLink RX5 18 "MarkedNames$Row" "size" "[I", Cond.static yX8_isName, Cond.initialized RX8, Cond.code yX8_isName cX8_isName 1 (some .boolean), Cond.methodLink RX0 177 yX1_firstRule, Cond.instanceMethod yX1_firstRule, Cond.selects RX1 yX1_firstRule yX1_firstRule, Cond.initialized RX1, Cond.code yX1_firstRule cX1_firstRule 6 (some .int), Cond.fieldLink RX1 18 "MarkedNames$Filler" "row" "LMarkedNames$Row;", Cond.methodLink RX1 26 yX5_plainLength, Cond.instanceMethod yX5_plainLength, Cond.selects RX5 yX5_plainLength yX5_plainLength, Cond.code yX5_plainLength cX5_plainLength 2 (some .int), Cond.methodLink RX5 34 yX5_wordAt, Cond.instanceMethod yX5_wordAt, Cond.selects RX5 yX5_wordAt yX5_wordAt, Cond.code yX5_wordAt cX5_wordAt 2 (some .int), Cond.methodLink RX5 38 yX5_hasDots, Cond.instanceMethod yX5_hasDots]
def wsX0_expandByRules_r3 : List Cond := [Cond.selects RX5 yX5_hasDots yX5_hasDots, Cond.code yX5_hasDots cX5_hasDots 4 (some .boolean), Cond.methodLink RX5 42 yX5_itemsFrom, Cond.instanceMethod yX5_itemsFrom, Cond.selects RX5 yX5_itemsFrom yX5_itemsFrom, Cond.code yX5_itemsFrom cX5_itemsFrom 5 (some .int), Cond.methodLink RX1 32 yX1_matches, Cond.instanceMethod yX1_matches, Cond.selects RX1 yX1_matches yX1_matches, Cond.code yX1_matches cX1_matches 8 (some .boolean), Cond.fieldLink RX1 12 "MarkedNames$Filler" "rounds" "LMarkedNames$Rounds;", Cond.constant RX1 45 (1000000), Cond.methodLink RX1 39 yX1_hasRoomFor, Cond.instanceMethod yX1_hasRoomFor, Cond.selects RX1 yX1_hasRoomFor yX1_hasRoomFor, Cond.code yX1_hasRoomFor cX1_hasRoomFor 5 (some .boolean), Cond.methodLink RX1 53 yX5_itemsFrom, Cond.methodLink RX1 69 yX5_hasDots, Cond.methodLink RX1 42 yX4_clear, Cond.instanceMethod yX4_clear, Cond.selects RX4 yX4_clear yX4_clear, Cond.initialized RX4, Cond.code yX4_clear cX4_clear 1 none, Cond.fieldLink RX4 21 "MarkedNames$Rounds" "depth" "I"]
def wsX0_expandByRules_r4 : List Cond := [Cond.methodLink RX1 36 yX5_after, Cond.methodLink RX1 46 yX5_isHeld, Cond.instanceMethod yX5_isHeld, Cond.selects RX5 yX5_isHeld yX5_isHeld, Cond.code yX5_isHeld cX5_isHeld 3 (some .boolean), Cond.methodLink RX1 50 yX4_isIn, Cond.instanceMethod yX4_isIn, Cond.selects RX4 yX4_isIn yX4_isIn, Cond.code yX4_isIn cX4_isIn 2 (some .boolean), Cond.fieldLink RX4 9 "MarkedNames$Rounds" "held" "[I", Cond.methodLink RX4 25 yX4_hasInner, Cond.instanceMethod yX4_hasInner, Cond.selects RX4 yX4_hasInner yX4_hasInner, Cond.code yX4_hasInner cX4_hasInner 1 (some .boolean), Cond.methodLink RX1 56 yX4_enter, Cond.instanceMethod yX4_enter, Cond.selects RX4 yX4_enter yX4_enter, Cond.code yX4_enter cX4_enter 3 none, Cond.fieldLink RX4 15 "MarkedNames$Rounds" "round" "[I", Cond.fieldLink RX4 18 "MarkedNames$Rounds" "rounds" "[I", Cond.methodLink RX1 60 yX5_wordAt, Cond.methodLink RX1 63 yX4_leave, Cond.instanceMethod yX4_leave, Cond.selects RX4 yX4_leave yX4_leave]
def wsX0_expandByRules_r5 : List Cond := [Cond.code yX4_leave cX4_leave 2 (some .int), Cond.methodLink RX0 180 yX1_fill, Cond.instanceMethod yX1_fill, Cond.selects RX1 yX1_fill yX1_fill, Cond.code yX1_fill cX1_fill 8 (some .int), Cond.fieldLink RX1 72 "MarkedNames$Filler" "pattern" "I", Cond.fieldLink RX1 76 "MarkedNames$Filler" "matched" "I", Cond.fieldLink RX1 79 "MarkedNames$Filler" "filled" "I", Cond.fieldLink RX1 22 "MarkedNames$Filler" "outcome" "LMarkedNames$Outcome;", Cond.methodLink RX1 82 yX5_startTree, Cond.instanceMethod yX5_startTree, Cond.selects RX5 yX5_startTree yX5_startTree, Cond.code yX5_startTree cX5_startTree 1 (some .int), Cond.fieldLink RX5 28 "MarkedNames$Row" "open" "I", Cond.methodLink RX1 91 yX1_roundsFor, Cond.instanceMethod yX1_roundsFor, Cond.selects RX1 yX1_roundsFor yX1_roundsFor, Cond.code yX1_roundsFor cX1_roundsFor 7 (some .int), Cond.methodLink RX1 111 Lib.Math.max.name, Cond.static Lib.Math.max.name, Cond.initialized "java/lang/Math", Cond.code Lib.Math.max.name Lib.Math.max.code 2 (some .int), Cond.methodLink RX1 98 yX5_variableAt, Cond.instanceMethod yX5_variableAt]
def wsX0_expandByRules_r6 : List Cond := [Cond.selects RX5 yX5_variableAt yX5_variableAt, Cond.code yX5_variableAt cX5_variableAt 2 (some .int), Cond.fieldLink RX5 21 "MarkedNames$Row" "use" "[I", Cond.methodLink RX1 104 yX1_matchOf, Cond.instanceMethod yX1_matchOf, Cond.selects RX1 yX1_matchOf yX1_matchOf, Cond.code yX1_matchOf cX1_matchOf 9 (some .int), Cond.methodLink RX1 125 yX4_roundOf, Cond.instanceMethod yX4_roundOf, Cond.selects RX4 yX4_roundOf yX4_roundOf, Cond.code yX4_roundOf cX4_roundOf 2 (some .int), Cond.methodLink RX1 108 yX2_fail, Cond.methodLink RX1 94 yX1_fillToken, Cond.instanceMethod yX1_fillToken, Cond.selects RX1 yX1_fillToken yX1_fillToken, Cond.code yX1_fillToken cX1_fillToken 6 none, Cond.static yX8_isTree, Cond.code yX8_isTree cX8_isTree 1 (some .boolean), Cond.methodLink RX1 119 yX5_marksAt, Cond.instanceMethod yX5_marksAt, Cond.selects RX5 yX5_marksAt yX5_marksAt, Cond.code yX5_marksAt cX5_marksAt 2 (some .int), Cond.methodLink RX1 122 yX5_add, Cond.instanceMethod yX5_add]
def wsX0_expandByRules_r7 : List Cond := [Cond.selects RX5 yX5_add yX5_add, Cond.code yX5_add cX5_add 3 none, Cond.methodLink RX5 31 yX5_closeBracket, Cond.instanceMethod yX5_closeBracket, Cond.selects RX5 yX5_closeBracket yX5_closeBracket, Cond.code yX5_closeBracket cX5_closeBracket 2 none, Cond.methodLink RX0 133 yX0_expandTree, Cond.instanceMethod yX0_expandTree, Cond.selects RX0 yX0_expandTree yX0_expandTree, Cond.code yX0_expandEach cX0_expandEach 6 none, Cond.methodLink RX0 127 yX5_itemsFrom, Cond.methodLink RX0 130 yX2_put, Cond.instanceMethod yX2_put, Cond.selects RX2 yX2_put yX2_put, Cond.code yX2_put cX2_put 2 none, Cond.fieldLink RX2 15 "MarkedNames$Outcome" "length" "I", Cond.fieldLink RX2 9 "MarkedNames$Outcome" "text" "[I", Cond.methodLink RX0 136 yX5_after, Cond.code yX0_expandFn cX0_expandFn 9 none, Cond.fieldLink RX0 43 "MarkedNames$Expander" "variables" "I", Cond.methodLink RX0 139 yX5_plainLength, Cond.methodLink RX0 142 yX0_areNames, Cond.instanceMethod yX0_areNames, Cond.selects RX0 yX0_areNames yX0_areNames]
def wsX0_expandByRules_r8 : List Cond := [Cond.code yX0_areNames cX0_areNames 4 (some .boolean), Cond.methodLink RX0 59 yX5_wordAt, Cond.methodLink RX0 152 yX0_bindVariable, Cond.instanceMethod yX0_bindVariable, Cond.selects RX0 yX0_bindVariable yX0_bindVariable, Cond.code yX0_bindVariable cX0_bindVariable 3 none, Cond.methodLink RX0 159 yX5_findName, Cond.instanceMethod yX5_findName, Cond.selects RX5 yX5_findName yX5_findName, Cond.code yX5_findName cX5_findName 5 (some .int), Cond.methodLink RX0 163 yX0_bind, Cond.instanceMethod yX0_bind, Cond.selects RX0 yX0_bind yX0_bind, Cond.code yX0_bind cX0_bind 4 (some .boolean), Cond.fieldLink RX0 19 "MarkedNames$Expander" "table" "LMarkedNames$Table;", Cond.fieldLink RX0 40 "MarkedNames$Expander" "bindings" "I", Cond.methodLink RX0 86 yX5_marksAt, Cond.methodLink RX0 183 yX7_bind, Cond.instanceMethod yX7_bind, Cond.selects RX7 yX7_bind yX7_bind, Cond.initialized RX7, Cond.code yX7_bind cX7_bind 5 (some .boolean), Cond.fieldLink RX7 33 "MarkedNames$Table" "length" "I", Cond.fieldLink RX7 9 "MarkedNames$Table" "name" "[I"]
def wsX0_expandByRules_r9 : List Cond := [Cond.fieldLink RX7 15 "MarkedNames$Table" "marks" "[I", Cond.fieldLink RX7 18 "MarkedNames$Table" "kind" "[I", Cond.fieldLink RX7 21 "MarkedNames$Table" "value" "[I", Cond.methodLink RX0 155 yX0_putVariables, Cond.instanceMethod yX0_putVariables, Cond.selects RX0 yX0_putVariables yX0_putVariables, Cond.code yX0_putVariables cX0_putVariables 4 none, Cond.constant RX0 158 (91758), Cond.methodLink RX0 99 yX2_putName, Cond.instanceMethod yX2_putName, Cond.selects RX2 yX2_putName yX2_putName, Cond.code yX2_putName cX2_putName 3 none, Cond.methodLink RX2 22 yX2_put, Cond.methodLink RX0 105 yX2_putVariable, Cond.instanceMethod yX2_putVariable, Cond.selects RX2 yX2_putVariable yX2_putVariable, Cond.code yX2_putVariable cX2_putVariable 2 none, Cond.methodLink RX2 26 yX2_putNumber, Cond.instanceMethod yX2_putNumber, Cond.selects RX2 yX2_putNumber yX2_putNumber, Cond.code yX2_putNumber cX2_putNumber 2 none, Cond.code yX0_expandIf cX0_expandIf 5 none, Cond.constant RX0 167 (92518), Cond.code yX0_expandList cX0_expandList 5 none]
def wsX0_expandByRules_r10 : List Cond := [Cond.methodLink RX0 93 yX0_meaningOf, Cond.instanceMethod yX0_meaningOf, Cond.selects RX0 yX0_meaningOf yX0_meaningOf, Cond.code yX0_meaningOf cX0_meaningOf 3 (some .int), Cond.methodLink RX0 89 yX7_meaning, Cond.instanceMethod yX7_meaning, Cond.selects RX7 yX7_meaning yX7_meaning, Cond.code yX7_meaning cX7_meaning 6 (some .int), Cond.methodLink RX7 50 yJ6_bitCount_0f7a4, Cond.static yJ6_bitCount_0f7a4, Cond.initialized RJ6, Cond.code yJ6_bitCount_0f7a4 cJ6_bitCount_0f7a4 1 (some .int), Cond.constant RJ6 265 (1431655765), Cond.constant RJ6 266 (858993459), Cond.constant RJ6 267 (252645135), Cond.methodLink RX7 56 yX7_holdsAllOthers, Cond.instanceMethod yX7_holdsAllOthers, Cond.selects RX7 yX7_holdsAllOthers yX7_holdsAllOthers, Cond.code yX7_holdsAllOthers cX7_holdsAllOthers 5 (some .boolean), Cond.methodLink RX0 96 yX7_kindOf, Cond.instanceMethod yX7_kindOf, Cond.selects RX7 yX7_kindOf yX7_kindOf, Cond.code yX7_kindOf cX7_kindOf 2 (some .int), Cond.methodLink RX0 108 yX0_expandFn]
def wsX0_expandByRules_r11 : List Cond := [Cond.instanceMethod yX0_expandFn, Cond.selects RX0 yX0_expandFn yX0_expandFn, Cond.methodLink RX0 111 yX0_expandIf, Cond.instanceMethod yX0_expandIf, Cond.selects RX0 yX0_expandIf yX0_expandIf, Cond.methodLink RX0 114 yX0_expandQ, Cond.instanceMethod yX0_expandQ, Cond.selects RX0 yX0_expandQ yX0_expandQ, Cond.code yX0_expandQ cX0_expandQ 2 none, Cond.methodLink RX0 168 yX2_putTree, Cond.instanceMethod yX2_putTree, Cond.selects RX2 yX2_putTree yX2_putTree, Cond.code yX2_putTree cX2_putTree 5 none, Cond.methodLink RX2 39 yX5_after, Cond.methodLink RX2 45 yX5_wordAt, Cond.methodLink RX2 48 yX2_putWord, Cond.instanceMethod yX2_putWord, Cond.selects RX2 yX2_putWord yX2_putWord, Cond.code yX2_putWord cX2_putWord 2 none, Cond.methodLink RX2 33 yX2_putName, Cond.static yX8_isNumber, Cond.code yX8_isNumber cX8_isNumber 1 (some .boolean), Cond.methodLink RX0 117 yX0_expandLs, Cond.instanceMethod yX0_expandLs]
def wsX0_expandByRules_r12 : List Cond := [Cond.selects RX0 yX0_expandLs yX0_expandLs, Cond.methodLink RX0 102 yX7_valueOf, Cond.instanceMethod yX7_valueOf, Cond.selects RX7 yX7_valueOf yX7_valueOf, Cond.code yX7_valueOf cX7_valueOf 2 (some .int), Cond.methodLink RX0 120 yX0_expandByRules, Cond.instanceMethod yX0_expandByRules, Cond.selects RX0 yX0_expandByRules yX0_expandByRules, Cond.methodLink RX0 124 yX0_expandEach, Cond.instanceMethod yX0_expandEach, Cond.selects RX0 yX0_expandEach yX0_expandEach, Cond.code yX0_expandLs cX0_expandLs 6 none, Cond.fieldLink RX0 15 "MarkedNames$Expander" "check" "LMarkedNames$RuleCheck;", Cond.methodLink RX0 172 yX6_isNameWithRules, Cond.instanceMethod yX6_isNameWithRules, Cond.selects RX6 yX6_isNameWithRules yX6_isNameWithRules, Cond.initialized RX6, Cond.code yX6_isNameWithRules cX6_isNameWithRules 5 (some .boolean), Cond.fieldLink RX6 9 "MarkedNames$RuleCheck" "row" "LMarkedNames$Row;", Cond.methodLink RX6 15 yX5_plainLength, Cond.methodLink RX6 21 yX5_wordAt, Cond.methodLink RX6 28 yX6_isRule, Cond.instanceMethod yX6_isRule, Cond.selects RX6 yX6_isRule yX6_isRule]
def wsX0_expandByRules_r13 : List Cond := [Cond.code yX6_isRule cX6_isRule 4 (some .boolean), Cond.methodLink RX6 31 yX5_after, Cond.methodLink RX6 34 yX6_isPattern, Cond.instanceMethod yX6_isPattern, Cond.selects RX6 yX6_isPattern yX6_isPattern, Cond.code yX6_isPattern cX6_isPattern 7 (some .boolean), Cond.methodLink RX6 45 yX5_isHeld, Cond.methodLink RX6 51 yX5_holders, Cond.instanceMethod yX5_holders, Cond.selects RX5 yX5_holders yX5_holders, Cond.code yX5_holders cX5_holders 6 (some .int), Cond.methodLink RX6 55 yX5_findName, Cond.methodLink RX6 37 yX6_linkUses, Cond.instanceMethod yX6_linkUses, Cond.selects RX6 yX6_linkUses yX6_linkUses, Cond.code yX6_linkUses cX6_linkUses 6 none, Cond.methodLink RX6 59 yX5_setVariable, Cond.instanceMethod yX5_setVariable, Cond.selects RX5 yX5_setVariable yX5_setVariable, Cond.code yX5_setVariable cX5_setVariable 3 none, Cond.methodLink RX6 41 yX6_isTemplate, Cond.instanceMethod yX6_isTemplate, Cond.selects RX6 yX6_isTemplate yX6_isTemplate, Cond.code yX6_isTemplate cX6_isTemplate 6 (some .boolean)]
def wsX0_expandByRules_r14 : List Cond := [Cond.methodLink RX6 62 yX5_variableAt, Cond.methodLink RX6 65 yX5_hasUse, Cond.instanceMethod yX5_hasUse, Cond.selects RX5 yX5_hasUse yX5_hasUse, Cond.code yX5_hasUse cX5_hasUse 3 (some .boolean), Cond.code yX0_expandTree cX0_expandTree 4 none, Cond.methodLink RX0 65 yX0_expandList, Cond.instanceMethod yX0_expandList, Cond.selects RX0 yX0_expandList yX0_expandList, Cond.methodLink RX0 73 yX0_expandName, Cond.instanceMethod yX0_expandName, Cond.selects RX0 yX0_expandName yX0_expandName, Cond.code yX0_expandName cX0_expandName 4 none, Cond.methodLink RX0 80 yX2_putNumber]
def wsX0_expandByRules : List Cond := .code yX0_expandByRules cX0_expandByRules 7 none :: ((wsX0_expandByRules_r1 ++ (wsX0_expandByRules_r2 ++ (wsX0_expandByRules_r3 ++ (wsX0_expandByRules_r4 ++ (wsX0_expandByRules_r5 ++ (wsX0_expandByRules_r6 ++ (wsX0_expandByRules_r7 ++ (wsX0_expandByRules_r8 ++ (wsX0_expandByRules_r9 ++ (wsX0_expandByRules_r10 ++ (wsX0_expandByRules_r11 ++ (wsX0_expandByRules_r12 ++ (wsX0_expandByRules_r13 ++ wsX0_expandByRules_r14))))))))))))) ++ wsX00 ++ wsX20 ++ wsX50 ++ wsX10 ++ wsX40 ++ wsX70 ++ wsX60)
def wsX0_expandEach_r1 : List Cond := [Cond.fieldLink RX0 9 "MarkedNames$Expander" "row" "LMarkedNames$Row;", Cond.fieldLink RX0 23 "MarkedNames$Expander" "outcome" "LMarkedNames$Outcome;", Cond.methodLink RX0 127 yX5_itemsFrom, Cond.instanceMethod yX5_itemsFrom, Cond.selects RX5 yX5_itemsFrom yX5_itemsFrom, Cond.initialized RX5, Cond.code yX5_itemsFrom cX5_itemsFrom 5 (some .int), Cond.fieldLink RX5 24 "MarkedNames$Row" "top" "I", Cond.fieldLink RX5 9 "MarkedNames$Row" "word" "[I", Cond.methodLink RX0 130 yX2_put, Cond.instanceMethod yX2_put, Cond.selects RX2 yX2_put yX2_put, Cond.initialized RX2, Cond.code yX2_put cX2_put 2 none, Cond.fieldLink RX2 19 "MarkedNames$Outcome" "error" "I", Cond.fieldLink RX2 15 "MarkedNames$Outcome" "length" "I", Cond.fieldLink RX2 9 "MarkedNames$Outcome" "text" "[I", Cond.methodLink RX0 133 yX0_expandTree, Cond.instanceMethod yX0_expandTree, Cond.selects RX0 yX0_expandTree yX0_expandTree, Cond.initialized RX0, Cond.methodLink RX0 136 yX5_after, Cond.instanceMethod yX5_after, Cond.selects RX5 yX5_after yX5_after]
def wsX0_expandEach_r2 : List Cond := [Cond.code yX5_after cX5_after 2 (some .int), Cond.fieldLink RX5 18 "MarkedNames$Row" "size" "[I", Cond.code yX0_expandByRules cX0_expandByRules 7 none, Cond.fieldLink RX0 46 "MarkedNames$Expander" "fuel" "I", Cond.fieldLink RX0 32 "MarkedNames$Expander" "filler" "LMarkedNames$Filler;", Cond.methodLink RX0 83 yX2_fail, Cond.instanceMethod yX2_fail, Cond.selects RX2 yX2_fail yX2_fail, Cond.code yX2_fail cX2_fail 2 none, Cond.methodLink RX0 145 yX0_newScope, Cond.instanceMethod yX0_newScope, Cond.selects RX0 yX0_newScope yX0_newScope, Cond.code yX0_newScope cX0_newScope 1 (some .int), Cond.fieldLink RX0 36 "MarkedNames$Expander" "scopes" "I", Cond.methodLink RX0 149 yX5_turnScope, Cond.instanceMethod yX5_turnScope, Cond.selects RX5 yX5_turnScope yX5_turnScope, Cond.code yX5_turnScope cX5_turnScope 5 none, Cond.fieldLink RX5 15 "MarkedNames$Row" "marks" "[I", Cond.methodLink RX5 45 yX5_after, Cond.static yX8_isName, Cond.initialized RX8, Cond.code yX8_isName cX8_isName 1 (some .boolean), Cond.methodLink RX0 177 yX1_firstRule]
def wsX0_expandEach_r3 : List Cond := [Cond.instanceMethod yX1_firstRule, Cond.selects RX1 yX1_firstRule yX1_firstRule, Cond.initialized RX1, Cond.code yX1_firstRule cX1_firstRule 6 (some .int), Cond.fieldLink RX1 18 "MarkedNames$Filler" "row" "LMarkedNames$Row;", Cond.methodLink RX1 26 yX5_plainLength, Cond.instanceMethod yX5_plainLength, Cond.selects RX5 yX5_plainLength yX5_plainLength, Cond.code yX5_plainLength cX5_plainLength 2 (some .int), Cond.methodLink RX5 34 yX5_wordAt, Cond.instanceMethod yX5_wordAt, Cond.selects RX5 yX5_wordAt yX5_wordAt, Cond.code yX5_wordAt cX5_wordAt 2 (some .int), Cond.methodLink RX5 38 yX5_hasDots, Cond.instanceMethod yX5_hasDots, Cond.selects RX5 yX5_hasDots yX5_hasDots, Cond.code yX5_hasDots cX5_hasDots 4 (some .boolean), Cond.methodLink RX5 42 yX5_itemsFrom, Cond.methodLink RX1 32 yX1_matches, Cond.instanceMethod yX1_matches, Cond.selects RX1 yX1_matches yX1_matches, Cond.code yX1_matches cX1_matches 8 (some .boolean), Cond.fieldLink RX1 12 "MarkedNames$Filler" "rounds" "LMarkedNames$Rounds;", Cond.constant RX1 45 (1000000)]
def wsX0_expandEach_r4 : List Cond := [Cond.methodLink RX1 39 yX1_hasRoomFor, Cond.instanceMethod yX1_hasRoomFor, Cond.selects RX1 yX1_hasRoomFor yX1_hasRoomFor, Cond.code yX1_hasRoomFor cX1_hasRoomFor 5 (some .boolean), Cond.methodLink RX1 53 yX5_itemsFrom, Cond.methodLink RX1 69 yX5_hasDots, Cond.methodLink RX1 42 yX4_clear, Cond.instanceMethod yX4_clear, Cond.selects RX4 yX4_clear yX4_clear, Cond.initialized RX4, Cond.code yX4_clear cX4_clear 1 none, Cond.fieldLink RX4 21 "MarkedNames$Rounds" "depth" "I", Cond.methodLink RX1 36 yX5_after, Cond.methodLink RX1 46 yX5_isHeld, Cond.instanceMethod yX5_isHeld, Cond.selects RX5 yX5_isHeld yX5_isHeld, Cond.code yX5_isHeld cX5_isHeld 3 (some .boolean), Cond.methodLink RX1 50 yX4_isIn, Cond.instanceMethod yX4_isIn, Cond.selects RX4 yX4_isIn yX4_isIn, Cond.code yX4_isIn cX4_isIn 2 (some .boolean), Cond.fieldLink RX4 9 "MarkedNames$Rounds" "held" "[I", Cond.methodLink RX4 25 yX4_hasInner, Cond.instanceMethod yX4_hasInner]
def wsX0_expandEach_r5 : List Cond := [Cond.selects RX4 yX4_hasInner yX4_hasInner, Cond.code yX4_hasInner cX4_hasInner 1 (some .boolean), Cond.methodLink RX1 56 yX4_enter, Cond.instanceMethod yX4_enter, Cond.selects RX4 yX4_enter yX4_enter, Cond.code yX4_enter cX4_enter 3 none, Cond.fieldLink RX4 15 "MarkedNames$Rounds" "round" "[I", Cond.fieldLink RX4 18 "MarkedNames$Rounds" "rounds" "[I", Cond.methodLink RX1 60 yX5_wordAt, Cond.methodLink RX1 63 yX4_leave, Cond.instanceMethod yX4_leave, Cond.selects RX4 yX4_leave yX4_leave, Cond.code yX4_leave cX4_leave 2 (some .int), Cond.methodLink RX0 180 yX1_fill, Cond.instanceMethod yX1_fill, Cond.selects RX1 yX1_fill yX1_fill, Cond.code yX1_fill cX1_fill 8 (some .int), Cond.fieldLink RX1 72 "MarkedNames$Filler" "pattern" "I", Cond.fieldLink RX1 76 "MarkedNames$Filler" "matched" "I", Cond.fieldLink RX1 79 "MarkedNames$Filler" "filled" "I", Cond.fieldLink RX1 22 "MarkedNames$Filler" "outcome" "LMarkedNames$Outcome;", Cond.methodLink RX1 82 yX5_startTree, Cond.instanceMethod yX5_startTree, Cond.selects RX5 yX5_startTree yX5_startTree]
def wsX0_expandEach_r6 : List Cond := [Cond.code yX5_startTree cX5_startTree 1 (some .int), Cond.fieldLink RX5 28 "MarkedNames$Row" "open" "I", Cond.methodLink RX1 91 yX1_roundsFor, Cond.instanceMethod yX1_roundsFor, Cond.selects RX1 yX1_roundsFor yX1_roundsFor, Cond.code yX1_roundsFor cX1_roundsFor 7 (some .int), Cond.methodLink RX1 111 Lib.Math.max.name, Cond.static Lib.Math.max.name, Cond.initialized "java/lang/Math", Cond.code Lib.Math.max.name Lib.Math.max.code 2 (some .int), Cond.methodLink RX1 98 yX5_variableAt, Cond.instanceMethod yX5_variableAt, Cond.selects RX5 yX5_variableAt yX5_variableAt, Cond.code yX5_variableAt cX5_variableAt 2 (some .int), Cond.fieldLink RX5 21 "MarkedNames$Row" "use" "[I", Cond.methodLink RX1 104 yX1_matchOf, Cond.instanceMethod yX1_matchOf, Cond.selects RX1 yX1_matchOf yX1_matchOf, Cond.code yX1_matchOf cX1_matchOf 9 (some .int), Cond.methodLink RX1 125 yX4_roundOf, Cond.instanceMethod yX4_roundOf, Cond.selects RX4 yX4_roundOf yX4_roundOf, Cond.code yX4_roundOf cX4_roundOf 2 (some .int), Cond.methodLink RX1 108 yX2_fail]
def wsX0_expandEach_r7 : List Cond := [Cond.methodLink RX1 94 yX1_fillToken, Cond.instanceMethod yX1_fillToken, Cond.selects RX1 yX1_fillToken yX1_fillToken, Cond.code yX1_fillToken cX1_fillToken 6 none, Cond.static yX8_isTree, Cond.code yX8_isTree cX8_isTree 1 (some .boolean), Cond.methodLink RX1 119 yX5_marksAt, Cond.instanceMethod yX5_marksAt, Cond.selects RX5 yX5_marksAt yX5_marksAt, Cond.code yX5_marksAt cX5_marksAt 2 (some .int), Cond.methodLink RX1 122 yX5_add, Cond.instanceMethod yX5_add, Cond.selects RX5 yX5_add yX5_add, Cond.code yX5_add cX5_add 3 none, Cond.methodLink RX5 31 yX5_closeBracket, Cond.instanceMethod yX5_closeBracket, Cond.selects RX5 yX5_closeBracket yX5_closeBracket, Cond.code yX5_closeBracket cX5_closeBracket 2 none, Cond.code yX0_expandFn cX0_expandFn 9 none, Cond.fieldLink RX0 43 "MarkedNames$Expander" "variables" "I", Cond.methodLink RX0 139 yX5_plainLength, Cond.methodLink RX0 142 yX0_areNames, Cond.instanceMethod yX0_areNames, Cond.selects RX0 yX0_areNames yX0_areNames]
def wsX0_expandEach_r8 : List Cond := [Cond.code yX0_areNames cX0_areNames 4 (some .boolean), Cond.methodLink RX0 59 yX5_wordAt, Cond.methodLink RX0 152 yX0_bindVariable, Cond.instanceMethod yX0_bindVariable, Cond.selects RX0 yX0_bindVariable yX0_bindVariable, Cond.code yX0_bindVariable cX0_bindVariable 3 none, Cond.methodLink RX0 159 yX5_findName, Cond.instanceMethod yX5_findName, Cond.selects RX5 yX5_findName yX5_findName, Cond.code yX5_findName cX5_findName 5 (some .int), Cond.methodLink RX0 163 yX0_bind, Cond.instanceMethod yX0_bind, Cond.selects RX0 yX0_bind yX0_bind, Cond.code yX0_bind cX0_bind 4 (some .boolean), Cond.fieldLink RX0 19 "MarkedNames$Expander" "table" "LMarkedNames$Table;", Cond.fieldLink RX0 40 "MarkedNames$Expander" "bindings" "I", Cond.methodLink RX0 86 yX5_marksAt, Cond.methodLink RX0 183 yX7_bind, Cond.instanceMethod yX7_bind, Cond.selects RX7 yX7_bind yX7_bind, Cond.initialized RX7, Cond.code yX7_bind cX7_bind 5 (some .boolean), Cond.fieldLink RX7 33 "MarkedNames$Table" "length" "I", Cond.fieldLink RX7 9 "MarkedNames$Table" "name" "[I"]
def wsX0_expandEach_r9 : List Cond := [Cond.fieldLink RX7 15 "MarkedNames$Table" "marks" "[I", Cond.fieldLink RX7 18 "MarkedNames$Table" "kind" "[I", Cond.fieldLink RX7 21 "MarkedNames$Table" "value" "[I", Cond.methodLink RX0 155 yX0_putVariables, Cond.instanceMethod yX0_putVariables, Cond.selects RX0 yX0_putVariables yX0_putVariables, Cond.code yX0_putVariables cX0_putVariables 4 none, Cond.constant RX0 158 (91758), Cond.methodLink RX0 99 yX2_putName, Cond.instanceMethod yX2_putName, Cond.selects RX2 yX2_putName yX2_putName, Cond.code yX2_putName cX2_putName 3 none, Cond.methodLink RX2 22 yX2_put, Cond.methodLink RX0 105 yX2_putVariable, Cond.instanceMethod yX2_putVariable, Cond.selects RX2 yX2_putVariable yX2_putVariable, Cond.code yX2_putVariable cX2_putVariable 2 none, Cond.methodLink RX2 26 yX2_putNumber, Cond.instanceMethod yX2_putNumber, Cond.selects RX2 yX2_putNumber yX2_putNumber, Cond.code yX2_putNumber cX2_putNumber 2 none, Cond.code yX0_expandIf cX0_expandIf 5 none, Cond.constant RX0 167 (92518), Cond.code yX0_expandList cX0_expandList 5 none]
def wsX0_expandEach_r10 : List Cond := [Cond.methodLink RX0 93 yX0_meaningOf, Cond.instanceMethod yX0_meaningOf, Cond.selects RX0 yX0_meaningOf yX0_meaningOf, Cond.code yX0_meaningOf cX0_meaningOf 3 (some .int), Cond.methodLink RX0 89 yX7_meaning, Cond.instanceMethod yX7_meaning, Cond.selects RX7 yX7_meaning yX7_meaning, Cond.code yX7_meaning cX7_meaning 6 (some .int), Cond.methodLink RX7 50 yJ6_bitCount_0f7a4, Cond.static yJ6_bitCount_0f7a4, Cond.initialized RJ6, Cond.code yJ6_bitCount_0f7a4 cJ6_bitCount_0f7a4 1 (some .int), Cond.constant RJ6 265 (1431655765), Cond.constant RJ6 266 (858993459), Cond.constant RJ6 267 (252645135), Cond.methodLink RX7 56 yX7_holdsAllOthers, Cond.instanceMethod yX7_holdsAllOthers, Cond.selects RX7 yX7_holdsAllOthers yX7_holdsAllOthers, Cond.code yX7_holdsAllOthers cX7_holdsAllOthers 5 (some .boolean), Cond.methodLink RX0 96 yX7_kindOf, Cond.instanceMethod yX7_kindOf, Cond.selects RX7 yX7_kindOf yX7_kindOf, Cond.code yX7_kindOf cX7_kindOf 2 (some .int), Cond.methodLink RX0 108 yX0_expandFn]
def wsX0_expandEach_r11 : List Cond := [Cond.instanceMethod yX0_expandFn, Cond.selects RX0 yX0_expandFn yX0_expandFn, Cond.methodLink RX0 111 yX0_expandIf, Cond.instanceMethod yX0_expandIf, Cond.selects RX0 yX0_expandIf yX0_expandIf, Cond.methodLink RX0 114 yX0_expandQ, Cond.instanceMethod yX0_expandQ, Cond.selects RX0 yX0_expandQ yX0_expandQ, Cond.code yX0_expandQ cX0_expandQ 2 none, Cond.methodLink RX0 168 yX2_putTree, Cond.instanceMethod yX2_putTree, Cond.selects RX2 yX2_putTree yX2_putTree, Cond.code yX2_putTree cX2_putTree 5 none, Cond.methodLink RX2 39 yX5_after, Cond.methodLink RX2 45 yX5_wordAt, Cond.methodLink RX2 48 yX2_putWord, Cond.instanceMethod yX2_putWord, Cond.selects RX2 yX2_putWord yX2_putWord, Cond.code yX2_putWord cX2_putWord 2 none, Cond.methodLink RX2 33 yX2_putName, Cond.static yX8_isNumber, Cond.code yX8_isNumber cX8_isNumber 1 (some .boolean), Cond.methodLink RX0 117 yX0_expandLs, Cond.instanceMethod yX0_expandLs]
def wsX0_expandEach_r12 : List Cond := [Cond.selects RX0 yX0_expandLs yX0_expandLs, Cond.methodLink RX0 102 yX7_valueOf, Cond.instanceMethod yX7_valueOf, Cond.selects RX7 yX7_valueOf yX7_valueOf, Cond.code yX7_valueOf cX7_valueOf 2 (some .int), Cond.methodLink RX0 120 yX0_expandByRules, Cond.instanceMethod yX0_expandByRules, Cond.selects RX0 yX0_expandByRules yX0_expandByRules, Cond.methodLink RX0 124 yX0_expandEach, Cond.instanceMethod yX0_expandEach, Cond.selects RX0 yX0_expandEach yX0_expandEach, Cond.code yX0_expandLs cX0_expandLs 6 none, Cond.fieldLink RX0 15 "MarkedNames$Expander" "check" "LMarkedNames$RuleCheck;", Cond.methodLink RX0 172 yX6_isNameWithRules, Cond.instanceMethod yX6_isNameWithRules, Cond.selects RX6 yX6_isNameWithRules yX6_isNameWithRules, Cond.initialized RX6, Cond.code yX6_isNameWithRules cX6_isNameWithRules 5 (some .boolean), Cond.fieldLink RX6 9 "MarkedNames$RuleCheck" "row" "LMarkedNames$Row;", Cond.methodLink RX6 15 yX5_plainLength, Cond.methodLink RX6 21 yX5_wordAt, Cond.methodLink RX6 28 yX6_isRule, Cond.instanceMethod yX6_isRule, Cond.selects RX6 yX6_isRule yX6_isRule]
def wsX0_expandEach_r13 : List Cond := [Cond.code yX6_isRule cX6_isRule 4 (some .boolean), Cond.methodLink RX6 31 yX5_after, Cond.methodLink RX6 34 yX6_isPattern, Cond.instanceMethod yX6_isPattern, Cond.selects RX6 yX6_isPattern yX6_isPattern, Cond.code yX6_isPattern cX6_isPattern 7 (some .boolean), Cond.methodLink RX6 45 yX5_isHeld, Cond.methodLink RX6 51 yX5_holders, Cond.instanceMethod yX5_holders, Cond.selects RX5 yX5_holders yX5_holders, Cond.code yX5_holders cX5_holders 6 (some .int), Cond.methodLink RX6 55 yX5_findName, Cond.methodLink RX6 37 yX6_linkUses, Cond.instanceMethod yX6_linkUses, Cond.selects RX6 yX6_linkUses yX6_linkUses, Cond.code yX6_linkUses cX6_linkUses 6 none, Cond.methodLink RX6 59 yX5_setVariable, Cond.instanceMethod yX5_setVariable, Cond.selects RX5 yX5_setVariable yX5_setVariable, Cond.code yX5_setVariable cX5_setVariable 3 none, Cond.methodLink RX6 41 yX6_isTemplate, Cond.instanceMethod yX6_isTemplate, Cond.selects RX6 yX6_isTemplate yX6_isTemplate, Cond.code yX6_isTemplate cX6_isTemplate 6 (some .boolean)]
def wsX0_expandEach_r14 : List Cond := [Cond.methodLink RX6 62 yX5_variableAt, Cond.methodLink RX6 65 yX5_hasUse, Cond.instanceMethod yX5_hasUse, Cond.selects RX5 yX5_hasUse yX5_hasUse, Cond.code yX5_hasUse cX5_hasUse 3 (some .boolean), Cond.code yX0_expandTree cX0_expandTree 4 none, Cond.methodLink RX0 65 yX0_expandList, Cond.instanceMethod yX0_expandList, Cond.selects RX0 yX0_expandList yX0_expandList, Cond.methodLink RX0 73 yX0_expandName, Cond.instanceMethod yX0_expandName, Cond.selects RX0 yX0_expandName yX0_expandName, Cond.code yX0_expandName cX0_expandName 4 none, Cond.methodLink RX0 80 yX2_putNumber]
def wsX0_expandEach : List Cond := .code yX0_expandEach cX0_expandEach 6 none :: ((wsX0_expandEach_r1 ++ (wsX0_expandEach_r2 ++ (wsX0_expandEach_r3 ++ (wsX0_expandEach_r4 ++ (wsX0_expandEach_r5 ++ (wsX0_expandEach_r6 ++ (wsX0_expandEach_r7 ++ (wsX0_expandEach_r8 ++ (wsX0_expandEach_r9 ++ (wsX0_expandEach_r10 ++ (wsX0_expandEach_r11 ++ (wsX0_expandEach_r12 ++ (wsX0_expandEach_r13 ++ wsX0_expandEach_r14))))))))))))) ++ wsX00 ++ wsX20 ++ wsX50 ++ wsX10 ++ wsX40 ++ wsX70 ++ wsX60)
def wsX0_expandFn_r1 : List Cond := [Cond.fieldLink RX0 9 "MarkedNames$Expander" "row" "LMarkedNames$Row;", Cond.fieldLink RX0 23 "MarkedNames$Expander" "outcome" "LMarkedNames$Outcome;", Cond.fieldLink RX0 43 "MarkedNames$Expander" "variables" "I", Cond.methodLink RX0 136 yX5_after, Cond.instanceMethod yX5_after, Cond.selects RX5 yX5_after yX5_after, Cond.initialized RX5, Cond.code yX5_after cX5_after 2 (some .int), Cond.fieldLink RX5 24 "MarkedNames$Row" "top" "I", Cond.fieldLink RX5 18 "MarkedNames$Row" "size" "[I", Cond.methodLink RX0 139 yX5_plainLength, Cond.instanceMethod yX5_plainLength, Cond.selects RX5 yX5_plainLength yX5_plainLength, Cond.code yX5_plainLength cX5_plainLength 2 (some .int), Cond.methodLink RX5 34 yX5_wordAt, Cond.instanceMethod yX5_wordAt, Cond.selects RX5 yX5_wordAt yX5_wordAt, Cond.code yX5_wordAt cX5_wordAt 2 (some .int), Cond.fieldLink RX5 9 "MarkedNames$Row" "word" "[I", Cond.methodLink RX5 38 yX5_hasDots, Cond.instanceMethod yX5_hasDots, Cond.selects RX5 yX5_hasDots yX5_hasDots, Cond.code yX5_hasDots cX5_hasDots 4 (some .boolean), Cond.methodLink RX5 42 yX5_itemsFrom]
def wsX0_expandFn_r2 : List Cond := [Cond.instanceMethod yX5_itemsFrom, Cond.selects RX5 yX5_itemsFrom yX5_itemsFrom, Cond.code yX5_itemsFrom cX5_itemsFrom 5 (some .int), Cond.methodLink RX0 142 yX0_areNames, Cond.instanceMethod yX0_areNames, Cond.selects RX0 yX0_areNames yX0_areNames, Cond.initialized RX0, Cond.code yX0_areNames cX0_areNames 4 (some .boolean), Cond.methodLink RX0 59 yX5_wordAt, Cond.static yX8_isName, Cond.initialized RX8, Cond.code yX8_isName cX8_isName 1 (some .boolean), Cond.methodLink RX0 83 yX2_fail, Cond.instanceMethod yX2_fail, Cond.selects RX2 yX2_fail yX2_fail, Cond.initialized RX2, Cond.code yX2_fail cX2_fail 2 none, Cond.fieldLink RX2 19 "MarkedNames$Outcome" "error" "I", Cond.methodLink RX0 145 yX0_newScope, Cond.instanceMethod yX0_newScope, Cond.selects RX0 yX0_newScope yX0_newScope, Cond.code yX0_newScope cX0_newScope 1 (some .int), Cond.fieldLink RX0 36 "MarkedNames$Expander" "scopes" "I", Cond.methodLink RX0 149 yX5_turnScope]
def wsX0_expandFn_r3 : List Cond := [Cond.instanceMethod yX5_turnScope, Cond.selects RX5 yX5_turnScope yX5_turnScope, Cond.code yX5_turnScope cX5_turnScope 5 none, Cond.fieldLink RX5 15 "MarkedNames$Row" "marks" "[I", Cond.methodLink RX5 45 yX5_after, Cond.methodLink RX0 127 yX5_itemsFrom, Cond.methodLink RX0 152 yX0_bindVariable, Cond.instanceMethod yX0_bindVariable, Cond.selects RX0 yX0_bindVariable yX0_bindVariable, Cond.code yX0_bindVariable cX0_bindVariable 3 none, Cond.methodLink RX0 159 yX5_findName, Cond.instanceMethod yX5_findName, Cond.selects RX5 yX5_findName yX5_findName, Cond.code yX5_findName cX5_findName 5 (some .int), Cond.methodLink RX0 163 yX0_bind, Cond.instanceMethod yX0_bind, Cond.selects RX0 yX0_bind yX0_bind, Cond.code yX0_bind cX0_bind 4 (some .boolean), Cond.fieldLink RX0 19 "MarkedNames$Expander" "table" "LMarkedNames$Table;", Cond.fieldLink RX0 40 "MarkedNames$Expander" "bindings" "I", Cond.methodLink RX0 86 yX5_marksAt, Cond.instanceMethod yX5_marksAt, Cond.selects RX5 yX5_marksAt yX5_marksAt, Cond.code yX5_marksAt cX5_marksAt 2 (some .int)]
def wsX0_expandFn_r4 : List Cond := [Cond.methodLink RX0 183 yX7_bind, Cond.instanceMethod yX7_bind, Cond.selects RX7 yX7_bind yX7_bind, Cond.initialized RX7, Cond.code yX7_bind cX7_bind 5 (some .boolean), Cond.fieldLink RX7 33 "MarkedNames$Table" "length" "I", Cond.fieldLink RX7 9 "MarkedNames$Table" "name" "[I", Cond.fieldLink RX7 15 "MarkedNames$Table" "marks" "[I", Cond.fieldLink RX7 18 "MarkedNames$Table" "kind" "[I", Cond.fieldLink RX7 21 "MarkedNames$Table" "value" "[I", Cond.methodLink RX0 155 yX0_putVariables, Cond.instanceMethod yX0_putVariables, Cond.selects RX0 yX0_putVariables yX0_putVariables, Cond.code yX0_putVariables cX0_putVariables 4 none, Cond.constant RX0 158 (91758), Cond.methodLink RX0 130 yX2_put, Cond.instanceMethod yX2_put, Cond.selects RX2 yX2_put yX2_put, Cond.code yX2_put cX2_put 2 none, Cond.fieldLink RX2 15 "MarkedNames$Outcome" "length" "I", Cond.fieldLink RX2 9 "MarkedNames$Outcome" "text" "[I", Cond.methodLink RX0 99 yX2_putName, Cond.instanceMethod yX2_putName, Cond.selects RX2 yX2_putName yX2_putName]
def wsX0_expandFn_r5 : List Cond := [Cond.code yX2_putName cX2_putName 3 none, Cond.methodLink RX2 22 yX2_put, Cond.methodLink RX0 105 yX2_putVariable, Cond.instanceMethod yX2_putVariable, Cond.selects RX2 yX2_putVariable yX2_putVariable, Cond.code yX2_putVariable cX2_putVariable 2 none, Cond.methodLink RX2 26 yX2_putNumber, Cond.instanceMethod yX2_putNumber, Cond.selects RX2 yX2_putNumber yX2_putNumber, Cond.code yX2_putNumber cX2_putNumber 2 none, Cond.methodLink RX0 133 yX0_expandTree, Cond.instanceMethod yX0_expandTree, Cond.selects RX0 yX0_expandTree yX0_expandTree, Cond.code yX0_expandByRules cX0_expandByRules 7 none, Cond.fieldLink RX0 46 "MarkedNames$Expander" "fuel" "I", Cond.fieldLink RX0 32 "MarkedNames$Expander" "filler" "LMarkedNames$Filler;", Cond.methodLink RX0 177 yX1_firstRule, Cond.instanceMethod yX1_firstRule, Cond.selects RX1 yX1_firstRule yX1_firstRule, Cond.initialized RX1, Cond.code yX1_firstRule cX1_firstRule 6 (some .int), Cond.fieldLink RX1 18 "MarkedNames$Filler" "row" "LMarkedNames$Row;", Cond.methodLink RX1 26 yX5_plainLength, Cond.methodLink RX1 32 yX1_matches]
def wsX0_expandFn_r6 : List Cond := [Cond.instanceMethod yX1_matches, Cond.selects RX1 yX1_matches yX1_matches, Cond.code yX1_matches cX1_matches 8 (some .boolean), Cond.fieldLink RX1 12 "MarkedNames$Filler" "rounds" "LMarkedNames$Rounds;", Cond.constant RX1 45 (1000000), Cond.methodLink RX1 39 yX1_hasRoomFor, Cond.instanceMethod yX1_hasRoomFor, Cond.selects RX1 yX1_hasRoomFor yX1_hasRoomFor, Cond.code yX1_hasRoomFor cX1_hasRoomFor 5 (some .boolean), Cond.methodLink RX1 53 yX5_itemsFrom, Cond.methodLink RX1 69 yX5_hasDots, Cond.methodLink RX1 42 yX4_clear, Cond.instanceMethod yX4_clear, Cond.selects RX4 yX4_clear yX4_clear, Cond.initialized RX4, Cond.code yX4_clear cX4_clear 1 none, Cond.fieldLink RX4 21 "MarkedNames$Rounds" "depth" "I", Cond.methodLink RX1 36 yX5_after, Cond.methodLink RX1 46 yX5_isHeld, Cond.instanceMethod yX5_isHeld, Cond.selects RX5 yX5_isHeld yX5_isHeld, Cond.code yX5_isHeld cX5_isHeld 3 (some .boolean), Cond.methodLink RX1 50 yX4_isIn, Cond.instanceMethod yX4_isIn]
def wsX0_expandFn_r7 : List Cond := [Cond.selects RX4 yX4_isIn yX4_isIn, Cond.code yX4_isIn cX4_isIn 2 (some .boolean), Cond.fieldLink RX4 9 "MarkedNames$Rounds" "held" "[I", Cond.methodLink RX4 25 yX4_hasInner, Cond.instanceMethod yX4_hasInner, Cond.selects RX4 yX4_hasInner yX4_hasInner, Cond.code yX4_hasInner cX4_hasInner 1 (some .boolean), Cond.methodLink RX1 56 yX4_enter, Cond.instanceMethod yX4_enter, Cond.selects RX4 yX4_enter yX4_enter, Cond.code yX4_enter cX4_enter 3 none, Cond.fieldLink RX4 15 "MarkedNames$Rounds" "round" "[I", Cond.fieldLink RX4 18 "MarkedNames$Rounds" "rounds" "[I", Cond.methodLink RX1 60 yX5_wordAt, Cond.methodLink RX1 63 yX4_leave, Cond.instanceMethod yX4_leave, Cond.selects RX4 yX4_leave yX4_leave, Cond.code yX4_leave cX4_leave 2 (some .int), Cond.methodLink RX0 180 yX1_fill, Cond.instanceMethod yX1_fill, Cond.selects RX1 yX1_fill yX1_fill, Cond.code yX1_fill cX1_fill 8 (some .int), Cond.fieldLink RX1 72 "MarkedNames$Filler" "pattern" "I", Cond.fieldLink RX1 76 "MarkedNames$Filler" "matched" "I"]
def wsX0_expandFn_r8 : List Cond := [Cond.fieldLink RX1 79 "MarkedNames$Filler" "filled" "I", Cond.fieldLink RX1 22 "MarkedNames$Filler" "outcome" "LMarkedNames$Outcome;", Cond.methodLink RX1 82 yX5_startTree, Cond.instanceMethod yX5_startTree, Cond.selects RX5 yX5_startTree yX5_startTree, Cond.code yX5_startTree cX5_startTree 1 (some .int), Cond.fieldLink RX5 28 "MarkedNames$Row" "open" "I", Cond.methodLink RX1 91 yX1_roundsFor, Cond.instanceMethod yX1_roundsFor, Cond.selects RX1 yX1_roundsFor yX1_roundsFor, Cond.code yX1_roundsFor cX1_roundsFor 7 (some .int), Cond.methodLink RX1 111 Lib.Math.max.name, Cond.static Lib.Math.max.name, Cond.initialized "java/lang/Math", Cond.code Lib.Math.max.name Lib.Math.max.code 2 (some .int), Cond.methodLink RX1 98 yX5_variableAt, Cond.instanceMethod yX5_variableAt, Cond.selects RX5 yX5_variableAt yX5_variableAt, Cond.code yX5_variableAt cX5_variableAt 2 (some .int), Cond.fieldLink RX5 21 "MarkedNames$Row" "use" "[I", Cond.methodLink RX1 104 yX1_matchOf, Cond.instanceMethod yX1_matchOf, Cond.selects RX1 yX1_matchOf yX1_matchOf, Cond.code yX1_matchOf cX1_matchOf 9 (some .int)]
def wsX0_expandFn_r9 : List Cond := [Cond.methodLink RX1 125 yX4_roundOf, Cond.instanceMethod yX4_roundOf, Cond.selects RX4 yX4_roundOf yX4_roundOf, Cond.code yX4_roundOf cX4_roundOf 2 (some .int), Cond.methodLink RX1 108 yX2_fail, Cond.methodLink RX1 94 yX1_fillToken, Cond.instanceMethod yX1_fillToken, Cond.selects RX1 yX1_fillToken yX1_fillToken, Cond.code yX1_fillToken cX1_fillToken 6 none, Cond.static yX8_isTree, Cond.code yX8_isTree cX8_isTree 1 (some .boolean), Cond.methodLink RX1 119 yX5_marksAt, Cond.methodLink RX1 122 yX5_add, Cond.instanceMethod yX5_add, Cond.selects RX5 yX5_add yX5_add, Cond.code yX5_add cX5_add 3 none, Cond.methodLink RX5 31 yX5_closeBracket, Cond.instanceMethod yX5_closeBracket, Cond.selects RX5 yX5_closeBracket yX5_closeBracket, Cond.code yX5_closeBracket cX5_closeBracket 2 none, Cond.code yX0_expandEach cX0_expandEach 6 none, Cond.code yX0_expandIf cX0_expandIf 5 none, Cond.constant RX0 167 (92518), Cond.code yX0_expandList cX0_expandList 5 none]
def wsX0_expandFn_r10 : List Cond := [Cond.methodLink RX0 93 yX0_meaningOf, Cond.instanceMethod yX0_meaningOf, Cond.selects RX0 yX0_meaningOf yX0_meaningOf, Cond.code yX0_meaningOf cX0_meaningOf 3 (some .int), Cond.methodLink RX0 89 yX7_meaning, Cond.instanceMethod yX7_meaning, Cond.selects RX7 yX7_meaning yX7_meaning, Cond.code yX7_meaning cX7_meaning 6 (some .int), Cond.methodLink RX7 50 yJ6_bitCount_0f7a4, Cond.static yJ6_bitCount_0f7a4, Cond.initialized RJ6, Cond.code yJ6_bitCount_0f7a4 cJ6_bitCount_0f7a4 1 (some .int), Cond.constant RJ6 265 (1431655765), Cond.constant RJ6 266 (858993459), Cond.constant RJ6 267 (252645135), Cond.methodLink RX7 56 yX7_holdsAllOthers, Cond.instanceMethod yX7_holdsAllOthers, Cond.selects RX7 yX7_holdsAllOthers yX7_holdsAllOthers, Cond.code yX7_holdsAllOthers cX7_holdsAllOthers 5 (some .boolean), Cond.methodLink RX0 96 yX7_kindOf, Cond.instanceMethod yX7_kindOf, Cond.selects RX7 yX7_kindOf yX7_kindOf, Cond.code yX7_kindOf cX7_kindOf 2 (some .int), Cond.methodLink RX0 108 yX0_expandFn]
def wsX0_expandFn_r11 : List Cond := [Cond.instanceMethod yX0_expandFn, Cond.selects RX0 yX0_expandFn yX0_expandFn, Cond.methodLink RX0 111 yX0_expandIf, Cond.instanceMethod yX0_expandIf, Cond.selects RX0 yX0_expandIf yX0_expandIf, Cond.methodLink RX0 114 yX0_expandQ, Cond.instanceMethod yX0_expandQ, Cond.selects RX0 yX0_expandQ yX0_expandQ, Cond.code yX0_expandQ cX0_expandQ 2 none, Cond.methodLink RX0 168 yX2_putTree, Cond.instanceMethod yX2_putTree, Cond.selects RX2 yX2_putTree yX2_putTree, Cond.code yX2_putTree cX2_putTree 5 none, Cond.methodLink RX2 39 yX5_after, Cond.methodLink RX2 45 yX5_wordAt, Cond.methodLink RX2 48 yX2_putWord, Cond.instanceMethod yX2_putWord, Cond.selects RX2 yX2_putWord yX2_putWord, Cond.code yX2_putWord cX2_putWord 2 none, Cond.methodLink RX2 33 yX2_putName, Cond.static yX8_isNumber, Cond.code yX8_isNumber cX8_isNumber 1 (some .boolean), Cond.methodLink RX0 117 yX0_expandLs, Cond.instanceMethod yX0_expandLs]
def wsX0_expandFn_r12 : List Cond := [Cond.selects RX0 yX0_expandLs yX0_expandLs, Cond.methodLink RX0 102 yX7_valueOf, Cond.instanceMethod yX7_valueOf, Cond.selects RX7 yX7_valueOf yX7_valueOf, Cond.code yX7_valueOf cX7_valueOf 2 (some .int), Cond.methodLink RX0 120 yX0_expandByRules, Cond.instanceMethod yX0_expandByRules, Cond.selects RX0 yX0_expandByRules yX0_expandByRules, Cond.methodLink RX0 124 yX0_expandEach, Cond.instanceMethod yX0_expandEach, Cond.selects RX0 yX0_expandEach yX0_expandEach, Cond.code yX0_expandLs cX0_expandLs 6 none, Cond.fieldLink RX0 15 "MarkedNames$Expander" "check" "LMarkedNames$RuleCheck;", Cond.methodLink RX0 172 yX6_isNameWithRules, Cond.instanceMethod yX6_isNameWithRules, Cond.selects RX6 yX6_isNameWithRules yX6_isNameWithRules, Cond.initialized RX6, Cond.code yX6_isNameWithRules cX6_isNameWithRules 5 (some .boolean), Cond.fieldLink RX6 9 "MarkedNames$RuleCheck" "row" "LMarkedNames$Row;", Cond.methodLink RX6 15 yX5_plainLength, Cond.methodLink RX6 21 yX5_wordAt, Cond.methodLink RX6 28 yX6_isRule, Cond.instanceMethod yX6_isRule, Cond.selects RX6 yX6_isRule yX6_isRule]
def wsX0_expandFn_r13 : List Cond := [Cond.code yX6_isRule cX6_isRule 4 (some .boolean), Cond.methodLink RX6 31 yX5_after, Cond.methodLink RX6 34 yX6_isPattern, Cond.instanceMethod yX6_isPattern, Cond.selects RX6 yX6_isPattern yX6_isPattern, Cond.code yX6_isPattern cX6_isPattern 7 (some .boolean), Cond.methodLink RX6 45 yX5_isHeld, Cond.methodLink RX6 51 yX5_holders, Cond.instanceMethod yX5_holders, Cond.selects RX5 yX5_holders yX5_holders, Cond.code yX5_holders cX5_holders 6 (some .int), Cond.methodLink RX6 55 yX5_findName, Cond.methodLink RX6 37 yX6_linkUses, Cond.instanceMethod yX6_linkUses, Cond.selects RX6 yX6_linkUses yX6_linkUses, Cond.code yX6_linkUses cX6_linkUses 6 none, Cond.methodLink RX6 59 yX5_setVariable, Cond.instanceMethod yX5_setVariable, Cond.selects RX5 yX5_setVariable yX5_setVariable, Cond.code yX5_setVariable cX5_setVariable 3 none, Cond.methodLink RX6 41 yX6_isTemplate, Cond.instanceMethod yX6_isTemplate, Cond.selects RX6 yX6_isTemplate yX6_isTemplate, Cond.code yX6_isTemplate cX6_isTemplate 6 (some .boolean)]
def wsX0_expandFn_r14 : List Cond := [Cond.methodLink RX6 62 yX5_variableAt, Cond.methodLink RX6 65 yX5_hasUse, Cond.instanceMethod yX5_hasUse, Cond.selects RX5 yX5_hasUse yX5_hasUse, Cond.code yX5_hasUse cX5_hasUse 3 (some .boolean), Cond.code yX0_expandTree cX0_expandTree 4 none, Cond.methodLink RX0 65 yX0_expandList, Cond.instanceMethod yX0_expandList, Cond.selects RX0 yX0_expandList yX0_expandList, Cond.methodLink RX0 73 yX0_expandName, Cond.instanceMethod yX0_expandName, Cond.selects RX0 yX0_expandName yX0_expandName, Cond.code yX0_expandName cX0_expandName 4 none, Cond.methodLink RX0 80 yX2_putNumber]
def wsX0_expandFn : List Cond := .code yX0_expandFn cX0_expandFn 9 none :: ((wsX0_expandFn_r1 ++ (wsX0_expandFn_r2 ++ (wsX0_expandFn_r3 ++ (wsX0_expandFn_r4 ++ (wsX0_expandFn_r5 ++ (wsX0_expandFn_r6 ++ (wsX0_expandFn_r7 ++ (wsX0_expandFn_r8 ++ (wsX0_expandFn_r9 ++ (wsX0_expandFn_r10 ++ (wsX0_expandFn_r11 ++ (wsX0_expandFn_r12 ++ (wsX0_expandFn_r13 ++ wsX0_expandFn_r14))))))))))))) ++ wsX00 ++ wsX20 ++ wsX50 ++ wsX10 ++ wsX40 ++ wsX70 ++ wsX60)
def wsX0_expandIf_r1 : List Cond := [Cond.fieldLink RX0 9 "MarkedNames$Expander" "row" "LMarkedNames$Row;", Cond.fieldLink RX0 23 "MarkedNames$Expander" "outcome" "LMarkedNames$Outcome;", Cond.constant RX0 167 (92518), Cond.methodLink RX0 139 yX5_plainLength, Cond.instanceMethod yX5_plainLength, Cond.selects RX5 yX5_plainLength yX5_plainLength, Cond.initialized RX5, Cond.code yX5_plainLength cX5_plainLength 2 (some .int), Cond.methodLink RX5 34 yX5_wordAt, Cond.instanceMethod yX5_wordAt, Cond.selects RX5 yX5_wordAt yX5_wordAt, Cond.code yX5_wordAt cX5_wordAt 2 (some .int), Cond.fieldLink RX5 24 "MarkedNames$Row" "top" "I", Cond.fieldLink RX5 9 "MarkedNames$Row" "word" "[I", Cond.methodLink RX5 38 yX5_hasDots, Cond.instanceMethod yX5_hasDots, Cond.selects RX5 yX5_hasDots yX5_hasDots, Cond.code yX5_hasDots cX5_hasDots 4 (some .boolean), Cond.methodLink RX5 42 yX5_itemsFrom, Cond.instanceMethod yX5_itemsFrom, Cond.selects RX5 yX5_itemsFrom yX5_itemsFrom, Cond.code yX5_itemsFrom cX5_itemsFrom 5 (some .int), Cond.methodLink RX0 83 yX2_fail, Cond.instanceMethod yX2_fail]
def wsX0_expandIf_r2 : List Cond := [Cond.selects RX2 yX2_fail yX2_fail, Cond.initialized RX2, Cond.code yX2_fail cX2_fail 2 none, Cond.fieldLink RX2 19 "MarkedNames$Outcome" "error" "I", Cond.methodLink RX0 130 yX2_put, Cond.instanceMethod yX2_put, Cond.selects RX2 yX2_put yX2_put, Cond.code yX2_put cX2_put 2 none, Cond.fieldLink RX2 15 "MarkedNames$Outcome" "length" "I", Cond.fieldLink RX2 9 "MarkedNames$Outcome" "text" "[I", Cond.methodLink RX0 99 yX2_putName, Cond.instanceMethod yX2_putName, Cond.selects RX2 yX2_putName yX2_putName, Cond.code yX2_putName cX2_putName 3 none, Cond.methodLink RX2 22 yX2_put, Cond.methodLink RX0 133 yX0_expandTree, Cond.instanceMethod yX0_expandTree, Cond.selects RX0 yX0_expandTree yX0_expandTree, Cond.initialized RX0, Cond.methodLink RX0 136 yX5_after, Cond.instanceMethod yX5_after, Cond.selects RX5 yX5_after yX5_after, Cond.code yX5_after cX5_after 2 (some .int), Cond.fieldLink RX5 18 "MarkedNames$Row" "size" "[I"]
def wsX0_expandIf_r3 : List Cond := [Cond.code yX0_expandByRules cX0_expandByRules 7 none, Cond.fieldLink RX0 46 "MarkedNames$Expander" "fuel" "I", Cond.fieldLink RX0 32 "MarkedNames$Expander" "filler" "LMarkedNames$Filler;", Cond.methodLink RX0 145 yX0_newScope, Cond.instanceMethod yX0_newScope, Cond.selects RX0 yX0_newScope yX0_newScope, Cond.code yX0_newScope cX0_newScope 1 (some .int), Cond.fieldLink RX0 36 "MarkedNames$Expander" "scopes" "I", Cond.methodLink RX0 149 yX5_turnScope, Cond.instanceMethod yX5_turnScope, Cond.selects RX5 yX5_turnScope yX5_turnScope, Cond.code yX5_turnScope cX5_turnScope 5 none, Cond.fieldLink RX5 15 "MarkedNames$Row" "marks" "[I", Cond.methodLink RX5 45 yX5_after, Cond.static yX8_isName, Cond.initialized RX8, Cond.code yX8_isName cX8_isName 1 (some .boolean), Cond.methodLink RX0 177 yX1_firstRule, Cond.instanceMethod yX1_firstRule, Cond.selects RX1 yX1_firstRule yX1_firstRule, Cond.initialized RX1, Cond.code yX1_firstRule cX1_firstRule 6 (some .int), Cond.fieldLink RX1 18 "MarkedNames$Filler" "row" "LMarkedNames$Row;", Cond.methodLink RX1 26 yX5_plainLength]
def wsX0_expandIf_r4 : List Cond := [Cond.methodLink RX1 32 yX1_matches, Cond.instanceMethod yX1_matches, Cond.selects RX1 yX1_matches yX1_matches, Cond.code yX1_matches cX1_matches 8 (some .boolean), Cond.fieldLink RX1 12 "MarkedNames$Filler" "rounds" "LMarkedNames$Rounds;", Cond.constant RX1 45 (1000000), Cond.methodLink RX1 39 yX1_hasRoomFor, Cond.instanceMethod yX1_hasRoomFor, Cond.selects RX1 yX1_hasRoomFor yX1_hasRoomFor, Cond.code yX1_hasRoomFor cX1_hasRoomFor 5 (some .boolean), Cond.methodLink RX1 53 yX5_itemsFrom, Cond.methodLink RX1 69 yX5_hasDots, Cond.methodLink RX1 42 yX4_clear, Cond.instanceMethod yX4_clear, Cond.selects RX4 yX4_clear yX4_clear, Cond.initialized RX4, Cond.code yX4_clear cX4_clear 1 none, Cond.fieldLink RX4 21 "MarkedNames$Rounds" "depth" "I", Cond.methodLink RX1 36 yX5_after, Cond.methodLink RX1 46 yX5_isHeld, Cond.instanceMethod yX5_isHeld, Cond.selects RX5 yX5_isHeld yX5_isHeld, Cond.code yX5_isHeld cX5_isHeld 3 (some .boolean), Cond.methodLink RX1 50 yX4_isIn]
def wsX0_expandIf_r5 : List Cond := [Cond.instanceMethod yX4_isIn, Cond.selects RX4 yX4_isIn yX4_isIn, Cond.code yX4_isIn cX4_isIn 2 (some .boolean), Cond.fieldLink RX4 9 "MarkedNames$Rounds" "held" "[I", Cond.methodLink RX4 25 yX4_hasInner, Cond.instanceMethod yX4_hasInner, Cond.selects RX4 yX4_hasInner yX4_hasInner, Cond.code yX4_hasInner cX4_hasInner 1 (some .boolean), Cond.methodLink RX1 56 yX4_enter, Cond.instanceMethod yX4_enter, Cond.selects RX4 yX4_enter yX4_enter, Cond.code yX4_enter cX4_enter 3 none, Cond.fieldLink RX4 15 "MarkedNames$Rounds" "round" "[I", Cond.fieldLink RX4 18 "MarkedNames$Rounds" "rounds" "[I", Cond.methodLink RX1 60 yX5_wordAt, Cond.methodLink RX1 63 yX4_leave, Cond.instanceMethod yX4_leave, Cond.selects RX4 yX4_leave yX4_leave, Cond.code yX4_leave cX4_leave 2 (some .int), Cond.methodLink RX0 180 yX1_fill, Cond.instanceMethod yX1_fill, Cond.selects RX1 yX1_fill yX1_fill, Cond.code yX1_fill cX1_fill 8 (some .int), Cond.fieldLink RX1 72 "MarkedNames$Filler" "pattern" "I"]
def wsX0_expandIf_r6 : List Cond := [Cond.fieldLink RX1 76 "MarkedNames$Filler" "matched" "I", Cond.fieldLink RX1 79 "MarkedNames$Filler" "filled" "I", Cond.fieldLink RX1 22 "MarkedNames$Filler" "outcome" "LMarkedNames$Outcome;", Cond.methodLink RX1 82 yX5_startTree, Cond.instanceMethod yX5_startTree, Cond.selects RX5 yX5_startTree yX5_startTree, Cond.code yX5_startTree cX5_startTree 1 (some .int), Cond.fieldLink RX5 28 "MarkedNames$Row" "open" "I", Cond.methodLink RX1 91 yX1_roundsFor, Cond.instanceMethod yX1_roundsFor, Cond.selects RX1 yX1_roundsFor yX1_roundsFor, Cond.code yX1_roundsFor cX1_roundsFor 7 (some .int), Cond.methodLink RX1 111 Lib.Math.max.name, Cond.static Lib.Math.max.name, Cond.initialized "java/lang/Math", Cond.code Lib.Math.max.name Lib.Math.max.code 2 (some .int), Cond.methodLink RX1 98 yX5_variableAt, Cond.instanceMethod yX5_variableAt, Cond.selects RX5 yX5_variableAt yX5_variableAt, Cond.code yX5_variableAt cX5_variableAt 2 (some .int), Cond.fieldLink RX5 21 "MarkedNames$Row" "use" "[I", Cond.methodLink RX1 104 yX1_matchOf, Cond.instanceMethod yX1_matchOf, Cond.selects RX1 yX1_matchOf yX1_matchOf]
def wsX0_expandIf_r7 : List Cond := [Cond.code yX1_matchOf cX1_matchOf 9 (some .int), Cond.methodLink RX1 125 yX4_roundOf, Cond.instanceMethod yX4_roundOf, Cond.selects RX4 yX4_roundOf yX4_roundOf, Cond.code yX4_roundOf cX4_roundOf 2 (some .int), Cond.methodLink RX1 108 yX2_fail, Cond.methodLink RX1 94 yX1_fillToken, Cond.instanceMethod yX1_fillToken, Cond.selects RX1 yX1_fillToken yX1_fillToken, Cond.code yX1_fillToken cX1_fillToken 6 none, Cond.static yX8_isTree, Cond.code yX8_isTree cX8_isTree 1 (some .boolean), Cond.methodLink RX1 119 yX5_marksAt, Cond.instanceMethod yX5_marksAt, Cond.selects RX5 yX5_marksAt yX5_marksAt, Cond.code yX5_marksAt cX5_marksAt 2 (some .int), Cond.methodLink RX1 122 yX5_add, Cond.instanceMethod yX5_add, Cond.selects RX5 yX5_add yX5_add, Cond.code yX5_add cX5_add 3 none, Cond.methodLink RX5 31 yX5_closeBracket, Cond.instanceMethod yX5_closeBracket, Cond.selects RX5 yX5_closeBracket yX5_closeBracket, Cond.code yX5_closeBracket cX5_closeBracket 2 none]
def wsX0_expandIf_r8 : List Cond := [Cond.code yX0_expandEach cX0_expandEach 6 none, Cond.methodLink RX0 127 yX5_itemsFrom, Cond.code yX0_expandFn cX0_expandFn 9 none, Cond.fieldLink RX0 43 "MarkedNames$Expander" "variables" "I", Cond.methodLink RX0 142 yX0_areNames, Cond.instanceMethod yX0_areNames, Cond.selects RX0 yX0_areNames yX0_areNames, Cond.code yX0_areNames cX0_areNames 4 (some .boolean), Cond.methodLink RX0 59 yX5_wordAt, Cond.methodLink RX0 152 yX0_bindVariable, Cond.instanceMethod yX0_bindVariable, Cond.selects RX0 yX0_bindVariable yX0_bindVariable, Cond.code yX0_bindVariable cX0_bindVariable 3 none, Cond.methodLink RX0 159 yX5_findName, Cond.instanceMethod yX5_findName, Cond.selects RX5 yX5_findName yX5_findName, Cond.code yX5_findName cX5_findName 5 (some .int), Cond.methodLink RX0 163 yX0_bind, Cond.instanceMethod yX0_bind, Cond.selects RX0 yX0_bind yX0_bind, Cond.code yX0_bind cX0_bind 4 (some .boolean), Cond.fieldLink RX0 19 "MarkedNames$Expander" "table" "LMarkedNames$Table;", Cond.fieldLink RX0 40 "MarkedNames$Expander" "bindings" "I", Cond.methodLink RX0 86 yX5_marksAt]
def wsX0_expandIf_r9 : List Cond := [Cond.methodLink RX0 183 yX7_bind, Cond.instanceMethod yX7_bind, Cond.selects RX7 yX7_bind yX7_bind, Cond.initialized RX7, Cond.code yX7_bind cX7_bind 5 (some .boolean), Cond.fieldLink RX7 33 "MarkedNames$Table" "length" "I", Cond.fieldLink RX7 9 "MarkedNames$Table" "name" "[I", Cond.fieldLink RX7 15 "MarkedNames$Table" "marks" "[I", Cond.fieldLink RX7 18 "MarkedNames$Table" "kind" "[I", Cond.fieldLink RX7 21 "MarkedNames$Table" "value" "[I", Cond.methodLink RX0 155 yX0_putVariables, Cond.instanceMethod yX0_putVariables, Cond.selects RX0 yX0_putVariables yX0_putVariables, Cond.code yX0_putVariables cX0_putVariables 4 none, Cond.constant RX0 158 (91758), Cond.methodLink RX0 105 yX2_putVariable, Cond.instanceMethod yX2_putVariable, Cond.selects RX2 yX2_putVariable yX2_putVariable, Cond.code yX2_putVariable cX2_putVariable 2 none, Cond.methodLink RX2 26 yX2_putNumber, Cond.instanceMethod yX2_putNumber, Cond.selects RX2 yX2_putNumber yX2_putNumber, Cond.code yX2_putNumber cX2_putNumber 2 none, Cond.code yX0_expandList cX0_expandList 5 none]
def wsX0_expandIf_r10 : List Cond := [Cond.methodLink RX0 93 yX0_meaningOf, Cond.instanceMethod yX0_meaningOf, Cond.selects RX0 yX0_meaningOf yX0_meaningOf, Cond.code yX0_meaningOf cX0_meaningOf 3 (some .int), Cond.methodLink RX0 89 yX7_meaning, Cond.instanceMethod yX7_meaning, Cond.selects RX7 yX7_meaning yX7_meaning, Cond.code yX7_meaning cX7_meaning 6 (some .int), Cond.methodLink RX7 50 yJ6_bitCount_0f7a4, Cond.static yJ6_bitCount_0f7a4, Cond.initialized RJ6, Cond.code yJ6_bitCount_0f7a4 cJ6_bitCount_0f7a4 1 (some .int), Cond.constant RJ6 265 (1431655765), Cond.constant RJ6 266 (858993459), Cond.constant RJ6 267 (252645135), Cond.methodLink RX7 56 yX7_holdsAllOthers, Cond.instanceMethod yX7_holdsAllOthers, Cond.selects RX7 yX7_holdsAllOthers yX7_holdsAllOthers, Cond.code yX7_holdsAllOthers cX7_holdsAllOthers 5 (some .boolean), Cond.methodLink RX0 96 yX7_kindOf, Cond.instanceMethod yX7_kindOf, Cond.selects RX7 yX7_kindOf yX7_kindOf, Cond.code yX7_kindOf cX7_kindOf 2 (some .int), Cond.methodLink RX0 108 yX0_expandFn]
def wsX0_expandIf_r11 : List Cond := [Cond.instanceMethod yX0_expandFn, Cond.selects RX0 yX0_expandFn yX0_expandFn, Cond.methodLink RX0 111 yX0_expandIf, Cond.instanceMethod yX0_expandIf, Cond.selects RX0 yX0_expandIf yX0_expandIf, Cond.methodLink RX0 114 yX0_expandQ, Cond.instanceMethod yX0_expandQ, Cond.selects RX0 yX0_expandQ yX0_expandQ, Cond.code yX0_expandQ cX0_expandQ 2 none, Cond.methodLink RX0 168 yX2_putTree, Cond.instanceMethod yX2_putTree, Cond.selects RX2 yX2_putTree yX2_putTree, Cond.code yX2_putTree cX2_putTree 5 none, Cond.methodLink RX2 39 yX5_after, Cond.methodLink RX2 45 yX5_wordAt, Cond.methodLink RX2 48 yX2_putWord, Cond.instanceMethod yX2_putWord, Cond.selects RX2 yX2_putWord yX2_putWord, Cond.code yX2_putWord cX2_putWord 2 none, Cond.methodLink RX2 33 yX2_putName, Cond.static yX8_isNumber, Cond.code yX8_isNumber cX8_isNumber 1 (some .boolean), Cond.methodLink RX0 117 yX0_expandLs, Cond.instanceMethod yX0_expandLs]
def wsX0_expandIf_r12 : List Cond := [Cond.selects RX0 yX0_expandLs yX0_expandLs, Cond.methodLink RX0 102 yX7_valueOf, Cond.instanceMethod yX7_valueOf, Cond.selects RX7 yX7_valueOf yX7_valueOf, Cond.code yX7_valueOf cX7_valueOf 2 (some .int), Cond.methodLink RX0 120 yX0_expandByRules, Cond.instanceMethod yX0_expandByRules, Cond.selects RX0 yX0_expandByRules yX0_expandByRules, Cond.methodLink RX0 124 yX0_expandEach, Cond.instanceMethod yX0_expandEach, Cond.selects RX0 yX0_expandEach yX0_expandEach, Cond.code yX0_expandLs cX0_expandLs 6 none, Cond.fieldLink RX0 15 "MarkedNames$Expander" "check" "LMarkedNames$RuleCheck;", Cond.methodLink RX0 172 yX6_isNameWithRules, Cond.instanceMethod yX6_isNameWithRules, Cond.selects RX6 yX6_isNameWithRules yX6_isNameWithRules, Cond.initialized RX6, Cond.code yX6_isNameWithRules cX6_isNameWithRules 5 (some .boolean), Cond.fieldLink RX6 9 "MarkedNames$RuleCheck" "row" "LMarkedNames$Row;", Cond.methodLink RX6 15 yX5_plainLength, Cond.methodLink RX6 21 yX5_wordAt, Cond.methodLink RX6 28 yX6_isRule, Cond.instanceMethod yX6_isRule, Cond.selects RX6 yX6_isRule yX6_isRule]
def wsX0_expandIf_r13 : List Cond := [Cond.code yX6_isRule cX6_isRule 4 (some .boolean), Cond.methodLink RX6 31 yX5_after, Cond.methodLink RX6 34 yX6_isPattern, Cond.instanceMethod yX6_isPattern, Cond.selects RX6 yX6_isPattern yX6_isPattern, Cond.code yX6_isPattern cX6_isPattern 7 (some .boolean), Cond.methodLink RX6 45 yX5_isHeld, Cond.methodLink RX6 51 yX5_holders, Cond.instanceMethod yX5_holders, Cond.selects RX5 yX5_holders yX5_holders, Cond.code yX5_holders cX5_holders 6 (some .int), Cond.methodLink RX6 55 yX5_findName, Cond.methodLink RX6 37 yX6_linkUses, Cond.instanceMethod yX6_linkUses, Cond.selects RX6 yX6_linkUses yX6_linkUses, Cond.code yX6_linkUses cX6_linkUses 6 none, Cond.methodLink RX6 59 yX5_setVariable, Cond.instanceMethod yX5_setVariable, Cond.selects RX5 yX5_setVariable yX5_setVariable, Cond.code yX5_setVariable cX5_setVariable 3 none, Cond.methodLink RX6 41 yX6_isTemplate, Cond.instanceMethod yX6_isTemplate, Cond.selects RX6 yX6_isTemplate yX6_isTemplate, Cond.code yX6_isTemplate cX6_isTemplate 6 (some .boolean)]
def wsX0_expandIf_r14 : List Cond := [Cond.methodLink RX6 62 yX5_variableAt, Cond.methodLink RX6 65 yX5_hasUse, Cond.instanceMethod yX5_hasUse, Cond.selects RX5 yX5_hasUse yX5_hasUse, Cond.code yX5_hasUse cX5_hasUse 3 (some .boolean), Cond.code yX0_expandTree cX0_expandTree 4 none, Cond.methodLink RX0 65 yX0_expandList, Cond.instanceMethod yX0_expandList, Cond.selects RX0 yX0_expandList yX0_expandList, Cond.methodLink RX0 73 yX0_expandName, Cond.instanceMethod yX0_expandName, Cond.selects RX0 yX0_expandName yX0_expandName, Cond.code yX0_expandName cX0_expandName 4 none, Cond.methodLink RX0 80 yX2_putNumber]
def wsX0_expandIf : List Cond := .code yX0_expandIf cX0_expandIf 5 none :: ((wsX0_expandIf_r1 ++ (wsX0_expandIf_r2 ++ (wsX0_expandIf_r3 ++ (wsX0_expandIf_r4 ++ (wsX0_expandIf_r5 ++ (wsX0_expandIf_r6 ++ (wsX0_expandIf_r7 ++ (wsX0_expandIf_r8 ++ (wsX0_expandIf_r9 ++ (wsX0_expandIf_r10 ++ (wsX0_expandIf_r11 ++ (wsX0_expandIf_r12 ++ (wsX0_expandIf_r13 ++ wsX0_expandIf_r14))))))))))))) ++ wsX00 ++ wsX20 ++ wsX50 ++ wsX10 ++ wsX40 ++ wsX70 ++ wsX60)
def wsX0_expandList_r1 : List Cond := [Cond.fieldLink RX0 9 "MarkedNames$Expander" "row" "LMarkedNames$Row;", Cond.fieldLink RX0 23 "MarkedNames$Expander" "outcome" "LMarkedNames$Outcome;", Cond.fieldLink RX0 19 "MarkedNames$Expander" "table" "LMarkedNames$Table;", Cond.methodLink RX0 59 yX5_wordAt, Cond.instanceMethod yX5_wordAt, Cond.selects RX5 yX5_wordAt yX5_wordAt, Cond.initialized RX5, Cond.code yX5_wordAt cX5_wordAt 2 (some .int), Cond.fieldLink RX5 24 "MarkedNames$Row" "top" "I", Cond.fieldLink RX5 9 "MarkedNames$Row" "word" "[I", Cond.methodLink RX0 83 yX2_fail, Cond.instanceMethod yX2_fail, Cond.selects RX2 yX2_fail yX2_fail, Cond.initialized RX2, Cond.code yX2_fail cX2_fail 2 none, Cond.fieldLink RX2 19 "MarkedNames$Outcome" "error" "I", Cond.static yX8_isName, Cond.initialized RX8, Cond.code yX8_isName cX8_isName 1 (some .boolean), Cond.methodLink RX0 93 yX0_meaningOf, Cond.instanceMethod yX0_meaningOf, Cond.selects RX0 yX0_meaningOf yX0_meaningOf, Cond.initialized RX0, Cond.code yX0_meaningOf cX0_meaningOf 3 (some .int)]
def wsX0_expandList_r2 : List Cond := [Cond.methodLink RX0 86 yX5_marksAt, Cond.instanceMethod yX5_marksAt, Cond.selects RX5 yX5_marksAt yX5_marksAt, Cond.code yX5_marksAt cX5_marksAt 2 (some .int), Cond.fieldLink RX5 15 "MarkedNames$Row" "marks" "[I", Cond.methodLink RX0 89 yX7_meaning, Cond.instanceMethod yX7_meaning, Cond.selects RX7 yX7_meaning yX7_meaning, Cond.initialized RX7, Cond.code yX7_meaning cX7_meaning 6 (some .int), Cond.fieldLink RX7 33 "MarkedNames$Table" "length" "I", Cond.fieldLink RX7 9 "MarkedNames$Table" "name" "[I", Cond.fieldLink RX7 15 "MarkedNames$Table" "marks" "[I", Cond.methodLink RX7 50 yJ6_bitCount_0f7a4, Cond.static yJ6_bitCount_0f7a4, Cond.initialized RJ6, Cond.code yJ6_bitCount_0f7a4 cJ6_bitCount_0f7a4 1 (some .int), Cond.constant RJ6 265 (1431655765), Cond.constant RJ6 266 (858993459), Cond.constant RJ6 267 (252645135), Cond.methodLink RX7 56 yX7_holdsAllOthers, Cond.instanceMethod yX7_holdsAllOthers, Cond.selects RX7 yX7_holdsAllOthers yX7_holdsAllOthers, Cond.code yX7_holdsAllOthers cX7_holdsAllOthers 5 (some .boolean)]
def wsX0_expandList_r3 : List Cond := [Cond.methodLink RX0 96 yX7_kindOf, Cond.instanceMethod yX7_kindOf, Cond.selects RX7 yX7_kindOf yX7_kindOf, Cond.code yX7_kindOf cX7_kindOf 2 (some .int), Cond.fieldLink RX7 18 "MarkedNames$Table" "kind" "[I", Cond.methodLink RX0 108 yX0_expandFn, Cond.instanceMethod yX0_expandFn, Cond.selects RX0 yX0_expandFn yX0_expandFn, Cond.methodLink RX0 111 yX0_expandIf, Cond.instanceMethod yX0_expandIf, Cond.selects RX0 yX0_expandIf yX0_expandIf, Cond.methodLink RX0 114 yX0_expandQ, Cond.instanceMethod yX0_expandQ, Cond.selects RX0 yX0_expandQ yX0_expandQ, Cond.code yX0_expandQ cX0_expandQ 2 none, Cond.methodLink RX0 139 yX5_plainLength, Cond.instanceMethod yX5_plainLength, Cond.selects RX5 yX5_plainLength yX5_plainLength, Cond.code yX5_plainLength cX5_plainLength 2 (some .int), Cond.methodLink RX5 34 yX5_wordAt, Cond.methodLink RX5 38 yX5_hasDots, Cond.instanceMethod yX5_hasDots, Cond.selects RX5 yX5_hasDots yX5_hasDots, Cond.code yX5_hasDots cX5_hasDots 4 (some .boolean)]
def wsX0_expandList_r4 : List Cond := [Cond.methodLink RX5 42 yX5_itemsFrom, Cond.instanceMethod yX5_itemsFrom, Cond.selects RX5 yX5_itemsFrom yX5_itemsFrom, Cond.code yX5_itemsFrom cX5_itemsFrom 5 (some .int), Cond.methodLink RX0 168 yX2_putTree, Cond.instanceMethod yX2_putTree, Cond.selects RX2 yX2_putTree yX2_putTree, Cond.code yX2_putTree cX2_putTree 5 none, Cond.methodLink RX2 39 yX5_after, Cond.instanceMethod yX5_after, Cond.selects RX5 yX5_after yX5_after, Cond.code yX5_after cX5_after 2 (some .int), Cond.fieldLink RX5 18 "MarkedNames$Row" "size" "[I", Cond.methodLink RX2 45 yX5_wordAt, Cond.methodLink RX2 22 yX2_put, Cond.instanceMethod yX2_put, Cond.selects RX2 yX2_put yX2_put, Cond.code yX2_put cX2_put 2 none, Cond.fieldLink RX2 15 "MarkedNames$Outcome" "length" "I", Cond.fieldLink RX2 9 "MarkedNames$Outcome" "text" "[I", Cond.methodLink RX2 48 yX2_putWord, Cond.instanceMethod yX2_putWord, Cond.selects RX2 yX2_putWord yX2_putWord, Cond.code yX2_putWord cX2_putWord 2 none]
def wsX0_expandList_r5 : List Cond := [Cond.methodLink RX2 33 yX2_putName, Cond.instanceMethod yX2_putName, Cond.selects RX2 yX2_putName yX2_putName, Cond.code yX2_putName cX2_putName 3 none, Cond.static yX8_isNumber, Cond.code yX8_isNumber cX8_isNumber 1 (some .boolean), Cond.methodLink RX2 26 yX2_putNumber, Cond.instanceMethod yX2_putNumber, Cond.selects RX2 yX2_putNumber yX2_putNumber, Cond.code yX2_putNumber cX2_putNumber 2 none, Cond.methodLink RX0 117 yX0_expandLs, Cond.instanceMethod yX0_expandLs, Cond.selects RX0 yX0_expandLs yX0_expandLs, Cond.methodLink RX0 102 yX7_valueOf, Cond.instanceMethod yX7_valueOf, Cond.selects RX7 yX7_valueOf yX7_valueOf, Cond.code yX7_valueOf cX7_valueOf 2 (some .int), Cond.fieldLink RX7 21 "MarkedNames$Table" "value" "[I", Cond.methodLink RX0 120 yX0_expandByRules, Cond.instanceMethod yX0_expandByRules, Cond.selects RX0 yX0_expandByRules yX0_expandByRules, Cond.methodLink RX0 124 yX0_expandEach, Cond.instanceMethod yX0_expandEach, Cond.selects RX0 yX0_expandEach yX0_expandEach]
def wsX0_expandList_r6 : List Cond := [Cond.code yX0_expandByRules cX0_expandByRules 7 none, Cond.fieldLink RX0 46 "MarkedNames$Expander" "fuel" "I", Cond.fieldLink RX0 32 "MarkedNames$Expander" "filler" "LMarkedNames$Filler;", Cond.methodLink RX0 145 yX0_newScope, Cond.instanceMethod yX0_newScope, Cond.selects RX0 yX0_newScope yX0_newScope, Cond.code yX0_newScope cX0_newScope 1 (some .int), Cond.fieldLink RX0 36 "MarkedNames$Expander" "scopes" "I", Cond.methodLink RX0 149 yX5_turnScope, Cond.instanceMethod yX5_turnScope, Cond.selects RX5 yX5_turnScope yX5_turnScope, Cond.code yX5_turnScope cX5_turnScope 5 none, Cond.methodLink RX5 45 yX5_after, Cond.methodLink RX0 177 yX1_firstRule, Cond.instanceMethod yX1_firstRule, Cond.selects RX1 yX1_firstRule yX1_firstRule, Cond.initialized RX1, Cond.code yX1_firstRule cX1_firstRule 6 (some .int), Cond.fieldLink RX1 18 "MarkedNames$Filler" "row" "LMarkedNames$Row;", Cond.methodLink RX1 26 yX5_plainLength, Cond.methodLink RX1 32 yX1_matches, Cond.instanceMethod yX1_matches, Cond.selects RX1 yX1_matches yX1_matches, Cond.code yX1_matches cX1_matches 8 (some .boolean)]
def wsX0_expandList_r7 : List Cond := [Cond.fieldLink RX1 12 "MarkedNames$Filler" "rounds" "LMarkedNames$Rounds;", Cond.constant RX1 45 (1000000), Cond.methodLink RX1 39 yX1_hasRoomFor, Cond.instanceMethod yX1_hasRoomFor, Cond.selects RX1 yX1_hasRoomFor yX1_hasRoomFor, Cond.code yX1_hasRoomFor cX1_hasRoomFor 5 (some .boolean), Cond.methodLink RX1 53 yX5_itemsFrom, Cond.methodLink RX1 69 yX5_hasDots, Cond.methodLink RX1 42 yX4_clear, Cond.instanceMethod yX4_clear, Cond.selects RX4 yX4_clear yX4_clear, Cond.initialized RX4, Cond.code yX4_clear cX4_clear 1 none, Cond.fieldLink RX4 21 "MarkedNames$Rounds" "depth" "I", Cond.methodLink RX1 36 yX5_after, Cond.methodLink RX1 46 yX5_isHeld, Cond.instanceMethod yX5_isHeld, Cond.selects RX5 yX5_isHeld yX5_isHeld, Cond.code yX5_isHeld cX5_isHeld 3 (some .boolean), Cond.methodLink RX1 50 yX4_isIn, Cond.instanceMethod yX4_isIn, Cond.selects RX4 yX4_isIn yX4_isIn, Cond.code yX4_isIn cX4_isIn 2 (some .boolean), Cond.fieldLink RX4 9 "MarkedNames$Rounds" "held" "[I"]
def wsX0_expandList_r8 : List Cond := [Cond.methodLink RX4 25 yX4_hasInner, Cond.instanceMethod yX4_hasInner, Cond.selects RX4 yX4_hasInner yX4_hasInner, Cond.code yX4_hasInner cX4_hasInner 1 (some .boolean), Cond.methodLink RX1 56 yX4_enter, Cond.instanceMethod yX4_enter, Cond.selects RX4 yX4_enter yX4_enter, Cond.code yX4_enter cX4_enter 3 none, Cond.fieldLink RX4 15 "MarkedNames$Rounds" "round" "[I", Cond.fieldLink RX4 18 "MarkedNames$Rounds" "rounds" "[I", Cond.methodLink RX1 60 yX5_wordAt, Cond.methodLink RX1 63 yX4_leave, Cond.instanceMethod yX4_leave, Cond.selects RX4 yX4_leave yX4_leave, Cond.code yX4_leave cX4_leave 2 (some .int), Cond.methodLink RX0 180 yX1_fill, Cond.instanceMethod yX1_fill, Cond.selects RX1 yX1_fill yX1_fill, Cond.code yX1_fill cX1_fill 8 (some .int), Cond.fieldLink RX1 72 "MarkedNames$Filler" "pattern" "I", Cond.fieldLink RX1 76 "MarkedNames$Filler" "matched" "I", Cond.fieldLink RX1 79 "MarkedNames$Filler" "filled" "I", Cond.fieldLink RX1 22 "MarkedNames$Filler" "outcome" "LMarkedNames$Outcome;", Cond.methodLink RX1 82 yX5_startTree]
def wsX0_expandList_r9 : List Cond := [Cond.instanceMethod yX5_startTree, Cond.selects RX5 yX5_startTree yX5_startTree, Cond.code yX5_startTree cX5_startTree 1 (some .int), Cond.fieldLink RX5 28 "MarkedNames$Row" "open" "I", Cond.methodLink RX1 91 yX1_roundsFor, Cond.instanceMethod yX1_roundsFor, Cond.selects RX1 yX1_roundsFor yX1_roundsFor, Cond.code yX1_roundsFor cX1_roundsFor 7 (some .int), Cond.methodLink RX1 111 Lib.Math.max.name, Cond.static Lib.Math.max.name, Cond.initialized "java/lang/Math", Cond.code Lib.Math.max.name Lib.Math.max.code 2 (some .int), Cond.methodLink RX1 98 yX5_variableAt, Cond.instanceMethod yX5_variableAt, Cond.selects RX5 yX5_variableAt yX5_variableAt, Cond.code yX5_variableAt cX5_variableAt 2 (some .int), Cond.fieldLink RX5 21 "MarkedNames$Row" "use" "[I", Cond.methodLink RX1 104 yX1_matchOf, Cond.instanceMethod yX1_matchOf, Cond.selects RX1 yX1_matchOf yX1_matchOf, Cond.code yX1_matchOf cX1_matchOf 9 (some .int), Cond.methodLink RX1 125 yX4_roundOf, Cond.instanceMethod yX4_roundOf, Cond.selects RX4 yX4_roundOf yX4_roundOf]
def wsX0_expandList_r10 : List Cond := [Cond.code yX4_roundOf cX4_roundOf 2 (some .int), Cond.methodLink RX1 108 yX2_fail, Cond.methodLink RX1 94 yX1_fillToken, Cond.instanceMethod yX1_fillToken, Cond.selects RX1 yX1_fillToken yX1_fillToken, Cond.code yX1_fillToken cX1_fillToken 6 none, Cond.static yX8_isTree, Cond.code yX8_isTree cX8_isTree 1 (some .boolean), Cond.methodLink RX1 119 yX5_marksAt, Cond.methodLink RX1 122 yX5_add, Cond.instanceMethod yX5_add, Cond.selects RX5 yX5_add yX5_add, Cond.code yX5_add cX5_add 3 none, Cond.methodLink RX5 31 yX5_closeBracket, Cond.instanceMethod yX5_closeBracket, Cond.selects RX5 yX5_closeBracket yX5_closeBracket, Cond.code yX5_closeBracket cX5_closeBracket 2 none, Cond.methodLink RX0 133 yX0_expandTree, Cond.instanceMethod yX0_expandTree, Cond.selects RX0 yX0_expandTree yX0_expandTree, Cond.code yX0_expandEach cX0_expandEach 6 none, Cond.methodLink RX0 127 yX5_itemsFrom, Cond.methodLink RX0 130 yX2_put, Cond.methodLink RX0 136 yX5_after]
def wsX0_expandList_r11 : List Cond := [Cond.code yX0_expandFn cX0_expandFn 9 none, Cond.fieldLink RX0 43 "MarkedNames$Expander" "variables" "I", Cond.methodLink RX0 142 yX0_areNames, Cond.instanceMethod yX0_areNames, Cond.selects RX0 yX0_areNames yX0_areNames, Cond.code yX0_areNames cX0_areNames 4 (some .boolean), Cond.methodLink RX0 152 yX0_bindVariable, Cond.instanceMethod yX0_bindVariable, Cond.selects RX0 yX0_bindVariable yX0_bindVariable, Cond.code yX0_bindVariable cX0_bindVariable 3 none, Cond.methodLink RX0 159 yX5_findName, Cond.instanceMethod yX5_findName, Cond.selects RX5 yX5_findName yX5_findName, Cond.code yX5_findName cX5_findName 5 (some .int), Cond.methodLink RX0 163 yX0_bind, Cond.instanceMethod yX0_bind, Cond.selects RX0 yX0_bind yX0_bind, Cond.code yX0_bind cX0_bind 4 (some .boolean), Cond.fieldLink RX0 40 "MarkedNames$Expander" "bindings" "I", Cond.methodLink RX0 183 yX7_bind, Cond.instanceMethod yX7_bind, Cond.selects RX7 yX7_bind yX7_bind, Cond.code yX7_bind cX7_bind 5 (some .boolean), Cond.methodLink RX0 155 yX0_putVariables]
def wsX0_expandList_r12 : List Cond := [Cond.instanceMethod yX0_putVariables, Cond.selects RX0 yX0_putVariables yX0_putVariables, Cond.code yX0_putVariables cX0_putVariables 4 none, Cond.constant RX0 158 (91758), Cond.methodLink RX0 99 yX2_putName, Cond.methodLink RX0 105 yX2_putVariable, Cond.instanceMethod yX2_putVariable, Cond.selects RX2 yX2_putVariable yX2_putVariable, Cond.code yX2_putVariable cX2_putVariable 2 none, Cond.code yX0_expandIf cX0_expandIf 5 none, Cond.constant RX0 167 (92518), Cond.code yX0_expandLs cX0_expandLs 6 none, Cond.fieldLink RX0 15 "MarkedNames$Expander" "check" "LMarkedNames$RuleCheck;", Cond.methodLink RX0 172 yX6_isNameWithRules, Cond.instanceMethod yX6_isNameWithRules, Cond.selects RX6 yX6_isNameWithRules yX6_isNameWithRules, Cond.initialized RX6, Cond.code yX6_isNameWithRules cX6_isNameWithRules 5 (some .boolean), Cond.fieldLink RX6 9 "MarkedNames$RuleCheck" "row" "LMarkedNames$Row;", Cond.methodLink RX6 15 yX5_plainLength, Cond.methodLink RX6 21 yX5_wordAt, Cond.methodLink RX6 28 yX6_isRule, Cond.instanceMethod yX6_isRule, Cond.selects RX6 yX6_isRule yX6_isRule]
def wsX0_expandList_r13 : List Cond := [Cond.code yX6_isRule cX6_isRule 4 (some .boolean), Cond.methodLink RX6 31 yX5_after, Cond.methodLink RX6 34 yX6_isPattern, Cond.instanceMethod yX6_isPattern, Cond.selects RX6 yX6_isPattern yX6_isPattern, Cond.code yX6_isPattern cX6_isPattern 7 (some .boolean), Cond.methodLink RX6 45 yX5_isHeld, Cond.methodLink RX6 51 yX5_holders, Cond.instanceMethod yX5_holders, Cond.selects RX5 yX5_holders yX5_holders, Cond.code yX5_holders cX5_holders 6 (some .int), Cond.methodLink RX6 55 yX5_findName, Cond.methodLink RX6 37 yX6_linkUses, Cond.instanceMethod yX6_linkUses, Cond.selects RX6 yX6_linkUses yX6_linkUses, Cond.code yX6_linkUses cX6_linkUses 6 none, Cond.methodLink RX6 59 yX5_setVariable, Cond.instanceMethod yX5_setVariable, Cond.selects RX5 yX5_setVariable yX5_setVariable, Cond.code yX5_setVariable cX5_setVariable 3 none, Cond.methodLink RX6 41 yX6_isTemplate, Cond.instanceMethod yX6_isTemplate, Cond.selects RX6 yX6_isTemplate yX6_isTemplate, Cond.code yX6_isTemplate cX6_isTemplate 6 (some .boolean)]
def wsX0_expandList_r14 : List Cond := [Cond.methodLink RX6 62 yX5_variableAt, Cond.methodLink RX6 65 yX5_hasUse, Cond.instanceMethod yX5_hasUse, Cond.selects RX5 yX5_hasUse yX5_hasUse, Cond.code yX5_hasUse cX5_hasUse 3 (some .boolean), Cond.code yX0_expandTree cX0_expandTree 4 none, Cond.methodLink RX0 65 yX0_expandList, Cond.instanceMethod yX0_expandList, Cond.selects RX0 yX0_expandList yX0_expandList, Cond.methodLink RX0 73 yX0_expandName, Cond.instanceMethod yX0_expandName, Cond.selects RX0 yX0_expandName yX0_expandName, Cond.code yX0_expandName cX0_expandName 4 none, Cond.methodLink RX0 80 yX2_putNumber]
def wsX0_expandList : List Cond := .code yX0_expandList cX0_expandList 5 none :: ((wsX0_expandList_r1 ++ (wsX0_expandList_r2 ++ (wsX0_expandList_r3 ++ (wsX0_expandList_r4 ++ (wsX0_expandList_r5 ++ (wsX0_expandList_r6 ++ (wsX0_expandList_r7 ++ (wsX0_expandList_r8 ++ (wsX0_expandList_r9 ++ (wsX0_expandList_r10 ++ (wsX0_expandList_r11 ++ (wsX0_expandList_r12 ++ (wsX0_expandList_r13 ++ wsX0_expandList_r14))))))))))))) ++ wsX00 ++ wsX20 ++ wsX50 ++ wsX10 ++ wsX40 ++ wsX70 ++ wsX60)
def wsX0_expandLs_r1 : List Cond := [Cond.fieldLink RX0 9 "MarkedNames$Expander" "row" "LMarkedNames$Row;", Cond.fieldLink RX0 15 "MarkedNames$Expander" "check" "LMarkedNames$RuleCheck;", Cond.fieldLink RX0 23 "MarkedNames$Expander" "outcome" "LMarkedNames$Outcome;", Cond.methodLink RX0 136 yX5_after, Cond.instanceMethod yX5_after, Cond.selects RX5 yX5_after yX5_after, Cond.initialized RX5, Cond.code yX5_after cX5_after 2 (some .int), Cond.fieldLink RX5 24 "MarkedNames$Row" "top" "I", Cond.fieldLink RX5 18 "MarkedNames$Row" "size" "[I", Cond.methodLink RX0 139 yX5_plainLength, Cond.instanceMethod yX5_plainLength, Cond.selects RX5 yX5_plainLength yX5_plainLength, Cond.code yX5_plainLength cX5_plainLength 2 (some .int), Cond.methodLink RX5 34 yX5_wordAt, Cond.instanceMethod yX5_wordAt, Cond.selects RX5 yX5_wordAt yX5_wordAt, Cond.code yX5_wordAt cX5_wordAt 2 (some .int), Cond.fieldLink RX5 9 "MarkedNames$Row" "word" "[I", Cond.methodLink RX5 38 yX5_hasDots, Cond.instanceMethod yX5_hasDots, Cond.selects RX5 yX5_hasDots yX5_hasDots, Cond.code yX5_hasDots cX5_hasDots 4 (some .boolean), Cond.methodLink RX5 42 yX5_itemsFrom]
def wsX0_expandLs_r2 : List Cond := [Cond.instanceMethod yX5_itemsFrom, Cond.selects RX5 yX5_itemsFrom yX5_itemsFrom, Cond.code yX5_itemsFrom cX5_itemsFrom 5 (some .int), Cond.methodLink RX0 172 yX6_isNameWithRules, Cond.instanceMethod yX6_isNameWithRules, Cond.selects RX6 yX6_isNameWithRules yX6_isNameWithRules, Cond.initialized RX6, Cond.code yX6_isNameWithRules cX6_isNameWithRules 5 (some .boolean), Cond.fieldLink RX6 9 "MarkedNames$RuleCheck" "row" "LMarkedNames$Row;", Cond.methodLink RX6 15 yX5_plainLength, Cond.methodLink RX6 21 yX5_wordAt, Cond.static yX8_isName, Cond.initialized RX8, Cond.code yX8_isName cX8_isName 1 (some .boolean), Cond.methodLink RX6 28 yX6_isRule, Cond.instanceMethod yX6_isRule, Cond.selects RX6 yX6_isRule yX6_isRule, Cond.code yX6_isRule cX6_isRule 4 (some .boolean), Cond.methodLink RX6 31 yX5_after, Cond.methodLink RX6 34 yX6_isPattern, Cond.instanceMethod yX6_isPattern, Cond.selects RX6 yX6_isPattern yX6_isPattern, Cond.code yX6_isPattern cX6_isPattern 7 (some .boolean), Cond.methodLink RX6 45 yX5_isHeld]
def wsX0_expandLs_r3 : List Cond := [Cond.instanceMethod yX5_isHeld, Cond.selects RX5 yX5_isHeld yX5_isHeld, Cond.code yX5_isHeld cX5_isHeld 3 (some .boolean), Cond.static yX8_isTree, Cond.code yX8_isTree cX8_isTree 1 (some .boolean), Cond.methodLink RX6 51 yX5_holders, Cond.instanceMethod yX5_holders, Cond.selects RX5 yX5_holders yX5_holders, Cond.code yX5_holders cX5_holders 6 (some .int), Cond.methodLink RX6 55 yX5_findName, Cond.instanceMethod yX5_findName, Cond.selects RX5 yX5_findName yX5_findName, Cond.code yX5_findName cX5_findName 5 (some .int), Cond.fieldLink RX5 15 "MarkedNames$Row" "marks" "[I", Cond.methodLink RX6 37 yX6_linkUses, Cond.instanceMethod yX6_linkUses, Cond.selects RX6 yX6_linkUses yX6_linkUses, Cond.code yX6_linkUses cX6_linkUses 6 none, Cond.methodLink RX6 59 yX5_setVariable, Cond.instanceMethod yX5_setVariable, Cond.selects RX5 yX5_setVariable yX5_setVariable, Cond.code yX5_setVariable cX5_setVariable 3 none, Cond.fieldLink RX5 21 "MarkedNames$Row" "use" "[I", Cond.methodLink RX6 41 yX6_isTemplate]
def wsX0_expandLs_r4 : List Cond := [Cond.instanceMethod yX6_isTemplate, Cond.selects RX6 yX6_isTemplate yX6_isTemplate, Cond.code yX6_isTemplate cX6_isTemplate 6 (some .boolean), Cond.methodLink RX6 62 yX5_variableAt, Cond.instanceMethod yX5_variableAt, Cond.selects RX5 yX5_variableAt yX5_variableAt, Cond.code yX5_variableAt cX5_variableAt 2 (some .int), Cond.methodLink RX6 65 yX5_hasUse, Cond.instanceMethod yX5_hasUse, Cond.selects RX5 yX5_hasUse yX5_hasUse, Cond.code yX5_hasUse cX5_hasUse 3 (some .boolean), Cond.methodLink RX0 83 yX2_fail, Cond.instanceMethod yX2_fail, Cond.selects RX2 yX2_fail yX2_fail, Cond.initialized RX2, Cond.code yX2_fail cX2_fail 2 none, Cond.fieldLink RX2 19 "MarkedNames$Outcome" "error" "I", Cond.methodLink RX0 145 yX0_newScope, Cond.instanceMethod yX0_newScope, Cond.selects RX0 yX0_newScope yX0_newScope, Cond.initialized RX0, Cond.code yX0_newScope cX0_newScope 1 (some .int), Cond.fieldLink RX0 36 "MarkedNames$Expander" "scopes" "I", Cond.methodLink RX0 149 yX5_turnScope]
def wsX0_expandLs_r5 : List Cond := [Cond.instanceMethod yX5_turnScope, Cond.selects RX5 yX5_turnScope yX5_turnScope, Cond.code yX5_turnScope cX5_turnScope 5 none, Cond.methodLink RX5 45 yX5_after, Cond.methodLink RX0 163 yX0_bind, Cond.instanceMethod yX0_bind, Cond.selects RX0 yX0_bind yX0_bind, Cond.code yX0_bind cX0_bind 4 (some .boolean), Cond.fieldLink RX0 19 "MarkedNames$Expander" "table" "LMarkedNames$Table;", Cond.fieldLink RX0 40 "MarkedNames$Expander" "bindings" "I", Cond.methodLink RX0 59 yX5_wordAt, Cond.methodLink RX0 86 yX5_marksAt, Cond.instanceMethod yX5_marksAt, Cond.selects RX5 yX5_marksAt yX5_marksAt, Cond.code yX5_marksAt cX5_marksAt 2 (some .int), Cond.methodLink RX0 183 yX7_bind, Cond.instanceMethod yX7_bind, Cond.selects RX7 yX7_bind yX7_bind, Cond.initialized RX7, Cond.code yX7_bind cX7_bind 5 (some .boolean), Cond.fieldLink RX7 33 "MarkedNames$Table" "length" "I", Cond.fieldLink RX7 9 "MarkedNames$Table" "name" "[I", Cond.fieldLink RX7 15 "MarkedNames$Table" "marks" "[I", Cond.fieldLink RX7 18 "MarkedNames$Table" "kind" "[I"]
def wsX0_expandLs_r6 : List Cond := [Cond.fieldLink RX7 21 "MarkedNames$Table" "value" "[I", Cond.methodLink RX0 133 yX0_expandTree, Cond.instanceMethod yX0_expandTree, Cond.selects RX0 yX0_expandTree yX0_expandTree, Cond.code yX0_expandByRules cX0_expandByRules 7 none, Cond.fieldLink RX0 46 "MarkedNames$Expander" "fuel" "I", Cond.fieldLink RX0 32 "MarkedNames$Expander" "filler" "LMarkedNames$Filler;", Cond.methodLink RX0 177 yX1_firstRule, Cond.instanceMethod yX1_firstRule, Cond.selects RX1 yX1_firstRule yX1_firstRule, Cond.initialized RX1, Cond.code yX1_firstRule cX1_firstRule 6 (some .int), Cond.fieldLink RX1 18 "MarkedNames$Filler" "row" "LMarkedNames$Row;", Cond.methodLink RX1 26 yX5_plainLength, Cond.methodLink RX1 32 yX1_matches, Cond.instanceMethod yX1_matches, Cond.selects RX1 yX1_matches yX1_matches, Cond.code yX1_matches cX1_matches 8 (some .boolean), Cond.fieldLink RX1 12 "MarkedNames$Filler" "rounds" "LMarkedNames$Rounds;", Cond.constant RX1 45 (1000000), Cond.methodLink RX1 39 yX1_hasRoomFor, Cond.instanceMethod yX1_hasRoomFor, Cond.selects RX1 yX1_hasRoomFor yX1_hasRoomFor, Cond.code yX1_hasRoomFor cX1_hasRoomFor 5 (some .boolean)]
def wsX0_expandLs_r7 : List Cond := [Cond.methodLink RX1 53 yX5_itemsFrom, Cond.methodLink RX1 69 yX5_hasDots, Cond.methodLink RX1 42 yX4_clear, Cond.instanceMethod yX4_clear, Cond.selects RX4 yX4_clear yX4_clear, Cond.initialized RX4, Cond.code yX4_clear cX4_clear 1 none, Cond.fieldLink RX4 21 "MarkedNames$Rounds" "depth" "I", Cond.methodLink RX1 36 yX5_after, Cond.methodLink RX1 46 yX5_isHeld, Cond.methodLink RX1 50 yX4_isIn, Cond.instanceMethod yX4_isIn, Cond.selects RX4 yX4_isIn yX4_isIn, Cond.code yX4_isIn cX4_isIn 2 (some .boolean), Cond.fieldLink RX4 9 "MarkedNames$Rounds" "held" "[I", Cond.methodLink RX4 25 yX4_hasInner, Cond.instanceMethod yX4_hasInner, Cond.selects RX4 yX4_hasInner yX4_hasInner, Cond.code yX4_hasInner cX4_hasInner 1 (some .boolean), Cond.methodLink RX1 56 yX4_enter, Cond.instanceMethod yX4_enter, Cond.selects RX4 yX4_enter yX4_enter, Cond.code yX4_enter cX4_enter 3 none, Cond.fieldLink RX4 15 "MarkedNames$Rounds" "round" "[I"]
def wsX0_expandLs_r8 : List Cond := [Cond.fieldLink RX4 18 "MarkedNames$Rounds" "rounds" "[I", Cond.methodLink RX1 60 yX5_wordAt, Cond.methodLink RX1 63 yX4_leave, Cond.instanceMethod yX4_leave, Cond.selects RX4 yX4_leave yX4_leave, Cond.code yX4_leave cX4_leave 2 (some .int), Cond.methodLink RX0 180 yX1_fill, Cond.instanceMethod yX1_fill, Cond.selects RX1 yX1_fill yX1_fill, Cond.code yX1_fill cX1_fill 8 (some .int), Cond.fieldLink RX1 72 "MarkedNames$Filler" "pattern" "I", Cond.fieldLink RX1 76 "MarkedNames$Filler" "matched" "I", Cond.fieldLink RX1 79 "MarkedNames$Filler" "filled" "I", Cond.fieldLink RX1 22 "MarkedNames$Filler" "outcome" "LMarkedNames$Outcome;", Cond.methodLink RX1 82 yX5_startTree, Cond.instanceMethod yX5_startTree, Cond.selects RX5 yX5_startTree yX5_startTree, Cond.code yX5_startTree cX5_startTree 1 (some .int), Cond.fieldLink RX5 28 "MarkedNames$Row" "open" "I", Cond.methodLink RX1 91 yX1_roundsFor, Cond.instanceMethod yX1_roundsFor, Cond.selects RX1 yX1_roundsFor yX1_roundsFor, Cond.code yX1_roundsFor cX1_roundsFor 7 (some .int), Cond.methodLink RX1 111 Lib.Math.max.name]
def wsX0_expandLs_r9 : List Cond := [Cond.static Lib.Math.max.name, Cond.initialized "java/lang/Math", Cond.code Lib.Math.max.name Lib.Math.max.code 2 (some .int), Cond.methodLink RX1 98 yX5_variableAt, Cond.methodLink RX1 104 yX1_matchOf, Cond.instanceMethod yX1_matchOf, Cond.selects RX1 yX1_matchOf yX1_matchOf, Cond.code yX1_matchOf cX1_matchOf 9 (some .int), Cond.methodLink RX1 125 yX4_roundOf, Cond.instanceMethod yX4_roundOf, Cond.selects RX4 yX4_roundOf yX4_roundOf, Cond.code yX4_roundOf cX4_roundOf 2 (some .int), Cond.methodLink RX1 108 yX2_fail, Cond.methodLink RX1 94 yX1_fillToken, Cond.instanceMethod yX1_fillToken, Cond.selects RX1 yX1_fillToken yX1_fillToken, Cond.code yX1_fillToken cX1_fillToken 6 none, Cond.methodLink RX1 119 yX5_marksAt, Cond.methodLink RX1 122 yX5_add, Cond.instanceMethod yX5_add, Cond.selects RX5 yX5_add yX5_add, Cond.code yX5_add cX5_add 3 none, Cond.methodLink RX5 31 yX5_closeBracket, Cond.instanceMethod yX5_closeBracket]
def wsX0_expandLs_r10 : List Cond := [Cond.selects RX5 yX5_closeBracket yX5_closeBracket, Cond.code yX5_closeBracket cX5_closeBracket 2 none, Cond.code yX0_expandEach cX0_expandEach 6 none, Cond.methodLink RX0 127 yX5_itemsFrom, Cond.methodLink RX0 130 yX2_put, Cond.instanceMethod yX2_put, Cond.selects RX2 yX2_put yX2_put, Cond.code yX2_put cX2_put 2 none, Cond.fieldLink RX2 15 "MarkedNames$Outcome" "length" "I", Cond.fieldLink RX2 9 "MarkedNames$Outcome" "text" "[I", Cond.code yX0_expandFn cX0_expandFn 9 none, Cond.fieldLink RX0 43 "MarkedNames$Expander" "variables" "I", Cond.methodLink RX0 142 yX0_areNames, Cond.instanceMethod yX0_areNames, Cond.selects RX0 yX0_areNames yX0_areNames, Cond.code yX0_areNames cX0_areNames 4 (some .boolean), Cond.methodLink RX0 152 yX0_bindVariable, Cond.instanceMethod yX0_bindVariable, Cond.selects RX0 yX0_bindVariable yX0_bindVariable, Cond.code yX0_bindVariable cX0_bindVariable 3 none, Cond.methodLink RX0 159 yX5_findName, Cond.methodLink RX0 155 yX0_putVariables, Cond.instanceMethod yX0_putVariables, Cond.selects RX0 yX0_putVariables yX0_putVariables]
def wsX0_expandLs_r11 : List Cond := [Cond.code yX0_putVariables cX0_putVariables 4 none, Cond.constant RX0 158 (91758), Cond.methodLink RX0 99 yX2_putName, Cond.instanceMethod yX2_putName, Cond.selects RX2 yX2_putName yX2_putName, Cond.code yX2_putName cX2_putName 3 none, Cond.methodLink RX2 22 yX2_put, Cond.methodLink RX0 105 yX2_putVariable, Cond.instanceMethod yX2_putVariable, Cond.selects RX2 yX2_putVariable yX2_putVariable, Cond.code yX2_putVariable cX2_putVariable 2 none, Cond.methodLink RX2 26 yX2_putNumber, Cond.instanceMethod yX2_putNumber, Cond.selects RX2 yX2_putNumber yX2_putNumber, Cond.code yX2_putNumber cX2_putNumber 2 none, Cond.code yX0_expandIf cX0_expandIf 5 none, Cond.constant RX0 167 (92518), Cond.code yX0_expandList cX0_expandList 5 none, Cond.methodLink RX0 93 yX0_meaningOf, Cond.instanceMethod yX0_meaningOf, Cond.selects RX0 yX0_meaningOf yX0_meaningOf, Cond.code yX0_meaningOf cX0_meaningOf 3 (some .int), Cond.methodLink RX0 89 yX7_meaning, Cond.instanceMethod yX7_meaning]
def wsX0_expandLs_r12 : List Cond := [Cond.selects RX7 yX7_meaning yX7_meaning, Cond.code yX7_meaning cX7_meaning 6 (some .int), Cond.methodLink RX7 50 yJ6_bitCount_0f7a4, Cond.static yJ6_bitCount_0f7a4, Cond.initialized RJ6, Cond.code yJ6_bitCount_0f7a4 cJ6_bitCount_0f7a4 1 (some .int), Cond.constant RJ6 265 (1431655765), Cond.constant RJ6 266 (858993459), Cond.constant RJ6 267 (252645135), Cond.methodLink RX7 56 yX7_holdsAllOthers, Cond.instanceMethod yX7_holdsAllOthers, Cond.selects RX7 yX7_holdsAllOthers yX7_holdsAllOthers, Cond.code yX7_holdsAllOthers cX7_holdsAllOthers 5 (some .boolean), Cond.methodLink RX0 96 yX7_kindOf, Cond.instanceMethod yX7_kindOf, Cond.selects RX7 yX7_kindOf yX7_kindOf, Cond.code yX7_kindOf cX7_kindOf 2 (some .int), Cond.methodLink RX0 108 yX0_expandFn, Cond.instanceMethod yX0_expandFn, Cond.selects RX0 yX0_expandFn yX0_expandFn, Cond.methodLink RX0 111 yX0_expandIf, Cond.instanceMethod yX0_expandIf, Cond.selects RX0 yX0_expandIf yX0_expandIf, Cond.methodLink RX0 114 yX0_expandQ]
def wsX0_expandLs_r13 : List Cond := [Cond.instanceMethod yX0_expandQ, Cond.selects RX0 yX0_expandQ yX0_expandQ, Cond.code yX0_expandQ cX0_expandQ 2 none, Cond.methodLink RX0 168 yX2_putTree, Cond.instanceMethod yX2_putTree, Cond.selects RX2 yX2_putTree yX2_putTree, Cond.code yX2_putTree cX2_putTree 5 none, Cond.methodLink RX2 39 yX5_after, Cond.methodLink RX2 45 yX5_wordAt, Cond.methodLink RX2 48 yX2_putWord, Cond.instanceMethod yX2_putWord, Cond.selects RX2 yX2_putWord yX2_putWord, Cond.code yX2_putWord cX2_putWord 2 none, Cond.methodLink RX2 33 yX2_putName, Cond.static yX8_isNumber, Cond.code yX8_isNumber cX8_isNumber 1 (some .boolean), Cond.methodLink RX0 117 yX0_expandLs, Cond.instanceMethod yX0_expandLs, Cond.selects RX0 yX0_expandLs yX0_expandLs, Cond.methodLink RX0 102 yX7_valueOf, Cond.instanceMethod yX7_valueOf, Cond.selects RX7 yX7_valueOf yX7_valueOf, Cond.code yX7_valueOf cX7_valueOf 2 (some .int), Cond.methodLink RX0 120 yX0_expandByRules]
def wsX0_expandLs_r14 : List Cond := [Cond.instanceMethod yX0_expandByRules, Cond.selects RX0 yX0_expandByRules yX0_expandByRules, Cond.methodLink RX0 124 yX0_expandEach, Cond.instanceMethod yX0_expandEach, Cond.selects RX0 yX0_expandEach yX0_expandEach, Cond.code yX0_expandTree cX0_expandTree 4 none, Cond.methodLink RX0 65 yX0_expandList, Cond.instanceMethod yX0_expandList, Cond.selects RX0 yX0_expandList yX0_expandList, Cond.methodLink RX0 73 yX0_expandName, Cond.instanceMethod yX0_expandName, Cond.selects RX0 yX0_expandName yX0_expandName, Cond.code yX0_expandName cX0_expandName 4 none, Cond.methodLink RX0 80 yX2_putNumber]
def wsX0_expandLs : List Cond := .code yX0_expandLs cX0_expandLs 6 none :: ((wsX0_expandLs_r1 ++ (wsX0_expandLs_r2 ++ (wsX0_expandLs_r3 ++ (wsX0_expandLs_r4 ++ (wsX0_expandLs_r5 ++ (wsX0_expandLs_r6 ++ (wsX0_expandLs_r7 ++ (wsX0_expandLs_r8 ++ (wsX0_expandLs_r9 ++ (wsX0_expandLs_r10 ++ (wsX0_expandLs_r11 ++ (wsX0_expandLs_r12 ++ (wsX0_expandLs_r13 ++ wsX0_expandLs_r14))))))))))))) ++ wsX00 ++ wsX20 ++ wsX50 ++ wsX10 ++ wsX40 ++ wsX70 ++ wsX60)
def wsX0_expandTree_r1 : List Cond := [Cond.fieldLink RX0 23 "MarkedNames$Expander" "outcome" "LMarkedNames$Outcome;", Cond.fieldLink RX0 9 "MarkedNames$Expander" "row" "LMarkedNames$Row;", Cond.methodLink RX0 59 yX5_wordAt, Cond.instanceMethod yX5_wordAt, Cond.selects RX5 yX5_wordAt yX5_wordAt, Cond.initialized RX5, Cond.code yX5_wordAt cX5_wordAt 2 (some .int), Cond.fieldLink RX5 24 "MarkedNames$Row" "top" "I", Cond.fieldLink RX5 9 "MarkedNames$Row" "word" "[I", Cond.methodLink RX0 65 yX0_expandList, Cond.instanceMethod yX0_expandList, Cond.selects RX0 yX0_expandList yX0_expandList, Cond.initialized RX0, Cond.static yX8_isName, Cond.initialized RX8, Cond.code yX8_isName cX8_isName 1 (some .boolean), Cond.methodLink RX0 73 yX0_expandName, Cond.instanceMethod yX0_expandName, Cond.selects RX0 yX0_expandName yX0_expandName, Cond.code yX0_expandName cX0_expandName 4 none, Cond.fieldLink RX0 19 "MarkedNames$Expander" "table" "LMarkedNames$Table;", Cond.methodLink RX0 93 yX0_meaningOf, Cond.instanceMethod yX0_meaningOf, Cond.selects RX0 yX0_meaningOf yX0_meaningOf]
def wsX0_expandTree_r2 : List Cond := [Cond.code yX0_meaningOf cX0_meaningOf 3 (some .int), Cond.methodLink RX0 86 yX5_marksAt, Cond.instanceMethod yX5_marksAt, Cond.selects RX5 yX5_marksAt yX5_marksAt, Cond.code yX5_marksAt cX5_marksAt 2 (some .int), Cond.fieldLink RX5 15 "MarkedNames$Row" "marks" "[I", Cond.methodLink RX0 89 yX7_meaning, Cond.instanceMethod yX7_meaning, Cond.selects RX7 yX7_meaning yX7_meaning, Cond.initialized RX7, Cond.code yX7_meaning cX7_meaning 6 (some .int), Cond.fieldLink RX7 33 "MarkedNames$Table" "length" "I", Cond.fieldLink RX7 9 "MarkedNames$Table" "name" "[I", Cond.fieldLink RX7 15 "MarkedNames$Table" "marks" "[I", Cond.methodLink RX7 50 yJ6_bitCount_0f7a4, Cond.static yJ6_bitCount_0f7a4, Cond.initialized RJ6, Cond.code yJ6_bitCount_0f7a4 cJ6_bitCount_0f7a4 1 (some .int), Cond.constant RJ6 265 (1431655765), Cond.constant RJ6 266 (858993459), Cond.constant RJ6 267 (252645135), Cond.methodLink RX7 56 yX7_holdsAllOthers, Cond.instanceMethod yX7_holdsAllOthers, Cond.selects RX7 yX7_holdsAllOthers yX7_holdsAllOthers]
def wsX0_expandTree_r3 : List Cond := [Cond.code yX7_holdsAllOthers cX7_holdsAllOthers 5 (some .boolean), Cond.methodLink RX0 83 yX2_fail, Cond.instanceMethod yX2_fail, Cond.selects RX2 yX2_fail yX2_fail, Cond.initialized RX2, Cond.code yX2_fail cX2_fail 2 none, Cond.fieldLink RX2 19 "MarkedNames$Outcome" "error" "I", Cond.methodLink RX0 96 yX7_kindOf, Cond.instanceMethod yX7_kindOf, Cond.selects RX7 yX7_kindOf yX7_kindOf, Cond.code yX7_kindOf cX7_kindOf 2 (some .int), Cond.fieldLink RX7 18 "MarkedNames$Table" "kind" "[I", Cond.methodLink RX0 99 yX2_putName, Cond.instanceMethod yX2_putName, Cond.selects RX2 yX2_putName yX2_putName, Cond.code yX2_putName cX2_putName 3 none, Cond.methodLink RX2 22 yX2_put, Cond.instanceMethod yX2_put, Cond.selects RX2 yX2_put yX2_put, Cond.code yX2_put cX2_put 2 none, Cond.fieldLink RX2 15 "MarkedNames$Outcome" "length" "I", Cond.fieldLink RX2 9 "MarkedNames$Outcome" "text" "[I", Cond.methodLink RX0 102 yX7_valueOf, Cond.instanceMethod yX7_valueOf]
def wsX0_expandTree_r4 : List Cond := [Cond.selects RX7 yX7_valueOf yX7_valueOf, Cond.code yX7_valueOf cX7_valueOf 2 (some .int), Cond.fieldLink RX7 21 "MarkedNames$Table" "value" "[I", Cond.methodLink RX0 105 yX2_putVariable, Cond.instanceMethod yX2_putVariable, Cond.selects RX2 yX2_putVariable yX2_putVariable, Cond.code yX2_putVariable cX2_putVariable 2 none, Cond.methodLink RX2 26 yX2_putNumber, Cond.instanceMethod yX2_putNumber, Cond.selects RX2 yX2_putNumber yX2_putNumber, Cond.code yX2_putNumber cX2_putNumber 2 none, Cond.static yX8_isNumber, Cond.code yX8_isNumber cX8_isNumber 1 (some .boolean), Cond.methodLink RX0 80 yX2_putNumber, Cond.code yX0_expandByRules cX0_expandByRules 7 none, Cond.fieldLink RX0 46 "MarkedNames$Expander" "fuel" "I", Cond.fieldLink RX0 32 "MarkedNames$Expander" "filler" "LMarkedNames$Filler;", Cond.methodLink RX0 145 yX0_newScope, Cond.instanceMethod yX0_newScope, Cond.selects RX0 yX0_newScope yX0_newScope, Cond.code yX0_newScope cX0_newScope 1 (some .int), Cond.fieldLink RX0 36 "MarkedNames$Expander" "scopes" "I", Cond.methodLink RX0 149 yX5_turnScope, Cond.instanceMethod yX5_turnScope]
def wsX0_expandTree_r5 : List Cond := [Cond.selects RX5 yX5_turnScope yX5_turnScope, Cond.code yX5_turnScope cX5_turnScope 5 none, Cond.methodLink RX5 45 yX5_after, Cond.instanceMethod yX5_after, Cond.selects RX5 yX5_after yX5_after, Cond.code yX5_after cX5_after 2 (some .int), Cond.fieldLink RX5 18 "MarkedNames$Row" "size" "[I", Cond.methodLink RX0 177 yX1_firstRule, Cond.instanceMethod yX1_firstRule, Cond.selects RX1 yX1_firstRule yX1_firstRule, Cond.initialized RX1, Cond.code yX1_firstRule cX1_firstRule 6 (some .int), Cond.fieldLink RX1 18 "MarkedNames$Filler" "row" "LMarkedNames$Row;", Cond.methodLink RX1 26 yX5_plainLength, Cond.instanceMethod yX5_plainLength, Cond.selects RX5 yX5_plainLength yX5_plainLength, Cond.code yX5_plainLength cX5_plainLength 2 (some .int), Cond.methodLink RX5 34 yX5_wordAt, Cond.methodLink RX5 38 yX5_hasDots, Cond.instanceMethod yX5_hasDots, Cond.selects RX5 yX5_hasDots yX5_hasDots, Cond.code yX5_hasDots cX5_hasDots 4 (some .boolean), Cond.methodLink RX5 42 yX5_itemsFrom, Cond.instanceMethod yX5_itemsFrom]
def wsX0_expandTree_r6 : List Cond := [Cond.selects RX5 yX5_itemsFrom yX5_itemsFrom, Cond.code yX5_itemsFrom cX5_itemsFrom 5 (some .int), Cond.methodLink RX1 32 yX1_matches, Cond.instanceMethod yX1_matches, Cond.selects RX1 yX1_matches yX1_matches, Cond.code yX1_matches cX1_matches 8 (some .boolean), Cond.fieldLink RX1 12 "MarkedNames$Filler" "rounds" "LMarkedNames$Rounds;", Cond.constant RX1 45 (1000000), Cond.methodLink RX1 39 yX1_hasRoomFor, Cond.instanceMethod yX1_hasRoomFor, Cond.selects RX1 yX1_hasRoomFor yX1_hasRoomFor, Cond.code yX1_hasRoomFor cX1_hasRoomFor 5 (some .boolean), Cond.methodLink RX1 53 yX5_itemsFrom, Cond.methodLink RX1 69 yX5_hasDots, Cond.methodLink RX1 42 yX4_clear, Cond.instanceMethod yX4_clear, Cond.selects RX4 yX4_clear yX4_clear, Cond.initialized RX4, Cond.code yX4_clear cX4_clear 1 none, Cond.fieldLink RX4 21 "MarkedNames$Rounds" "depth" "I", Cond.methodLink RX1 36 yX5_after, Cond.methodLink RX1 46 yX5_isHeld, Cond.instanceMethod yX5_isHeld, Cond.selects RX5 yX5_isHeld yX5_isHeld]
def wsX0_expandTree_r7 : List Cond := [Cond.code yX5_isHeld cX5_isHeld 3 (some .boolean), Cond.methodLink RX1 50 yX4_isIn, Cond.instanceMethod yX4_isIn, Cond.selects RX4 yX4_isIn yX4_isIn, Cond.code yX4_isIn cX4_isIn 2 (some .boolean), Cond.fieldLink RX4 9 "MarkedNames$Rounds" "held" "[I", Cond.methodLink RX4 25 yX4_hasInner, Cond.instanceMethod yX4_hasInner, Cond.selects RX4 yX4_hasInner yX4_hasInner, Cond.code yX4_hasInner cX4_hasInner 1 (some .boolean), Cond.methodLink RX1 56 yX4_enter, Cond.instanceMethod yX4_enter, Cond.selects RX4 yX4_enter yX4_enter, Cond.code yX4_enter cX4_enter 3 none, Cond.fieldLink RX4 15 "MarkedNames$Rounds" "round" "[I", Cond.fieldLink RX4 18 "MarkedNames$Rounds" "rounds" "[I", Cond.methodLink RX1 60 yX5_wordAt, Cond.methodLink RX1 63 yX4_leave, Cond.instanceMethod yX4_leave, Cond.selects RX4 yX4_leave yX4_leave, Cond.code yX4_leave cX4_leave 2 (some .int), Cond.methodLink RX0 180 yX1_fill, Cond.instanceMethod yX1_fill, Cond.selects RX1 yX1_fill yX1_fill]
def wsX0_expandTree_r8 : List Cond := [Cond.code yX1_fill cX1_fill 8 (some .int), Cond.fieldLink RX1 72 "MarkedNames$Filler" "pattern" "I", Cond.fieldLink RX1 76 "MarkedNames$Filler" "matched" "I", Cond.fieldLink RX1 79 "MarkedNames$Filler" "filled" "I", Cond.fieldLink RX1 22 "MarkedNames$Filler" "outcome" "LMarkedNames$Outcome;", Cond.methodLink RX1 82 yX5_startTree, Cond.instanceMethod yX5_startTree, Cond.selects RX5 yX5_startTree yX5_startTree, Cond.code yX5_startTree cX5_startTree 1 (some .int), Cond.fieldLink RX5 28 "MarkedNames$Row" "open" "I", Cond.methodLink RX1 91 yX1_roundsFor, Cond.instanceMethod yX1_roundsFor, Cond.selects RX1 yX1_roundsFor yX1_roundsFor, Cond.code yX1_roundsFor cX1_roundsFor 7 (some .int), Cond.methodLink RX1 111 Lib.Math.max.name, Cond.static Lib.Math.max.name, Cond.initialized "java/lang/Math", Cond.code Lib.Math.max.name Lib.Math.max.code 2 (some .int), Cond.methodLink RX1 98 yX5_variableAt, Cond.instanceMethod yX5_variableAt, Cond.selects RX5 yX5_variableAt yX5_variableAt, Cond.code yX5_variableAt cX5_variableAt 2 (some .int), Cond.fieldLink RX5 21 "MarkedNames$Row" "use" "[I", Cond.methodLink RX1 104 yX1_matchOf]
def wsX0_expandTree_r9 : List Cond := [Cond.instanceMethod yX1_matchOf, Cond.selects RX1 yX1_matchOf yX1_matchOf, Cond.code yX1_matchOf cX1_matchOf 9 (some .int), Cond.methodLink RX1 125 yX4_roundOf, Cond.instanceMethod yX4_roundOf, Cond.selects RX4 yX4_roundOf yX4_roundOf, Cond.code yX4_roundOf cX4_roundOf 2 (some .int), Cond.methodLink RX1 108 yX2_fail, Cond.methodLink RX1 94 yX1_fillToken, Cond.instanceMethod yX1_fillToken, Cond.selects RX1 yX1_fillToken yX1_fillToken, Cond.code yX1_fillToken cX1_fillToken 6 none, Cond.static yX8_isTree, Cond.code yX8_isTree cX8_isTree 1 (some .boolean), Cond.methodLink RX1 119 yX5_marksAt, Cond.methodLink RX1 122 yX5_add, Cond.instanceMethod yX5_add, Cond.selects RX5 yX5_add yX5_add, Cond.code yX5_add cX5_add 3 none, Cond.methodLink RX5 31 yX5_closeBracket, Cond.instanceMethod yX5_closeBracket, Cond.selects RX5 yX5_closeBracket yX5_closeBracket, Cond.code yX5_closeBracket cX5_closeBracket 2 none, Cond.methodLink RX0 133 yX0_expandTree]
def wsX0_expandTree_r10 : List Cond := [Cond.instanceMethod yX0_expandTree, Cond.selects RX0 yX0_expandTree yX0_expandTree, Cond.code yX0_expandEach cX0_expandEach 6 none, Cond.methodLink RX0 127 yX5_itemsFrom, Cond.methodLink RX0 130 yX2_put, Cond.methodLink RX0 136 yX5_after, Cond.code yX0_expandFn cX0_expandFn 9 none, Cond.fieldLink RX0 43 "MarkedNames$Expander" "variables" "I", Cond.methodLink RX0 139 yX5_plainLength, Cond.methodLink RX0 142 yX0_areNames, Cond.instanceMethod yX0_areNames, Cond.selects RX0 yX0_areNames yX0_areNames, Cond.code yX0_areNames cX0_areNames 4 (some .boolean), Cond.methodLink RX0 152 yX0_bindVariable, Cond.instanceMethod yX0_bindVariable, Cond.selects RX0 yX0_bindVariable yX0_bindVariable, Cond.code yX0_bindVariable cX0_bindVariable 3 none, Cond.methodLink RX0 159 yX5_findName, Cond.instanceMethod yX5_findName, Cond.selects RX5 yX5_findName yX5_findName, Cond.code yX5_findName cX5_findName 5 (some .int), Cond.methodLink RX0 163 yX0_bind, Cond.instanceMethod yX0_bind, Cond.selects RX0 yX0_bind yX0_bind]
def wsX0_expandTree_r11 : List Cond := [Cond.code yX0_bind cX0_bind 4 (some .boolean), Cond.fieldLink RX0 40 "MarkedNames$Expander" "bindings" "I", Cond.methodLink RX0 183 yX7_bind, Cond.instanceMethod yX7_bind, Cond.selects RX7 yX7_bind yX7_bind, Cond.code yX7_bind cX7_bind 5 (some .boolean), Cond.methodLink RX0 155 yX0_putVariables, Cond.instanceMethod yX0_putVariables, Cond.selects RX0 yX0_putVariables yX0_putVariables, Cond.code yX0_putVariables cX0_putVariables 4 none, Cond.constant RX0 158 (91758), Cond.code yX0_expandIf cX0_expandIf 5 none, Cond.constant RX0 167 (92518), Cond.code yX0_expandList cX0_expandList 5 none, Cond.methodLink RX0 108 yX0_expandFn, Cond.instanceMethod yX0_expandFn, Cond.selects RX0 yX0_expandFn yX0_expandFn, Cond.methodLink RX0 111 yX0_expandIf, Cond.instanceMethod yX0_expandIf, Cond.selects RX0 yX0_expandIf yX0_expandIf, Cond.methodLink RX0 114 yX0_expandQ, Cond.instanceMethod yX0_expandQ, Cond.selects RX0 yX0_expandQ yX0_expandQ, Cond.code yX0_expandQ cX0_expandQ 2 none]
def wsX0_expandTree_r12 : List Cond := [Cond.methodLink RX0 168 yX2_putTree, Cond.instanceMethod yX2_putTree, Cond.selects RX2 yX2_putTree yX2_putTree, Cond.code yX2_putTree cX2_putTree 5 none, Cond.methodLink RX2 39 yX5_after, Cond.methodLink RX2 45 yX5_wordAt, Cond.methodLink RX2 48 yX2_putWord, Cond.instanceMethod yX2_putWord, Cond.selects RX2 yX2_putWord yX2_putWord, Cond.code yX2_putWord cX2_putWord 2 none, Cond.methodLink RX2 33 yX2_putName, Cond.methodLink RX0 117 yX0_expandLs, Cond.instanceMethod yX0_expandLs, Cond.selects RX0 yX0_expandLs yX0_expandLs, Cond.methodLink RX0 120 yX0_expandByRules, Cond.instanceMethod yX0_expandByRules, Cond.selects RX0 yX0_expandByRules yX0_expandByRules, Cond.methodLink RX0 124 yX0_expandEach, Cond.instanceMethod yX0_expandEach, Cond.selects RX0 yX0_expandEach yX0_expandEach, Cond.code yX0_expandLs cX0_expandLs 6 none, Cond.fieldLink RX0 15 "MarkedNames$Expander" "check" "LMarkedNames$RuleCheck;", Cond.methodLink RX0 172 yX6_isNameWithRules, Cond.instanceMethod yX6_isNameWithRules]
def wsX0_expandTree_r13 : List Cond := [Cond.selects RX6 yX6_isNameWithRules yX6_isNameWithRules, Cond.initialized RX6, Cond.code yX6_isNameWithRules cX6_isNameWithRules 5 (some .boolean), Cond.fieldLink RX6 9 "MarkedNames$RuleCheck" "row" "LMarkedNames$Row;", Cond.methodLink RX6 15 yX5_plainLength, Cond.methodLink RX6 21 yX5_wordAt, Cond.methodLink RX6 28 yX6_isRule, Cond.instanceMethod yX6_isRule, Cond.selects RX6 yX6_isRule yX6_isRule, Cond.code yX6_isRule cX6_isRule 4 (some .boolean), Cond.methodLink RX6 31 yX5_after, Cond.methodLink RX6 34 yX6_isPattern, Cond.instanceMethod yX6_isPattern, Cond.selects RX6 yX6_isPattern yX6_isPattern, Cond.code yX6_isPattern cX6_isPattern 7 (some .boolean), Cond.methodLink RX6 45 yX5_isHeld, Cond.methodLink RX6 51 yX5_holders, Cond.instanceMethod yX5_holders, Cond.selects RX5 yX5_holders yX5_holders, Cond.code yX5_holders cX5_holders 6 (some .int), Cond.methodLink RX6 55 yX5_findName, Cond.methodLink RX6 37 yX6_linkUses, Cond.instanceMethod yX6_linkUses, Cond.selects RX6 yX6_linkUses yX6_linkUses]
def wsX0_expandTree_r14 : List Cond := [Cond.code yX6_linkUses cX6_linkUses 6 none, Cond.methodLink RX6 59 yX5_setVariable, Cond.instanceMethod yX5_setVariable, Cond.selects RX5 yX5_setVariable yX5_setVariable, Cond.code yX5_setVariable cX5_setVariable 3 none, Cond.methodLink RX6 41 yX6_isTemplate, Cond.instanceMethod yX6_isTemplate, Cond.selects RX6 yX6_isTemplate yX6_isTemplate, Cond.code yX6_isTemplate cX6_isTemplate 6 (some .boolean), Cond.methodLink RX6 62 yX5_variableAt, Cond.methodLink RX6 65 yX5_hasUse, Cond.instanceMethod yX5_hasUse, Cond.selects RX5 yX5_hasUse yX5_hasUse, Cond.code yX5_hasUse cX5_hasUse 3 (some .boolean)]
def wsX0_expandTree : List Cond := .code yX0_expandTree cX0_expandTree 4 none :: ((wsX0_expandTree_r1 ++ (wsX0_expandTree_r2 ++ (wsX0_expandTree_r3 ++ (wsX0_expandTree_r4 ++ (wsX0_expandTree_r5 ++ (wsX0_expandTree_r6 ++ (wsX0_expandTree_r7 ++ (wsX0_expandTree_r8 ++ (wsX0_expandTree_r9 ++ (wsX0_expandTree_r10 ++ (wsX0_expandTree_r11 ++ (wsX0_expandTree_r12 ++ (wsX0_expandTree_r13 ++ wsX0_expandTree_r14))))))))))))) ++ wsX00 ++ wsX20 ++ wsX50 ++ wsX10 ++ wsX40 ++ wsX70 ++ wsX60)
def wsX2_init : List Cond := .code yX2_init cX2_init 1 none :: ([.methodLink RX2 3 objectInit, .instanceMethod objectInit, .code objectInit ⟨#[0xb1]⟩ 1 none, .arrayClass .int, .fieldLink RX2 9 "MarkedNames$Outcome" "text" "[I"] ++ wsX20)
def wsX2_clear : List Cond := .code yX2_clear cX2_clear 1 none :: ([.fieldLink RX2 15 "MarkedNames$Outcome" "length" "I", .fieldLink RX2 19 "MarkedNames$Outcome" "error" "I"] ++ wsX20)
def wsX2_charAt : List Cond := .code yX2_charAt cX2_charAt 2 (some .int) :: ([.fieldLink RX2 15 "MarkedNames$Outcome" "length" "I", .fieldLink RX2 9 "MarkedNames$Outcome" "text" "[I"] ++ wsX20)
def wsX3_init : List Cond := .code yX3_init cX3_init 2 none :: ([.methodLink RX3 3 objectInit, .instanceMethod objectInit, .code objectInit ⟨#[0xb1]⟩ 1 none, .fieldLink RX3 9 "MarkedNames$Reader" "row" "LMarkedNames$Row;"] ++ wsX30)
def wsX5_restart : List Cond := .code yX5_restart cX5_restart 1 none :: ([.fieldLink RX5 24 "MarkedNames$Row" "top" "I", .fieldLink RX5 28 "MarkedNames$Row" "open" "I"] ++ wsX50)
def wsX3_isWhole : List Cond := .code yX3_isWhole cX3_isWhole 1 (some .boolean) :: ([.fieldLink RX3 20 "MarkedNames$Reader" "depth" "I", .fieldLink RX3 9 "MarkedNames$Reader" "row" "LMarkedNames$Row;"] ++ wsX30 ++ wsX50)
def wsX3_runLength : List Cond := .code yX3_runLength cX3_runLength 7 (some .int) :: ([])
def wsX3_readName : List Cond := .code yX3_readName cX3_readName 6 (some .int) :: ([.fieldLink RX3 9 "MarkedNames$Reader" "row" "LMarkedNames$Row;", .methodLink RX3 63 yX5_add, .instanceMethod yX5_add, .selects RX5 yX5_add yX5_add, .initialized RX5, .code yX5_add cX5_add 3 none, .fieldLink RX5 24 "MarkedNames$Row" "top" "I", .fieldLink RX5 9 "MarkedNames$Row" "word" "[I", .fieldLink RX5 15 "MarkedNames$Row" "marks" "[I", .fieldLink RX5 18 "MarkedNames$Row" "size" "[I", .fieldLink RX5 21 "MarkedNames$Row" "use" "[I", .fieldLink RX5 28 "MarkedNames$Row" "open" "I", .methodLink RX5 31 yX5_closeBracket, .instanceMethod yX5_closeBracket, .selects RX5 yX5_closeBracket yX5_closeBracket, .code yX5_closeBracket cX5_closeBracket 2 none] ++ wsX30 ++ wsX50)
def wsX3_readNumber : List Cond := .code yX3_readNumber cX3_readNumber 6 (some .int) :: ([.fieldLink RX3 9 "MarkedNames$Reader" "row" "LMarkedNames$Row;", .methodLink RX3 63 yX5_add, .instanceMethod yX5_add, .selects RX5 yX5_add yX5_add, .initialized RX5, .code yX5_add cX5_add 3 none, .fieldLink RX5 24 "MarkedNames$Row" "top" "I", .fieldLink RX5 9 "MarkedNames$Row" "word" "[I", .fieldLink RX5 15 "MarkedNames$Row" "marks" "[I", .fieldLink RX5 18 "MarkedNames$Row" "size" "[I", .fieldLink RX5 21 "MarkedNames$Row" "use" "[I", .fieldLink RX5 28 "MarkedNames$Row" "open" "I", .methodLink RX5 31 yX5_closeBracket, .instanceMethod yX5_closeBracket, .selects RX5 yX5_closeBracket yX5_closeBracket, .code yX5_closeBracket cX5_closeBracket 2 none] ++ wsX30 ++ wsX50)
def wsX3_readOpen : List Cond := .code yX3_readOpen cX3_readOpen 1 (some .int) :: ([.fieldLink RX3 20 "MarkedNames$Reader" "depth" "I", .fieldLink RX3 9 "MarkedNames$Reader" "row" "LMarkedNames$Row;", .methodLink RX3 63 yX5_add, .instanceMethod yX5_add, .selects RX5 yX5_add yX5_add, .initialized RX5, .code yX5_add cX5_add 3 none, .fieldLink RX5 24 "MarkedNames$Row" "top" "I", .fieldLink RX5 9 "MarkedNames$Row" "word" "[I", .fieldLink RX5 15 "MarkedNames$Row" "marks" "[I", .fieldLink RX5 18 "MarkedNames$Row" "size" "[I", .fieldLink RX5 21 "MarkedNames$Row" "use" "[I", .fieldLink RX5 28 "MarkedNames$Row" "open" "I", .methodLink RX5 31 yX5_closeBracket, .instanceMethod yX5_closeBracket, .selects RX5 yX5_closeBracket yX5_closeBracket, .code yX5_closeBracket cX5_closeBracket 2 none] ++ wsX30 ++ wsX50)
def wsX3_readClose : List Cond := .code yX3_readClose cX3_readClose 1 (some .int) :: ([.fieldLink RX3 20 "MarkedNames$Reader" "depth" "I", .fieldLink RX3 9 "MarkedNames$Reader" "row" "LMarkedNames$Row;", .methodLink RX3 63 yX5_add, .instanceMethod yX5_add, .selects RX5 yX5_add yX5_add, .initialized RX5, .code yX5_add cX5_add 3 none, .fieldLink RX5 24 "MarkedNames$Row" "top" "I", .fieldLink RX5 9 "MarkedNames$Row" "word" "[I", .fieldLink RX5 15 "MarkedNames$Row" "marks" "[I", .fieldLink RX5 18 "MarkedNames$Row" "size" "[I", .fieldLink RX5 21 "MarkedNames$Row" "use" "[I", .fieldLink RX5 28 "MarkedNames$Row" "open" "I", .methodLink RX5 31 yX5_closeBracket, .instanceMethod yX5_closeBracket, .selects RX5 yX5_closeBracket yX5_closeBracket, .code yX5_closeBracket cX5_closeBracket 2 none] ++ wsX30 ++ wsX50)
def wsX3_readDots : List Cond := .code yX3_readDots cX3_readDots 3 (some .int) :: ([.fieldLink RX3 9 "MarkedNames$Reader" "row" "LMarkedNames$Row;", .fieldLink RX3 20 "MarkedNames$Reader" "depth" "I", .methodLink RX3 67 yX5_wordAt, .instanceMethod yX5_wordAt, .selects RX5 yX5_wordAt yX5_wordAt, .initialized RX5, .code yX5_wordAt cX5_wordAt 2 (some .int), .fieldLink RX5 24 "MarkedNames$Row" "top" "I", .fieldLink RX5 9 "MarkedNames$Row" "word" "[I", .methodLink RX3 63 yX5_add, .instanceMethod yX5_add, .selects RX5 yX5_add yX5_add, .code yX5_add cX5_add 3 none, .fieldLink RX5 15 "MarkedNames$Row" "marks" "[I", .fieldLink RX5 18 "MarkedNames$Row" "size" "[I", .fieldLink RX5 21 "MarkedNames$Row" "use" "[I", .fieldLink RX5 28 "MarkedNames$Row" "open" "I", .methodLink RX5 31 yX5_closeBracket, .instanceMethod yX5_closeBracket, .selects RX5 yX5_closeBracket yX5_closeBracket, .code yX5_closeBracket cX5_closeBracket 2 none] ++ wsX30 ++ wsX50)
def wsX3_readToken_r1 : List Cond := [Cond.fieldLink RX3 9 "MarkedNames$Reader" "row" "LMarkedNames$Row;", Cond.methodLink RX3 35 yX3_isWhole, Cond.instanceMethod yX3_isWhole, Cond.selects RX3 yX3_isWhole yX3_isWhole, Cond.initialized RX3, Cond.code yX3_isWhole cX3_isWhole 1 (some .boolean), Cond.fieldLink RX3 20 "MarkedNames$Reader" "depth" "I", Cond.methodLink RX3 42 yX3_runLength, Cond.static yX3_runLength, Cond.code yX3_runLength cX3_runLength 7 (some .int), Cond.methodLink RX3 46 yX3_readName, Cond.instanceMethod yX3_readName, Cond.selects RX3 yX3_readName yX3_readName, Cond.code yX3_readName cX3_readName 6 (some .int), Cond.methodLink RX3 63 yX5_add, Cond.instanceMethod yX5_add, Cond.selects RX5 yX5_add yX5_add, Cond.initialized RX5, Cond.code yX5_add cX5_add 3 none, Cond.fieldLink RX5 24 "MarkedNames$Row" "top" "I", Cond.fieldLink RX5 9 "MarkedNames$Row" "word" "[I", Cond.fieldLink RX5 15 "MarkedNames$Row" "marks" "[I", Cond.fieldLink RX5 18 "MarkedNames$Row" "size" "[I", Cond.fieldLink RX5 21 "MarkedNames$Row" "use" "[I"]
def wsX3_readToken_r2 : List Cond := [Cond.fieldLink RX5 28 "MarkedNames$Row" "open" "I", Cond.methodLink RX5 31 yX5_closeBracket, Cond.instanceMethod yX5_closeBracket, Cond.selects RX5 yX5_closeBracket yX5_closeBracket, Cond.code yX5_closeBracket cX5_closeBracket 2 none, Cond.methodLink RX3 49 yX3_readNumber, Cond.instanceMethod yX3_readNumber, Cond.selects RX3 yX3_readNumber yX3_readNumber, Cond.code yX3_readNumber cX3_readNumber 6 (some .int), Cond.methodLink RX3 52 yX3_readOpen, Cond.instanceMethod yX3_readOpen, Cond.selects RX3 yX3_readOpen yX3_readOpen, Cond.code yX3_readOpen cX3_readOpen 1 (some .int), Cond.methodLink RX3 56 yX3_readClose, Cond.instanceMethod yX3_readClose, Cond.selects RX3 yX3_readClose yX3_readClose, Cond.code yX3_readClose cX3_readClose 1 (some .int), Cond.methodLink RX3 59 yX3_readDots, Cond.instanceMethod yX3_readDots, Cond.selects RX3 yX3_readDots yX3_readDots, Cond.code yX3_readDots cX3_readDots 3 (some .int), Cond.methodLink RX3 67 yX5_wordAt, Cond.instanceMethod yX5_wordAt, Cond.selects RX5 yX5_wordAt yX5_wordAt]
def wsX3_readToken_r3 : List Cond := [Cond.code yX5_wordAt cX5_wordAt 2 (some .int)]
def wsX3_readToken : List Cond := .code yX3_readToken cX3_readToken 5 (some .int) :: ((wsX3_readToken_r1 ++ (wsX3_readToken_r2 ++ wsX3_readToken_r3)) ++ wsX30 ++ wsX50)
def wsX3_read_r1 : List Cond := [Cond.fieldLink RX3 9 "MarkedNames$Reader" "row" "LMarkedNames$Row;", Cond.fieldLink RX3 20 "MarkedNames$Reader" "depth" "I", Cond.methodLink RX3 24 Lib.Math.min.name, Cond.static Lib.Math.min.name, Cond.initialized "java/lang/Math", Cond.code Lib.Math.min.name Lib.Math.min.code 2 (some .int), Cond.constant RX3 30 (1000000), Cond.methodLink RX3 15 yX5_restart, Cond.instanceMethod yX5_restart, Cond.selects RX5 yX5_restart yX5_restart, Cond.initialized RX5, Cond.code yX5_restart cX5_restart 1 none, Cond.fieldLink RX5 24 "MarkedNames$Row" "top" "I", Cond.fieldLink RX5 28 "MarkedNames$Row" "open" "I", Cond.methodLink RX3 31 yX3_readToken, Cond.instanceMethod yX3_readToken, Cond.selects RX3 yX3_readToken yX3_readToken, Cond.initialized RX3, Cond.code yX3_readToken cX3_readToken 5 (some .int), Cond.methodLink RX3 35 yX3_isWhole, Cond.instanceMethod yX3_isWhole, Cond.selects RX3 yX3_isWhole yX3_isWhole, Cond.code yX3_isWhole cX3_isWhole 1 (some .boolean), Cond.methodLink RX3 42 yX3_runLength]
def wsX3_read_r2 : List Cond := [Cond.static yX3_runLength, Cond.code yX3_runLength cX3_runLength 7 (some .int), Cond.methodLink RX3 46 yX3_readName, Cond.instanceMethod yX3_readName, Cond.selects RX3 yX3_readName yX3_readName, Cond.code yX3_readName cX3_readName 6 (some .int), Cond.methodLink RX3 63 yX5_add, Cond.instanceMethod yX5_add, Cond.selects RX5 yX5_add yX5_add, Cond.code yX5_add cX5_add 3 none, Cond.fieldLink RX5 9 "MarkedNames$Row" "word" "[I", Cond.fieldLink RX5 15 "MarkedNames$Row" "marks" "[I", Cond.fieldLink RX5 18 "MarkedNames$Row" "size" "[I", Cond.fieldLink RX5 21 "MarkedNames$Row" "use" "[I", Cond.methodLink RX5 31 yX5_closeBracket, Cond.instanceMethod yX5_closeBracket, Cond.selects RX5 yX5_closeBracket yX5_closeBracket, Cond.code yX5_closeBracket cX5_closeBracket 2 none, Cond.methodLink RX3 49 yX3_readNumber, Cond.instanceMethod yX3_readNumber, Cond.selects RX3 yX3_readNumber yX3_readNumber, Cond.code yX3_readNumber cX3_readNumber 6 (some .int), Cond.methodLink RX3 52 yX3_readOpen, Cond.instanceMethod yX3_readOpen]
def wsX3_read_r3 : List Cond := [Cond.selects RX3 yX3_readOpen yX3_readOpen, Cond.code yX3_readOpen cX3_readOpen 1 (some .int), Cond.methodLink RX3 56 yX3_readClose, Cond.instanceMethod yX3_readClose, Cond.selects RX3 yX3_readClose yX3_readClose, Cond.code yX3_readClose cX3_readClose 1 (some .int), Cond.methodLink RX3 59 yX3_readDots, Cond.instanceMethod yX3_readDots, Cond.selects RX3 yX3_readDots yX3_readDots, Cond.code yX3_readDots cX3_readDots 3 (some .int), Cond.methodLink RX3 67 yX5_wordAt, Cond.instanceMethod yX5_wordAt, Cond.selects RX5 yX5_wordAt yX5_wordAt, Cond.code yX5_wordAt cX5_wordAt 2 (some .int)]
def wsX3_read : List Cond := .code yX3_read cX3_read 7 (some .int) :: ((wsX3_read_r1 ++ (wsX3_read_r2 ++ wsX3_read_r3)) ++ wsX30 ++ wsX50)
def wsX5_init : List Cond := .code yX5_init cX5_init 1 none :: ([.methodLink RX5 3 objectInit, .instanceMethod objectInit, .code objectInit ⟨#[0xb1]⟩ 1 none, .arrayClass .int, .fieldLink RX5 9 "MarkedNames$Row" "word" "[I", .fieldLink RX5 15 "MarkedNames$Row" "marks" "[I", .fieldLink RX5 18 "MarkedNames$Row" "size" "[I", .fieldLink RX5 21 "MarkedNames$Row" "use" "[I", .fieldLink RX5 24 "MarkedNames$Row" "top" "I", .fieldLink RX5 28 "MarkedNames$Row" "open" "I"] ++ wsX50)
def wsX5_keep : List Cond := .code yX5_keep cX5_keep 5 (some .int) :: ([.fieldLink RX5 9 "MarkedNames$Row" "word" "[I", .methodLink RX5 51 arraycopyName, .native arraycopyName, .static arraycopyName, .initialized "java/lang/System", .fieldLink RX5 15 "MarkedNames$Row" "marks" "[I", .fieldLink RX5 18 "MarkedNames$Row" "size" "[I", .fieldLink RX5 21 "MarkedNames$Row" "use" "[I", .methodLink RX5 45 yX5_after, .instanceMethod yX5_after, .selects RX5 yX5_after yX5_after, .initialized RX5, .code yX5_after cX5_after 2 (some .int), .fieldLink RX5 24 "MarkedNames$Row" "top" "I"] ++ wsX50)
def wsX6_init : List Cond := .code yX6_init cX6_init 2 none :: ([.methodLink RX6 3 objectInit, .instanceMethod objectInit, .code objectInit ⟨#[0xb1]⟩ 1 none, .fieldLink RX6 9 "MarkedNames$RuleCheck" "row" "LMarkedNames$Row;"] ++ wsX60)
def wsX7_init : List Cond := .code yX7_init cX7_init 2 none :: ([.methodLink RX7 3 objectInit, .instanceMethod objectInit, .code objectInit ⟨#[0xb1]⟩ 1 none, .arrayClass .int, .fieldLink RX7 9 "MarkedNames$Table" "name" "[I", .fieldLink RX7 15 "MarkedNames$Table" "marks" "[I", .fieldLink RX7 18 "MarkedNames$Table" "kind" "[I", .fieldLink RX7 21 "MarkedNames$Table" "value" "[I", .methodLink RX7 27 Lib.Math.min.name, .static Lib.Math.min.name, .initialized "java/lang/Math", .code Lib.Math.min.name Lib.Math.min.code 2 (some .int), .fieldLink RX7 33 "MarkedNames$Table" "length" "I"] ++ wsX70)
def wsX7_ownSlot : List Cond := .code yX7_ownSlot cX7_ownSlot 4 (some .int) :: ([.fieldLink RX7 37 "MarkedNames$Table" "ownNames" "I", .fieldLink RX7 9 "MarkedNames$Table" "name" "[I"] ++ wsX70)
def wsX7_bindOwn : List Cond := .code yX7_bindOwn cX7_bindOwn 4 none :: ([.fieldLink RX7 37 "MarkedNames$Table" "ownNames" "I", .methodLink RX7 40 Lib.Math.max.name, .static Lib.Math.max.name, .initialized "java/lang/Math", .code Lib.Math.max.name Lib.Math.max.code 2 (some .int), .fieldLink RX7 33 "MarkedNames$Table" "length" "I", .methodLink RX7 43 yX7_bind, .instanceMethod yX7_bind, .selects RX7 yX7_bind yX7_bind, .initialized RX7, .code yX7_bind cX7_bind 5 (some .boolean), .fieldLink RX7 9 "MarkedNames$Table" "name" "[I", .fieldLink RX7 15 "MarkedNames$Table" "marks" "[I", .fieldLink RX7 18 "MarkedNames$Table" "kind" "[I", .fieldLink RX7 21 "MarkedNames$Table" "value" "[I", .methodLink RX7 47 yX7_forgetExpansion, .instanceMethod yX7_forgetExpansion, .selects RX7 yX7_forgetExpansion yX7_forgetExpansion, .code yX7_forgetExpansion cX7_forgetExpansion 1 none] ++ wsX70)
def wsX8_init_r1 : List Cond := [Cond.methodLink RX8 3 objectInit, Cond.instanceMethod objectInit, Cond.code objectInit ⟨#[0xb1]⟩ 1 none, Cond.arrayClass .int, Cond.fieldLink RX8 9 "MarkedNames" "typed" "[I", Cond.classLink RX8 13 RX5, Cond.instantiable RX5 6, Cond.initialized RX5, Cond.fieldLink RX8 16 "MarkedNames" "row" "LMarkedNames$Row;", Cond.classLink RX8 20 RX3, Cond.instantiable RX3 2, Cond.initialized RX3, Cond.fieldLink RX8 25 "MarkedNames" "reader" "LMarkedNames$Reader;", Cond.classLink RX8 29 RX6, Cond.instantiable RX6 1, Cond.initialized RX6, Cond.fieldLink RX8 32 "MarkedNames" "check" "LMarkedNames$RuleCheck;", Cond.classLink RX8 36 RX7, Cond.instantiable RX7 6, Cond.initialized RX7, Cond.fieldLink RX8 39 "MarkedNames" "table" "LMarkedNames$Table;", Cond.classLink RX8 43 RX2, Cond.instantiable RX2 3, Cond.initialized RX2]
def wsX8_init_r2 : List Cond := [Cond.fieldLink RX8 46 "MarkedNames" "outcome" "LMarkedNames$Outcome;", Cond.classLink RX8 50 RX0, Cond.instantiable RX0 9, Cond.initialized RX0, Cond.fieldLink RX8 55 "MarkedNames" "expander" "LMarkedNames$Expander;", Cond.instanceMethod yX5_init, Cond.code yX5_init cX5_init 1 none, Cond.methodLink RX5 3 objectInit, Cond.fieldLink RX5 9 "MarkedNames$Row" "word" "[I", Cond.fieldLink RX5 15 "MarkedNames$Row" "marks" "[I", Cond.fieldLink RX5 18 "MarkedNames$Row" "size" "[I", Cond.fieldLink RX5 21 "MarkedNames$Row" "use" "[I", Cond.fieldLink RX5 24 "MarkedNames$Row" "top" "I", Cond.fieldLink RX5 28 "MarkedNames$Row" "open" "I", Cond.methodLink RX8 22 yX3_init, Cond.instanceMethod yX3_init, Cond.code yX3_init cX3_init 2 none, Cond.methodLink RX3 3 objectInit, Cond.fieldLink RX3 9 "MarkedNames$Reader" "row" "LMarkedNames$Row;", Cond.methodLink RX8 31 yX6_init, Cond.instanceMethod yX6_init, Cond.code yX6_init cX6_init 2 none, Cond.methodLink RX6 3 objectInit, Cond.fieldLink RX6 9 "MarkedNames$RuleCheck" "row" "LMarkedNames$Row;"]
def wsX8_init_r3 : List Cond := [Cond.methodLink RX8 38 yX7_init, Cond.instanceMethod yX7_init, Cond.code yX7_init cX7_init 2 none, Cond.methodLink RX7 3 objectInit, Cond.fieldLink RX7 9 "MarkedNames$Table" "name" "[I", Cond.fieldLink RX7 15 "MarkedNames$Table" "marks" "[I", Cond.fieldLink RX7 18 "MarkedNames$Table" "kind" "[I", Cond.fieldLink RX7 21 "MarkedNames$Table" "value" "[I", Cond.methodLink RX7 27 Lib.Math.min.name, Cond.static Lib.Math.min.name, Cond.initialized "java/lang/Math", Cond.code Lib.Math.min.name Lib.Math.min.code 2 (some .int), Cond.fieldLink RX7 33 "MarkedNames$Table" "length" "I", Cond.instanceMethod yX2_init, Cond.code yX2_init cX2_init 1 none, Cond.methodLink RX2 3 objectInit, Cond.fieldLink RX2 9 "MarkedNames$Outcome" "text" "[I", Cond.methodLink RX8 52 yX0_init, Cond.instanceMethod yX0_init, Cond.code yX0_init cX0_init 5 none, Cond.methodLink RX0 3 objectInit, Cond.fieldLink RX0 9 "MarkedNames$Expander" "row" "LMarkedNames$Row;", Cond.fieldLink RX0 15 "MarkedNames$Expander" "check" "LMarkedNames$RuleCheck;", Cond.fieldLink RX0 19 "MarkedNames$Expander" "table" "LMarkedNames$Table;"]
def wsX8_init_r4 : List Cond := [Cond.fieldLink RX0 23 "MarkedNames$Expander" "outcome" "LMarkedNames$Outcome;", Cond.classLink RX0 27 RX1, Cond.instantiable RX1 6, Cond.initialized RX1, Cond.fieldLink RX0 32 "MarkedNames$Expander" "filler" "LMarkedNames$Filler;", Cond.methodLink RX0 29 yX1_init, Cond.instanceMethod yX1_init, Cond.code yX1_init cX1_init 3 none, Cond.methodLink RX1 3 objectInit, Cond.classLink RX1 9 RX4, Cond.instantiable RX4 4, Cond.initialized RX4, Cond.fieldLink RX1 12 "MarkedNames$Filler" "rounds" "LMarkedNames$Rounds;", Cond.fieldLink RX1 18 "MarkedNames$Filler" "row" "LMarkedNames$Row;", Cond.fieldLink RX1 22 "MarkedNames$Filler" "outcome" "LMarkedNames$Outcome;", Cond.instanceMethod yX4_init, Cond.code yX4_init cX4_init 1 none, Cond.methodLink RX4 3 objectInit, Cond.fieldLink RX4 9 "MarkedNames$Rounds" "held" "[I", Cond.fieldLink RX4 15 "MarkedNames$Rounds" "round" "[I", Cond.fieldLink RX4 18 "MarkedNames$Rounds" "rounds" "[I"]
def wsX8_init : List Cond := .code yX8_init cX8_init 1 none :: ((wsX8_init_r1 ++ (wsX8_init_r2 ++ (wsX8_init_r3 ++ wsX8_init_r4))) ++ wsX80 ++ wsX50 ++ wsX30 ++ wsX60 ++ wsX70 ++ wsX20 ++ wsX00 ++ wsX10 ++ wsX40)
def wsX8_appendTyped : List Cond := .code yX8_appendTyped cX8_appendTyped 2 none :: ([.fieldLink RX8 59 "MarkedNames" "typedLength" "I", .fieldLink RX8 9 "MarkedNames" "typed" "[I"] ++ wsX80)
def wsX8_type : List Cond := .code yX8_type cX8_type 5 (some .boolean) :: ([.fieldLink RX8 59 "MarkedNames" "typedLength" "I", .methodLink RX8 63 yX8_appendTyped, .instanceMethod yX8_appendTyped, .selects RX8 yX8_appendTyped yX8_appendTyped, .initialized RX8, .code yX8_appendTyped cX8_appendTyped 2 none, .fieldLink RX8 9 "MarkedNames" "typed" "[I"] ++ wsX80)
def wsX8_takeTyped_r1 : List Cond := [Cond.fieldLink RX8 25 "MarkedNames" "reader" "LMarkedNames$Reader;", Cond.fieldLink RX8 9 "MarkedNames" "typed" "[I", Cond.fieldLink RX8 59 "MarkedNames" "typedLength" "I", Cond.methodLink RX8 124 yX3_read, Cond.instanceMethod yX3_read, Cond.selects RX3 yX3_read yX3_read, Cond.initialized RX3, Cond.code yX3_read cX3_read 7 (some .int), Cond.fieldLink RX3 9 "MarkedNames$Reader" "row" "LMarkedNames$Row;", Cond.fieldLink RX3 20 "MarkedNames$Reader" "depth" "I", Cond.methodLink RX3 24 Lib.Math.min.name, Cond.static Lib.Math.min.name, Cond.initialized "java/lang/Math", Cond.code Lib.Math.min.name Lib.Math.min.code 2 (some .int), Cond.constant RX3 30 (1000000), Cond.methodLink RX3 15 yX5_restart, Cond.instanceMethod yX5_restart, Cond.selects RX5 yX5_restart yX5_restart, Cond.initialized RX5, Cond.code yX5_restart cX5_restart 1 none, Cond.fieldLink RX5 24 "MarkedNames$Row" "top" "I", Cond.fieldLink RX5 28 "MarkedNames$Row" "open" "I", Cond.methodLink RX3 31 yX3_readToken, Cond.instanceMethod yX3_readToken]
def wsX8_takeTyped_r2 : List Cond := [Cond.selects RX3 yX3_readToken yX3_readToken, Cond.code yX3_readToken cX3_readToken 5 (some .int), Cond.methodLink RX3 35 yX3_isWhole, Cond.instanceMethod yX3_isWhole, Cond.selects RX3 yX3_isWhole yX3_isWhole, Cond.code yX3_isWhole cX3_isWhole 1 (some .boolean), Cond.methodLink RX3 42 yX3_runLength, Cond.static yX3_runLength, Cond.code yX3_runLength cX3_runLength 7 (some .int), Cond.methodLink RX3 46 yX3_readName, Cond.instanceMethod yX3_readName, Cond.selects RX3 yX3_readName yX3_readName, Cond.code yX3_readName cX3_readName 6 (some .int), Cond.methodLink RX3 63 yX5_add, Cond.instanceMethod yX5_add, Cond.selects RX5 yX5_add yX5_add, Cond.code yX5_add cX5_add 3 none, Cond.fieldLink RX5 9 "MarkedNames$Row" "word" "[I", Cond.fieldLink RX5 15 "MarkedNames$Row" "marks" "[I", Cond.fieldLink RX5 18 "MarkedNames$Row" "size" "[I", Cond.fieldLink RX5 21 "MarkedNames$Row" "use" "[I", Cond.methodLink RX5 31 yX5_closeBracket, Cond.instanceMethod yX5_closeBracket, Cond.selects RX5 yX5_closeBracket yX5_closeBracket]
def wsX8_takeTyped_r3 : List Cond := [Cond.code yX5_closeBracket cX5_closeBracket 2 none, Cond.methodLink RX3 49 yX3_readNumber, Cond.instanceMethod yX3_readNumber, Cond.selects RX3 yX3_readNumber yX3_readNumber, Cond.code yX3_readNumber cX3_readNumber 6 (some .int), Cond.methodLink RX3 52 yX3_readOpen, Cond.instanceMethod yX3_readOpen, Cond.selects RX3 yX3_readOpen yX3_readOpen, Cond.code yX3_readOpen cX3_readOpen 1 (some .int), Cond.methodLink RX3 56 yX3_readClose, Cond.instanceMethod yX3_readClose, Cond.selects RX3 yX3_readClose yX3_readClose, Cond.code yX3_readClose cX3_readClose 1 (some .int), Cond.methodLink RX3 59 yX3_readDots, Cond.instanceMethod yX3_readDots, Cond.selects RX3 yX3_readDots yX3_readDots, Cond.code yX3_readDots cX3_readDots 3 (some .int), Cond.methodLink RX3 67 yX5_wordAt, Cond.instanceMethod yX5_wordAt, Cond.selects RX5 yX5_wordAt yX5_wordAt, Cond.code yX5_wordAt cX5_wordAt 2 (some .int)]
def wsX8_takeTyped : List Cond := .code yX8_takeTyped cX8_takeTyped 2 (some .int) :: ((wsX8_takeTyped_r1 ++ (wsX8_takeTyped_r2 ++ wsX8_takeTyped_r3)) ++ wsX80 ++ wsX30 ++ wsX50)
def wsX8_rules_r1 : List Cond := [Cond.fieldLink RX8 32 "MarkedNames" "check" "LMarkedNames$RuleCheck;", Cond.fieldLink RX8 16 "MarkedNames" "row" "LMarkedNames$Row;", Cond.fieldLink RX8 39 "MarkedNames" "table" "LMarkedNames$Table;", Cond.methodLink RX8 67 yX8_takeTyped, Cond.instanceMethod yX8_takeTyped, Cond.selects RX8 yX8_takeTyped yX8_takeTyped, Cond.initialized RX8, Cond.code yX8_takeTyped cX8_takeTyped 2 (some .int), Cond.fieldLink RX8 25 "MarkedNames" "reader" "LMarkedNames$Reader;", Cond.fieldLink RX8 9 "MarkedNames" "typed" "[I", Cond.fieldLink RX8 59 "MarkedNames" "typedLength" "I", Cond.methodLink RX8 124 yX3_read, Cond.instanceMethod yX3_read, Cond.selects RX3 yX3_read yX3_read, Cond.initialized RX3, Cond.code yX3_read cX3_read 7 (some .int), Cond.fieldLink RX3 9 "MarkedNames$Reader" "row" "LMarkedNames$Row;", Cond.fieldLink RX3 20 "MarkedNames$Reader" "depth" "I", Cond.methodLink RX3 24 Lib.Math.min.name, Cond.static Lib.Math.min.name, Cond.initialized "java/lang/Math", Cond.code Lib.Math.min.name Lib.Math.min.code 2 (some .int), Cond.constant RX3 30 (1000000), Cond.methodLink RX3 15 yX5_restart]
def wsX8_rules_r2 : List Cond := [Cond.instanceMethod yX5_restart, Cond.selects RX5 yX5_restart yX5_restart, Cond.initialized RX5, Cond.code yX5_restart cX5_restart 1 none, Cond.fieldLink RX5 24 "MarkedNames$Row" "top" "I", Cond.fieldLink RX5 28 "MarkedNames$Row" "open" "I", Cond.methodLink RX3 31 yX3_readToken, Cond.instanceMethod yX3_readToken, Cond.selects RX3 yX3_readToken yX3_readToken, Cond.code yX3_readToken cX3_readToken 5 (some .int), Cond.methodLink RX3 35 yX3_isWhole, Cond.instanceMethod yX3_isWhole, Cond.selects RX3 yX3_isWhole yX3_isWhole, Cond.code yX3_isWhole cX3_isWhole 1 (some .boolean), Cond.methodLink RX3 42 yX3_runLength, Cond.static yX3_runLength, Cond.code yX3_runLength cX3_runLength 7 (some .int), Cond.methodLink RX3 46 yX3_readName, Cond.instanceMethod yX3_readName, Cond.selects RX3 yX3_readName yX3_readName, Cond.code yX3_readName cX3_readName 6 (some .int), Cond.methodLink RX3 63 yX5_add, Cond.instanceMethod yX5_add, Cond.selects RX5 yX5_add yX5_add]
def wsX8_rules_r3 : List Cond := [Cond.code yX5_add cX5_add 3 none, Cond.fieldLink RX5 9 "MarkedNames$Row" "word" "[I", Cond.fieldLink RX5 15 "MarkedNames$Row" "marks" "[I", Cond.fieldLink RX5 18 "MarkedNames$Row" "size" "[I", Cond.fieldLink RX5 21 "MarkedNames$Row" "use" "[I", Cond.methodLink RX5 31 yX5_closeBracket, Cond.instanceMethod yX5_closeBracket, Cond.selects RX5 yX5_closeBracket yX5_closeBracket, Cond.code yX5_closeBracket cX5_closeBracket 2 none, Cond.methodLink RX3 49 yX3_readNumber, Cond.instanceMethod yX3_readNumber, Cond.selects RX3 yX3_readNumber yX3_readNumber, Cond.code yX3_readNumber cX3_readNumber 6 (some .int), Cond.methodLink RX3 52 yX3_readOpen, Cond.instanceMethod yX3_readOpen, Cond.selects RX3 yX3_readOpen yX3_readOpen, Cond.code yX3_readOpen cX3_readOpen 1 (some .int), Cond.methodLink RX3 56 yX3_readClose, Cond.instanceMethod yX3_readClose, Cond.selects RX3 yX3_readClose yX3_readClose, Cond.code yX3_readClose cX3_readClose 1 (some .int), Cond.methodLink RX3 59 yX3_readDots, Cond.instanceMethod yX3_readDots, Cond.selects RX3 yX3_readDots yX3_readDots]
def wsX8_rules_r4 : List Cond := [Cond.code yX3_readDots cX3_readDots 3 (some .int), Cond.methodLink RX3 67 yX5_wordAt, Cond.instanceMethod yX5_wordAt, Cond.selects RX5 yX5_wordAt yX5_wordAt, Cond.code yX5_wordAt cX5_wordAt 2 (some .int), Cond.methodLink RX8 71 yX6_isNameWithRules, Cond.instanceMethod yX6_isNameWithRules, Cond.selects RX6 yX6_isNameWithRules yX6_isNameWithRules, Cond.initialized RX6, Cond.code yX6_isNameWithRules cX6_isNameWithRules 5 (some .boolean), Cond.fieldLink RX6 9 "MarkedNames$RuleCheck" "row" "LMarkedNames$Row;", Cond.methodLink RX6 15 yX5_plainLength, Cond.instanceMethod yX5_plainLength, Cond.selects RX5 yX5_plainLength yX5_plainLength, Cond.code yX5_plainLength cX5_plainLength 2 (some .int), Cond.methodLink RX5 34 yX5_wordAt, Cond.methodLink RX5 38 yX5_hasDots, Cond.instanceMethod yX5_hasDots, Cond.selects RX5 yX5_hasDots yX5_hasDots, Cond.code yX5_hasDots cX5_hasDots 4 (some .boolean), Cond.methodLink RX5 42 yX5_itemsFrom, Cond.instanceMethod yX5_itemsFrom, Cond.selects RX5 yX5_itemsFrom yX5_itemsFrom, Cond.code yX5_itemsFrom cX5_itemsFrom 5 (some .int)]
def wsX8_rules_r5 : List Cond := [Cond.methodLink RX6 21 yX5_wordAt, Cond.static yX8_isName, Cond.code yX8_isName cX8_isName 1 (some .boolean), Cond.methodLink RX6 28 yX6_isRule, Cond.instanceMethod yX6_isRule, Cond.selects RX6 yX6_isRule yX6_isRule, Cond.code yX6_isRule cX6_isRule 4 (some .boolean), Cond.methodLink RX6 31 yX5_after, Cond.instanceMethod yX5_after, Cond.selects RX5 yX5_after yX5_after, Cond.code yX5_after cX5_after 2 (some .int), Cond.methodLink RX6 34 yX6_isPattern, Cond.instanceMethod yX6_isPattern, Cond.selects RX6 yX6_isPattern yX6_isPattern, Cond.code yX6_isPattern cX6_isPattern 7 (some .boolean), Cond.methodLink RX6 45 yX5_isHeld, Cond.instanceMethod yX5_isHeld, Cond.selects RX5 yX5_isHeld yX5_isHeld, Cond.code yX5_isHeld cX5_isHeld 3 (some .boolean), Cond.static yX8_isTree, Cond.code yX8_isTree cX8_isTree 1 (some .boolean), Cond.methodLink RX6 51 yX5_holders, Cond.instanceMethod yX5_holders, Cond.selects RX5 yX5_holders yX5_holders]
def wsX8_rules_r6 : List Cond := [Cond.code yX5_holders cX5_holders 6 (some .int), Cond.methodLink RX6 55 yX5_findName, Cond.instanceMethod yX5_findName, Cond.selects RX5 yX5_findName yX5_findName, Cond.code yX5_findName cX5_findName 5 (some .int), Cond.methodLink RX6 37 yX6_linkUses, Cond.instanceMethod yX6_linkUses, Cond.selects RX6 yX6_linkUses yX6_linkUses, Cond.code yX6_linkUses cX6_linkUses 6 none, Cond.methodLink RX6 59 yX5_setVariable, Cond.instanceMethod yX5_setVariable, Cond.selects RX5 yX5_setVariable yX5_setVariable, Cond.code yX5_setVariable cX5_setVariable 3 none, Cond.methodLink RX6 41 yX6_isTemplate, Cond.instanceMethod yX6_isTemplate, Cond.selects RX6 yX6_isTemplate yX6_isTemplate, Cond.code yX6_isTemplate cX6_isTemplate 6 (some .boolean), Cond.methodLink RX6 62 yX5_variableAt, Cond.instanceMethod yX5_variableAt, Cond.selects RX5 yX5_variableAt yX5_variableAt, Cond.code yX5_variableAt cX5_variableAt 2 (some .int), Cond.methodLink RX6 65 yX5_hasUse, Cond.instanceMethod yX5_hasUse, Cond.selects RX5 yX5_hasUse yX5_hasUse]
def wsX8_rules_r7 : List Cond := [Cond.code yX5_hasUse cX5_hasUse 3 (some .boolean), Cond.methodLink RX8 75 yX5_wordAt, Cond.methodLink RX8 79 yX7_ownSlot, Cond.instanceMethod yX7_ownSlot, Cond.selects RX7 yX7_ownSlot yX7_ownSlot, Cond.initialized RX7, Cond.code yX7_ownSlot cX7_ownSlot 4 (some .int), Cond.fieldLink RX7 37 "MarkedNames$Table" "ownNames" "I", Cond.fieldLink RX7 9 "MarkedNames$Table" "name" "[I", Cond.methodLink RX8 82 yX5_keep, Cond.instanceMethod yX5_keep, Cond.selects RX5 yX5_keep yX5_keep, Cond.code yX5_keep cX5_keep 5 (some .int), Cond.methodLink RX5 51 arraycopyName, Cond.native arraycopyName, Cond.static arraycopyName, Cond.initialized "java/lang/System", Cond.methodLink RX5 45 yX5_after, Cond.methodLink RX8 86 yX7_bindOwn, Cond.instanceMethod yX7_bindOwn, Cond.selects RX7 yX7_bindOwn yX7_bindOwn, Cond.code yX7_bindOwn cX7_bindOwn 4 none, Cond.methodLink RX7 40 Lib.Math.max.name, Cond.static Lib.Math.max.name]
def wsX8_rules_r8 : List Cond := [Cond.code Lib.Math.max.name Lib.Math.max.code 2 (some .int), Cond.fieldLink RX7 33 "MarkedNames$Table" "length" "I", Cond.methodLink RX7 43 yX7_bind, Cond.instanceMethod yX7_bind, Cond.selects RX7 yX7_bind yX7_bind, Cond.code yX7_bind cX7_bind 5 (some .boolean), Cond.fieldLink RX7 15 "MarkedNames$Table" "marks" "[I", Cond.fieldLink RX7 18 "MarkedNames$Table" "kind" "[I", Cond.fieldLink RX7 21 "MarkedNames$Table" "value" "[I", Cond.methodLink RX7 47 yX7_forgetExpansion, Cond.instanceMethod yX7_forgetExpansion, Cond.selects RX7 yX7_forgetExpansion yX7_forgetExpansion, Cond.code yX7_forgetExpansion cX7_forgetExpansion 1 none]
def wsX8_rules : List Cond := .code yX8_rules cX8_rules 4 (some .int) :: ((wsX8_rules_r1 ++ (wsX8_rules_r2 ++ (wsX8_rules_r3 ++ (wsX8_rules_r4 ++ (wsX8_rules_r5 ++ (wsX8_rules_r6 ++ (wsX8_rules_r7 ++ wsX8_rules_r8))))))) ++ wsX80 ++ wsX70 ++ wsX30 ++ wsX50 ++ wsX60)
def wsX8_expand_r1 : List Cond := [Cond.fieldLink RX8 46 "MarkedNames" "outcome" "LMarkedNames$Outcome;", Cond.fieldLink RX8 55 "MarkedNames" "expander" "LMarkedNames$Expander;", Cond.methodLink RX8 67 yX8_takeTyped, Cond.instanceMethod yX8_takeTyped, Cond.selects RX8 yX8_takeTyped yX8_takeTyped, Cond.initialized RX8, Cond.code yX8_takeTyped cX8_takeTyped 2 (some .int), Cond.fieldLink RX8 25 "MarkedNames" "reader" "LMarkedNames$Reader;", Cond.fieldLink RX8 9 "MarkedNames" "typed" "[I", Cond.fieldLink RX8 59 "MarkedNames" "typedLength" "I", Cond.methodLink RX8 124 yX3_read, Cond.instanceMethod yX3_read, Cond.selects RX3 yX3_read yX3_read, Cond.initialized RX3, Cond.code yX3_read cX3_read 7 (some .int), Cond.fieldLink RX3 9 "MarkedNames$Reader" "row" "LMarkedNames$Row;", Cond.fieldLink RX3 20 "MarkedNames$Reader" "depth" "I", Cond.methodLink RX3 24 Lib.Math.min.name, Cond.static Lib.Math.min.name, Cond.initialized "java/lang/Math", Cond.code Lib.Math.min.name Lib.Math.min.code 2 (some .int), Cond.constant RX3 30 (1000000), Cond.methodLink RX3 15 yX5_restart, Cond.instanceMethod yX5_restart]
def wsX8_expand_r2 : List Cond := [Cond.selects RX5 yX5_restart yX5_restart, Cond.initialized RX5, Cond.code yX5_restart cX5_restart 1 none, Cond.fieldLink RX5 24 "MarkedNames$Row" "top" "I", Cond.fieldLink RX5 28 "MarkedNames$Row" "open" "I", Cond.methodLink RX3 31 yX3_readToken, Cond.instanceMethod yX3_readToken, Cond.selects RX3 yX3_readToken yX3_readToken, Cond.code yX3_readToken cX3_readToken 5 (some .int), Cond.methodLink RX3 35 yX3_isWhole, Cond.instanceMethod yX3_isWhole, Cond.selects RX3 yX3_isWhole yX3_isWhole, Cond.code yX3_isWhole cX3_isWhole 1 (some .boolean), Cond.methodLink RX3 42 yX3_runLength, Cond.static yX3_runLength, Cond.code yX3_runLength cX3_runLength 7 (some .int), Cond.methodLink RX3 46 yX3_readName, Cond.instanceMethod yX3_readName, Cond.selects RX3 yX3_readName yX3_readName, Cond.code yX3_readName cX3_readName 6 (some .int), Cond.methodLink RX3 63 yX5_add, Cond.instanceMethod yX5_add, Cond.selects RX5 yX5_add yX5_add, Cond.code yX5_add cX5_add 3 none]
def wsX8_expand_r3 : List Cond := [Cond.fieldLink RX5 9 "MarkedNames$Row" "word" "[I", Cond.fieldLink RX5 15 "MarkedNames$Row" "marks" "[I", Cond.fieldLink RX5 18 "MarkedNames$Row" "size" "[I", Cond.fieldLink RX5 21 "MarkedNames$Row" "use" "[I", Cond.methodLink RX5 31 yX5_closeBracket, Cond.instanceMethod yX5_closeBracket, Cond.selects RX5 yX5_closeBracket yX5_closeBracket, Cond.code yX5_closeBracket cX5_closeBracket 2 none, Cond.methodLink RX3 49 yX3_readNumber, Cond.instanceMethod yX3_readNumber, Cond.selects RX3 yX3_readNumber yX3_readNumber, Cond.code yX3_readNumber cX3_readNumber 6 (some .int), Cond.methodLink RX3 52 yX3_readOpen, Cond.instanceMethod yX3_readOpen, Cond.selects RX3 yX3_readOpen yX3_readOpen, Cond.code yX3_readOpen cX3_readOpen 1 (some .int), Cond.methodLink RX3 56 yX3_readClose, Cond.instanceMethod yX3_readClose, Cond.selects RX3 yX3_readClose yX3_readClose, Cond.code yX3_readClose cX3_readClose 1 (some .int), Cond.methodLink RX3 59 yX3_readDots, Cond.instanceMethod yX3_readDots, Cond.selects RX3 yX3_readDots yX3_readDots, Cond.code yX3_readDots cX3_readDots 3 (some .int)]
def wsX8_expand_r4 : List Cond := [Cond.methodLink RX3 67 yX5_wordAt, Cond.instanceMethod yX5_wordAt, Cond.selects RX5 yX5_wordAt yX5_wordAt, Cond.code yX5_wordAt cX5_wordAt 2 (some .int), Cond.methodLink RX8 93 yX2_clear, Cond.instanceMethod yX2_clear, Cond.selects RX2 yX2_clear yX2_clear, Cond.initialized RX2, Cond.code yX2_clear cX2_clear 1 none, Cond.fieldLink RX2 15 "MarkedNames$Outcome" "length" "I", Cond.fieldLink RX2 19 "MarkedNames$Outcome" "error" "I", Cond.methodLink RX8 96 yX0_start, Cond.instanceMethod yX0_start, Cond.selects RX0 yX0_start yX0_start, Cond.initialized RX0, Cond.code yX0_start cX0_start 2 none, Cond.fieldLink RX0 36 "MarkedNames$Expander" "scopes" "I", Cond.fieldLink RX0 40 "MarkedNames$Expander" "bindings" "I", Cond.fieldLink RX0 43 "MarkedNames$Expander" "variables" "I", Cond.fieldLink RX0 46 "MarkedNames$Expander" "fuel" "I", Cond.fieldLink RX0 19 "MarkedNames$Expander" "table" "LMarkedNames$Table;", Cond.methodLink RX0 49 yX7_forgetExpansion, Cond.instanceMethod yX7_forgetExpansion, Cond.selects RX7 yX7_forgetExpansion yX7_forgetExpansion]
def wsX8_expand_r5 : List Cond := [Cond.initialized RX7, Cond.code yX7_forgetExpansion cX7_forgetExpansion 1 none, Cond.fieldLink RX7 37 "MarkedNames$Table" "ownNames" "I", Cond.fieldLink RX7 33 "MarkedNames$Table" "length" "I", Cond.methodLink RX8 99 yX0_expandTree, Cond.instanceMethod yX0_expandTree, Cond.selects RX0 yX0_expandTree yX0_expandTree, Cond.code yX0_expandTree cX0_expandTree 4 none, Cond.fieldLink RX0 23 "MarkedNames$Expander" "outcome" "LMarkedNames$Outcome;", Cond.fieldLink RX0 9 "MarkedNames$Expander" "row" "LMarkedNames$Row;", Cond.methodLink RX0 59 yX5_wordAt, Cond.methodLink RX0 65 yX0_expandList, Cond.instanceMethod yX0_expandList, Cond.selects RX0 yX0_expandList yX0_expandList, Cond.static yX8_isName, Cond.code yX8_isName cX8_isName 1 (some .boolean), Cond.methodLink RX0 73 yX0_expandName, Cond.instanceMethod yX0_expandName, Cond.selects RX0 yX0_expandName yX0_expandName, Cond.code yX0_expandName cX0_expandName 4 none, Cond.methodLink RX0 93 yX0_meaningOf, Cond.instanceMethod yX0_meaningOf, Cond.selects RX0 yX0_meaningOf yX0_meaningOf, Cond.code yX0_meaningOf cX0_meaningOf 3 (some .int)]
def wsX8_expand_r6 : List Cond := [Cond.methodLink RX0 86 yX5_marksAt, Cond.instanceMethod yX5_marksAt, Cond.selects RX5 yX5_marksAt yX5_marksAt, Cond.code yX5_marksAt cX5_marksAt 2 (some .int), Cond.methodLink RX0 89 yX7_meaning, Cond.instanceMethod yX7_meaning, Cond.selects RX7 yX7_meaning yX7_meaning, Cond.code yX7_meaning cX7_meaning 6 (some .int), Cond.fieldLink RX7 9 "MarkedNames$Table" "name" "[I", Cond.fieldLink RX7 15 "MarkedNames$Table" "marks" "[I", Cond.methodLink RX7 50 yJ6_bitCount_0f7a4, Cond.static yJ6_bitCount_0f7a4, Cond.initialized RJ6, Cond.code yJ6_bitCount_0f7a4 cJ6_bitCount_0f7a4 1 (some .int), Cond.constant RJ6 265 (1431655765), Cond.constant RJ6 266 (858993459), Cond.constant RJ6 267 (252645135), Cond.methodLink RX7 56 yX7_holdsAllOthers, Cond.instanceMethod yX7_holdsAllOthers, Cond.selects RX7 yX7_holdsAllOthers yX7_holdsAllOthers, Cond.code yX7_holdsAllOthers cX7_holdsAllOthers 5 (some .boolean), Cond.methodLink RX0 83 yX2_fail, Cond.instanceMethod yX2_fail, Cond.selects RX2 yX2_fail yX2_fail]
def wsX8_expand_r7 : List Cond := [Cond.code yX2_fail cX2_fail 2 none, Cond.methodLink RX0 96 yX7_kindOf, Cond.instanceMethod yX7_kindOf, Cond.selects RX7 yX7_kindOf yX7_kindOf, Cond.code yX7_kindOf cX7_kindOf 2 (some .int), Cond.fieldLink RX7 18 "MarkedNames$Table" "kind" "[I", Cond.methodLink RX0 99 yX2_putName, Cond.instanceMethod yX2_putName, Cond.selects RX2 yX2_putName yX2_putName, Cond.code yX2_putName cX2_putName 3 none, Cond.methodLink RX2 22 yX2_put, Cond.instanceMethod yX2_put, Cond.selects RX2 yX2_put yX2_put, Cond.code yX2_put cX2_put 2 none, Cond.fieldLink RX2 9 "MarkedNames$Outcome" "text" "[I", Cond.methodLink RX0 102 yX7_valueOf, Cond.instanceMethod yX7_valueOf, Cond.selects RX7 yX7_valueOf yX7_valueOf, Cond.code yX7_valueOf cX7_valueOf 2 (some .int), Cond.fieldLink RX7 21 "MarkedNames$Table" "value" "[I", Cond.methodLink RX0 105 yX2_putVariable, Cond.instanceMethod yX2_putVariable, Cond.selects RX2 yX2_putVariable yX2_putVariable, Cond.code yX2_putVariable cX2_putVariable 2 none]
def wsX8_expand_r8 : List Cond := [Cond.methodLink RX2 26 yX2_putNumber, Cond.instanceMethod yX2_putNumber, Cond.selects RX2 yX2_putNumber yX2_putNumber, Cond.code yX2_putNumber cX2_putNumber 2 none, Cond.static yX8_isNumber, Cond.code yX8_isNumber cX8_isNumber 1 (some .boolean), Cond.methodLink RX0 80 yX2_putNumber, Cond.code yX0_expandByRules cX0_expandByRules 7 none, Cond.fieldLink RX0 32 "MarkedNames$Expander" "filler" "LMarkedNames$Filler;", Cond.methodLink RX0 145 yX0_newScope, Cond.instanceMethod yX0_newScope, Cond.selects RX0 yX0_newScope yX0_newScope, Cond.code yX0_newScope cX0_newScope 1 (some .int), Cond.methodLink RX0 149 yX5_turnScope, Cond.instanceMethod yX5_turnScope, Cond.selects RX5 yX5_turnScope yX5_turnScope, Cond.code yX5_turnScope cX5_turnScope 5 none, Cond.methodLink RX5 45 yX5_after, Cond.instanceMethod yX5_after, Cond.selects RX5 yX5_after yX5_after, Cond.code yX5_after cX5_after 2 (some .int), Cond.methodLink RX0 177 yX1_firstRule, Cond.instanceMethod yX1_firstRule, Cond.selects RX1 yX1_firstRule yX1_firstRule]
def wsX8_expand_r9 : List Cond := [Cond.initialized RX1, Cond.code yX1_firstRule cX1_firstRule 6 (some .int), Cond.fieldLink RX1 18 "MarkedNames$Filler" "row" "LMarkedNames$Row;", Cond.methodLink RX1 26 yX5_plainLength, Cond.instanceMethod yX5_plainLength, Cond.selects RX5 yX5_plainLength yX5_plainLength, Cond.code yX5_plainLength cX5_plainLength 2 (some .int), Cond.methodLink RX5 34 yX5_wordAt, Cond.methodLink RX5 38 yX5_hasDots, Cond.instanceMethod yX5_hasDots, Cond.selects RX5 yX5_hasDots yX5_hasDots, Cond.code yX5_hasDots cX5_hasDots 4 (some .boolean), Cond.methodLink RX5 42 yX5_itemsFrom, Cond.instanceMethod yX5_itemsFrom, Cond.selects RX5 yX5_itemsFrom yX5_itemsFrom, Cond.code yX5_itemsFrom cX5_itemsFrom 5 (some .int), Cond.methodLink RX1 32 yX1_matches, Cond.instanceMethod yX1_matches, Cond.selects RX1 yX1_matches yX1_matches, Cond.code yX1_matches cX1_matches 8 (some .boolean), Cond.fieldLink RX1 12 "MarkedNames$Filler" "rounds" "LMarkedNames$Rounds;", Cond.constant RX1 45 (1000000), Cond.methodLink RX1 39 yX1_hasRoomFor, Cond.instanceMethod yX1_hasRoomFor]
def wsX8_expand_r10 : List Cond := [Cond.selects RX1 yX1_hasRoomFor yX1_hasRoomFor, Cond.code yX1_hasRoomFor cX1_hasRoomFor 5 (some .boolean), Cond.methodLink RX1 53 yX5_itemsFrom, Cond.methodLink RX1 69 yX5_hasDots, Cond.methodLink RX1 42 yX4_clear, Cond.instanceMethod yX4_clear, Cond.selects RX4 yX4_clear yX4_clear, Cond.initialized RX4, Cond.code yX4_clear cX4_clear 1 none, Cond.fieldLink RX4 21 "MarkedNames$Rounds" "depth" "I", Cond.methodLink RX1 36 yX5_after, Cond.methodLink RX1 46 yX5_isHeld, Cond.instanceMethod yX5_isHeld, Cond.selects RX5 yX5_isHeld yX5_isHeld, Cond.code yX5_isHeld cX5_isHeld 3 (some .boolean), Cond.methodLink RX1 50 yX4_isIn, Cond.instanceMethod yX4_isIn, Cond.selects RX4 yX4_isIn yX4_isIn, Cond.code yX4_isIn cX4_isIn 2 (some .boolean), Cond.fieldLink RX4 9 "MarkedNames$Rounds" "held" "[I", Cond.methodLink RX4 25 yX4_hasInner, Cond.instanceMethod yX4_hasInner, Cond.selects RX4 yX4_hasInner yX4_hasInner, Cond.code yX4_hasInner cX4_hasInner 1 (some .boolean)]
def wsX8_expand_r11 : List Cond := [Cond.methodLink RX1 56 yX4_enter, Cond.instanceMethod yX4_enter, Cond.selects RX4 yX4_enter yX4_enter, Cond.code yX4_enter cX4_enter 3 none, Cond.fieldLink RX4 15 "MarkedNames$Rounds" "round" "[I", Cond.fieldLink RX4 18 "MarkedNames$Rounds" "rounds" "[I", Cond.methodLink RX1 60 yX5_wordAt, Cond.methodLink RX1 63 yX4_leave, Cond.instanceMethod yX4_leave, Cond.selects RX4 yX4_leave yX4_leave, Cond.code yX4_leave cX4_leave 2 (some .int), Cond.methodLink RX0 180 yX1_fill, Cond.instanceMethod yX1_fill, Cond.selects RX1 yX1_fill yX1_fill, Cond.code yX1_fill cX1_fill 8 (some .int), Cond.fieldLink RX1 72 "MarkedNames$Filler" "pattern" "I", Cond.fieldLink RX1 76 "MarkedNames$Filler" "matched" "I", Cond.fieldLink RX1 79 "MarkedNames$Filler" "filled" "I", Cond.fieldLink RX1 22 "MarkedNames$Filler" "outcome" "LMarkedNames$Outcome;", Cond.methodLink RX1 82 yX5_startTree, Cond.instanceMethod yX5_startTree, Cond.selects RX5 yX5_startTree yX5_startTree, Cond.code yX5_startTree cX5_startTree 1 (some .int), Cond.methodLink RX1 91 yX1_roundsFor]
def wsX8_expand_r12 : List Cond := [Cond.instanceMethod yX1_roundsFor, Cond.selects RX1 yX1_roundsFor yX1_roundsFor, Cond.code yX1_roundsFor cX1_roundsFor 7 (some .int), Cond.methodLink RX1 111 Lib.Math.max.name, Cond.static Lib.Math.max.name, Cond.code Lib.Math.max.name Lib.Math.max.code 2 (some .int), Cond.methodLink RX1 98 yX5_variableAt, Cond.instanceMethod yX5_variableAt, Cond.selects RX5 yX5_variableAt yX5_variableAt, Cond.code yX5_variableAt cX5_variableAt 2 (some .int), Cond.methodLink RX1 104 yX1_matchOf, Cond.instanceMethod yX1_matchOf, Cond.selects RX1 yX1_matchOf yX1_matchOf, Cond.code yX1_matchOf cX1_matchOf 9 (some .int), Cond.methodLink RX1 125 yX4_roundOf, Cond.instanceMethod yX4_roundOf, Cond.selects RX4 yX4_roundOf yX4_roundOf, Cond.code yX4_roundOf cX4_roundOf 2 (some .int), Cond.methodLink RX1 108 yX2_fail, Cond.methodLink RX1 94 yX1_fillToken, Cond.instanceMethod yX1_fillToken, Cond.selects RX1 yX1_fillToken yX1_fillToken, Cond.code yX1_fillToken cX1_fillToken 6 none, Cond.static yX8_isTree]
def wsX8_expand_r13 : List Cond := [Cond.code yX8_isTree cX8_isTree 1 (some .boolean), Cond.methodLink RX1 119 yX5_marksAt, Cond.methodLink RX1 122 yX5_add, Cond.methodLink RX0 133 yX0_expandTree, Cond.code yX0_expandEach cX0_expandEach 6 none, Cond.methodLink RX0 127 yX5_itemsFrom, Cond.methodLink RX0 130 yX2_put, Cond.methodLink RX0 136 yX5_after, Cond.code yX0_expandFn cX0_expandFn 9 none, Cond.methodLink RX0 139 yX5_plainLength, Cond.methodLink RX0 142 yX0_areNames, Cond.instanceMethod yX0_areNames, Cond.selects RX0 yX0_areNames yX0_areNames, Cond.code yX0_areNames cX0_areNames 4 (some .boolean), Cond.methodLink RX0 152 yX0_bindVariable, Cond.instanceMethod yX0_bindVariable, Cond.selects RX0 yX0_bindVariable yX0_bindVariable, Cond.code yX0_bindVariable cX0_bindVariable 3 none, Cond.methodLink RX0 159 yX5_findName, Cond.instanceMethod yX5_findName, Cond.selects RX5 yX5_findName yX5_findName, Cond.code yX5_findName cX5_findName 5 (some .int), Cond.methodLink RX0 163 yX0_bind, Cond.instanceMethod yX0_bind]
def wsX8_expand_r14 : List Cond := [Cond.selects RX0 yX0_bind yX0_bind, Cond.code yX0_bind cX0_bind 4 (some .boolean), Cond.methodLink RX0 183 yX7_bind, Cond.instanceMethod yX7_bind, Cond.selects RX7 yX7_bind yX7_bind, Cond.code yX7_bind cX7_bind 5 (some .boolean), Cond.methodLink RX0 155 yX0_putVariables, Cond.instanceMethod yX0_putVariables, Cond.selects RX0 yX0_putVariables yX0_putVariables, Cond.code yX0_putVariables cX0_putVariables 4 none, Cond.constant RX0 158 (91758), Cond.code yX0_expandIf cX0_expandIf 5 none, Cond.constant RX0 167 (92518), Cond.code yX0_expandList cX0_expandList 5 none, Cond.methodLink RX0 108 yX0_expandFn, Cond.instanceMethod yX0_expandFn, Cond.selects RX0 yX0_expandFn yX0_expandFn, Cond.methodLink RX0 111 yX0_expandIf, Cond.instanceMethod yX0_expandIf, Cond.selects RX0 yX0_expandIf yX0_expandIf, Cond.methodLink RX0 114 yX0_expandQ, Cond.instanceMethod yX0_expandQ, Cond.selects RX0 yX0_expandQ yX0_expandQ, Cond.code yX0_expandQ cX0_expandQ 2 none]
def wsX8_expand_r15 : List Cond := [Cond.methodLink RX0 168 yX2_putTree, Cond.instanceMethod yX2_putTree, Cond.selects RX2 yX2_putTree yX2_putTree, Cond.code yX2_putTree cX2_putTree 5 none, Cond.methodLink RX2 39 yX5_after, Cond.methodLink RX2 45 yX5_wordAt, Cond.methodLink RX2 48 yX2_putWord, Cond.instanceMethod yX2_putWord, Cond.selects RX2 yX2_putWord yX2_putWord, Cond.code yX2_putWord cX2_putWord 2 none, Cond.methodLink RX2 33 yX2_putName, Cond.methodLink RX0 117 yX0_expandLs, Cond.instanceMethod yX0_expandLs, Cond.selects RX0 yX0_expandLs yX0_expandLs, Cond.methodLink RX0 120 yX0_expandByRules, Cond.instanceMethod yX0_expandByRules, Cond.selects RX0 yX0_expandByRules yX0_expandByRules, Cond.methodLink RX0 124 yX0_expandEach, Cond.instanceMethod yX0_expandEach, Cond.selects RX0 yX0_expandEach yX0_expandEach, Cond.code yX0_expandLs cX0_expandLs 6 none, Cond.fieldLink RX0 15 "MarkedNames$Expander" "check" "LMarkedNames$RuleCheck;", Cond.methodLink RX0 172 yX6_isNameWithRules, Cond.instanceMethod yX6_isNameWithRules]
def wsX8_expand_r16 : List Cond := [Cond.selects RX6 yX6_isNameWithRules yX6_isNameWithRules, Cond.initialized RX6, Cond.code yX6_isNameWithRules cX6_isNameWithRules 5 (some .boolean), Cond.fieldLink RX6 9 "MarkedNames$RuleCheck" "row" "LMarkedNames$Row;", Cond.methodLink RX6 15 yX5_plainLength, Cond.methodLink RX6 21 yX5_wordAt, Cond.methodLink RX6 28 yX6_isRule, Cond.instanceMethod yX6_isRule, Cond.selects RX6 yX6_isRule yX6_isRule, Cond.code yX6_isRule cX6_isRule 4 (some .boolean), Cond.methodLink RX6 31 yX5_after, Cond.methodLink RX6 34 yX6_isPattern, Cond.instanceMethod yX6_isPattern, Cond.selects RX6 yX6_isPattern yX6_isPattern, Cond.code yX6_isPattern cX6_isPattern 7 (some .boolean), Cond.methodLink RX6 45 yX5_isHeld, Cond.methodLink RX6 51 yX5_holders, Cond.instanceMethod yX5_holders, Cond.selects RX5 yX5_holders yX5_holders, Cond.code yX5_holders cX5_holders 6 (some .int), Cond.methodLink RX6 55 yX5_findName, Cond.methodLink RX6 37 yX6_linkUses, Cond.instanceMethod yX6_linkUses, Cond.selects RX6 yX6_linkUses yX6_linkUses]
def wsX8_expand_r17 : List Cond := [Cond.code yX6_linkUses cX6_linkUses 6 none, Cond.methodLink RX6 59 yX5_setVariable, Cond.instanceMethod yX5_setVariable, Cond.selects RX5 yX5_setVariable yX5_setVariable, Cond.code yX5_setVariable cX5_setVariable 3 none, Cond.methodLink RX6 41 yX6_isTemplate, Cond.instanceMethod yX6_isTemplate, Cond.selects RX6 yX6_isTemplate yX6_isTemplate, Cond.code yX6_isTemplate cX6_isTemplate 6 (some .boolean), Cond.methodLink RX6 62 yX5_variableAt, Cond.methodLink RX6 65 yX5_hasUse, Cond.instanceMethod yX5_hasUse, Cond.selects RX5 yX5_hasUse yX5_hasUse, Cond.code yX5_hasUse cX5_hasUse 3 (some .boolean)]
def wsX8_expand : List Cond := .code yX8_expand cX8_expand 3 (some .int) :: ((wsX8_expand_r1 ++ (wsX8_expand_r2 ++ (wsX8_expand_r3 ++ (wsX8_expand_r4 ++ (wsX8_expand_r5 ++ (wsX8_expand_r6 ++ (wsX8_expand_r7 ++ (wsX8_expand_r8 ++ (wsX8_expand_r9 ++ (wsX8_expand_r10 ++ (wsX8_expand_r11 ++ (wsX8_expand_r12 ++ (wsX8_expand_r13 ++ (wsX8_expand_r14 ++ (wsX8_expand_r15 ++ (wsX8_expand_r16 ++ wsX8_expand_r17)))))))))))))))) ++ wsX80 ++ wsX20 ++ wsX30 ++ wsX50 ++ wsX00 ++ wsX70 ++ wsX10 ++ wsX40 ++ wsX60)
def wsX8_at : List Cond := .code yX8_at cX8_at 2 (some .int) :: ([.fieldLink RX8 46 "MarkedNames" "outcome" "LMarkedNames$Outcome;", .methodLink RX8 109 yX2_charAt, .instanceMethod yX2_charAt, .selects RX2 yX2_charAt yX2_charAt, .initialized RX2, .code yX2_charAt cX2_charAt 2 (some .int), .fieldLink RX2 15 "MarkedNames$Outcome" "length" "I", .fieldLink RX2 9 "MarkedNames$Outcome" "text" "[I"] ++ wsX80 ++ wsX20)
def wsX8_count : List Cond := .code yX8_count cX8_count 2 (some .int) :: ([.fieldLink RX8 55 "MarkedNames" "expander" "LMarkedNames$Expander;"] ++ wsX80 ++ wsX00)
def wsX9_init : List Cond := .code yX9_init cX9_init 1 none :: ([.methodLink RX9 1 objectInit, .instanceMethod objectInit, .code objectInit ⟨#[0xb1]⟩ 1 none, .arrayClass .int, .fieldLink RX9 7 "MarkedNamesModel" "typed" "[I", .fieldLink RX9 13 "MarkedNamesModel" "row" "[I", .fieldLink RX9 16 "MarkedNamesModel" "set" "[I", .fieldLink RX9 19 "MarkedNamesModel" "kept" "[I", .fieldLink RX9 22 "MarkedNamesModel" "keptSet" "[I", .fieldLink RX9 25 "MarkedNamesModel" "ownName" "[I", .fieldLink RX9 28 "MarkedNamesModel" "ownEnd" "[I", .fieldLink RX9 31 "MarkedNamesModel" "name" "[I", .fieldLink RX9 34 "MarkedNamesModel" "scopes" "[I", .fieldLink RX9 37 "MarkedNamesModel" "meaning" "[I", .fieldLink RX9 40 "MarkedNamesModel" "from" "[I", .fieldLink RX9 43 "MarkedNamesModel" "to" "[I", .fieldLink RX9 46 "MarkedNamesModel" "made" "[I", .fieldLink RX9 49 "MarkedNamesModel" "madeSet" "[I", .fieldLink RX9 52 "MarkedNamesModel" "left" "[I", .fieldLink RX9 55 "MarkedNamesModel" "right" "[I", .fieldLink RX9 58 "MarkedNamesModel" "begins" "[I", .fieldLink RX9 61 "MarkedNamesModel" "rounds" "[I", .fieldLink RX9 64 "MarkedNamesModel" "round" "[I", .fieldLink RX9 67 "MarkedNamesModel" "text" "[I"] ++ wsX90)
def wsX9_type : List Cond := .code yX9_type cX9_type 5 (some .boolean) :: ([.fieldLink RX9 70 "MarkedNamesModel" "length" "I", .fieldLink RX9 7 "MarkedNamesModel" "typed" "[I"] ++ wsX90)
def wsX9_look : List Cond := .code yX9_look cX9_look 2 (some .int) :: ([.fieldLink RX9 70 "MarkedNamesModel" "length" "I", .fieldLink RX9 7 "MarkedNamesModel" "typed" "[I"] ++ wsX90)
def wsX9_isLetter : List Cond := .code yX9_isLetter cX9_isLetter 1 (some .boolean) :: ([])
def wsX9_isDigit : List Cond := .code yX9_isDigit cX9_isDigit 1 (some .boolean) :: ([])
def wsX9_run : List Cond := .code yX9_run cX9_run 4 (some .int) :: ([.fieldLink RX9 70 "MarkedNamesModel" "length" "I", .methodLink RX9 74 yX9_look, .instanceMethod yX9_look, .selects RX9 yX9_look yX9_look, .initialized RX9, .code yX9_look cX9_look 2 (some .int), .fieldLink RX9 7 "MarkedNamesModel" "typed" "[I", .methodLink RX9 78 yX9_isLetter, .static yX9_isLetter, .code yX9_isLetter cX9_isLetter 1 (some .boolean), .methodLink RX9 82 yX9_isDigit, .static yX9_isDigit, .code yX9_isDigit cX9_isDigit 1 (some .boolean)] ++ wsX90)
def wsX9_token : List Cond := .code yX9_token cX9_token 3 (some .int) :: ([.methodLink RX9 74 yX9_look, .instanceMethod yX9_look, .selects RX9 yX9_look yX9_look, .initialized RX9, .code yX9_look cX9_look 2 (some .int), .fieldLink RX9 70 "MarkedNamesModel" "length" "I", .fieldLink RX9 7 "MarkedNamesModel" "typed" "[I", .methodLink RX9 78 yX9_isLetter, .static yX9_isLetter, .code yX9_isLetter cX9_isLetter 1 (some .boolean), .methodLink RX9 85 yX9_run, .instanceMethod yX9_run, .selects RX9 yX9_run yX9_run, .code yX9_run cX9_run 4 (some .int), .methodLink RX9 82 yX9_isDigit, .static yX9_isDigit, .code yX9_isDigit cX9_isDigit 1 (some .boolean)] ++ wsX90)
def wsX9_code : List Cond := .code yX9_code cX9_code 6 (some .int) :: ([.constant RX9 88 (65536), .constant RX9 89 (131072), .constant RX9 90 (327680), .constant RX9 91 (393216), .constant RX9 92 (40000), .methodLink RX9 74 yX9_look, .instanceMethod yX9_look, .selects RX9 yX9_look yX9_look, .initialized RX9, .code yX9_look cX9_look 2 (some .int), .fieldLink RX9 70 "MarkedNamesModel" "length" "I", .fieldLink RX9 7 "MarkedNamesModel" "typed" "[I", .methodLink RX9 82 yX9_isDigit, .static yX9_isDigit, .code yX9_isDigit cX9_isDigit 1 (some .boolean), .methodLink RX9 78 yX9_isLetter, .static yX9_isLetter, .code yX9_isLetter cX9_isLetter 1 (some .boolean)] ++ wsX90)
def wsX9_fits : List Cond := .code yX9_fits cX9_fits 4 (some .boolean) :: ([])
def wsX9_read_r1 : List Cond := [Cond.fieldLink RX9 70 "MarkedNamesModel" "length" "I", Cond.constant RX9 88 (65536), Cond.fieldLink RX9 13 "MarkedNamesModel" "row" "[I", Cond.fieldLink RX9 104 "MarkedNamesModel" "head" "I", Cond.fieldLink RX9 16 "MarkedNamesModel" "set" "[I", Cond.methodLink RX9 74 yX9_look, Cond.instanceMethod yX9_look, Cond.selects RX9 yX9_look yX9_look, Cond.initialized RX9, Cond.code yX9_look cX9_look 2 (some .int), Cond.fieldLink RX9 7 "MarkedNamesModel" "typed" "[I", Cond.methodLink RX9 93 yX9_token, Cond.instanceMethod yX9_token, Cond.selects RX9 yX9_token yX9_token, Cond.code yX9_token cX9_token 3 (some .int), Cond.methodLink RX9 78 yX9_isLetter, Cond.static yX9_isLetter, Cond.code yX9_isLetter cX9_isLetter 1 (some .boolean), Cond.methodLink RX9 85 yX9_run, Cond.instanceMethod yX9_run, Cond.selects RX9 yX9_run yX9_run, Cond.code yX9_run cX9_run 4 (some .int), Cond.methodLink RX9 82 yX9_isDigit, Cond.static yX9_isDigit]
def wsX9_read_r2 : List Cond := [Cond.code yX9_isDigit cX9_isDigit 1 (some .boolean), Cond.methodLink RX9 96 yX9_code, Cond.instanceMethod yX9_code, Cond.selects RX9 yX9_code yX9_code, Cond.code yX9_code cX9_code 6 (some .int), Cond.constant RX9 89 (131072), Cond.constant RX9 90 (327680), Cond.constant RX9 91 (393216), Cond.constant RX9 92 (40000), Cond.methodLink RX9 100 yX9_fits, Cond.static yX9_fits, Cond.code yX9_fits cX9_fits 4 (some .boolean)]
def wsX9_read : List Cond := .code yX9_read cX9_read 8 (some .int) :: ((wsX9_read_r1 ++ wsX9_read_r2) ++ wsX90)
def wsX9_kind : List Cond := .code yX9_kind cX9_kind 2 (some .int) :: ([.constant RX9 88 (65536)])
def wsX9_what : List Cond := .code yX9_what cX9_what 2 (some .int) :: ([.constant RX9 88 (65536)])
def wsX9_end : List Cond := .code yX9_end cX9_end 5 (some .int) :: ([.methodLink RX9 107 yX9_kind, .static yX9_kind, .initialized RX9, .code yX9_kind cX9_kind 2 (some .int), .constant RX9 88 (65536)])
def wsX9_count : List Cond := .code yX9_count cX9_count 5 (some .int) :: ([.methodLink RX9 107 yX9_kind, .static yX9_kind, .initialized RX9, .code yX9_kind cX9_kind 2 (some .int), .constant RX9 88 (65536), .methodLink RX9 111 yX9_end, .static yX9_end, .code yX9_end cX9_end 5 (some .int)])
def wsX9_dots : List Cond := .code yX9_dots cX9_dots 5 (some .int) :: ([.methodLink RX9 107 yX9_kind, .static yX9_kind, .initialized RX9, .code yX9_kind cX9_kind 2 (some .int), .constant RX9 88 (65536), .methodLink RX9 111 yX9_end, .static yX9_end, .code yX9_end cX9_end 5 (some .int)])
def wsX9_isPlain : List Cond := .code yX9_isPlain cX9_isPlain 3 (some .boolean) :: ([.methodLink RX9 107 yX9_kind, .static yX9_kind, .initialized RX9, .code yX9_kind cX9_kind 2 (some .int), .constant RX9 88 (65536), .methodLink RX9 114 yX9_count, .static yX9_count, .code yX9_count cX9_count 5 (some .int), .methodLink RX9 111 yX9_end, .static yX9_end, .code yX9_end cX9_end 5 (some .int), .methodLink RX9 117 yX9_dots, .static yX9_dots, .code yX9_dots cX9_dots 5 (some .int)])
def wsX9_heldBy : List Cond := .code yX9_heldBy cX9_heldBy 8 (some .int) :: ([.fieldLink RX9 19 "MarkedNamesModel" "kept" "[I", .methodLink RX9 107 yX9_kind, .static yX9_kind, .initialized RX9, .code yX9_kind cX9_kind 2 (some .int), .constant RX9 88 (65536), .methodLink RX9 111 yX9_end, .static yX9_end, .code yX9_end cX9_end 5 (some .int)] ++ wsX90)
def wsX9_variable : List Cond := .code yX9_variable cX9_variable 6 (some .int) :: ([.fieldLink RX9 19 "MarkedNamesModel" "kept" "[I", .fieldLink RX9 22 "MarkedNamesModel" "keptSet" "[I", .methodLink RX9 111 yX9_end, .static yX9_end, .initialized RX9, .code yX9_end cX9_end 5 (some .int), .methodLink RX9 107 yX9_kind, .static yX9_kind, .code yX9_kind cX9_kind 2 (some .int), .constant RX9 88 (65536)] ++ wsX90)
def wsX9_isPattern : List Cond := .code yX9_isPattern cX9_isPattern 6 (some .boolean) :: ([.fieldLink RX9 19 "MarkedNamesModel" "kept" "[I", .fieldLink RX9 22 "MarkedNamesModel" "keptSet" "[I", .methodLink RX9 107 yX9_kind, .static yX9_kind, .initialized RX9, .code yX9_kind cX9_kind 2 (some .int), .constant RX9 88 (65536), .methodLink RX9 114 yX9_count, .static yX9_count, .code yX9_count cX9_count 5 (some .int), .methodLink RX9 111 yX9_end, .static yX9_end, .code yX9_end cX9_end 5 (some .int), .methodLink RX9 120 yX9_heldBy, .instanceMethod yX9_heldBy, .selects RX9 yX9_heldBy yX9_heldBy, .code yX9_heldBy cX9_heldBy 8 (some .int), .methodLink RX9 124 yX9_variable, .instanceMethod yX9_variable, .selects RX9 yX9_variable yX9_variable, .code yX9_variable cX9_variable 6 (some .int)] ++ wsX90)
def wsX9_uses : List Cond := .code yX9_uses cX9_uses 6 (some .int) :: ([.fieldLink RX9 19 "MarkedNamesModel" "kept" "[I", .fieldLink RX9 22 "MarkedNamesModel" "keptSet" "[I", .methodLink RX9 107 yX9_kind, .static yX9_kind, .initialized RX9, .code yX9_kind cX9_kind 2 (some .int), .constant RX9 88 (65536), .methodLink RX9 124 yX9_variable, .instanceMethod yX9_variable, .selects RX9 yX9_variable yX9_variable, .code yX9_variable cX9_variable 6 (some .int), .methodLink RX9 111 yX9_end, .static yX9_end, .code yX9_end cX9_end 5 (some .int)] ++ wsX90)
def wsX9_isTemplate : List Cond := .code yX9_isTemplate cX9_isTemplate 8 (some .boolean) :: ([.fieldLink RX9 19 "MarkedNamesModel" "kept" "[I", .fieldLink RX9 22 "MarkedNamesModel" "keptSet" "[I", .methodLink RX9 111 yX9_end, .static yX9_end, .initialized RX9, .code yX9_end cX9_end 5 (some .int), .methodLink RX9 107 yX9_kind, .static yX9_kind, .code yX9_kind cX9_kind 2 (some .int), .constant RX9 88 (65536), .methodLink RX9 124 yX9_variable, .instanceMethod yX9_variable, .selects RX9 yX9_variable yX9_variable, .code yX9_variable cX9_variable 6 (some .int), .methodLink RX9 120 yX9_heldBy, .instanceMethod yX9_heldBy, .selects RX9 yX9_heldBy yX9_heldBy, .code yX9_heldBy cX9_heldBy 8 (some .int), .methodLink RX9 127 yX9_uses, .instanceMethod yX9_uses, .selects RX9 yX9_uses yX9_uses, .code yX9_uses cX9_uses 6 (some .int)] ++ wsX90)
def wsX9_areRules_r1 : List Cond := [Cond.fieldLink RX9 19 "MarkedNamesModel" "kept" "[I", Cond.methodLink RX9 107 yX9_kind, Cond.static yX9_kind, Cond.initialized RX9, Cond.code yX9_kind cX9_kind 2 (some .int), Cond.constant RX9 88 (65536), Cond.methodLink RX9 130 yX9_isPlain, Cond.static yX9_isPlain, Cond.code yX9_isPlain cX9_isPlain 3 (some .boolean), Cond.methodLink RX9 114 yX9_count, Cond.static yX9_count, Cond.code yX9_count cX9_count 5 (some .int), Cond.methodLink RX9 111 yX9_end, Cond.static yX9_end, Cond.code yX9_end cX9_end 5 (some .int), Cond.methodLink RX9 117 yX9_dots, Cond.static yX9_dots, Cond.code yX9_dots cX9_dots 5 (some .int), Cond.methodLink RX9 134 yX9_isPattern, Cond.instanceMethod yX9_isPattern, Cond.selects RX9 yX9_isPattern yX9_isPattern, Cond.code yX9_isPattern cX9_isPattern 6 (some .boolean), Cond.fieldLink RX9 22 "MarkedNamesModel" "keptSet" "[I", Cond.methodLink RX9 120 yX9_heldBy]
def wsX9_areRules_r2 : List Cond := [Cond.instanceMethod yX9_heldBy, Cond.selects RX9 yX9_heldBy yX9_heldBy, Cond.code yX9_heldBy cX9_heldBy 8 (some .int), Cond.methodLink RX9 124 yX9_variable, Cond.instanceMethod yX9_variable, Cond.selects RX9 yX9_variable yX9_variable, Cond.code yX9_variable cX9_variable 6 (some .int), Cond.methodLink RX9 137 yX9_isTemplate, Cond.instanceMethod yX9_isTemplate, Cond.selects RX9 yX9_isTemplate yX9_isTemplate, Cond.code yX9_isTemplate cX9_isTemplate 8 (some .boolean), Cond.methodLink RX9 127 yX9_uses, Cond.instanceMethod yX9_uses, Cond.selects RX9 yX9_uses yX9_uses, Cond.code yX9_uses cX9_uses 6 (some .int)]
def wsX9_areRules : List Cond := .code yX9_areRules cX9_areRules 4 (some .boolean) :: ((wsX9_areRules_r1 ++ wsX9_areRules_r2) ++ wsX90)
def wsX9_keep : List Cond := .code yX9_keep cX9_keep 5 (some .int) :: ([.fieldLink RX9 19 "MarkedNamesModel" "kept" "[I", .fieldLink RX9 13 "MarkedNamesModel" "row" "[I", .fieldLink RX9 22 "MarkedNamesModel" "keptSet" "[I", .fieldLink RX9 16 "MarkedNamesModel" "set" "[I"] ++ wsX90)
def wsX9_core : List Cond := .code yX9_core cX9_core 1 (some .int) :: ([])
def wsX9_rules_r1 : List Cond := [Cond.fieldLink RX9 70 "MarkedNamesModel" "length" "I", Cond.fieldLink RX9 13 "MarkedNamesModel" "row" "[I", Cond.fieldLink RX9 104 "MarkedNamesModel" "head" "I", Cond.constant RX9 92 (40000), Cond.fieldLink RX9 157 "MarkedNamesModel" "own" "I", Cond.fieldLink RX9 25 "MarkedNamesModel" "ownName" "[I", Cond.fieldLink RX9 28 "MarkedNamesModel" "ownEnd" "[I", Cond.methodLink RX9 141 yX9_read, Cond.instanceMethod yX9_read, Cond.selects RX9 yX9_read yX9_read, Cond.initialized RX9, Cond.code yX9_read cX9_read 8 (some .int), Cond.constant RX9 88 (65536), Cond.fieldLink RX9 16 "MarkedNamesModel" "set" "[I", Cond.methodLink RX9 74 yX9_look, Cond.instanceMethod yX9_look, Cond.selects RX9 yX9_look yX9_look, Cond.code yX9_look cX9_look 2 (some .int), Cond.fieldLink RX9 7 "MarkedNamesModel" "typed" "[I", Cond.methodLink RX9 93 yX9_token, Cond.instanceMethod yX9_token, Cond.selects RX9 yX9_token yX9_token, Cond.code yX9_token cX9_token 3 (some .int), Cond.methodLink RX9 78 yX9_isLetter]
def wsX9_rules_r2 : List Cond := [Cond.static yX9_isLetter, Cond.code yX9_isLetter cX9_isLetter 1 (some .boolean), Cond.methodLink RX9 85 yX9_run, Cond.instanceMethod yX9_run, Cond.selects RX9 yX9_run yX9_run, Cond.code yX9_run cX9_run 4 (some .int), Cond.methodLink RX9 82 yX9_isDigit, Cond.static yX9_isDigit, Cond.code yX9_isDigit cX9_isDigit 1 (some .boolean), Cond.methodLink RX9 96 yX9_code, Cond.instanceMethod yX9_code, Cond.selects RX9 yX9_code yX9_code, Cond.code yX9_code cX9_code 6 (some .int), Cond.constant RX9 89 (131072), Cond.constant RX9 90 (327680), Cond.constant RX9 91 (393216), Cond.methodLink RX9 100 yX9_fits, Cond.static yX9_fits, Cond.code yX9_fits cX9_fits 4 (some .boolean), Cond.methodLink RX9 107 yX9_kind, Cond.static yX9_kind, Cond.code yX9_kind cX9_kind 2 (some .int), Cond.methodLink RX9 117 yX9_dots, Cond.static yX9_dots]
def wsX9_rules_r3 : List Cond := [Cond.code yX9_dots cX9_dots 5 (some .int), Cond.methodLink RX9 111 yX9_end, Cond.static yX9_end, Cond.code yX9_end cX9_end 5 (some .int), Cond.methodLink RX9 145 yX9_keep, Cond.instanceMethod yX9_keep, Cond.selects RX9 yX9_keep yX9_keep, Cond.code yX9_keep cX9_keep 5 (some .int), Cond.fieldLink RX9 19 "MarkedNamesModel" "kept" "[I", Cond.fieldLink RX9 22 "MarkedNamesModel" "keptSet" "[I", Cond.methodLink RX9 148 yX9_areRules, Cond.instanceMethod yX9_areRules, Cond.selects RX9 yX9_areRules yX9_areRules, Cond.code yX9_areRules cX9_areRules 4 (some .boolean), Cond.methodLink RX9 130 yX9_isPlain, Cond.static yX9_isPlain, Cond.code yX9_isPlain cX9_isPlain 3 (some .boolean), Cond.methodLink RX9 114 yX9_count, Cond.static yX9_count, Cond.code yX9_count cX9_count 5 (some .int), Cond.methodLink RX9 134 yX9_isPattern, Cond.instanceMethod yX9_isPattern, Cond.selects RX9 yX9_isPattern yX9_isPattern, Cond.code yX9_isPattern cX9_isPattern 6 (some .boolean)]
def wsX9_rules_r4 : List Cond := [Cond.methodLink RX9 120 yX9_heldBy, Cond.instanceMethod yX9_heldBy, Cond.selects RX9 yX9_heldBy yX9_heldBy, Cond.code yX9_heldBy cX9_heldBy 8 (some .int), Cond.methodLink RX9 124 yX9_variable, Cond.instanceMethod yX9_variable, Cond.selects RX9 yX9_variable yX9_variable, Cond.code yX9_variable cX9_variable 6 (some .int), Cond.methodLink RX9 137 yX9_isTemplate, Cond.instanceMethod yX9_isTemplate, Cond.selects RX9 yX9_isTemplate yX9_isTemplate, Cond.code yX9_isTemplate cX9_isTemplate 8 (some .boolean), Cond.methodLink RX9 127 yX9_uses, Cond.instanceMethod yX9_uses, Cond.selects RX9 yX9_uses yX9_uses, Cond.code yX9_uses cX9_uses 6 (some .int), Cond.methodLink RX9 151 yX9_what, Cond.static yX9_what, Cond.code yX9_what cX9_what 2 (some .int), Cond.methodLink RX9 154 yX9_core, Cond.static yX9_core, Cond.code yX9_core cX9_core 1 (some .int)]
def wsX9_rules : List Cond := .code yX9_rules cX9_rules 5 (some .int) :: ((wsX9_rules_r1 ++ (wsX9_rules_r2 ++ (wsX9_rules_r3 ++ wsX9_rules_r4))) ++ wsX90)
def wsX9_fails : List Cond := .code yX9_fails cX9_fails 2 none :: ([.fieldLink RX9 178 "MarkedNamesModel" "error" "I"] ++ wsX90)
def wsX9_bind : List Cond := .code yX9_bind cX9_bind 6 none :: ([.fieldLink RX9 160 "MarkedNamesModel" "bindings" "I", .fieldLink RX9 31 "MarkedNamesModel" "name" "[I", .fieldLink RX9 34 "MarkedNamesModel" "scopes" "[I", .fieldLink RX9 37 "MarkedNamesModel" "meaning" "[I", .fieldLink RX9 40 "MarkedNamesModel" "from" "[I", .fieldLink RX9 43 "MarkedNamesModel" "to" "[I", .methodLink RX9 163 yX9_fails, .instanceMethod yX9_fails, .selects RX9 yX9_fails yX9_fails, .initialized RX9, .code yX9_fails cX9_fails 2 none, .fieldLink RX9 178 "MarkedNamesModel" "error" "I"] ++ wsX90)
def wsX9_beginning : List Cond := .code yX9_beginning cX9_beginning 2 none :: ([.fieldLink RX9 160 "MarkedNamesModel" "bindings" "I", .constant RX9 171 (40043), .constant RX9 172 (40042), .constant RX9 173 (40061), .constant RX9 174 (40060), .fieldLink RX9 157 "MarkedNamesModel" "own" "I", .fieldLink RX9 25 "MarkedNamesModel" "ownName" "[I", .fieldLink RX9 28 "MarkedNamesModel" "ownEnd" "[I", .fieldLink RX9 175 "MarkedNamesModel" "atFirst" "I", .methodLink RX9 167 yX9_bind, .instanceMethod yX9_bind, .selects RX9 yX9_bind yX9_bind, .initialized RX9, .code yX9_bind cX9_bind 6 none, .fieldLink RX9 31 "MarkedNamesModel" "name" "[I", .fieldLink RX9 34 "MarkedNamesModel" "scopes" "[I", .fieldLink RX9 37 "MarkedNamesModel" "meaning" "[I", .fieldLink RX9 40 "MarkedNamesModel" "from" "[I", .fieldLink RX9 43 "MarkedNamesModel" "to" "[I", .methodLink RX9 163 yX9_fails, .instanceMethod yX9_fails, .selects RX9 yX9_fails yX9_fails, .code yX9_fails cX9_fails 2 none, .fieldLink RX9 178 "MarkedNamesModel" "error" "I"] ++ wsX90)
def wsX9_means : List Cond := .code yX9_means cX9_means 8 (some .int) :: ([.fieldLink RX9 160 "MarkedNamesModel" "bindings" "I", .fieldLink RX9 31 "MarkedNamesModel" "name" "[I", .fieldLink RX9 34 "MarkedNamesModel" "scopes" "[I"] ++ wsX90)
def wsX9_scope : List Cond := .code yX9_scope cX9_scope 1 (some .int) :: ([.fieldLink RX9 181 "MarkedNamesModel" "scopesMade" "I", .methodLink RX9 163 yX9_fails, .instanceMethod yX9_fails, .selects RX9 yX9_fails yX9_fails, .initialized RX9, .code yX9_fails cX9_fails 2 none, .fieldLink RX9 178 "MarkedNamesModel" "error" "I"] ++ wsX90)
def wsX9_put : List Cond := .code yX9_put cX9_put 2 none :: ([.fieldLink RX9 178 "MarkedNamesModel" "error" "I", .fieldLink RX9 184 "MarkedNamesModel" "size" "I", .fieldLink RX9 67 "MarkedNamesModel" "text" "[I", .methodLink RX9 163 yX9_fails, .instanceMethod yX9_fails, .selects RX9 yX9_fails yX9_fails, .initialized RX9, .code yX9_fails cX9_fails 2 none] ++ wsX90)
def wsX9_space : List Cond := .code yX9_space cX9_space 1 none :: ([.fieldLink RX9 187 "MarkedNamesModel" "gap" "Z", .methodLink RX9 191 yX9_put, .instanceMethod yX9_put, .selects RX9 yX9_put yX9_put, .initialized RX9, .code yX9_put cX9_put 2 none, .fieldLink RX9 178 "MarkedNamesModel" "error" "I", .fieldLink RX9 184 "MarkedNamesModel" "size" "I", .fieldLink RX9 67 "MarkedNamesModel" "text" "[I", .methodLink RX9 163 yX9_fails, .instanceMethod yX9_fails, .selects RX9 yX9_fails yX9_fails, .code yX9_fails cX9_fails 2 none] ++ wsX90)
def wsX9_putNumber : List Cond := .code yX9_putNumber cX9_putNumber 2 none :: ([.methodLink RX9 191 yX9_put, .instanceMethod yX9_put, .selects RX9 yX9_put yX9_put, .initialized RX9, .code yX9_put cX9_put 2 none, .fieldLink RX9 178 "MarkedNamesModel" "error" "I", .fieldLink RX9 184 "MarkedNamesModel" "size" "I", .fieldLink RX9 67 "MarkedNamesModel" "text" "[I", .methodLink RX9 163 yX9_fails, .instanceMethod yX9_fails, .selects RX9 yX9_fails yX9_fails, .code yX9_fails cX9_fails 2 none] ++ wsX90)
def wsX9_putName : List Cond := .code yX9_putName cX9_putName 2 none :: ([.constant RX9 92 (40000), .methodLink RX9 191 yX9_put, .instanceMethod yX9_put, .selects RX9 yX9_put yX9_put, .initialized RX9, .code yX9_put cX9_put 2 none, .fieldLink RX9 178 "MarkedNamesModel" "error" "I", .fieldLink RX9 184 "MarkedNamesModel" "size" "I", .fieldLink RX9 67 "MarkedNamesModel" "text" "[I", .methodLink RX9 163 yX9_fails, .instanceMethod yX9_fails, .selects RX9 yX9_fails yX9_fails, .code yX9_fails cX9_fails 2 none] ++ wsX90)
def wsX9_putOpen : List Cond := .code yX9_putOpen cX9_putOpen 1 none :: ([.fieldLink RX9 187 "MarkedNamesModel" "gap" "Z", .methodLink RX9 194 yX9_space, .instanceMethod yX9_space, .selects RX9 yX9_space yX9_space, .initialized RX9, .code yX9_space cX9_space 1 none, .methodLink RX9 191 yX9_put, .instanceMethod yX9_put, .selects RX9 yX9_put yX9_put, .code yX9_put cX9_put 2 none, .fieldLink RX9 178 "MarkedNamesModel" "error" "I", .fieldLink RX9 184 "MarkedNamesModel" "size" "I", .fieldLink RX9 67 "MarkedNamesModel" "text" "[I", .methodLink RX9 163 yX9_fails, .instanceMethod yX9_fails, .selects RX9 yX9_fails yX9_fails, .code yX9_fails cX9_fails 2 none] ++ wsX90)
def wsX9_putClose : List Cond := .code yX9_putClose cX9_putClose 1 none :: ([.fieldLink RX9 187 "MarkedNamesModel" "gap" "Z", .methodLink RX9 191 yX9_put, .instanceMethod yX9_put, .selects RX9 yX9_put yX9_put, .initialized RX9, .code yX9_put cX9_put 2 none, .fieldLink RX9 178 "MarkedNamesModel" "error" "I", .fieldLink RX9 184 "MarkedNamesModel" "size" "I", .fieldLink RX9 67 "MarkedNamesModel" "text" "[I", .methodLink RX9 163 yX9_fails, .instanceMethod yX9_fails, .selects RX9 yX9_fails yX9_fails, .code yX9_fails cX9_fails 2 none] ++ wsX90)
def wsX9_putVariable : List Cond := .code yX9_putVariable cX9_putVariable 2 none :: ([.methodLink RX9 194 yX9_space, .instanceMethod yX9_space, .selects RX9 yX9_space yX9_space, .initialized RX9, .code yX9_space cX9_space 1 none, .fieldLink RX9 187 "MarkedNamesModel" "gap" "Z", .methodLink RX9 191 yX9_put, .instanceMethod yX9_put, .selects RX9 yX9_put yX9_put, .code yX9_put cX9_put 2 none, .fieldLink RX9 178 "MarkedNamesModel" "error" "I", .fieldLink RX9 184 "MarkedNamesModel" "size" "I", .fieldLink RX9 67 "MarkedNamesModel" "text" "[I", .methodLink RX9 163 yX9_fails, .instanceMethod yX9_fails, .selects RX9 yX9_fails yX9_fails, .code yX9_fails cX9_fails 2 none, .methodLink RX9 197 yX9_putNumber, .instanceMethod yX9_putNumber, .selects RX9 yX9_putNumber yX9_putNumber, .code yX9_putNumber cX9_putNumber 2 none] ++ wsX90)
def wsX9_putToken_r1 : List Cond := [Cond.fieldLink RX9 13 "MarkedNamesModel" "row" "[I", Cond.methodLink RX9 107 yX9_kind, Cond.static yX9_kind, Cond.initialized RX9, Cond.code yX9_kind cX9_kind 2 (some .int), Cond.constant RX9 88 (65536), Cond.methodLink RX9 200 yX9_putOpen, Cond.instanceMethod yX9_putOpen, Cond.selects RX9 yX9_putOpen yX9_putOpen, Cond.code yX9_putOpen cX9_putOpen 1 none, Cond.fieldLink RX9 187 "MarkedNamesModel" "gap" "Z", Cond.methodLink RX9 194 yX9_space, Cond.instanceMethod yX9_space, Cond.selects RX9 yX9_space yX9_space, Cond.code yX9_space cX9_space 1 none, Cond.methodLink RX9 191 yX9_put, Cond.instanceMethod yX9_put, Cond.selects RX9 yX9_put yX9_put, Cond.code yX9_put cX9_put 2 none, Cond.fieldLink RX9 178 "MarkedNamesModel" "error" "I", Cond.fieldLink RX9 184 "MarkedNamesModel" "size" "I", Cond.fieldLink RX9 67 "MarkedNamesModel" "text" "[I", Cond.methodLink RX9 163 yX9_fails, Cond.instanceMethod yX9_fails]
def wsX9_putToken_r2 : List Cond := [Cond.selects RX9 yX9_fails yX9_fails, Cond.code yX9_fails cX9_fails 2 none, Cond.methodLink RX9 203 yX9_putClose, Cond.instanceMethod yX9_putClose, Cond.selects RX9 yX9_putClose yX9_putClose, Cond.code yX9_putClose cX9_putClose 1 none, Cond.methodLink RX9 151 yX9_what, Cond.static yX9_what, Cond.code yX9_what cX9_what 2 (some .int), Cond.methodLink RX9 206 yX9_putName, Cond.instanceMethod yX9_putName, Cond.selects RX9 yX9_putName yX9_putName, Cond.code yX9_putName cX9_putName 2 none, Cond.constant RX9 92 (40000), Cond.methodLink RX9 197 yX9_putNumber, Cond.instanceMethod yX9_putNumber, Cond.selects RX9 yX9_putNumber yX9_putNumber, Cond.code yX9_putNumber cX9_putNumber 2 none]
def wsX9_putToken : List Cond := .code yX9_putToken cX9_putToken 3 none :: ((wsX9_putToken_r1 ++ wsX9_putToken_r2) ++ wsX90)
def wsX9_pairs : List Cond := .code yX9_pairs cX9_pairs 12 (some .int) :: ([.fieldLink RX9 13 "MarkedNamesModel" "row" "[I", .fieldLink RX9 19 "MarkedNamesModel" "kept" "[I", .fieldLink RX9 52 "MarkedNamesModel" "left" "[I", .fieldLink RX9 55 "MarkedNamesModel" "right" "[I", .methodLink RX9 107 yX9_kind, .static yX9_kind, .initialized RX9, .code yX9_kind cX9_kind 2 (some .int), .constant RX9 88 (65536), .methodLink RX9 117 yX9_dots, .static yX9_dots, .code yX9_dots cX9_dots 5 (some .int), .methodLink RX9 111 yX9_end, .static yX9_end, .code yX9_end cX9_end 5 (some .int), .methodLink RX9 114 yX9_count, .static yX9_count, .code yX9_count cX9_count 5 (some .int)] ++ wsX90)
def wsX9_matches : List Cond := .code yX9_matches cX9_matches 7 (some .boolean) :: ([.fieldLink RX9 52 "MarkedNamesModel" "left" "[I", .fieldLink RX9 55 "MarkedNamesModel" "right" "[I", .fieldLink RX9 19 "MarkedNamesModel" "kept" "[I", .fieldLink RX9 13 "MarkedNamesModel" "row" "[I", .methodLink RX9 209 yX9_pairs, .instanceMethod yX9_pairs, .selects RX9 yX9_pairs yX9_pairs, .initialized RX9, .code yX9_pairs cX9_pairs 12 (some .int), .methodLink RX9 107 yX9_kind, .static yX9_kind, .code yX9_kind cX9_kind 2 (some .int), .constant RX9 88 (65536), .methodLink RX9 117 yX9_dots, .static yX9_dots, .code yX9_dots cX9_dots 5 (some .int), .methodLink RX9 111 yX9_end, .static yX9_end, .code yX9_end cX9_end 5 (some .int), .methodLink RX9 114 yX9_count, .static yX9_count, .code yX9_count cX9_count 5 (some .int)] ++ wsX90)
def wsX9_walk : List Cond := .code yX9_walk cX9_walk 13 (some .int) :: ([.fieldLink RX9 19 "MarkedNamesModel" "kept" "[I", .fieldLink RX9 13 "MarkedNamesModel" "row" "[I", .fieldLink RX9 64 "MarkedNamesModel" "round" "[I", .methodLink RX9 111 yX9_end, .static yX9_end, .initialized RX9, .code yX9_end cX9_end 5 (some .int), .methodLink RX9 107 yX9_kind, .static yX9_kind, .code yX9_kind cX9_kind 2 (some .int), .constant RX9 88 (65536)] ++ wsX90)
def wsX9_add : List Cond := .code yX9_add cX9_add 4 none :: ([.constant RX9 88 (65536), .fieldLink RX9 213 "MarkedNamesModel" "trees" "I", .fieldLink RX9 46 "MarkedNamesModel" "made" "[I", .fieldLink RX9 216 "MarkedNamesModel" "many" "I", .fieldLink RX9 49 "MarkedNamesModel" "madeSet" "[I", .methodLink RX9 163 yX9_fails, .instanceMethod yX9_fails, .selects RX9 yX9_fails yX9_fails, .initialized RX9, .code yX9_fails cX9_fails 2 none, .fieldLink RX9 178 "MarkedNamesModel" "error" "I"] ++ wsX90)
def wsX9_roundsOf : List Cond := .code yX9_roundsOf cX9_roundsOf 9 (some .int) :: ([.fieldLink RX9 19 "MarkedNamesModel" "kept" "[I", .fieldLink RX9 22 "MarkedNamesModel" "keptSet" "[I", .fieldLink RX9 219 "MarkedNamesModel" "held" "I", .methodLink RX9 107 yX9_kind, .static yX9_kind, .initialized RX9, .code yX9_kind cX9_kind 2 (some .int), .constant RX9 88 (65536), .methodLink RX9 124 yX9_variable, .instanceMethod yX9_variable, .selects RX9 yX9_variable yX9_variable, .code yX9_variable cX9_variable 6 (some .int), .methodLink RX9 111 yX9_end, .static yX9_end, .code yX9_end cX9_end 5 (some .int), .methodLink RX9 222 yX9_walk, .instanceMethod yX9_walk, .selects RX9 yX9_walk yX9_walk, .code yX9_walk cX9_walk 13 (some .int), .fieldLink RX9 13 "MarkedNamesModel" "row" "[I", .fieldLink RX9 64 "MarkedNamesModel" "round" "[I"] ++ wsX90)
def wsX9_hold_r1 : List Cond := [Cond.fieldLink RX9 19 "MarkedNamesModel" "kept" "[I", Cond.fieldLink RX9 58 "MarkedNamesModel" "begins" "[I", Cond.fieldLink RX9 219 "MarkedNamesModel" "held" "I", Cond.fieldLink RX9 61 "MarkedNamesModel" "rounds" "[I", Cond.fieldLink RX9 64 "MarkedNamesModel" "round" "[I", Cond.methodLink RX9 111 yX9_end, Cond.static yX9_end, Cond.initialized RX9, Cond.code yX9_end cX9_end 5 (some .int), Cond.methodLink RX9 107 yX9_kind, Cond.static yX9_kind, Cond.code yX9_kind cX9_kind 2 (some .int), Cond.constant RX9 88 (65536), Cond.methodLink RX9 226 yX9_roundsOf, Cond.instanceMethod yX9_roundsOf, Cond.selects RX9 yX9_roundsOf yX9_roundsOf, Cond.code yX9_roundsOf cX9_roundsOf 9 (some .int), Cond.fieldLink RX9 22 "MarkedNamesModel" "keptSet" "[I", Cond.methodLink RX9 124 yX9_variable, Cond.instanceMethod yX9_variable, Cond.selects RX9 yX9_variable yX9_variable, Cond.code yX9_variable cX9_variable 6 (some .int), Cond.methodLink RX9 222 yX9_walk, Cond.instanceMethod yX9_walk]
def wsX9_hold_r2 : List Cond := [Cond.selects RX9 yX9_walk yX9_walk, Cond.code yX9_walk cX9_walk 13 (some .int), Cond.fieldLink RX9 13 "MarkedNamesModel" "row" "[I", Cond.methodLink RX9 163 yX9_fails, Cond.instanceMethod yX9_fails, Cond.selects RX9 yX9_fails yX9_fails, Cond.code yX9_fails cX9_fails 2 none, Cond.fieldLink RX9 178 "MarkedNamesModel" "error" "I"]
def wsX9_hold : List Cond := .code yX9_hold cX9_hold 6 (some .int) :: ((wsX9_hold_r1 ++ wsX9_hold_r2) ++ wsX90)
def wsX9_isHeld : List Cond := .code yX9_isHeld cX9_isHeld 2 (some .boolean) :: ([.fieldLink RX9 219 "MarkedNamesModel" "held" "I", .fieldLink RX9 58 "MarkedNamesModel" "begins" "[I"] ++ wsX90)
def wsX9_again : List Cond := .code yX9_again cX9_again 2 (some .int) :: ([.fieldLink RX9 64 "MarkedNamesModel" "round" "[I", .fieldLink RX9 219 "MarkedNamesModel" "held" "I", .fieldLink RX9 61 "MarkedNamesModel" "rounds" "[I", .fieldLink RX9 58 "MarkedNamesModel" "begins" "[I"] ++ wsX90)
def wsX9_bring : List Cond := .code yX9_bring cX9_bring 4 none :: ([.fieldLink RX9 13 "MarkedNamesModel" "row" "[I", .fieldLink RX9 178 "MarkedNamesModel" "error" "I", .fieldLink RX9 16 "MarkedNamesModel" "set" "[I", .methodLink RX9 111 yX9_end, .static yX9_end, .initialized RX9, .code yX9_end cX9_end 5 (some .int), .methodLink RX9 107 yX9_kind, .static yX9_kind, .code yX9_kind cX9_kind 2 (some .int), .constant RX9 88 (65536), .methodLink RX9 238 yX9_add, .instanceMethod yX9_add, .selects RX9 yX9_add yX9_add, .code yX9_add cX9_add 4 none, .fieldLink RX9 213 "MarkedNamesModel" "trees" "I", .fieldLink RX9 46 "MarkedNamesModel" "made" "[I", .fieldLink RX9 216 "MarkedNamesModel" "many" "I", .fieldLink RX9 49 "MarkedNamesModel" "madeSet" "[I", .methodLink RX9 163 yX9_fails, .instanceMethod yX9_fails, .selects RX9 yX9_fails yX9_fails, .code yX9_fails cX9_fails 2 none] ++ wsX90)
def wsX9_fill_r1 : List Cond := [Cond.fieldLink RX9 19 "MarkedNamesModel" "kept" "[I", Cond.fieldLink RX9 216 "MarkedNamesModel" "many" "I", Cond.fieldLink RX9 213 "MarkedNamesModel" "trees" "I", Cond.fieldLink RX9 219 "MarkedNamesModel" "held" "I", Cond.fieldLink RX9 178 "MarkedNamesModel" "error" "I", Cond.fieldLink RX9 22 "MarkedNamesModel" "keptSet" "[I", Cond.methodLink RX9 111 yX9_end, Cond.static yX9_end, Cond.initialized RX9, Cond.code yX9_end cX9_end 5 (some .int), Cond.methodLink RX9 107 yX9_kind, Cond.static yX9_kind, Cond.code yX9_kind cX9_kind 2 (some .int), Cond.constant RX9 88 (65536), Cond.methodLink RX9 229 yX9_again, Cond.instanceMethod yX9_again, Cond.selects RX9 yX9_again yX9_again, Cond.code yX9_again cX9_again 2 (some .int), Cond.fieldLink RX9 64 "MarkedNamesModel" "round" "[I", Cond.fieldLink RX9 61 "MarkedNamesModel" "rounds" "[I", Cond.fieldLink RX9 58 "MarkedNamesModel" "begins" "[I", Cond.methodLink RX9 232 yX9_isHeld, Cond.instanceMethod yX9_isHeld, Cond.selects RX9 yX9_isHeld yX9_isHeld]
def wsX9_fill_r2 : List Cond := [Cond.code yX9_isHeld cX9_isHeld 2 (some .boolean), Cond.methodLink RX9 235 yX9_hold, Cond.instanceMethod yX9_hold, Cond.selects RX9 yX9_hold yX9_hold, Cond.code yX9_hold cX9_hold 6 (some .int), Cond.methodLink RX9 226 yX9_roundsOf, Cond.instanceMethod yX9_roundsOf, Cond.selects RX9 yX9_roundsOf yX9_roundsOf, Cond.code yX9_roundsOf cX9_roundsOf 9 (some .int), Cond.methodLink RX9 124 yX9_variable, Cond.instanceMethod yX9_variable, Cond.selects RX9 yX9_variable yX9_variable, Cond.code yX9_variable cX9_variable 6 (some .int), Cond.methodLink RX9 222 yX9_walk, Cond.instanceMethod yX9_walk, Cond.selects RX9 yX9_walk yX9_walk, Cond.code yX9_walk cX9_walk 13 (some .int), Cond.fieldLink RX9 13 "MarkedNamesModel" "row" "[I", Cond.methodLink RX9 163 yX9_fails, Cond.instanceMethod yX9_fails, Cond.selects RX9 yX9_fails yX9_fails, Cond.code yX9_fails cX9_fails 2 none, Cond.methodLink RX9 238 yX9_add, Cond.instanceMethod yX9_add]
def wsX9_fill_r3 : List Cond := [Cond.selects RX9 yX9_add yX9_add, Cond.code yX9_add cX9_add 4 none, Cond.fieldLink RX9 46 "MarkedNamesModel" "made" "[I", Cond.fieldLink RX9 49 "MarkedNamesModel" "madeSet" "[I", Cond.methodLink RX9 242 yX9_bring, Cond.instanceMethod yX9_bring, Cond.selects RX9 yX9_bring yX9_bring, Cond.code yX9_bring cX9_bring 4 none, Cond.fieldLink RX9 16 "MarkedNamesModel" "set" "[I"]
def wsX9_fill : List Cond := .code yX9_fill cX9_fill 8 none :: ((wsX9_fill_r1 ++ (wsX9_fill_r2 ++ wsX9_fill_r3)) ++ wsX90)
def wsX9_turn : List Cond := .code yX9_turn cX9_turn 7 none :: ([.methodLink RX9 107 yX9_kind, .static yX9_kind, .initialized RX9, .code yX9_kind cX9_kind 2 (some .int), .constant RX9 88 (65536)])
def wsX9_give : List Cond := .code yX9_give cX9_give 5 none :: ([.fieldLink RX9 16 "MarkedNamesModel" "set" "[I", .fieldLink RX9 13 "MarkedNamesModel" "row" "[I", .methodLink RX9 107 yX9_kind, .static yX9_kind, .initialized RX9, .code yX9_kind cX9_kind 2 (some .int), .constant RX9 88 (65536)] ++ wsX90)
def wsX9_use_r1 : List Cond := [Cond.fieldLink RX9 245 "MarkedNamesModel" "fuelLeft" "I", Cond.fieldLink RX9 178 "MarkedNamesModel" "error" "I", Cond.fieldLink RX9 13 "MarkedNamesModel" "row" "[I", Cond.fieldLink RX9 104 "MarkedNamesModel" "head" "I", Cond.fieldLink RX9 16 "MarkedNamesModel" "set" "[I", Cond.fieldLink RX9 40 "MarkedNamesModel" "from" "[I", Cond.fieldLink RX9 43 "MarkedNamesModel" "to" "[I", Cond.fieldLink RX9 19 "MarkedNamesModel" "kept" "[I", Cond.fieldLink RX9 46 "MarkedNamesModel" "made" "[I", Cond.fieldLink RX9 49 "MarkedNamesModel" "madeSet" "[I", Cond.fieldLink RX9 216 "MarkedNamesModel" "many" "I", Cond.methodLink RX9 163 yX9_fails, Cond.instanceMethod yX9_fails, Cond.selects RX9 yX9_fails yX9_fails, Cond.initialized RX9, Cond.code yX9_fails cX9_fails 2 none, Cond.methodLink RX9 248 yX9_scope, Cond.instanceMethod yX9_scope, Cond.selects RX9 yX9_scope yX9_scope, Cond.code yX9_scope cX9_scope 1 (some .int), Cond.fieldLink RX9 181 "MarkedNamesModel" "scopesMade" "I", Cond.methodLink RX9 111 yX9_end, Cond.static yX9_end, Cond.code yX9_end cX9_end 5 (some .int)]
def wsX9_use_r2 : List Cond := [Cond.methodLink RX9 107 yX9_kind, Cond.static yX9_kind, Cond.code yX9_kind cX9_kind 2 (some .int), Cond.constant RX9 88 (65536), Cond.methodLink RX9 251 yX9_turn, Cond.instanceMethod yX9_turn, Cond.selects RX9 yX9_turn yX9_turn, Cond.code yX9_turn cX9_turn 7 none, Cond.methodLink RX9 255 yX9_matches, Cond.instanceMethod yX9_matches, Cond.selects RX9 yX9_matches yX9_matches, Cond.code yX9_matches cX9_matches 7 (some .boolean), Cond.fieldLink RX9 52 "MarkedNamesModel" "left" "[I", Cond.fieldLink RX9 55 "MarkedNamesModel" "right" "[I", Cond.methodLink RX9 209 yX9_pairs, Cond.instanceMethod yX9_pairs, Cond.selects RX9 yX9_pairs yX9_pairs, Cond.code yX9_pairs cX9_pairs 12 (some .int), Cond.methodLink RX9 117 yX9_dots, Cond.static yX9_dots, Cond.code yX9_dots cX9_dots 5 (some .int), Cond.methodLink RX9 114 yX9_count, Cond.static yX9_count, Cond.code yX9_count cX9_count 5 (some .int)]
def wsX9_use_r3 : List Cond := [Cond.methodLink RX9 258 yX9_fill, Cond.instanceMethod yX9_fill, Cond.selects RX9 yX9_fill yX9_fill, Cond.code yX9_fill cX9_fill 8 none, Cond.fieldLink RX9 213 "MarkedNamesModel" "trees" "I", Cond.fieldLink RX9 219 "MarkedNamesModel" "held" "I", Cond.fieldLink RX9 22 "MarkedNamesModel" "keptSet" "[I", Cond.methodLink RX9 229 yX9_again, Cond.instanceMethod yX9_again, Cond.selects RX9 yX9_again yX9_again, Cond.code yX9_again cX9_again 2 (some .int), Cond.fieldLink RX9 64 "MarkedNamesModel" "round" "[I", Cond.fieldLink RX9 61 "MarkedNamesModel" "rounds" "[I", Cond.fieldLink RX9 58 "MarkedNamesModel" "begins" "[I", Cond.methodLink RX9 232 yX9_isHeld, Cond.instanceMethod yX9_isHeld, Cond.selects RX9 yX9_isHeld yX9_isHeld, Cond.code yX9_isHeld cX9_isHeld 2 (some .boolean), Cond.methodLink RX9 235 yX9_hold, Cond.instanceMethod yX9_hold, Cond.selects RX9 yX9_hold yX9_hold, Cond.code yX9_hold cX9_hold 6 (some .int), Cond.methodLink RX9 226 yX9_roundsOf, Cond.instanceMethod yX9_roundsOf]
def wsX9_use_r4 : List Cond := [Cond.selects RX9 yX9_roundsOf yX9_roundsOf, Cond.code yX9_roundsOf cX9_roundsOf 9 (some .int), Cond.methodLink RX9 124 yX9_variable, Cond.instanceMethod yX9_variable, Cond.selects RX9 yX9_variable yX9_variable, Cond.code yX9_variable cX9_variable 6 (some .int), Cond.methodLink RX9 222 yX9_walk, Cond.instanceMethod yX9_walk, Cond.selects RX9 yX9_walk yX9_walk, Cond.code yX9_walk cX9_walk 13 (some .int), Cond.methodLink RX9 238 yX9_add, Cond.instanceMethod yX9_add, Cond.selects RX9 yX9_add yX9_add, Cond.code yX9_add cX9_add 4 none, Cond.methodLink RX9 242 yX9_bring, Cond.instanceMethod yX9_bring, Cond.selects RX9 yX9_bring yX9_bring, Cond.code yX9_bring cX9_bring 4 none]
def wsX9_use : List Cond := .code yX9_use cX9_use 6 none :: ((wsX9_use_r1 ++ (wsX9_use_r2 ++ (wsX9_use_r3 ++ wsX9_use_r4))) ++ wsX90)
def wsX9_function_r1 : List Cond := [Cond.fieldLink RX9 13 "MarkedNamesModel" "row" "[I", Cond.fieldLink RX9 104 "MarkedNamesModel" "head" "I", Cond.fieldLink RX9 178 "MarkedNamesModel" "error" "I", Cond.fieldLink RX9 265 "MarkedNamesModel" "variables" "I", Cond.fieldLink RX9 16 "MarkedNamesModel" "set" "[I", Cond.fieldLink RX9 271 "MarkedNamesModel" "deep" "I", Cond.methodLink RX9 111 yX9_end, Cond.static yX9_end, Cond.initialized RX9, Cond.code yX9_end cX9_end 5 (some .int), Cond.methodLink RX9 107 yX9_kind, Cond.static yX9_kind, Cond.code yX9_kind cX9_kind 2 (some .int), Cond.constant RX9 88 (65536), Cond.methodLink RX9 130 yX9_isPlain, Cond.static yX9_isPlain, Cond.code yX9_isPlain cX9_isPlain 3 (some .boolean), Cond.methodLink RX9 114 yX9_count, Cond.static yX9_count, Cond.code yX9_count cX9_count 5 (some .int), Cond.methodLink RX9 117 yX9_dots, Cond.static yX9_dots, Cond.code yX9_dots cX9_dots 5 (some .int), Cond.methodLink RX9 163 yX9_fails]
def wsX9_function_r2 : List Cond := [Cond.instanceMethod yX9_fails, Cond.selects RX9 yX9_fails yX9_fails, Cond.code yX9_fails cX9_fails 2 none, Cond.methodLink RX9 248 yX9_scope, Cond.instanceMethod yX9_scope, Cond.selects RX9 yX9_scope yX9_scope, Cond.code yX9_scope cX9_scope 1 (some .int), Cond.fieldLink RX9 181 "MarkedNamesModel" "scopesMade" "I", Cond.methodLink RX9 261 yX9_give, Cond.instanceMethod yX9_give, Cond.selects RX9 yX9_give yX9_give, Cond.code yX9_give cX9_give 5 none, Cond.methodLink RX9 151 yX9_what, Cond.static yX9_what, Cond.code yX9_what cX9_what 2 (some .int), Cond.methodLink RX9 167 yX9_bind, Cond.instanceMethod yX9_bind, Cond.selects RX9 yX9_bind yX9_bind, Cond.code yX9_bind cX9_bind 6 none, Cond.fieldLink RX9 160 "MarkedNamesModel" "bindings" "I", Cond.fieldLink RX9 31 "MarkedNamesModel" "name" "[I", Cond.fieldLink RX9 34 "MarkedNamesModel" "scopes" "[I", Cond.fieldLink RX9 37 "MarkedNamesModel" "meaning" "[I", Cond.fieldLink RX9 40 "MarkedNamesModel" "from" "[I"]
def wsX9_function_r3 : List Cond := [Cond.fieldLink RX9 43 "MarkedNamesModel" "to" "[I", Cond.methodLink RX9 200 yX9_putOpen, Cond.instanceMethod yX9_putOpen, Cond.selects RX9 yX9_putOpen yX9_putOpen, Cond.code yX9_putOpen cX9_putOpen 1 none, Cond.fieldLink RX9 187 "MarkedNamesModel" "gap" "Z", Cond.methodLink RX9 194 yX9_space, Cond.instanceMethod yX9_space, Cond.selects RX9 yX9_space yX9_space, Cond.code yX9_space cX9_space 1 none, Cond.methodLink RX9 191 yX9_put, Cond.instanceMethod yX9_put, Cond.selects RX9 yX9_put yX9_put, Cond.code yX9_put cX9_put 2 none, Cond.fieldLink RX9 184 "MarkedNamesModel" "size" "I", Cond.fieldLink RX9 67 "MarkedNamesModel" "text" "[I", Cond.methodLink RX9 206 yX9_putName, Cond.instanceMethod yX9_putName, Cond.selects RX9 yX9_putName yX9_putName, Cond.code yX9_putName cX9_putName 2 none, Cond.constant RX9 92 (40000), Cond.methodLink RX9 268 yX9_putVariable, Cond.instanceMethod yX9_putVariable, Cond.selects RX9 yX9_putVariable yX9_putVariable]
def wsX9_function_r4 : List Cond := [Cond.code yX9_putVariable cX9_putVariable 2 none, Cond.methodLink RX9 197 yX9_putNumber, Cond.instanceMethod yX9_putNumber, Cond.selects RX9 yX9_putNumber yX9_putNumber, Cond.code yX9_putNumber cX9_putNumber 2 none, Cond.methodLink RX9 203 yX9_putClose, Cond.instanceMethod yX9_putClose, Cond.selects RX9 yX9_putClose yX9_putClose, Cond.code yX9_putClose cX9_putClose 1 none]
def wsX9_function : List Cond := .code yX9_function cX9_function 9 none :: ((wsX9_function_r1 ++ (wsX9_function_r2 ++ (wsX9_function_r3 ++ wsX9_function_r4))) ++ wsX90)
def wsX9_local_r1 : List Cond := [Cond.fieldLink RX9 13 "MarkedNamesModel" "row" "[I", Cond.fieldLink RX9 104 "MarkedNamesModel" "head" "I", Cond.fieldLink RX9 274 "MarkedNamesModel" "keptEnd" "I", Cond.fieldLink RX9 178 "MarkedNamesModel" "error" "I", Cond.fieldLink RX9 16 "MarkedNamesModel" "set" "[I", Cond.constant RX9 277 (458752), Cond.fieldLink RX9 271 "MarkedNamesModel" "deep" "I", Cond.methodLink RX9 111 yX9_end, Cond.static yX9_end, Cond.initialized RX9, Cond.code yX9_end cX9_end 5 (some .int), Cond.methodLink RX9 107 yX9_kind, Cond.static yX9_kind, Cond.code yX9_kind cX9_kind 2 (some .int), Cond.constant RX9 88 (65536), Cond.methodLink RX9 130 yX9_isPlain, Cond.static yX9_isPlain, Cond.code yX9_isPlain cX9_isPlain 3 (some .boolean), Cond.methodLink RX9 114 yX9_count, Cond.static yX9_count, Cond.code yX9_count cX9_count 5 (some .int), Cond.methodLink RX9 117 yX9_dots, Cond.static yX9_dots, Cond.code yX9_dots cX9_dots 5 (some .int)]
def wsX9_local_r2 : List Cond := [Cond.methodLink RX9 145 yX9_keep, Cond.instanceMethod yX9_keep, Cond.selects RX9 yX9_keep yX9_keep, Cond.code yX9_keep cX9_keep 5 (some .int), Cond.fieldLink RX9 19 "MarkedNamesModel" "kept" "[I", Cond.fieldLink RX9 22 "MarkedNamesModel" "keptSet" "[I", Cond.methodLink RX9 148 yX9_areRules, Cond.instanceMethod yX9_areRules, Cond.selects RX9 yX9_areRules yX9_areRules, Cond.code yX9_areRules cX9_areRules 4 (some .boolean), Cond.methodLink RX9 134 yX9_isPattern, Cond.instanceMethod yX9_isPattern, Cond.selects RX9 yX9_isPattern yX9_isPattern, Cond.code yX9_isPattern cX9_isPattern 6 (some .boolean), Cond.methodLink RX9 120 yX9_heldBy, Cond.instanceMethod yX9_heldBy, Cond.selects RX9 yX9_heldBy yX9_heldBy, Cond.code yX9_heldBy cX9_heldBy 8 (some .int), Cond.methodLink RX9 124 yX9_variable, Cond.instanceMethod yX9_variable, Cond.selects RX9 yX9_variable yX9_variable, Cond.code yX9_variable cX9_variable 6 (some .int), Cond.methodLink RX9 137 yX9_isTemplate, Cond.instanceMethod yX9_isTemplate]
def wsX9_local_r3 : List Cond := [Cond.selects RX9 yX9_isTemplate yX9_isTemplate, Cond.code yX9_isTemplate cX9_isTemplate 8 (some .boolean), Cond.methodLink RX9 127 yX9_uses, Cond.instanceMethod yX9_uses, Cond.selects RX9 yX9_uses yX9_uses, Cond.code yX9_uses cX9_uses 6 (some .int), Cond.methodLink RX9 163 yX9_fails, Cond.instanceMethod yX9_fails, Cond.selects RX9 yX9_fails yX9_fails, Cond.code yX9_fails cX9_fails 2 none, Cond.methodLink RX9 248 yX9_scope, Cond.instanceMethod yX9_scope, Cond.selects RX9 yX9_scope yX9_scope, Cond.code yX9_scope cX9_scope 1 (some .int), Cond.fieldLink RX9 181 "MarkedNamesModel" "scopesMade" "I", Cond.methodLink RX9 261 yX9_give, Cond.instanceMethod yX9_give, Cond.selects RX9 yX9_give yX9_give, Cond.code yX9_give cX9_give 5 none, Cond.methodLink RX9 151 yX9_what, Cond.static yX9_what, Cond.code yX9_what cX9_what 2 (some .int), Cond.methodLink RX9 167 yX9_bind, Cond.instanceMethod yX9_bind]
def wsX9_local_r4 : List Cond := [Cond.selects RX9 yX9_bind yX9_bind, Cond.code yX9_bind cX9_bind 6 none, Cond.fieldLink RX9 160 "MarkedNamesModel" "bindings" "I", Cond.fieldLink RX9 31 "MarkedNamesModel" "name" "[I", Cond.fieldLink RX9 34 "MarkedNamesModel" "scopes" "[I", Cond.fieldLink RX9 37 "MarkedNamesModel" "meaning" "[I", Cond.fieldLink RX9 40 "MarkedNamesModel" "from" "[I", Cond.fieldLink RX9 43 "MarkedNamesModel" "to" "[I"]
def wsX9_local : List Cond := .code yX9_local cX9_local 8 none :: ((wsX9_local_r1 ++ (wsX9_local_r2 ++ (wsX9_local_r3 ++ wsX9_local_r4))) ++ wsX90)
def wsX9_form_r1 : List Cond := [Cond.fieldLink RX9 13 "MarkedNamesModel" "row" "[I", Cond.fieldLink RX9 104 "MarkedNamesModel" "head" "I", Cond.fieldLink RX9 271 "MarkedNamesModel" "deep" "I", Cond.fieldLink RX9 178 "MarkedNamesModel" "error" "I", Cond.methodLink RX9 278 yX9_function, Cond.instanceMethod yX9_function, Cond.selects RX9 yX9_function yX9_function, Cond.initialized RX9, Cond.code yX9_function cX9_function 9 none, Cond.fieldLink RX9 265 "MarkedNamesModel" "variables" "I", Cond.fieldLink RX9 16 "MarkedNamesModel" "set" "[I", Cond.methodLink RX9 111 yX9_end, Cond.static yX9_end, Cond.code yX9_end cX9_end 5 (some .int), Cond.methodLink RX9 107 yX9_kind, Cond.static yX9_kind, Cond.code yX9_kind cX9_kind 2 (some .int), Cond.constant RX9 88 (65536), Cond.methodLink RX9 130 yX9_isPlain, Cond.static yX9_isPlain, Cond.code yX9_isPlain cX9_isPlain 3 (some .boolean), Cond.methodLink RX9 114 yX9_count, Cond.static yX9_count, Cond.code yX9_count cX9_count 5 (some .int)]
def wsX9_form_r2 : List Cond := [Cond.methodLink RX9 117 yX9_dots, Cond.static yX9_dots, Cond.code yX9_dots cX9_dots 5 (some .int), Cond.methodLink RX9 163 yX9_fails, Cond.instanceMethod yX9_fails, Cond.selects RX9 yX9_fails yX9_fails, Cond.code yX9_fails cX9_fails 2 none, Cond.methodLink RX9 248 yX9_scope, Cond.instanceMethod yX9_scope, Cond.selects RX9 yX9_scope yX9_scope, Cond.code yX9_scope cX9_scope 1 (some .int), Cond.fieldLink RX9 181 "MarkedNamesModel" "scopesMade" "I", Cond.methodLink RX9 261 yX9_give, Cond.instanceMethod yX9_give, Cond.selects RX9 yX9_give yX9_give, Cond.code yX9_give cX9_give 5 none, Cond.methodLink RX9 151 yX9_what, Cond.static yX9_what, Cond.code yX9_what cX9_what 2 (some .int), Cond.methodLink RX9 167 yX9_bind, Cond.instanceMethod yX9_bind, Cond.selects RX9 yX9_bind yX9_bind, Cond.code yX9_bind cX9_bind 6 none, Cond.fieldLink RX9 160 "MarkedNamesModel" "bindings" "I"]
def wsX9_form_r3 : List Cond := [Cond.fieldLink RX9 31 "MarkedNamesModel" "name" "[I", Cond.fieldLink RX9 34 "MarkedNamesModel" "scopes" "[I", Cond.fieldLink RX9 37 "MarkedNamesModel" "meaning" "[I", Cond.fieldLink RX9 40 "MarkedNamesModel" "from" "[I", Cond.fieldLink RX9 43 "MarkedNamesModel" "to" "[I", Cond.methodLink RX9 200 yX9_putOpen, Cond.instanceMethod yX9_putOpen, Cond.selects RX9 yX9_putOpen yX9_putOpen, Cond.code yX9_putOpen cX9_putOpen 1 none, Cond.fieldLink RX9 187 "MarkedNamesModel" "gap" "Z", Cond.methodLink RX9 194 yX9_space, Cond.instanceMethod yX9_space, Cond.selects RX9 yX9_space yX9_space, Cond.code yX9_space cX9_space 1 none, Cond.methodLink RX9 191 yX9_put, Cond.instanceMethod yX9_put, Cond.selects RX9 yX9_put yX9_put, Cond.code yX9_put cX9_put 2 none, Cond.fieldLink RX9 184 "MarkedNamesModel" "size" "I", Cond.fieldLink RX9 67 "MarkedNamesModel" "text" "[I", Cond.methodLink RX9 206 yX9_putName, Cond.instanceMethod yX9_putName, Cond.selects RX9 yX9_putName yX9_putName, Cond.code yX9_putName cX9_putName 2 none]
def wsX9_form_r4 : List Cond := [Cond.constant RX9 92 (40000), Cond.methodLink RX9 268 yX9_putVariable, Cond.instanceMethod yX9_putVariable, Cond.selects RX9 yX9_putVariable yX9_putVariable, Cond.code yX9_putVariable cX9_putVariable 2 none, Cond.methodLink RX9 197 yX9_putNumber, Cond.instanceMethod yX9_putNumber, Cond.selects RX9 yX9_putNumber yX9_putNumber, Cond.code yX9_putNumber cX9_putNumber 2 none, Cond.methodLink RX9 203 yX9_putClose, Cond.instanceMethod yX9_putClose, Cond.selects RX9 yX9_putClose yX9_putClose, Cond.code yX9_putClose cX9_putClose 1 none, Cond.methodLink RX9 281 yX9_local, Cond.instanceMethod yX9_local, Cond.selects RX9 yX9_local yX9_local, Cond.code yX9_local cX9_local 8 none, Cond.fieldLink RX9 274 "MarkedNamesModel" "keptEnd" "I", Cond.constant RX9 277 (458752), Cond.methodLink RX9 145 yX9_keep, Cond.instanceMethod yX9_keep, Cond.selects RX9 yX9_keep yX9_keep, Cond.code yX9_keep cX9_keep 5 (some .int), Cond.fieldLink RX9 19 "MarkedNamesModel" "kept" "[I"]
def wsX9_form_r5 : List Cond := [Cond.fieldLink RX9 22 "MarkedNamesModel" "keptSet" "[I", Cond.methodLink RX9 148 yX9_areRules, Cond.instanceMethod yX9_areRules, Cond.selects RX9 yX9_areRules yX9_areRules, Cond.code yX9_areRules cX9_areRules 4 (some .boolean), Cond.methodLink RX9 134 yX9_isPattern, Cond.instanceMethod yX9_isPattern, Cond.selects RX9 yX9_isPattern yX9_isPattern, Cond.code yX9_isPattern cX9_isPattern 6 (some .boolean), Cond.methodLink RX9 120 yX9_heldBy, Cond.instanceMethod yX9_heldBy, Cond.selects RX9 yX9_heldBy yX9_heldBy, Cond.code yX9_heldBy cX9_heldBy 8 (some .int), Cond.methodLink RX9 124 yX9_variable, Cond.instanceMethod yX9_variable, Cond.selects RX9 yX9_variable yX9_variable, Cond.code yX9_variable cX9_variable 6 (some .int), Cond.methodLink RX9 137 yX9_isTemplate, Cond.instanceMethod yX9_isTemplate, Cond.selects RX9 yX9_isTemplate yX9_isTemplate, Cond.code yX9_isTemplate cX9_isTemplate 8 (some .boolean), Cond.methodLink RX9 127 yX9_uses, Cond.instanceMethod yX9_uses, Cond.selects RX9 yX9_uses yX9_uses]
def wsX9_form_r6 : List Cond := [Cond.code yX9_uses cX9_uses 6 (some .int), Cond.methodLink RX9 284 yX9_putToken, Cond.instanceMethod yX9_putToken, Cond.selects RX9 yX9_putToken yX9_putToken, Cond.code yX9_putToken cX9_putToken 3 none]
def wsX9_form : List Cond := .code yX9_form cX9_form 4 none :: ((wsX9_form_r1 ++ (wsX9_form_r2 ++ (wsX9_form_r3 ++ (wsX9_form_r4 ++ (wsX9_form_r5 ++ wsX9_form_r6))))) ++ wsX90)
def wsX9_list_r1 : List Cond := [Cond.fieldLink RX9 271 "MarkedNamesModel" "deep" "I", Cond.fieldLink RX9 13 "MarkedNamesModel" "row" "[I", Cond.fieldLink RX9 104 "MarkedNamesModel" "head" "I", Cond.fieldLink RX9 16 "MarkedNamesModel" "set" "[I", Cond.fieldLink RX9 37 "MarkedNamesModel" "meaning" "[I", Cond.fieldLink RX9 40 "MarkedNamesModel" "from" "[I", Cond.methodLink RX9 163 yX9_fails, Cond.instanceMethod yX9_fails, Cond.selects RX9 yX9_fails yX9_fails, Cond.initialized RX9, Cond.code yX9_fails cX9_fails 2 none, Cond.fieldLink RX9 178 "MarkedNamesModel" "error" "I", Cond.methodLink RX9 107 yX9_kind, Cond.static yX9_kind, Cond.code yX9_kind cX9_kind 2 (some .int), Cond.constant RX9 88 (65536), Cond.methodLink RX9 151 yX9_what, Cond.static yX9_what, Cond.code yX9_what cX9_what 2 (some .int), Cond.methodLink RX9 287 yX9_means, Cond.instanceMethod yX9_means, Cond.selects RX9 yX9_means yX9_means, Cond.code yX9_means cX9_means 8 (some .int), Cond.fieldLink RX9 160 "MarkedNamesModel" "bindings" "I"]
def wsX9_list_r2 : List Cond := [Cond.fieldLink RX9 31 "MarkedNamesModel" "name" "[I", Cond.fieldLink RX9 34 "MarkedNamesModel" "scopes" "[I", Cond.methodLink RX9 290 yX9_form, Cond.instanceMethod yX9_form, Cond.selects RX9 yX9_form yX9_form, Cond.code yX9_form cX9_form 4 none, Cond.methodLink RX9 278 yX9_function, Cond.instanceMethod yX9_function, Cond.selects RX9 yX9_function yX9_function, Cond.code yX9_function cX9_function 9 none, Cond.fieldLink RX9 265 "MarkedNamesModel" "variables" "I", Cond.methodLink RX9 111 yX9_end, Cond.static yX9_end, Cond.code yX9_end cX9_end 5 (some .int), Cond.methodLink RX9 130 yX9_isPlain, Cond.static yX9_isPlain, Cond.code yX9_isPlain cX9_isPlain 3 (some .boolean), Cond.methodLink RX9 114 yX9_count, Cond.static yX9_count, Cond.code yX9_count cX9_count 5 (some .int), Cond.methodLink RX9 117 yX9_dots, Cond.static yX9_dots, Cond.code yX9_dots cX9_dots 5 (some .int), Cond.methodLink RX9 248 yX9_scope]
def wsX9_list_r3 : List Cond := [Cond.instanceMethod yX9_scope, Cond.selects RX9 yX9_scope yX9_scope, Cond.code yX9_scope cX9_scope 1 (some .int), Cond.fieldLink RX9 181 "MarkedNamesModel" "scopesMade" "I", Cond.methodLink RX9 261 yX9_give, Cond.instanceMethod yX9_give, Cond.selects RX9 yX9_give yX9_give, Cond.code yX9_give cX9_give 5 none, Cond.methodLink RX9 167 yX9_bind, Cond.instanceMethod yX9_bind, Cond.selects RX9 yX9_bind yX9_bind, Cond.code yX9_bind cX9_bind 6 none, Cond.fieldLink RX9 43 "MarkedNamesModel" "to" "[I", Cond.methodLink RX9 200 yX9_putOpen, Cond.instanceMethod yX9_putOpen, Cond.selects RX9 yX9_putOpen yX9_putOpen, Cond.code yX9_putOpen cX9_putOpen 1 none, Cond.fieldLink RX9 187 "MarkedNamesModel" "gap" "Z", Cond.methodLink RX9 194 yX9_space, Cond.instanceMethod yX9_space, Cond.selects RX9 yX9_space yX9_space, Cond.code yX9_space cX9_space 1 none, Cond.methodLink RX9 191 yX9_put, Cond.instanceMethod yX9_put]
def wsX9_list_r4 : List Cond := [Cond.selects RX9 yX9_put yX9_put, Cond.code yX9_put cX9_put 2 none, Cond.fieldLink RX9 184 "MarkedNamesModel" "size" "I", Cond.fieldLink RX9 67 "MarkedNamesModel" "text" "[I", Cond.methodLink RX9 206 yX9_putName, Cond.instanceMethod yX9_putName, Cond.selects RX9 yX9_putName yX9_putName, Cond.code yX9_putName cX9_putName 2 none, Cond.constant RX9 92 (40000), Cond.methodLink RX9 268 yX9_putVariable, Cond.instanceMethod yX9_putVariable, Cond.selects RX9 yX9_putVariable yX9_putVariable, Cond.code yX9_putVariable cX9_putVariable 2 none, Cond.methodLink RX9 197 yX9_putNumber, Cond.instanceMethod yX9_putNumber, Cond.selects RX9 yX9_putNumber yX9_putNumber, Cond.code yX9_putNumber cX9_putNumber 2 none, Cond.methodLink RX9 203 yX9_putClose, Cond.instanceMethod yX9_putClose, Cond.selects RX9 yX9_putClose yX9_putClose, Cond.code yX9_putClose cX9_putClose 1 none, Cond.methodLink RX9 281 yX9_local, Cond.instanceMethod yX9_local, Cond.selects RX9 yX9_local yX9_local]
def wsX9_list_r5 : List Cond := [Cond.code yX9_local cX9_local 8 none, Cond.fieldLink RX9 274 "MarkedNamesModel" "keptEnd" "I", Cond.constant RX9 277 (458752), Cond.methodLink RX9 145 yX9_keep, Cond.instanceMethod yX9_keep, Cond.selects RX9 yX9_keep yX9_keep, Cond.code yX9_keep cX9_keep 5 (some .int), Cond.fieldLink RX9 19 "MarkedNamesModel" "kept" "[I", Cond.fieldLink RX9 22 "MarkedNamesModel" "keptSet" "[I", Cond.methodLink RX9 148 yX9_areRules, Cond.instanceMethod yX9_areRules, Cond.selects RX9 yX9_areRules yX9_areRules, Cond.code yX9_areRules cX9_areRules 4 (some .boolean), Cond.methodLink RX9 134 yX9_isPattern, Cond.instanceMethod yX9_isPattern, Cond.selects RX9 yX9_isPattern yX9_isPattern, Cond.code yX9_isPattern cX9_isPattern 6 (some .boolean), Cond.methodLink RX9 120 yX9_heldBy, Cond.instanceMethod yX9_heldBy, Cond.selects RX9 yX9_heldBy yX9_heldBy, Cond.code yX9_heldBy cX9_heldBy 8 (some .int), Cond.methodLink RX9 124 yX9_variable, Cond.instanceMethod yX9_variable, Cond.selects RX9 yX9_variable yX9_variable]
def wsX9_list_r6 : List Cond := [Cond.code yX9_variable cX9_variable 6 (some .int), Cond.methodLink RX9 137 yX9_isTemplate, Cond.instanceMethod yX9_isTemplate, Cond.selects RX9 yX9_isTemplate yX9_isTemplate, Cond.code yX9_isTemplate cX9_isTemplate 8 (some .boolean), Cond.methodLink RX9 127 yX9_uses, Cond.instanceMethod yX9_uses, Cond.selects RX9 yX9_uses yX9_uses, Cond.code yX9_uses cX9_uses 6 (some .int), Cond.methodLink RX9 284 yX9_putToken, Cond.instanceMethod yX9_putToken, Cond.selects RX9 yX9_putToken yX9_putToken, Cond.code yX9_putToken cX9_putToken 3 none, Cond.methodLink RX9 293 yX9_use, Cond.instanceMethod yX9_use, Cond.selects RX9 yX9_use yX9_use, Cond.code yX9_use cX9_use 6 none, Cond.fieldLink RX9 245 "MarkedNamesModel" "fuelLeft" "I", Cond.fieldLink RX9 46 "MarkedNamesModel" "made" "[I", Cond.fieldLink RX9 49 "MarkedNamesModel" "madeSet" "[I", Cond.fieldLink RX9 216 "MarkedNamesModel" "many" "I", Cond.methodLink RX9 251 yX9_turn, Cond.instanceMethod yX9_turn, Cond.selects RX9 yX9_turn yX9_turn]
def wsX9_list_r7 : List Cond := [Cond.code yX9_turn cX9_turn 7 none, Cond.methodLink RX9 255 yX9_matches, Cond.instanceMethod yX9_matches, Cond.selects RX9 yX9_matches yX9_matches, Cond.code yX9_matches cX9_matches 7 (some .boolean), Cond.fieldLink RX9 52 "MarkedNamesModel" "left" "[I", Cond.fieldLink RX9 55 "MarkedNamesModel" "right" "[I", Cond.methodLink RX9 209 yX9_pairs, Cond.instanceMethod yX9_pairs, Cond.selects RX9 yX9_pairs yX9_pairs, Cond.code yX9_pairs cX9_pairs 12 (some .int), Cond.methodLink RX9 258 yX9_fill, Cond.instanceMethod yX9_fill, Cond.selects RX9 yX9_fill yX9_fill, Cond.code yX9_fill cX9_fill 8 none, Cond.fieldLink RX9 213 "MarkedNamesModel" "trees" "I", Cond.fieldLink RX9 219 "MarkedNamesModel" "held" "I", Cond.methodLink RX9 229 yX9_again, Cond.instanceMethod yX9_again, Cond.selects RX9 yX9_again yX9_again, Cond.code yX9_again cX9_again 2 (some .int), Cond.fieldLink RX9 64 "MarkedNamesModel" "round" "[I", Cond.fieldLink RX9 61 "MarkedNamesModel" "rounds" "[I", Cond.fieldLink RX9 58 "MarkedNamesModel" "begins" "[I"]
def wsX9_list_r8 : List Cond := [Cond.methodLink RX9 232 yX9_isHeld, Cond.instanceMethod yX9_isHeld, Cond.selects RX9 yX9_isHeld yX9_isHeld, Cond.code yX9_isHeld cX9_isHeld 2 (some .boolean), Cond.methodLink RX9 235 yX9_hold, Cond.instanceMethod yX9_hold, Cond.selects RX9 yX9_hold yX9_hold, Cond.code yX9_hold cX9_hold 6 (some .int), Cond.methodLink RX9 226 yX9_roundsOf, Cond.instanceMethod yX9_roundsOf, Cond.selects RX9 yX9_roundsOf yX9_roundsOf, Cond.code yX9_roundsOf cX9_roundsOf 9 (some .int), Cond.methodLink RX9 222 yX9_walk, Cond.instanceMethod yX9_walk, Cond.selects RX9 yX9_walk yX9_walk, Cond.code yX9_walk cX9_walk 13 (some .int), Cond.methodLink RX9 238 yX9_add, Cond.instanceMethod yX9_add, Cond.selects RX9 yX9_add yX9_add, Cond.code yX9_add cX9_add 4 none, Cond.methodLink RX9 242 yX9_bring, Cond.instanceMethod yX9_bring, Cond.selects RX9 yX9_bring yX9_bring, Cond.code yX9_bring cX9_bring 4 none]
def wsX9_list : List Cond := .code yX9_list cX9_list 3 none :: ((wsX9_list_r1 ++ (wsX9_list_r2 ++ (wsX9_list_r3 ++ (wsX9_list_r4 ++ (wsX9_list_r5 ++ (wsX9_list_r6 ++ (wsX9_list_r7 ++ wsX9_list_r8))))))) ++ wsX90)
def wsX9_word_r1 : List Cond := [Cond.fieldLink RX9 13 "MarkedNamesModel" "row" "[I", Cond.fieldLink RX9 104 "MarkedNamesModel" "head" "I", Cond.fieldLink RX9 16 "MarkedNamesModel" "set" "[I", Cond.fieldLink RX9 37 "MarkedNamesModel" "meaning" "[I", Cond.fieldLink RX9 40 "MarkedNamesModel" "from" "[I", Cond.methodLink RX9 151 yX9_what, Cond.static yX9_what, Cond.initialized RX9, Cond.code yX9_what cX9_what 2 (some .int), Cond.constant RX9 88 (65536), Cond.methodLink RX9 287 yX9_means, Cond.instanceMethod yX9_means, Cond.selects RX9 yX9_means yX9_means, Cond.code yX9_means cX9_means 8 (some .int), Cond.fieldLink RX9 160 "MarkedNamesModel" "bindings" "I", Cond.fieldLink RX9 31 "MarkedNamesModel" "name" "[I", Cond.fieldLink RX9 34 "MarkedNamesModel" "scopes" "[I", Cond.methodLink RX9 163 yX9_fails, Cond.instanceMethod yX9_fails, Cond.selects RX9 yX9_fails yX9_fails, Cond.code yX9_fails cX9_fails 2 none, Cond.fieldLink RX9 178 "MarkedNamesModel" "error" "I", Cond.methodLink RX9 194 yX9_space, Cond.instanceMethod yX9_space]
def wsX9_word_r2 : List Cond := [Cond.selects RX9 yX9_space yX9_space, Cond.code yX9_space cX9_space 1 none, Cond.fieldLink RX9 187 "MarkedNamesModel" "gap" "Z", Cond.methodLink RX9 191 yX9_put, Cond.instanceMethod yX9_put, Cond.selects RX9 yX9_put yX9_put, Cond.code yX9_put cX9_put 2 none, Cond.fieldLink RX9 184 "MarkedNamesModel" "size" "I", Cond.fieldLink RX9 67 "MarkedNamesModel" "text" "[I", Cond.methodLink RX9 206 yX9_putName, Cond.instanceMethod yX9_putName, Cond.selects RX9 yX9_putName yX9_putName, Cond.code yX9_putName cX9_putName 2 none, Cond.constant RX9 92 (40000), Cond.methodLink RX9 268 yX9_putVariable, Cond.instanceMethod yX9_putVariable, Cond.selects RX9 yX9_putVariable yX9_putVariable, Cond.code yX9_putVariable cX9_putVariable 2 none, Cond.methodLink RX9 197 yX9_putNumber, Cond.instanceMethod yX9_putNumber, Cond.selects RX9 yX9_putNumber yX9_putNumber, Cond.code yX9_putNumber cX9_putNumber 2 none]
def wsX9_word : List Cond := .code yX9_word cX9_word 2 none :: ((wsX9_word_r1 ++ wsX9_word_r2) ++ wsX90)
def wsX9_step_r1 : List Cond := [Cond.fieldLink RX9 13 "MarkedNamesModel" "row" "[I", Cond.fieldLink RX9 104 "MarkedNamesModel" "head" "I", Cond.fieldLink RX9 187 "MarkedNamesModel" "gap" "Z", Cond.fieldLink RX9 178 "MarkedNamesModel" "error" "I", Cond.fieldLink RX9 271 "MarkedNamesModel" "deep" "I", Cond.methodLink RX9 107 yX9_kind, Cond.static yX9_kind, Cond.initialized RX9, Cond.code yX9_kind cX9_kind 2 (some .int), Cond.constant RX9 88 (65536), Cond.methodLink RX9 191 yX9_put, Cond.instanceMethod yX9_put, Cond.selects RX9 yX9_put yX9_put, Cond.code yX9_put cX9_put 2 none, Cond.fieldLink RX9 184 "MarkedNamesModel" "size" "I", Cond.fieldLink RX9 67 "MarkedNamesModel" "text" "[I", Cond.methodLink RX9 163 yX9_fails, Cond.instanceMethod yX9_fails, Cond.selects RX9 yX9_fails yX9_fails, Cond.code yX9_fails cX9_fails 2 none, Cond.methodLink RX9 296 yX9_list, Cond.instanceMethod yX9_list, Cond.selects RX9 yX9_list yX9_list, Cond.code yX9_list cX9_list 3 none]
def wsX9_step_r2 : List Cond := [Cond.fieldLink RX9 16 "MarkedNamesModel" "set" "[I", Cond.fieldLink RX9 37 "MarkedNamesModel" "meaning" "[I", Cond.fieldLink RX9 40 "MarkedNamesModel" "from" "[I", Cond.methodLink RX9 151 yX9_what, Cond.static yX9_what, Cond.code yX9_what cX9_what 2 (some .int), Cond.methodLink RX9 287 yX9_means, Cond.instanceMethod yX9_means, Cond.selects RX9 yX9_means yX9_means, Cond.code yX9_means cX9_means 8 (some .int), Cond.fieldLink RX9 160 "MarkedNamesModel" "bindings" "I", Cond.fieldLink RX9 31 "MarkedNamesModel" "name" "[I", Cond.fieldLink RX9 34 "MarkedNamesModel" "scopes" "[I", Cond.methodLink RX9 290 yX9_form, Cond.instanceMethod yX9_form, Cond.selects RX9 yX9_form yX9_form, Cond.code yX9_form cX9_form 4 none, Cond.methodLink RX9 278 yX9_function, Cond.instanceMethod yX9_function, Cond.selects RX9 yX9_function yX9_function, Cond.code yX9_function cX9_function 9 none, Cond.fieldLink RX9 265 "MarkedNamesModel" "variables" "I", Cond.methodLink RX9 111 yX9_end, Cond.static yX9_end]
def wsX9_step_r3 : List Cond := [Cond.code yX9_end cX9_end 5 (some .int), Cond.methodLink RX9 130 yX9_isPlain, Cond.static yX9_isPlain, Cond.code yX9_isPlain cX9_isPlain 3 (some .boolean), Cond.methodLink RX9 114 yX9_count, Cond.static yX9_count, Cond.code yX9_count cX9_count 5 (some .int), Cond.methodLink RX9 117 yX9_dots, Cond.static yX9_dots, Cond.code yX9_dots cX9_dots 5 (some .int), Cond.methodLink RX9 248 yX9_scope, Cond.instanceMethod yX9_scope, Cond.selects RX9 yX9_scope yX9_scope, Cond.code yX9_scope cX9_scope 1 (some .int), Cond.fieldLink RX9 181 "MarkedNamesModel" "scopesMade" "I", Cond.methodLink RX9 261 yX9_give, Cond.instanceMethod yX9_give, Cond.selects RX9 yX9_give yX9_give, Cond.code yX9_give cX9_give 5 none, Cond.methodLink RX9 167 yX9_bind, Cond.instanceMethod yX9_bind, Cond.selects RX9 yX9_bind yX9_bind, Cond.code yX9_bind cX9_bind 6 none, Cond.fieldLink RX9 43 "MarkedNamesModel" "to" "[I"]
def wsX9_step_r4 : List Cond := [Cond.methodLink RX9 200 yX9_putOpen, Cond.instanceMethod yX9_putOpen, Cond.selects RX9 yX9_putOpen yX9_putOpen, Cond.code yX9_putOpen cX9_putOpen 1 none, Cond.methodLink RX9 194 yX9_space, Cond.instanceMethod yX9_space, Cond.selects RX9 yX9_space yX9_space, Cond.code yX9_space cX9_space 1 none, Cond.methodLink RX9 206 yX9_putName, Cond.instanceMethod yX9_putName, Cond.selects RX9 yX9_putName yX9_putName, Cond.code yX9_putName cX9_putName 2 none, Cond.constant RX9 92 (40000), Cond.methodLink RX9 268 yX9_putVariable, Cond.instanceMethod yX9_putVariable, Cond.selects RX9 yX9_putVariable yX9_putVariable, Cond.code yX9_putVariable cX9_putVariable 2 none, Cond.methodLink RX9 197 yX9_putNumber, Cond.instanceMethod yX9_putNumber, Cond.selects RX9 yX9_putNumber yX9_putNumber, Cond.code yX9_putNumber cX9_putNumber 2 none, Cond.methodLink RX9 203 yX9_putClose, Cond.instanceMethod yX9_putClose, Cond.selects RX9 yX9_putClose yX9_putClose]
def wsX9_step_r5 : List Cond := [Cond.code yX9_putClose cX9_putClose 1 none, Cond.methodLink RX9 281 yX9_local, Cond.instanceMethod yX9_local, Cond.selects RX9 yX9_local yX9_local, Cond.code yX9_local cX9_local 8 none, Cond.fieldLink RX9 274 "MarkedNamesModel" "keptEnd" "I", Cond.constant RX9 277 (458752), Cond.methodLink RX9 145 yX9_keep, Cond.instanceMethod yX9_keep, Cond.selects RX9 yX9_keep yX9_keep, Cond.code yX9_keep cX9_keep 5 (some .int), Cond.fieldLink RX9 19 "MarkedNamesModel" "kept" "[I", Cond.fieldLink RX9 22 "MarkedNamesModel" "keptSet" "[I", Cond.methodLink RX9 148 yX9_areRules, Cond.instanceMethod yX9_areRules, Cond.selects RX9 yX9_areRules yX9_areRules, Cond.code yX9_areRules cX9_areRules 4 (some .boolean), Cond.methodLink RX9 134 yX9_isPattern, Cond.instanceMethod yX9_isPattern, Cond.selects RX9 yX9_isPattern yX9_isPattern, Cond.code yX9_isPattern cX9_isPattern 6 (some .boolean), Cond.methodLink RX9 120 yX9_heldBy, Cond.instanceMethod yX9_heldBy, Cond.selects RX9 yX9_heldBy yX9_heldBy]
def wsX9_step_r6 : List Cond := [Cond.code yX9_heldBy cX9_heldBy 8 (some .int), Cond.methodLink RX9 124 yX9_variable, Cond.instanceMethod yX9_variable, Cond.selects RX9 yX9_variable yX9_variable, Cond.code yX9_variable cX9_variable 6 (some .int), Cond.methodLink RX9 137 yX9_isTemplate, Cond.instanceMethod yX9_isTemplate, Cond.selects RX9 yX9_isTemplate yX9_isTemplate, Cond.code yX9_isTemplate cX9_isTemplate 8 (some .boolean), Cond.methodLink RX9 127 yX9_uses, Cond.instanceMethod yX9_uses, Cond.selects RX9 yX9_uses yX9_uses, Cond.code yX9_uses cX9_uses 6 (some .int), Cond.methodLink RX9 284 yX9_putToken, Cond.instanceMethod yX9_putToken, Cond.selects RX9 yX9_putToken yX9_putToken, Cond.code yX9_putToken cX9_putToken 3 none, Cond.methodLink RX9 293 yX9_use, Cond.instanceMethod yX9_use, Cond.selects RX9 yX9_use yX9_use, Cond.code yX9_use cX9_use 6 none, Cond.fieldLink RX9 245 "MarkedNamesModel" "fuelLeft" "I", Cond.fieldLink RX9 46 "MarkedNamesModel" "made" "[I", Cond.fieldLink RX9 49 "MarkedNamesModel" "madeSet" "[I"]
def wsX9_step_r7 : List Cond := [Cond.fieldLink RX9 216 "MarkedNamesModel" "many" "I", Cond.methodLink RX9 251 yX9_turn, Cond.instanceMethod yX9_turn, Cond.selects RX9 yX9_turn yX9_turn, Cond.code yX9_turn cX9_turn 7 none, Cond.methodLink RX9 255 yX9_matches, Cond.instanceMethod yX9_matches, Cond.selects RX9 yX9_matches yX9_matches, Cond.code yX9_matches cX9_matches 7 (some .boolean), Cond.fieldLink RX9 52 "MarkedNamesModel" "left" "[I", Cond.fieldLink RX9 55 "MarkedNamesModel" "right" "[I", Cond.methodLink RX9 209 yX9_pairs, Cond.instanceMethod yX9_pairs, Cond.selects RX9 yX9_pairs yX9_pairs, Cond.code yX9_pairs cX9_pairs 12 (some .int), Cond.methodLink RX9 258 yX9_fill, Cond.instanceMethod yX9_fill, Cond.selects RX9 yX9_fill yX9_fill, Cond.code yX9_fill cX9_fill 8 none, Cond.fieldLink RX9 213 "MarkedNamesModel" "trees" "I", Cond.fieldLink RX9 219 "MarkedNamesModel" "held" "I", Cond.methodLink RX9 229 yX9_again, Cond.instanceMethod yX9_again, Cond.selects RX9 yX9_again yX9_again]
def wsX9_step_r8 : List Cond := [Cond.code yX9_again cX9_again 2 (some .int), Cond.fieldLink RX9 64 "MarkedNamesModel" "round" "[I", Cond.fieldLink RX9 61 "MarkedNamesModel" "rounds" "[I", Cond.fieldLink RX9 58 "MarkedNamesModel" "begins" "[I", Cond.methodLink RX9 232 yX9_isHeld, Cond.instanceMethod yX9_isHeld, Cond.selects RX9 yX9_isHeld yX9_isHeld, Cond.code yX9_isHeld cX9_isHeld 2 (some .boolean), Cond.methodLink RX9 235 yX9_hold, Cond.instanceMethod yX9_hold, Cond.selects RX9 yX9_hold yX9_hold, Cond.code yX9_hold cX9_hold 6 (some .int), Cond.methodLink RX9 226 yX9_roundsOf, Cond.instanceMethod yX9_roundsOf, Cond.selects RX9 yX9_roundsOf yX9_roundsOf, Cond.code yX9_roundsOf cX9_roundsOf 9 (some .int), Cond.methodLink RX9 222 yX9_walk, Cond.instanceMethod yX9_walk, Cond.selects RX9 yX9_walk yX9_walk, Cond.code yX9_walk cX9_walk 13 (some .int), Cond.methodLink RX9 238 yX9_add, Cond.instanceMethod yX9_add, Cond.selects RX9 yX9_add yX9_add, Cond.code yX9_add cX9_add 4 none]
def wsX9_step_r9 : List Cond := [Cond.methodLink RX9 242 yX9_bring, Cond.instanceMethod yX9_bring, Cond.selects RX9 yX9_bring yX9_bring, Cond.code yX9_bring cX9_bring 4 none, Cond.methodLink RX9 299 yX9_word, Cond.instanceMethod yX9_word, Cond.selects RX9 yX9_word yX9_word, Cond.code yX9_word cX9_word 2 none]
def wsX9_step : List Cond := .code yX9_step cX9_step 2 none :: ((wsX9_step_r1 ++ (wsX9_step_r2 ++ (wsX9_step_r3 ++ (wsX9_step_r4 ++ (wsX9_step_r5 ++ (wsX9_step_r6 ++ (wsX9_step_r7 ++ (wsX9_step_r8 ++ wsX9_step_r9)))))))) ++ wsX90)
def wsX9_expand_r1 : List Cond := [Cond.fieldLink RX9 70 "MarkedNamesModel" "length" "I", Cond.fieldLink RX9 184 "MarkedNamesModel" "size" "I", Cond.fieldLink RX9 187 "MarkedNamesModel" "gap" "Z", Cond.fieldLink RX9 271 "MarkedNamesModel" "deep" "I", Cond.fieldLink RX9 178 "MarkedNamesModel" "error" "I", Cond.fieldLink RX9 181 "MarkedNamesModel" "scopesMade" "I", Cond.fieldLink RX9 265 "MarkedNamesModel" "variables" "I", Cond.fieldLink RX9 245 "MarkedNamesModel" "fuelLeft" "I", Cond.fieldLink RX9 274 "MarkedNamesModel" "keptEnd" "I", Cond.fieldLink RX9 104 "MarkedNamesModel" "head" "I", Cond.methodLink RX9 141 yX9_read, Cond.instanceMethod yX9_read, Cond.selects RX9 yX9_read yX9_read, Cond.initialized RX9, Cond.code yX9_read cX9_read 8 (some .int), Cond.constant RX9 88 (65536), Cond.fieldLink RX9 13 "MarkedNamesModel" "row" "[I", Cond.fieldLink RX9 16 "MarkedNamesModel" "set" "[I", Cond.methodLink RX9 74 yX9_look, Cond.instanceMethod yX9_look, Cond.selects RX9 yX9_look yX9_look, Cond.code yX9_look cX9_look 2 (some .int), Cond.fieldLink RX9 7 "MarkedNamesModel" "typed" "[I", Cond.methodLink RX9 93 yX9_token]
def wsX9_expand_r2 : List Cond := [Cond.instanceMethod yX9_token, Cond.selects RX9 yX9_token yX9_token, Cond.code yX9_token cX9_token 3 (some .int), Cond.methodLink RX9 78 yX9_isLetter, Cond.static yX9_isLetter, Cond.code yX9_isLetter cX9_isLetter 1 (some .boolean), Cond.methodLink RX9 85 yX9_run, Cond.instanceMethod yX9_run, Cond.selects RX9 yX9_run yX9_run, Cond.code yX9_run cX9_run 4 (some .int), Cond.methodLink RX9 82 yX9_isDigit, Cond.static yX9_isDigit, Cond.code yX9_isDigit cX9_isDigit 1 (some .boolean), Cond.methodLink RX9 96 yX9_code, Cond.instanceMethod yX9_code, Cond.selects RX9 yX9_code yX9_code, Cond.code yX9_code cX9_code 6 (some .int), Cond.constant RX9 89 (131072), Cond.constant RX9 90 (327680), Cond.constant RX9 91 (393216), Cond.constant RX9 92 (40000), Cond.methodLink RX9 100 yX9_fits, Cond.static yX9_fits, Cond.code yX9_fits cX9_fits 4 (some .boolean)]
def wsX9_expand_r3 : List Cond := [Cond.methodLink RX9 302 yX9_beginning, Cond.instanceMethod yX9_beginning, Cond.selects RX9 yX9_beginning yX9_beginning, Cond.code yX9_beginning cX9_beginning 2 none, Cond.fieldLink RX9 160 "MarkedNamesModel" "bindings" "I", Cond.constant RX9 171 (40043), Cond.constant RX9 172 (40042), Cond.constant RX9 173 (40061), Cond.constant RX9 174 (40060), Cond.fieldLink RX9 157 "MarkedNamesModel" "own" "I", Cond.fieldLink RX9 25 "MarkedNamesModel" "ownName" "[I", Cond.fieldLink RX9 28 "MarkedNamesModel" "ownEnd" "[I", Cond.fieldLink RX9 175 "MarkedNamesModel" "atFirst" "I", Cond.methodLink RX9 167 yX9_bind, Cond.instanceMethod yX9_bind, Cond.selects RX9 yX9_bind yX9_bind, Cond.code yX9_bind cX9_bind 6 none, Cond.fieldLink RX9 31 "MarkedNamesModel" "name" "[I", Cond.fieldLink RX9 34 "MarkedNamesModel" "scopes" "[I", Cond.fieldLink RX9 37 "MarkedNamesModel" "meaning" "[I", Cond.fieldLink RX9 40 "MarkedNamesModel" "from" "[I", Cond.fieldLink RX9 43 "MarkedNamesModel" "to" "[I", Cond.methodLink RX9 163 yX9_fails, Cond.instanceMethod yX9_fails]
def wsX9_expand_r4 : List Cond := [Cond.selects RX9 yX9_fails yX9_fails, Cond.code yX9_fails cX9_fails 2 none, Cond.methodLink RX9 305 yX9_step, Cond.instanceMethod yX9_step, Cond.selects RX9 yX9_step yX9_step, Cond.code yX9_step cX9_step 2 none, Cond.methodLink RX9 107 yX9_kind, Cond.static yX9_kind, Cond.code yX9_kind cX9_kind 2 (some .int), Cond.methodLink RX9 191 yX9_put, Cond.instanceMethod yX9_put, Cond.selects RX9 yX9_put yX9_put, Cond.code yX9_put cX9_put 2 none, Cond.fieldLink RX9 67 "MarkedNamesModel" "text" "[I", Cond.methodLink RX9 296 yX9_list, Cond.instanceMethod yX9_list, Cond.selects RX9 yX9_list yX9_list, Cond.code yX9_list cX9_list 3 none, Cond.methodLink RX9 151 yX9_what, Cond.static yX9_what, Cond.code yX9_what cX9_what 2 (some .int), Cond.methodLink RX9 287 yX9_means, Cond.instanceMethod yX9_means, Cond.selects RX9 yX9_means yX9_means]
def wsX9_expand_r5 : List Cond := [Cond.code yX9_means cX9_means 8 (some .int), Cond.methodLink RX9 290 yX9_form, Cond.instanceMethod yX9_form, Cond.selects RX9 yX9_form yX9_form, Cond.code yX9_form cX9_form 4 none, Cond.methodLink RX9 278 yX9_function, Cond.instanceMethod yX9_function, Cond.selects RX9 yX9_function yX9_function, Cond.code yX9_function cX9_function 9 none, Cond.methodLink RX9 111 yX9_end, Cond.static yX9_end, Cond.code yX9_end cX9_end 5 (some .int), Cond.methodLink RX9 130 yX9_isPlain, Cond.static yX9_isPlain, Cond.code yX9_isPlain cX9_isPlain 3 (some .boolean), Cond.methodLink RX9 114 yX9_count, Cond.static yX9_count, Cond.code yX9_count cX9_count 5 (some .int), Cond.methodLink RX9 117 yX9_dots, Cond.static yX9_dots, Cond.code yX9_dots cX9_dots 5 (some .int), Cond.methodLink RX9 248 yX9_scope, Cond.instanceMethod yX9_scope, Cond.selects RX9 yX9_scope yX9_scope]
def wsX9_expand_r6 : List Cond := [Cond.code yX9_scope cX9_scope 1 (some .int), Cond.methodLink RX9 261 yX9_give, Cond.instanceMethod yX9_give, Cond.selects RX9 yX9_give yX9_give, Cond.code yX9_give cX9_give 5 none, Cond.methodLink RX9 200 yX9_putOpen, Cond.instanceMethod yX9_putOpen, Cond.selects RX9 yX9_putOpen yX9_putOpen, Cond.code yX9_putOpen cX9_putOpen 1 none, Cond.methodLink RX9 194 yX9_space, Cond.instanceMethod yX9_space, Cond.selects RX9 yX9_space yX9_space, Cond.code yX9_space cX9_space 1 none, Cond.methodLink RX9 206 yX9_putName, Cond.instanceMethod yX9_putName, Cond.selects RX9 yX9_putName yX9_putName, Cond.code yX9_putName cX9_putName 2 none, Cond.methodLink RX9 268 yX9_putVariable, Cond.instanceMethod yX9_putVariable, Cond.selects RX9 yX9_putVariable yX9_putVariable, Cond.code yX9_putVariable cX9_putVariable 2 none, Cond.methodLink RX9 197 yX9_putNumber, Cond.instanceMethod yX9_putNumber, Cond.selects RX9 yX9_putNumber yX9_putNumber]
def wsX9_expand_r7 : List Cond := [Cond.code yX9_putNumber cX9_putNumber 2 none, Cond.methodLink RX9 203 yX9_putClose, Cond.instanceMethod yX9_putClose, Cond.selects RX9 yX9_putClose yX9_putClose, Cond.code yX9_putClose cX9_putClose 1 none, Cond.methodLink RX9 281 yX9_local, Cond.instanceMethod yX9_local, Cond.selects RX9 yX9_local yX9_local, Cond.code yX9_local cX9_local 8 none, Cond.constant RX9 277 (458752), Cond.methodLink RX9 145 yX9_keep, Cond.instanceMethod yX9_keep, Cond.selects RX9 yX9_keep yX9_keep, Cond.code yX9_keep cX9_keep 5 (some .int), Cond.fieldLink RX9 19 "MarkedNamesModel" "kept" "[I", Cond.fieldLink RX9 22 "MarkedNamesModel" "keptSet" "[I", Cond.methodLink RX9 148 yX9_areRules, Cond.instanceMethod yX9_areRules, Cond.selects RX9 yX9_areRules yX9_areRules, Cond.code yX9_areRules cX9_areRules 4 (some .boolean), Cond.methodLink RX9 134 yX9_isPattern, Cond.instanceMethod yX9_isPattern, Cond.selects RX9 yX9_isPattern yX9_isPattern, Cond.code yX9_isPattern cX9_isPattern 6 (some .boolean)]
def wsX9_expand_r8 : List Cond := [Cond.methodLink RX9 120 yX9_heldBy, Cond.instanceMethod yX9_heldBy, Cond.selects RX9 yX9_heldBy yX9_heldBy, Cond.code yX9_heldBy cX9_heldBy 8 (some .int), Cond.methodLink RX9 124 yX9_variable, Cond.instanceMethod yX9_variable, Cond.selects RX9 yX9_variable yX9_variable, Cond.code yX9_variable cX9_variable 6 (some .int), Cond.methodLink RX9 137 yX9_isTemplate, Cond.instanceMethod yX9_isTemplate, Cond.selects RX9 yX9_isTemplate yX9_isTemplate, Cond.code yX9_isTemplate cX9_isTemplate 8 (some .boolean), Cond.methodLink RX9 127 yX9_uses, Cond.instanceMethod yX9_uses, Cond.selects RX9 yX9_uses yX9_uses, Cond.code yX9_uses cX9_uses 6 (some .int), Cond.methodLink RX9 284 yX9_putToken, Cond.instanceMethod yX9_putToken, Cond.selects RX9 yX9_putToken yX9_putToken, Cond.code yX9_putToken cX9_putToken 3 none, Cond.methodLink RX9 293 yX9_use, Cond.instanceMethod yX9_use, Cond.selects RX9 yX9_use yX9_use, Cond.code yX9_use cX9_use 6 none]
def wsX9_expand_r9 : List Cond := [Cond.fieldLink RX9 46 "MarkedNamesModel" "made" "[I", Cond.fieldLink RX9 49 "MarkedNamesModel" "madeSet" "[I", Cond.fieldLink RX9 216 "MarkedNamesModel" "many" "I", Cond.methodLink RX9 251 yX9_turn, Cond.instanceMethod yX9_turn, Cond.selects RX9 yX9_turn yX9_turn, Cond.code yX9_turn cX9_turn 7 none, Cond.methodLink RX9 255 yX9_matches, Cond.instanceMethod yX9_matches, Cond.selects RX9 yX9_matches yX9_matches, Cond.code yX9_matches cX9_matches 7 (some .boolean), Cond.fieldLink RX9 52 "MarkedNamesModel" "left" "[I", Cond.fieldLink RX9 55 "MarkedNamesModel" "right" "[I", Cond.methodLink RX9 209 yX9_pairs, Cond.instanceMethod yX9_pairs, Cond.selects RX9 yX9_pairs yX9_pairs, Cond.code yX9_pairs cX9_pairs 12 (some .int), Cond.methodLink RX9 258 yX9_fill, Cond.instanceMethod yX9_fill, Cond.selects RX9 yX9_fill yX9_fill, Cond.code yX9_fill cX9_fill 8 none, Cond.fieldLink RX9 213 "MarkedNamesModel" "trees" "I", Cond.fieldLink RX9 219 "MarkedNamesModel" "held" "I", Cond.methodLink RX9 229 yX9_again]
def wsX9_expand_r10 : List Cond := [Cond.instanceMethod yX9_again, Cond.selects RX9 yX9_again yX9_again, Cond.code yX9_again cX9_again 2 (some .int), Cond.fieldLink RX9 64 "MarkedNamesModel" "round" "[I", Cond.fieldLink RX9 61 "MarkedNamesModel" "rounds" "[I", Cond.fieldLink RX9 58 "MarkedNamesModel" "begins" "[I", Cond.methodLink RX9 232 yX9_isHeld, Cond.instanceMethod yX9_isHeld, Cond.selects RX9 yX9_isHeld yX9_isHeld, Cond.code yX9_isHeld cX9_isHeld 2 (some .boolean), Cond.methodLink RX9 235 yX9_hold, Cond.instanceMethod yX9_hold, Cond.selects RX9 yX9_hold yX9_hold, Cond.code yX9_hold cX9_hold 6 (some .int), Cond.methodLink RX9 226 yX9_roundsOf, Cond.instanceMethod yX9_roundsOf, Cond.selects RX9 yX9_roundsOf yX9_roundsOf, Cond.code yX9_roundsOf cX9_roundsOf 9 (some .int), Cond.methodLink RX9 222 yX9_walk, Cond.instanceMethod yX9_walk, Cond.selects RX9 yX9_walk yX9_walk, Cond.code yX9_walk cX9_walk 13 (some .int), Cond.methodLink RX9 238 yX9_add, Cond.instanceMethod yX9_add]
def wsX9_expand_r11 : List Cond := [Cond.selects RX9 yX9_add yX9_add, Cond.code yX9_add cX9_add 4 none, Cond.methodLink RX9 242 yX9_bring, Cond.instanceMethod yX9_bring, Cond.selects RX9 yX9_bring yX9_bring, Cond.code yX9_bring cX9_bring 4 none, Cond.methodLink RX9 299 yX9_word, Cond.instanceMethod yX9_word, Cond.selects RX9 yX9_word yX9_word, Cond.code yX9_word cX9_word 2 none]
def wsX9_expand : List Cond := .code yX9_expand cX9_expand 3 (some .int) :: ((wsX9_expand_r1 ++ (wsX9_expand_r2 ++ (wsX9_expand_r3 ++ (wsX9_expand_r4 ++ (wsX9_expand_r5 ++ (wsX9_expand_r6 ++ (wsX9_expand_r7 ++ (wsX9_expand_r8 ++ (wsX9_expand_r9 ++ (wsX9_expand_r10 ++ wsX9_expand_r11)))))))))) ++ wsX90)
def wsX9_at : List Cond := .code yX9_at cX9_at 2 (some .int) :: ([.fieldLink RX9 184 "MarkedNamesModel" "size" "I", .fieldLink RX9 67 "MarkedNamesModel" "text" "[I"] ++ wsX90)
def wsX9_count_ : List Cond := .code yX9_count_ cX9_count_ 2 (some .int) :: ([.fieldLink RX9 181 "MarkedNamesModel" "scopesMade" "I", .fieldLink RX9 160 "MarkedNamesModel" "bindings" "I", .fieldLink RX9 175 "MarkedNamesModel" "atFirst" "I", .fieldLink RX9 265 "MarkedNamesModel" "variables" "I", .fieldLink RX9 245 "MarkedNamesModel" "fuelLeft" "I"] ++ wsX90)
def wsJ9_max_7cf53 : List Cond := .code yJ9_max_7cf53 cJ9_max_7cf53 2 (some .int) :: ([])
def wsJ9_min_7cf53 : List Cond := .code yJ9_min_7cf53 cJ9_min_7cf53 2 (some .int) :: ([])
def wsL_law_r1 : List Cond := [Cond.classLink RL 7 RX8, Cond.instantiable RX8 8, Cond.initialized RX8, Cond.classLink RL 10 RX9, Cond.instantiable RX9 36, Cond.initialized RX9, Cond.methodLink RL 9 yX8_init, Cond.instanceMethod yX8_init, Cond.code yX8_init cX8_init 1 none, Cond.methodLink RX8 3 objectInit, Cond.instanceMethod objectInit, Cond.code objectInit ⟨#[0xb1]⟩ 1 none, Cond.arrayClass .int, Cond.fieldLink RX8 9 "MarkedNames" "typed" "[I", Cond.classLink RX8 13 RX5, Cond.instantiable RX5 6, Cond.initialized RX5, Cond.fieldLink RX8 16 "MarkedNames" "row" "LMarkedNames$Row;", Cond.classLink RX8 20 RX3, Cond.instantiable RX3 2, Cond.initialized RX3, Cond.fieldLink RX8 25 "MarkedNames" "reader" "LMarkedNames$Reader;", Cond.classLink RX8 29 RX6, Cond.instantiable RX6 1]
def wsL_law_r2 : List Cond := [Cond.initialized RX6, Cond.fieldLink RX8 32 "MarkedNames" "check" "LMarkedNames$RuleCheck;", Cond.classLink RX8 36 RX7, Cond.instantiable RX7 6, Cond.initialized RX7, Cond.fieldLink RX8 39 "MarkedNames" "table" "LMarkedNames$Table;", Cond.classLink RX8 43 RX2, Cond.instantiable RX2 3, Cond.initialized RX2, Cond.fieldLink RX8 46 "MarkedNames" "outcome" "LMarkedNames$Outcome;", Cond.classLink RX8 50 RX0, Cond.instantiable RX0 9, Cond.initialized RX0, Cond.fieldLink RX8 55 "MarkedNames" "expander" "LMarkedNames$Expander;", Cond.instanceMethod yX5_init, Cond.code yX5_init cX5_init 1 none, Cond.methodLink RX5 3 objectInit, Cond.fieldLink RX5 9 "MarkedNames$Row" "word" "[I", Cond.fieldLink RX5 15 "MarkedNames$Row" "marks" "[I", Cond.fieldLink RX5 18 "MarkedNames$Row" "size" "[I", Cond.fieldLink RX5 21 "MarkedNames$Row" "use" "[I", Cond.fieldLink RX5 24 "MarkedNames$Row" "top" "I", Cond.fieldLink RX5 28 "MarkedNames$Row" "open" "I", Cond.methodLink RX8 22 yX3_init]
def wsL_law_r3 : List Cond := [Cond.instanceMethod yX3_init, Cond.code yX3_init cX3_init 2 none, Cond.methodLink RX3 3 objectInit, Cond.fieldLink RX3 9 "MarkedNames$Reader" "row" "LMarkedNames$Row;", Cond.methodLink RX8 31 yX6_init, Cond.instanceMethod yX6_init, Cond.code yX6_init cX6_init 2 none, Cond.methodLink RX6 3 objectInit, Cond.fieldLink RX6 9 "MarkedNames$RuleCheck" "row" "LMarkedNames$Row;", Cond.methodLink RX8 38 yX7_init, Cond.instanceMethod yX7_init, Cond.code yX7_init cX7_init 2 none, Cond.methodLink RX7 3 objectInit, Cond.fieldLink RX7 9 "MarkedNames$Table" "name" "[I", Cond.fieldLink RX7 15 "MarkedNames$Table" "marks" "[I", Cond.fieldLink RX7 18 "MarkedNames$Table" "kind" "[I", Cond.fieldLink RX7 21 "MarkedNames$Table" "value" "[I", Cond.methodLink RX7 27 Lib.Math.min.name, Cond.static Lib.Math.min.name, Cond.initialized "java/lang/Math", Cond.code Lib.Math.min.name Lib.Math.min.code 2 (some .int), Cond.fieldLink RX7 33 "MarkedNames$Table" "length" "I", Cond.instanceMethod yX2_init, Cond.code yX2_init cX2_init 1 none]
def wsL_law_r4 : List Cond := [Cond.methodLink RX2 3 objectInit, Cond.fieldLink RX2 9 "MarkedNames$Outcome" "text" "[I", Cond.methodLink RX8 52 yX0_init, Cond.instanceMethod yX0_init, Cond.code yX0_init cX0_init 5 none, Cond.methodLink RX0 3 objectInit, Cond.fieldLink RX0 9 "MarkedNames$Expander" "row" "LMarkedNames$Row;", Cond.fieldLink RX0 15 "MarkedNames$Expander" "check" "LMarkedNames$RuleCheck;", Cond.fieldLink RX0 19 "MarkedNames$Expander" "table" "LMarkedNames$Table;", Cond.fieldLink RX0 23 "MarkedNames$Expander" "outcome" "LMarkedNames$Outcome;", Cond.classLink RX0 27 RX1, Cond.instantiable RX1 6, Cond.initialized RX1, Cond.fieldLink RX0 32 "MarkedNames$Expander" "filler" "LMarkedNames$Filler;", Cond.methodLink RX0 29 yX1_init, Cond.instanceMethod yX1_init, Cond.code yX1_init cX1_init 3 none, Cond.methodLink RX1 3 objectInit, Cond.classLink RX1 9 RX4, Cond.instantiable RX4 4, Cond.initialized RX4, Cond.fieldLink RX1 12 "MarkedNames$Filler" "rounds" "LMarkedNames$Rounds;", Cond.fieldLink RX1 18 "MarkedNames$Filler" "row" "LMarkedNames$Row;", Cond.fieldLink RX1 22 "MarkedNames$Filler" "outcome" "LMarkedNames$Outcome;"]
def wsL_law_r5 : List Cond := [Cond.instanceMethod yX4_init, Cond.code yX4_init cX4_init 1 none, Cond.methodLink RX4 3 objectInit, Cond.fieldLink RX4 9 "MarkedNames$Rounds" "held" "[I", Cond.fieldLink RX4 15 "MarkedNames$Rounds" "round" "[I", Cond.fieldLink RX4 18 "MarkedNames$Rounds" "rounds" "[I", Cond.methodLink RL 12 yX9_init, Cond.instanceMethod yX9_init, Cond.code yX9_init cX9_init 1 none, Cond.methodLink RX9 1 objectInit, Cond.fieldLink RX9 7 "MarkedNamesModel" "typed" "[I", Cond.fieldLink RX9 13 "MarkedNamesModel" "row" "[I", Cond.fieldLink RX9 16 "MarkedNamesModel" "set" "[I", Cond.fieldLink RX9 19 "MarkedNamesModel" "kept" "[I", Cond.fieldLink RX9 22 "MarkedNamesModel" "keptSet" "[I", Cond.fieldLink RX9 25 "MarkedNamesModel" "ownName" "[I", Cond.fieldLink RX9 28 "MarkedNamesModel" "ownEnd" "[I", Cond.fieldLink RX9 31 "MarkedNamesModel" "name" "[I", Cond.fieldLink RX9 34 "MarkedNamesModel" "scopes" "[I", Cond.fieldLink RX9 37 "MarkedNamesModel" "meaning" "[I", Cond.fieldLink RX9 40 "MarkedNamesModel" "from" "[I", Cond.fieldLink RX9 43 "MarkedNamesModel" "to" "[I", Cond.fieldLink RX9 46 "MarkedNamesModel" "made" "[I", Cond.fieldLink RX9 49 "MarkedNamesModel" "madeSet" "[I"]
def wsL_law_r6 : List Cond := [Cond.fieldLink RX9 52 "MarkedNamesModel" "left" "[I", Cond.fieldLink RX9 55 "MarkedNamesModel" "right" "[I", Cond.fieldLink RX9 58 "MarkedNamesModel" "begins" "[I", Cond.fieldLink RX9 61 "MarkedNamesModel" "rounds" "[I", Cond.fieldLink RX9 64 "MarkedNamesModel" "round" "[I", Cond.fieldLink RX9 67 "MarkedNamesModel" "text" "[I", Cond.methodLink RL 13 yX8_type, Cond.instanceMethod yX8_type, Cond.selects RX8 yX8_type yX8_type, Cond.code yX8_type cX8_type 5 (some .boolean), Cond.fieldLink RX8 59 "MarkedNames" "typedLength" "I", Cond.methodLink RX8 63 yX8_appendTyped, Cond.instanceMethod yX8_appendTyped, Cond.selects RX8 yX8_appendTyped yX8_appendTyped, Cond.code yX8_appendTyped cX8_appendTyped 2 none, Cond.methodLink RL 17 yX9_type, Cond.instanceMethod yX9_type, Cond.selects RX9 yX9_type yX9_type, Cond.code yX9_type cX9_type 5 (some .boolean), Cond.fieldLink RX9 70 "MarkedNamesModel" "length" "I", Cond.methodLink RL 18 yX8_rules, Cond.instanceMethod yX8_rules, Cond.selects RX8 yX8_rules yX8_rules, Cond.code yX8_rules cX8_rules 4 (some .int)]
def wsL_law_r7 : List Cond := [Cond.methodLink RX8 67 yX8_takeTyped, Cond.instanceMethod yX8_takeTyped, Cond.selects RX8 yX8_takeTyped yX8_takeTyped, Cond.code yX8_takeTyped cX8_takeTyped 2 (some .int), Cond.methodLink RX8 124 yX3_read, Cond.instanceMethod yX3_read, Cond.selects RX3 yX3_read yX3_read, Cond.code yX3_read cX3_read 7 (some .int), Cond.fieldLink RX3 20 "MarkedNames$Reader" "depth" "I", Cond.methodLink RX3 24 Lib.Math.min.name, Cond.constant RX3 30 (1000000), Cond.methodLink RX3 15 yX5_restart, Cond.instanceMethod yX5_restart, Cond.selects RX5 yX5_restart yX5_restart, Cond.code yX5_restart cX5_restart 1 none, Cond.methodLink RX3 31 yX3_readToken, Cond.instanceMethod yX3_readToken, Cond.selects RX3 yX3_readToken yX3_readToken, Cond.code yX3_readToken cX3_readToken 5 (some .int), Cond.methodLink RX3 35 yX3_isWhole, Cond.instanceMethod yX3_isWhole, Cond.selects RX3 yX3_isWhole yX3_isWhole, Cond.code yX3_isWhole cX3_isWhole 1 (some .boolean), Cond.methodLink RX3 42 yX3_runLength]
def wsL_law_r8 : List Cond := [Cond.static yX3_runLength, Cond.code yX3_runLength cX3_runLength 7 (some .int), Cond.methodLink RX3 46 yX3_readName, Cond.instanceMethod yX3_readName, Cond.selects RX3 yX3_readName yX3_readName, Cond.code yX3_readName cX3_readName 6 (some .int), Cond.methodLink RX3 63 yX5_add, Cond.instanceMethod yX5_add, Cond.selects RX5 yX5_add yX5_add, Cond.code yX5_add cX5_add 3 none, Cond.methodLink RX5 31 yX5_closeBracket, Cond.instanceMethod yX5_closeBracket, Cond.selects RX5 yX5_closeBracket yX5_closeBracket, Cond.code yX5_closeBracket cX5_closeBracket 2 none, Cond.methodLink RX3 49 yX3_readNumber, Cond.instanceMethod yX3_readNumber, Cond.selects RX3 yX3_readNumber yX3_readNumber, Cond.code yX3_readNumber cX3_readNumber 6 (some .int), Cond.methodLink RX3 52 yX3_readOpen, Cond.instanceMethod yX3_readOpen, Cond.selects RX3 yX3_readOpen yX3_readOpen, Cond.code yX3_readOpen cX3_readOpen 1 (some .int), Cond.methodLink RX3 56 yX3_readClose, Cond.instanceMethod yX3_readClose]
def wsL_law_r9 : List Cond := [Cond.selects RX3 yX3_readClose yX3_readClose, Cond.code yX3_readClose cX3_readClose 1 (some .int), Cond.methodLink RX3 59 yX3_readDots, Cond.instanceMethod yX3_readDots, Cond.selects RX3 yX3_readDots yX3_readDots, Cond.code yX3_readDots cX3_readDots 3 (some .int), Cond.methodLink RX3 67 yX5_wordAt, Cond.instanceMethod yX5_wordAt, Cond.selects RX5 yX5_wordAt yX5_wordAt, Cond.code yX5_wordAt cX5_wordAt 2 (some .int), Cond.methodLink RX8 71 yX6_isNameWithRules, Cond.instanceMethod yX6_isNameWithRules, Cond.selects RX6 yX6_isNameWithRules yX6_isNameWithRules, Cond.code yX6_isNameWithRules cX6_isNameWithRules 5 (some .boolean), Cond.methodLink RX6 15 yX5_plainLength, Cond.instanceMethod yX5_plainLength, Cond.selects RX5 yX5_plainLength yX5_plainLength, Cond.code yX5_plainLength cX5_plainLength 2 (some .int), Cond.methodLink RX5 34 yX5_wordAt, Cond.methodLink RX5 38 yX5_hasDots, Cond.instanceMethod yX5_hasDots, Cond.selects RX5 yX5_hasDots yX5_hasDots, Cond.code yX5_hasDots cX5_hasDots 4 (some .boolean), Cond.methodLink RX5 42 yX5_itemsFrom]
def wsL_law_r10 : List Cond := [Cond.instanceMethod yX5_itemsFrom, Cond.selects RX5 yX5_itemsFrom yX5_itemsFrom, Cond.code yX5_itemsFrom cX5_itemsFrom 5 (some .int), Cond.methodLink RX6 21 yX5_wordAt, Cond.static yX8_isName, Cond.code yX8_isName cX8_isName 1 (some .boolean), Cond.methodLink RX6 28 yX6_isRule, Cond.instanceMethod yX6_isRule, Cond.selects RX6 yX6_isRule yX6_isRule, Cond.code yX6_isRule cX6_isRule 4 (some .boolean), Cond.methodLink RX6 31 yX5_after, Cond.instanceMethod yX5_after, Cond.selects RX5 yX5_after yX5_after, Cond.code yX5_after cX5_after 2 (some .int), Cond.methodLink RX6 34 yX6_isPattern, Cond.instanceMethod yX6_isPattern, Cond.selects RX6 yX6_isPattern yX6_isPattern, Cond.code yX6_isPattern cX6_isPattern 7 (some .boolean), Cond.methodLink RX6 45 yX5_isHeld, Cond.instanceMethod yX5_isHeld, Cond.selects RX5 yX5_isHeld yX5_isHeld, Cond.code yX5_isHeld cX5_isHeld 3 (some .boolean), Cond.static yX8_isTree, Cond.code yX8_isTree cX8_isTree 1 (some .boolean)]
def wsL_law_r11 : List Cond := [Cond.methodLink RX6 51 yX5_holders, Cond.instanceMethod yX5_holders, Cond.selects RX5 yX5_holders yX5_holders, Cond.code yX5_holders cX5_holders 6 (some .int), Cond.methodLink RX6 55 yX5_findName, Cond.instanceMethod yX5_findName, Cond.selects RX5 yX5_findName yX5_findName, Cond.code yX5_findName cX5_findName 5 (some .int), Cond.methodLink RX6 37 yX6_linkUses, Cond.instanceMethod yX6_linkUses, Cond.selects RX6 yX6_linkUses yX6_linkUses, Cond.code yX6_linkUses cX6_linkUses 6 none, Cond.methodLink RX6 59 yX5_setVariable, Cond.instanceMethod yX5_setVariable, Cond.selects RX5 yX5_setVariable yX5_setVariable, Cond.code yX5_setVariable cX5_setVariable 3 none, Cond.methodLink RX6 41 yX6_isTemplate, Cond.instanceMethod yX6_isTemplate, Cond.selects RX6 yX6_isTemplate yX6_isTemplate, Cond.code yX6_isTemplate cX6_isTemplate 6 (some .boolean), Cond.methodLink RX6 62 yX5_variableAt, Cond.instanceMethod yX5_variableAt, Cond.selects RX5 yX5_variableAt yX5_variableAt, Cond.code yX5_variableAt cX5_variableAt 2 (some .int)]
def wsL_law_r12 : List Cond := [Cond.methodLink RX6 65 yX5_hasUse, Cond.instanceMethod yX5_hasUse, Cond.selects RX5 yX5_hasUse yX5_hasUse, Cond.code yX5_hasUse cX5_hasUse 3 (some .boolean), Cond.methodLink RX8 75 yX5_wordAt, Cond.methodLink RX8 79 yX7_ownSlot, Cond.instanceMethod yX7_ownSlot, Cond.selects RX7 yX7_ownSlot yX7_ownSlot, Cond.code yX7_ownSlot cX7_ownSlot 4 (some .int), Cond.fieldLink RX7 37 "MarkedNames$Table" "ownNames" "I", Cond.methodLink RX8 82 yX5_keep, Cond.instanceMethod yX5_keep, Cond.selects RX5 yX5_keep yX5_keep, Cond.code yX5_keep cX5_keep 5 (some .int), Cond.methodLink RX5 51 arraycopyName, Cond.native arraycopyName, Cond.static arraycopyName, Cond.initialized "java/lang/System", Cond.methodLink RX5 45 yX5_after, Cond.methodLink RX8 86 yX7_bindOwn, Cond.instanceMethod yX7_bindOwn, Cond.selects RX7 yX7_bindOwn yX7_bindOwn, Cond.code yX7_bindOwn cX7_bindOwn 4 none, Cond.methodLink RX7 40 Lib.Math.max.name]
def wsL_law_r13 : List Cond := [Cond.static Lib.Math.max.name, Cond.code Lib.Math.max.name Lib.Math.max.code 2 (some .int), Cond.methodLink RX7 43 yX7_bind, Cond.instanceMethod yX7_bind, Cond.selects RX7 yX7_bind yX7_bind, Cond.code yX7_bind cX7_bind 5 (some .boolean), Cond.methodLink RX7 47 yX7_forgetExpansion, Cond.instanceMethod yX7_forgetExpansion, Cond.selects RX7 yX7_forgetExpansion yX7_forgetExpansion, Cond.code yX7_forgetExpansion cX7_forgetExpansion 1 none, Cond.methodLink RL 22 yX9_rules, Cond.instanceMethod yX9_rules, Cond.selects RX9 yX9_rules yX9_rules, Cond.code yX9_rules cX9_rules 5 (some .int), Cond.fieldLink RX9 104 "MarkedNamesModel" "head" "I", Cond.constant RX9 92 (40000), Cond.fieldLink RX9 157 "MarkedNamesModel" "own" "I", Cond.methodLink RX9 141 yX9_read, Cond.instanceMethod yX9_read, Cond.selects RX9 yX9_read yX9_read, Cond.code yX9_read cX9_read 8 (some .int), Cond.constant RX9 88 (65536), Cond.methodLink RX9 74 yX9_look, Cond.instanceMethod yX9_look]
def wsL_law_r14 : List Cond := [Cond.selects RX9 yX9_look yX9_look, Cond.code yX9_look cX9_look 2 (some .int), Cond.methodLink RX9 93 yX9_token, Cond.instanceMethod yX9_token, Cond.selects RX9 yX9_token yX9_token, Cond.code yX9_token cX9_token 3 (some .int), Cond.methodLink RX9 78 yX9_isLetter, Cond.static yX9_isLetter, Cond.code yX9_isLetter cX9_isLetter 1 (some .boolean), Cond.methodLink RX9 85 yX9_run, Cond.instanceMethod yX9_run, Cond.selects RX9 yX9_run yX9_run, Cond.code yX9_run cX9_run 4 (some .int), Cond.methodLink RX9 82 yX9_isDigit, Cond.static yX9_isDigit, Cond.code yX9_isDigit cX9_isDigit 1 (some .boolean), Cond.methodLink RX9 96 yX9_code, Cond.instanceMethod yX9_code, Cond.selects RX9 yX9_code yX9_code, Cond.code yX9_code cX9_code 6 (some .int), Cond.constant RX9 89 (131072), Cond.constant RX9 90 (327680), Cond.constant RX9 91 (393216), Cond.methodLink RX9 100 yX9_fits]
def wsL_law_r15 : List Cond := [Cond.static yX9_fits, Cond.code yX9_fits cX9_fits 4 (some .boolean), Cond.methodLink RX9 107 yX9_kind, Cond.static yX9_kind, Cond.code yX9_kind cX9_kind 2 (some .int), Cond.methodLink RX9 117 yX9_dots, Cond.static yX9_dots, Cond.code yX9_dots cX9_dots 5 (some .int), Cond.methodLink RX9 111 yX9_end, Cond.static yX9_end, Cond.code yX9_end cX9_end 5 (some .int), Cond.methodLink RX9 145 yX9_keep, Cond.instanceMethod yX9_keep, Cond.selects RX9 yX9_keep yX9_keep, Cond.code yX9_keep cX9_keep 5 (some .int), Cond.methodLink RX9 148 yX9_areRules, Cond.instanceMethod yX9_areRules, Cond.selects RX9 yX9_areRules yX9_areRules, Cond.code yX9_areRules cX9_areRules 4 (some .boolean), Cond.methodLink RX9 130 yX9_isPlain, Cond.static yX9_isPlain, Cond.code yX9_isPlain cX9_isPlain 3 (some .boolean), Cond.methodLink RX9 114 yX9_count, Cond.static yX9_count]
def wsL_law_r16 : List Cond := [Cond.code yX9_count cX9_count 5 (some .int), Cond.methodLink RX9 134 yX9_isPattern, Cond.instanceMethod yX9_isPattern, Cond.selects RX9 yX9_isPattern yX9_isPattern, Cond.code yX9_isPattern cX9_isPattern 6 (some .boolean), Cond.methodLink RX9 120 yX9_heldBy, Cond.instanceMethod yX9_heldBy, Cond.selects RX9 yX9_heldBy yX9_heldBy, Cond.code yX9_heldBy cX9_heldBy 8 (some .int), Cond.methodLink RX9 124 yX9_variable, Cond.instanceMethod yX9_variable, Cond.selects RX9 yX9_variable yX9_variable, Cond.code yX9_variable cX9_variable 6 (some .int), Cond.methodLink RX9 137 yX9_isTemplate, Cond.instanceMethod yX9_isTemplate, Cond.selects RX9 yX9_isTemplate yX9_isTemplate, Cond.code yX9_isTemplate cX9_isTemplate 8 (some .boolean), Cond.methodLink RX9 127 yX9_uses, Cond.instanceMethod yX9_uses, Cond.selects RX9 yX9_uses yX9_uses, Cond.code yX9_uses cX9_uses 6 (some .int), Cond.methodLink RX9 151 yX9_what, Cond.static yX9_what, Cond.code yX9_what cX9_what 2 (some .int)]
def wsL_law_r17 : List Cond := [Cond.methodLink RX9 154 yX9_core, Cond.static yX9_core, Cond.code yX9_core cX9_core 1 (some .int), Cond.methodLink RL 23 yX8_expand, Cond.instanceMethod yX8_expand, Cond.selects RX8 yX8_expand yX8_expand, Cond.code yX8_expand cX8_expand 3 (some .int), Cond.methodLink RX8 93 yX2_clear, Cond.instanceMethod yX2_clear, Cond.selects RX2 yX2_clear yX2_clear, Cond.code yX2_clear cX2_clear 1 none, Cond.fieldLink RX2 15 "MarkedNames$Outcome" "length" "I", Cond.fieldLink RX2 19 "MarkedNames$Outcome" "error" "I", Cond.methodLink RX8 96 yX0_start, Cond.instanceMethod yX0_start, Cond.selects RX0 yX0_start yX0_start, Cond.code yX0_start cX0_start 2 none, Cond.fieldLink RX0 36 "MarkedNames$Expander" "scopes" "I", Cond.fieldLink RX0 40 "MarkedNames$Expander" "bindings" "I", Cond.fieldLink RX0 43 "MarkedNames$Expander" "variables" "I", Cond.fieldLink RX0 46 "MarkedNames$Expander" "fuel" "I", Cond.methodLink RX0 49 yX7_forgetExpansion, Cond.methodLink RX8 99 yX0_expandTree, Cond.instanceMethod yX0_expandTree]
def wsL_law_r18 : List Cond := [Cond.selects RX0 yX0_expandTree yX0_expandTree, Cond.code yX0_expandTree cX0_expandTree 4 none, Cond.methodLink RX0 59 yX5_wordAt, Cond.methodLink RX0 65 yX0_expandList, Cond.instanceMethod yX0_expandList, Cond.selects RX0 yX0_expandList yX0_expandList, Cond.methodLink RX0 73 yX0_expandName, Cond.instanceMethod yX0_expandName, Cond.selects RX0 yX0_expandName yX0_expandName, Cond.code yX0_expandName cX0_expandName 4 none, Cond.methodLink RX0 93 yX0_meaningOf, Cond.instanceMethod yX0_meaningOf, Cond.selects RX0 yX0_meaningOf yX0_meaningOf, Cond.code yX0_meaningOf cX0_meaningOf 3 (some .int), Cond.methodLink RX0 86 yX5_marksAt, Cond.instanceMethod yX5_marksAt, Cond.selects RX5 yX5_marksAt yX5_marksAt, Cond.code yX5_marksAt cX5_marksAt 2 (some .int), Cond.methodLink RX0 89 yX7_meaning, Cond.instanceMethod yX7_meaning, Cond.selects RX7 yX7_meaning yX7_meaning, Cond.code yX7_meaning cX7_meaning 6 (some .int), Cond.methodLink RX7 50 yJ6_bitCount_0f7a4, Cond.static yJ6_bitCount_0f7a4]
def wsL_law_r19 : List Cond := [Cond.initialized RJ6, Cond.code yJ6_bitCount_0f7a4 cJ6_bitCount_0f7a4 1 (some .int), Cond.constant RJ6 265 (1431655765), Cond.constant RJ6 266 (858993459), Cond.constant RJ6 267 (252645135), Cond.methodLink RX7 56 yX7_holdsAllOthers, Cond.instanceMethod yX7_holdsAllOthers, Cond.selects RX7 yX7_holdsAllOthers yX7_holdsAllOthers, Cond.code yX7_holdsAllOthers cX7_holdsAllOthers 5 (some .boolean), Cond.methodLink RX0 83 yX2_fail, Cond.instanceMethod yX2_fail, Cond.selects RX2 yX2_fail yX2_fail, Cond.code yX2_fail cX2_fail 2 none, Cond.methodLink RX0 96 yX7_kindOf, Cond.instanceMethod yX7_kindOf, Cond.selects RX7 yX7_kindOf yX7_kindOf, Cond.code yX7_kindOf cX7_kindOf 2 (some .int), Cond.methodLink RX0 99 yX2_putName, Cond.instanceMethod yX2_putName, Cond.selects RX2 yX2_putName yX2_putName, Cond.code yX2_putName cX2_putName 3 none, Cond.methodLink RX2 22 yX2_put, Cond.instanceMethod yX2_put, Cond.selects RX2 yX2_put yX2_put]
def wsL_law_r20 : List Cond := [Cond.code yX2_put cX2_put 2 none, Cond.methodLink RX0 102 yX7_valueOf, Cond.instanceMethod yX7_valueOf, Cond.selects RX7 yX7_valueOf yX7_valueOf, Cond.code yX7_valueOf cX7_valueOf 2 (some .int), Cond.methodLink RX0 105 yX2_putVariable, Cond.instanceMethod yX2_putVariable, Cond.selects RX2 yX2_putVariable yX2_putVariable, Cond.code yX2_putVariable cX2_putVariable 2 none, Cond.methodLink RX2 26 yX2_putNumber, Cond.instanceMethod yX2_putNumber, Cond.selects RX2 yX2_putNumber yX2_putNumber, Cond.code yX2_putNumber cX2_putNumber 2 none, Cond.static yX8_isNumber, Cond.code yX8_isNumber cX8_isNumber 1 (some .boolean), Cond.methodLink RX0 80 yX2_putNumber, Cond.code yX0_expandByRules cX0_expandByRules 7 none, Cond.methodLink RX0 145 yX0_newScope, Cond.instanceMethod yX0_newScope, Cond.selects RX0 yX0_newScope yX0_newScope, Cond.code yX0_newScope cX0_newScope 1 (some .int), Cond.methodLink RX0 149 yX5_turnScope, Cond.instanceMethod yX5_turnScope, Cond.selects RX5 yX5_turnScope yX5_turnScope]
def wsL_law_r21 : List Cond := [Cond.code yX5_turnScope cX5_turnScope 5 none, Cond.methodLink RX0 177 yX1_firstRule, Cond.instanceMethod yX1_firstRule, Cond.selects RX1 yX1_firstRule yX1_firstRule, Cond.code yX1_firstRule cX1_firstRule 6 (some .int), Cond.methodLink RX1 26 yX5_plainLength, Cond.methodLink RX1 32 yX1_matches, Cond.instanceMethod yX1_matches, Cond.selects RX1 yX1_matches yX1_matches, Cond.code yX1_matches cX1_matches 8 (some .boolean), Cond.constant RX1 45 (1000000), Cond.methodLink RX1 39 yX1_hasRoomFor, Cond.instanceMethod yX1_hasRoomFor, Cond.selects RX1 yX1_hasRoomFor yX1_hasRoomFor, Cond.code yX1_hasRoomFor cX1_hasRoomFor 5 (some .boolean), Cond.methodLink RX1 53 yX5_itemsFrom, Cond.methodLink RX1 69 yX5_hasDots, Cond.methodLink RX1 42 yX4_clear, Cond.instanceMethod yX4_clear, Cond.selects RX4 yX4_clear yX4_clear, Cond.code yX4_clear cX4_clear 1 none, Cond.fieldLink RX4 21 "MarkedNames$Rounds" "depth" "I", Cond.methodLink RX1 36 yX5_after, Cond.methodLink RX1 46 yX5_isHeld]
def wsL_law_r22 : List Cond := [Cond.methodLink RX1 50 yX4_isIn, Cond.instanceMethod yX4_isIn, Cond.selects RX4 yX4_isIn yX4_isIn, Cond.code yX4_isIn cX4_isIn 2 (some .boolean), Cond.methodLink RX4 25 yX4_hasInner, Cond.instanceMethod yX4_hasInner, Cond.selects RX4 yX4_hasInner yX4_hasInner, Cond.code yX4_hasInner cX4_hasInner 1 (some .boolean), Cond.methodLink RX1 56 yX4_enter, Cond.instanceMethod yX4_enter, Cond.selects RX4 yX4_enter yX4_enter, Cond.code yX4_enter cX4_enter 3 none, Cond.methodLink RX1 60 yX5_wordAt, Cond.methodLink RX1 63 yX4_leave, Cond.instanceMethod yX4_leave, Cond.selects RX4 yX4_leave yX4_leave, Cond.code yX4_leave cX4_leave 2 (some .int), Cond.methodLink RX0 180 yX1_fill, Cond.instanceMethod yX1_fill, Cond.selects RX1 yX1_fill yX1_fill, Cond.code yX1_fill cX1_fill 8 (some .int), Cond.fieldLink RX1 72 "MarkedNames$Filler" "pattern" "I", Cond.fieldLink RX1 76 "MarkedNames$Filler" "matched" "I", Cond.fieldLink RX1 79 "MarkedNames$Filler" "filled" "I"]
def wsL_law_r23 : List Cond := [Cond.methodLink RX1 82 yX5_startTree, Cond.instanceMethod yX5_startTree, Cond.selects RX5 yX5_startTree yX5_startTree, Cond.code yX5_startTree cX5_startTree 1 (some .int), Cond.methodLink RX1 91 yX1_roundsFor, Cond.instanceMethod yX1_roundsFor, Cond.selects RX1 yX1_roundsFor yX1_roundsFor, Cond.code yX1_roundsFor cX1_roundsFor 7 (some .int), Cond.methodLink RX1 111 Lib.Math.max.name, Cond.methodLink RX1 98 yX5_variableAt, Cond.methodLink RX1 104 yX1_matchOf, Cond.instanceMethod yX1_matchOf, Cond.selects RX1 yX1_matchOf yX1_matchOf, Cond.code yX1_matchOf cX1_matchOf 9 (some .int), Cond.methodLink RX1 125 yX4_roundOf, Cond.instanceMethod yX4_roundOf, Cond.selects RX4 yX4_roundOf yX4_roundOf, Cond.code yX4_roundOf cX4_roundOf 2 (some .int), Cond.methodLink RX1 108 yX2_fail, Cond.methodLink RX1 94 yX1_fillToken, Cond.instanceMethod yX1_fillToken, Cond.selects RX1 yX1_fillToken yX1_fillToken, Cond.code yX1_fillToken cX1_fillToken 6 none, Cond.methodLink RX1 119 yX5_marksAt]
def wsL_law_r24 : List Cond := [Cond.methodLink RX1 122 yX5_add, Cond.methodLink RX0 133 yX0_expandTree, Cond.code yX0_expandEach cX0_expandEach 6 none, Cond.methodLink RX0 127 yX5_itemsFrom, Cond.methodLink RX0 130 yX2_put, Cond.methodLink RX0 136 yX5_after, Cond.code yX0_expandFn cX0_expandFn 9 none, Cond.methodLink RX0 139 yX5_plainLength, Cond.methodLink RX0 142 yX0_areNames, Cond.instanceMethod yX0_areNames, Cond.selects RX0 yX0_areNames yX0_areNames, Cond.code yX0_areNames cX0_areNames 4 (some .boolean), Cond.methodLink RX0 152 yX0_bindVariable, Cond.instanceMethod yX0_bindVariable, Cond.selects RX0 yX0_bindVariable yX0_bindVariable, Cond.code yX0_bindVariable cX0_bindVariable 3 none, Cond.methodLink RX0 159 yX5_findName, Cond.methodLink RX0 163 yX0_bind, Cond.instanceMethod yX0_bind, Cond.selects RX0 yX0_bind yX0_bind, Cond.code yX0_bind cX0_bind 4 (some .boolean), Cond.methodLink RX0 183 yX7_bind, Cond.methodLink RX0 155 yX0_putVariables, Cond.instanceMethod yX0_putVariables]
def wsL_law_r25 : List Cond := [Cond.selects RX0 yX0_putVariables yX0_putVariables, Cond.code yX0_putVariables cX0_putVariables 4 none, Cond.constant RX0 158 (91758), Cond.code yX0_expandIf cX0_expandIf 5 none, Cond.constant RX0 167 (92518), Cond.code yX0_expandList cX0_expandList 5 none, Cond.methodLink RX0 108 yX0_expandFn, Cond.instanceMethod yX0_expandFn, Cond.selects RX0 yX0_expandFn yX0_expandFn, Cond.methodLink RX0 111 yX0_expandIf, Cond.instanceMethod yX0_expandIf, Cond.selects RX0 yX0_expandIf yX0_expandIf, Cond.methodLink RX0 114 yX0_expandQ, Cond.instanceMethod yX0_expandQ, Cond.selects RX0 yX0_expandQ yX0_expandQ, Cond.code yX0_expandQ cX0_expandQ 2 none, Cond.methodLink RX0 168 yX2_putTree, Cond.instanceMethod yX2_putTree, Cond.selects RX2 yX2_putTree yX2_putTree, Cond.code yX2_putTree cX2_putTree 5 none, Cond.methodLink RX2 39 yX5_after, Cond.methodLink RX2 45 yX5_wordAt, Cond.methodLink RX2 48 yX2_putWord, Cond.instanceMethod yX2_putWord]
def wsL_law_r26 : List Cond := [Cond.selects RX2 yX2_putWord yX2_putWord, Cond.code yX2_putWord cX2_putWord 2 none, Cond.methodLink RX2 33 yX2_putName, Cond.methodLink RX0 117 yX0_expandLs, Cond.instanceMethod yX0_expandLs, Cond.selects RX0 yX0_expandLs yX0_expandLs, Cond.methodLink RX0 120 yX0_expandByRules, Cond.instanceMethod yX0_expandByRules, Cond.selects RX0 yX0_expandByRules yX0_expandByRules, Cond.methodLink RX0 124 yX0_expandEach, Cond.instanceMethod yX0_expandEach, Cond.selects RX0 yX0_expandEach yX0_expandEach, Cond.code yX0_expandLs cX0_expandLs 6 none, Cond.methodLink RX0 172 yX6_isNameWithRules, Cond.methodLink RL 27 yX9_expand, Cond.instanceMethod yX9_expand, Cond.selects RX9 yX9_expand yX9_expand, Cond.code yX9_expand cX9_expand 3 (some .int), Cond.fieldLink RX9 184 "MarkedNamesModel" "size" "I", Cond.fieldLink RX9 187 "MarkedNamesModel" "gap" "Z", Cond.fieldLink RX9 271 "MarkedNamesModel" "deep" "I", Cond.fieldLink RX9 178 "MarkedNamesModel" "error" "I", Cond.fieldLink RX9 181 "MarkedNamesModel" "scopesMade" "I", Cond.fieldLink RX9 265 "MarkedNamesModel" "variables" "I"]
def wsL_law_r27 : List Cond := [Cond.fieldLink RX9 245 "MarkedNamesModel" "fuelLeft" "I", Cond.fieldLink RX9 274 "MarkedNamesModel" "keptEnd" "I", Cond.methodLink RX9 302 yX9_beginning, Cond.instanceMethod yX9_beginning, Cond.selects RX9 yX9_beginning yX9_beginning, Cond.code yX9_beginning cX9_beginning 2 none, Cond.fieldLink RX9 160 "MarkedNamesModel" "bindings" "I", Cond.constant RX9 171 (40043), Cond.constant RX9 172 (40042), Cond.constant RX9 173 (40061), Cond.constant RX9 174 (40060), Cond.fieldLink RX9 175 "MarkedNamesModel" "atFirst" "I", Cond.methodLink RX9 167 yX9_bind, Cond.instanceMethod yX9_bind, Cond.selects RX9 yX9_bind yX9_bind, Cond.code yX9_bind cX9_bind 6 none, Cond.methodLink RX9 163 yX9_fails, Cond.instanceMethod yX9_fails, Cond.selects RX9 yX9_fails yX9_fails, Cond.code yX9_fails cX9_fails 2 none, Cond.methodLink RX9 305 yX9_step, Cond.instanceMethod yX9_step, Cond.selects RX9 yX9_step yX9_step, Cond.code yX9_step cX9_step 2 none]
def wsL_law_r28 : List Cond := [Cond.methodLink RX9 191 yX9_put, Cond.instanceMethod yX9_put, Cond.selects RX9 yX9_put yX9_put, Cond.code yX9_put cX9_put 2 none, Cond.methodLink RX9 296 yX9_list, Cond.instanceMethod yX9_list, Cond.selects RX9 yX9_list yX9_list, Cond.code yX9_list cX9_list 3 none, Cond.methodLink RX9 287 yX9_means, Cond.instanceMethod yX9_means, Cond.selects RX9 yX9_means yX9_means, Cond.code yX9_means cX9_means 8 (some .int), Cond.methodLink RX9 290 yX9_form, Cond.instanceMethod yX9_form, Cond.selects RX9 yX9_form yX9_form, Cond.code yX9_form cX9_form 4 none, Cond.methodLink RX9 278 yX9_function, Cond.instanceMethod yX9_function, Cond.selects RX9 yX9_function yX9_function, Cond.code yX9_function cX9_function 9 none, Cond.methodLink RX9 248 yX9_scope, Cond.instanceMethod yX9_scope, Cond.selects RX9 yX9_scope yX9_scope, Cond.code yX9_scope cX9_scope 1 (some .int)]
def wsL_law_r29 : List Cond := [Cond.methodLink RX9 261 yX9_give, Cond.instanceMethod yX9_give, Cond.selects RX9 yX9_give yX9_give, Cond.code yX9_give cX9_give 5 none, Cond.methodLink RX9 200 yX9_putOpen, Cond.instanceMethod yX9_putOpen, Cond.selects RX9 yX9_putOpen yX9_putOpen, Cond.code yX9_putOpen cX9_putOpen 1 none, Cond.methodLink RX9 194 yX9_space, Cond.instanceMethod yX9_space, Cond.selects RX9 yX9_space yX9_space, Cond.code yX9_space cX9_space 1 none, Cond.methodLink RX9 206 yX9_putName, Cond.instanceMethod yX9_putName, Cond.selects RX9 yX9_putName yX9_putName, Cond.code yX9_putName cX9_putName 2 none, Cond.methodLink RX9 268 yX9_putVariable, Cond.instanceMethod yX9_putVariable, Cond.selects RX9 yX9_putVariable yX9_putVariable, Cond.code yX9_putVariable cX9_putVariable 2 none, Cond.methodLink RX9 197 yX9_putNumber, Cond.instanceMethod yX9_putNumber, Cond.selects RX9 yX9_putNumber yX9_putNumber, Cond.code yX9_putNumber cX9_putNumber 2 none]
def wsL_law_r30 : List Cond := [Cond.methodLink RX9 203 yX9_putClose, Cond.instanceMethod yX9_putClose, Cond.selects RX9 yX9_putClose yX9_putClose, Cond.code yX9_putClose cX9_putClose 1 none, Cond.methodLink RX9 281 yX9_local, Cond.instanceMethod yX9_local, Cond.selects RX9 yX9_local yX9_local, Cond.code yX9_local cX9_local 8 none, Cond.constant RX9 277 (458752), Cond.methodLink RX9 284 yX9_putToken, Cond.instanceMethod yX9_putToken, Cond.selects RX9 yX9_putToken yX9_putToken, Cond.code yX9_putToken cX9_putToken 3 none, Cond.methodLink RX9 293 yX9_use, Cond.instanceMethod yX9_use, Cond.selects RX9 yX9_use yX9_use, Cond.code yX9_use cX9_use 6 none, Cond.fieldLink RX9 216 "MarkedNamesModel" "many" "I", Cond.methodLink RX9 251 yX9_turn, Cond.instanceMethod yX9_turn, Cond.selects RX9 yX9_turn yX9_turn, Cond.code yX9_turn cX9_turn 7 none, Cond.methodLink RX9 255 yX9_matches, Cond.instanceMethod yX9_matches]
def wsL_law_r31 : List Cond := [Cond.selects RX9 yX9_matches yX9_matches, Cond.code yX9_matches cX9_matches 7 (some .boolean), Cond.methodLink RX9 209 yX9_pairs, Cond.instanceMethod yX9_pairs, Cond.selects RX9 yX9_pairs yX9_pairs, Cond.code yX9_pairs cX9_pairs 12 (some .int), Cond.methodLink RX9 258 yX9_fill, Cond.instanceMethod yX9_fill, Cond.selects RX9 yX9_fill yX9_fill, Cond.code yX9_fill cX9_fill 8 none, Cond.fieldLink RX9 213 "MarkedNamesModel" "trees" "I", Cond.fieldLink RX9 219 "MarkedNamesModel" "held" "I", Cond.methodLink RX9 229 yX9_again, Cond.instanceMethod yX9_again, Cond.selects RX9 yX9_again yX9_again, Cond.code yX9_again cX9_again 2 (some .int), Cond.methodLink RX9 232 yX9_isHeld, Cond.instanceMethod yX9_isHeld, Cond.selects RX9 yX9_isHeld yX9_isHeld, Cond.code yX9_isHeld cX9_isHeld 2 (some .boolean), Cond.methodLink RX9 235 yX9_hold, Cond.instanceMethod yX9_hold, Cond.selects RX9 yX9_hold yX9_hold, Cond.code yX9_hold cX9_hold 6 (some .int)]
def wsL_law_r32 : List Cond := [Cond.methodLink RX9 226 yX9_roundsOf, Cond.instanceMethod yX9_roundsOf, Cond.selects RX9 yX9_roundsOf yX9_roundsOf, Cond.code yX9_roundsOf cX9_roundsOf 9 (some .int), Cond.methodLink RX9 222 yX9_walk, Cond.instanceMethod yX9_walk, Cond.selects RX9 yX9_walk yX9_walk, Cond.code yX9_walk cX9_walk 13 (some .int), Cond.methodLink RX9 238 yX9_add, Cond.instanceMethod yX9_add, Cond.selects RX9 yX9_add yX9_add, Cond.code yX9_add cX9_add 4 none, Cond.methodLink RX9 242 yX9_bring, Cond.instanceMethod yX9_bring, Cond.selects RX9 yX9_bring yX9_bring, Cond.code yX9_bring cX9_bring 4 none, Cond.methodLink RX9 299 yX9_word, Cond.instanceMethod yX9_word, Cond.selects RX9 yX9_word yX9_word, Cond.code yX9_word cX9_word 2 none, Cond.methodLink RL 28 yX8_at, Cond.instanceMethod yX8_at, Cond.selects RX8 yX8_at yX8_at, Cond.code yX8_at cX8_at 2 (some .int)]
def wsL_law_r33 : List Cond := [Cond.methodLink RX8 109 yX2_charAt, Cond.instanceMethod yX2_charAt, Cond.selects RX2 yX2_charAt yX2_charAt, Cond.code yX2_charAt cX2_charAt 2 (some .int), Cond.methodLink RL 31 yX9_at, Cond.instanceMethod yX9_at, Cond.selects RX9 yX9_at yX9_at, Cond.code yX9_at cX9_at 2 (some .int), Cond.methodLink RL 32 yX8_count, Cond.instanceMethod yX8_count, Cond.selects RX8 yX8_count yX8_count, Cond.code yX8_count cX8_count 2 (some .int), Cond.methodLink RL 35 yX9_count_, Cond.instanceMethod yX9_count_, Cond.selects RX9 yX9_count_ yX9_count_, Cond.code yX9_count_ cX9_count_ 2 (some .int)]
def wsL_law : List Cond := (wsL_law_r1 ++ (wsL_law_r2 ++ (wsL_law_r3 ++ (wsL_law_r4 ++ (wsL_law_r5 ++ (wsL_law_r6 ++ (wsL_law_r7 ++ (wsL_law_r8 ++ (wsL_law_r9 ++ (wsL_law_r10 ++ (wsL_law_r11 ++ (wsL_law_r12 ++ (wsL_law_r13 ++ (wsL_law_r14 ++ (wsL_law_r15 ++ (wsL_law_r16 ++ (wsL_law_r17 ++ (wsL_law_r18 ++ (wsL_law_r19 ++ (wsL_law_r20 ++ (wsL_law_r21 ++ (wsL_law_r22 ++ (wsL_law_r23 ++ (wsL_law_r24 ++ (wsL_law_r25 ++ (wsL_law_r26 ++ (wsL_law_r27 ++ (wsL_law_r28 ++ (wsL_law_r29 ++ (wsL_law_r30 ++ (wsL_law_r31 ++ (wsL_law_r32 ++ wsL_law_r33)))))))))))))))))))))))))))))))) ++ wsX80 ++ wsX90 ++ wsX50 ++ wsX30 ++ wsX60 ++ wsX70 ++ wsX20 ++ wsX00 ++ wsX10 ++ wsX40 ++ ([] : List Cond)
abbrev vwCl : List vw_C := [(RX0, TX0, 9), (RX1, TX1, 6), (RX2, TX2, 3), (RX3, TX3, 2), (RX4, TX4, 4), (RX5, TX5, 6), (RX6, TX6, 1), (RX7, TX7, 6), (RX8, TX8, 8), (RX9, TX9, 36)]
end
section
-- 02: the bundle mV over W (heap, frame and locals hidden), a row an instruction; contracts mKi, mKv (int and void)
abbrev mS : Type := (Nat → Int32) × (Nat → Nat → Int32)
def mSet (u : mS) (k : Nat) (v : Int32) : mS := (upd u.1 k v, u.2)
def mPut (u : mS) (k i : Nat) (v : Int32) : mS := (u.1, fun j => if j = k then upd (u.2 k) i v else u.2 j)
def mCpy (u : mS) (k sp dp n : Nat) : mS := (u.1, fun j => if j = k then va_cpy (u.2 k) (u.2 k) sp dp n else u.2 j)
def mRm (k : Nat) : Room := { frames := k, cells := 0, slots := 0, locals := 64 * k }
def mC (p : Program) (s : State) (m : MethodId) (args : Array Value) (meth : Method) (c : Code) (cc : ByteArray) (nL : Nat) (Ts : List Cond) (own : String) (ret : Option FieldType) (D : va_G) (cl : List vw_C) (tys : List (ClassId × FieldType)) (A : Nat → Prop) : Prop :=
  p.tables.exec = Jvm.exec ∧ c.code = cc ∧ c.maxLocals = nL ∧ s.vm.findClass own = some m.cls ∧ (∀ w ∈ Ts, w.before args s = true) ∧ meth.sig.returnType = ret ∧ meth.locks = false ∧ va_K D cl tys s ∧ ∀ q : Nat, s.heap.size ≤ q → A q
def mV (p : Program) (l : Launch) (e : Env) (R : Room) (s : State) (m : MethodId) (args : Array Value) (below : List Frame) (meth : Method) (c : Code) (nL : Nat) (D : va_G) (cl : List vw_C) (A : Nat → Prop) (cells slots : Nat) (Q : State → Prop) (ws : va_W) (pc : Nat) (lv : List (Nat × Value)) (st : List Value) : Prop :=
  ∀ (H : Heap) (locs : List Loc) (ls : Array Slot), va_P D cl ws H → va_D A ws → va_S A s.heap H locs → lv_has ls nL lv → W p l e R s m args below meth c H locs cells slots Q (F0 m pc ls st)
/-- what else holds at a method's start (nest words, statics): kept over calls -/
def mEok (E : (Nat → Prop) → State → Prop) : Prop :=
  (∀ (A B : Nat → Prop) (s U : State), E A s → (∀ q, B q → A q) → s.WarmedH U.vm → (∀ q : Nat, q < s.heap.size → ¬ A q → U.heap[q]? = s.heap[q]?) → E B U) ∧
  ∀ (A : Nat → Prop) (U : State) (g : JFrame) (mk : MethodId) (a : Array Value), E A U → E A (U.calling g mk a)
def mPc (E : (Nat → Prop) → State → Prop) (D : va_G) (cl : List vw_C) (tys : List (ClassId × FieldType)) (f : mS → va_W) (av : List Value) (u : mS) (sz : Nat) : Array Value → State → Prop :=
  va_Pc av (fun U => U.heap.size = sz ∧ va_P D cl (f u) U.heap ∧ va_K D cl tys U ∧ va_D (fun _ => True) (f u) ∧ E (va_A (f u) sz) U)
def mB (D : va_G) (cl : List vw_C) (tys : List (ClassId × FieldType)) (f : mS → va_W) (A : Nat → Prop) : mS → State → Prop := fun u t => va_P D cl (f u) t.heap ∧ va_K D cl tys t ∧ va_D A (f u)
def mKi (l : Launch) (y : MethodName) (ws : List Cond) (k : Nat) (E : (Nat → Prop) → State → Prop) (D : va_G) (cl : List vw_C) (tys : List (ClassId × FieldType)) (f : mS → va_W) (av : List Value) (u : mS) (post : Int32 → mS → Prop) : Prop :=
  ∀ sz : Nat, Met l y ws (mRm k) (mPc E D cl tys f av u sz) (va_Qi post (mB D cl tys f (va_A (f u) sz)) (va_A (f u) sz)) 0 0 (va_A (f u) sz)
def mKv (l : Launch) (y : MethodName) (ws : List Cond) (k : Nat) (E : (Nat → Prop) → State → Prop) (D : va_G) (cl : List vw_C) (tys : List (ClassId × FieldType)) (f : mS → va_W) (av : List Value) (u : mS) (post : mS → Prop) : Prop :=
  ∀ sz : Nat, Met l y ws (mRm k) (mPc E D cl tys f av u sz) (va_Qv post (mB D cl tys f (va_A (f u) sz)) (va_A (f u) sz)) 0 0 (va_A (f u) sz)
def mQi (below : List Frame) (args : Array Value) (s : State) (D : va_G) (cl : List vw_C) (tys : List (ClassId × FieldType)) (f : mS → va_W) (A : Nat → Prop) (post : Int32 → mS → Prop) : State → Prop := MQ below (va_Qi post (mB D cl tys f A) A) args s 0 0 A
def mQv (below : List Frame) (args : Array Value) (s : State) (D : va_G) (cl : List vw_C) (tys : List (ClassId × FieldType)) (f : mS → va_W) (A : Nat → Prop) (post : mS → Prop) : State → Prop := MQ below (va_Qv post (mB D cl tys f A) A) args s 0 0 A
theorem mRm_le {k lev mx : Nat} (h : k + 1 ≤ lev) (hm : mx ≤ 45) : (mRm k).frames + 1 ≤ (mRm lev).frames ∧ 8 + (mx + 11) + (mRm k).locals ≤ (mRm lev).locals := by
  simp only [mRm]; omega
section MV
variable {p : Program} {l : Launch} {e : Env} {R : Room} {s : State} {m : MethodId} {args : Array Value} {below : List Frame} {meth : Method} {c : Code} {cells slots : Nat} {Q : State → Prop}
variable {cc : ByteArray} {nL : Nat} {Ts : List Cond} {own : String} {ret : Option FieldType} {D : va_G} {cl : List vw_C} {tys : List (ClassId × FieldType)} {A : Nat → Prop} {ws : va_W} {pc : Nat} {lv : List (Nat × Value)} {st : List Value}
theorem mv_iconst (C : mC p s m args meth c cc nL Ts own ret D cl tys A) {n : Int} {v : Int32} (hd : decode cc pc = .ok (.iconst n, 1)) (hv : Int32.ofInt n = v) (k : mV p l e R s m args below meth c nL D cl A cells slots Q (ws) (pc + 1) (lv) (.int v :: st)) : mV p l e R s m args below meth c nL D cl A cells slots Q (ws) (pc) (lv) (st) := fun H locs ls hP hD hS hl => lv_iconst C.1 C.2.1 hd hv (k H locs ls hP hD hS hl)
theorem mv_bipush (C : mC p s m args meth c cc nL Ts own ret D cl tys A) {n : Int} {v : Int32} (hd : decode cc pc = .ok (.bipush n, 2)) (hv : (Int8.ofInt n).toInt32 = v) (k : mV p l e R s m args below meth c nL D cl A cells slots Q (ws) (pc + 2) (lv) (.int v :: st)) : mV p l e R s m args below meth c nL D cl A cells slots Q (ws) (pc) (lv) (st) := fun H locs ls hP hD hS hl => lv_bipush C.1 C.2.1 hd hv (k H locs ls hP hD hS hl)
theorem mv_sipush (C : mC p s m args meth c cc nL Ts own ret D cl tys A) {n : Int} {v : Int32} (hd : decode cc pc = .ok (.sipush n, 3)) (hv : (Int16.ofInt n).toInt32 = v) (k : mV p l e R s m args below meth c nL D cl A cells slots Q (ws) (pc + 3) (lv) (.int v :: st)) : mV p l e R s m args below meth c nL D cl A cells slots Q (ws) (pc) (lv) (st) := fun H locs ls hP hD hS hl => lv_sipush C.1 C.2.1 hd hv (k H locs ls hP hD hS hl)
theorem mv_iload_n (C : mC p s m args meth c cc nL Ts own ret D cl tys A) {j : Fin 4} {i : Nat} {x : Int32} (hd : decode cc pc = .ok (.iload_n j, 1)) (hi : (j : Nat) = i) (kk : Nat) (hk : lv[kk]? = some (i, .int x)) (k : mV p l e R s m args below meth c nL D cl A cells slots Q (ws) (pc + 1) (lv) (.int x :: st)) : mV p l e R s m args below meth c nL D cl A cells slots Q (ws) (pc) (lv) (st) := fun H locs ls hP hD hS hl => lv_iload_n C.1 C.2.1 hd hi (lv_at hl kk hk) (k H locs ls hP hD hS hl)
theorem mv_iload (C : mC p s m args meth c cc nL Ts own ret D cl tys A) {i : Nat} {x : Int32} (hd : decode cc pc = .ok (.iload i, 2)) (kk : Nat) (hk : lv[kk]? = some (i, .int x)) (k : mV p l e R s m args below meth c nL D cl A cells slots Q (ws) (pc + 2) (lv) (.int x :: st)) : mV p l e R s m args below meth c nL D cl A cells slots Q (ws) (pc) (lv) (st) := fun H locs ls hP hD hS hl => lv_iload C.1 C.2.1 hd (lv_at hl kk hk) (k H locs ls hP hD hS hl)
theorem mv_aload_n (C : mC p s m args meth c cc nL Ts own ret D cl tys A) {j : Fin 4} {i : Nat} {x : Nat} (hd : decode cc pc = .ok (.aload_n j, 1)) (hi : (j : Nat) = i) (kk : Nat) (hk : lv[kk]? = some (i, .ref x)) (k : mV p l e R s m args below meth c nL D cl A cells slots Q (ws) (pc + 1) (lv) (.ref x :: st)) : mV p l e R s m args below meth c nL D cl A cells slots Q (ws) (pc) (lv) (st) := fun H locs ls hP hD hS hl => lv_aload_n C.1 C.2.1 hd hi (lv_at hl kk hk) (k H locs ls hP hD hS hl)
theorem mv_aload (C : mC p s m args meth c cc nL Ts own ret D cl tys A) {i : Nat} {x : Nat} (hd : decode cc pc = .ok (.aload i, 2)) (kk : Nat) (hk : lv[kk]? = some (i, .ref x)) (k : mV p l e R s m args below meth c nL D cl A cells slots Q (ws) (pc + 2) (lv) (.ref x :: st)) : mV p l e R s m args below meth c nL D cl A cells slots Q (ws) (pc) (lv) (st) := fun H locs ls hP hD hS hl => lv_aload C.1 C.2.1 hd (lv_at hl kk hk) (k H locs ls hP hD hS hl)
theorem mv_istore_n (C : mC p s m args meth c cc nL Ts own ret D cl tys A) {j : Fin 4} {i : Nat} {x : Int32} {lv1 : List (Nat × Value)} (hd : decode cc pc = .ok (.istore_n j, 1)) (hi : (j : Nat) = i) (hn : i < nL) (hlv : (i, Value.int x) :: lv.filter (fun q => !(q.1 == i) && !(q.1 + 1 == i && q.2.category == 2)) = lv1) (k : mV p l e R s m args below meth c nL D cl A cells slots Q (ws) (pc + 1) (lv1) (st)) : mV p l e R s m args below meth c nL D cl A cells slots Q (ws) (pc) (lv) (.int x :: st) := fun H locs ls hP hD hS hl => lv_istore_n C.1 C.2.1 hd hi hl hn hlv (fun ls1 hl1 => k H locs ls1 hP hD hS hl1)
theorem mv_istore (C : mC p s m args meth c cc nL Ts own ret D cl tys A) {i : Nat} {x : Int32} {lv1 : List (Nat × Value)} (hd : decode cc pc = .ok (.istore i, 2))  (hn : i < nL) (hlv : (i, Value.int x) :: lv.filter (fun q => !(q.1 == i) && !(q.1 + 1 == i && q.2.category == 2)) = lv1) (k : mV p l e R s m args below meth c nL D cl A cells slots Q (ws) (pc + 2) (lv1) (st)) : mV p l e R s m args below meth c nL D cl A cells slots Q (ws) (pc) (lv) (.int x :: st) := fun H locs ls hP hD hS hl => lv_istore C.1 C.2.1 hd  hl hn hlv (fun ls1 hl1 => k H locs ls1 hP hD hS hl1)
theorem mv_astore_n (C : mC p s m args meth c cc nL Ts own ret D cl tys A) {j : Fin 4} {i : Nat} {x : Nat} {lv1 : List (Nat × Value)} (hd : decode cc pc = .ok (.astore_n j, 1)) (hi : (j : Nat) = i) (hn : i < nL) (hlv : (i, Value.ref x) :: lv.filter (fun q => !(q.1 == i) && !(q.1 + 1 == i && q.2.category == 2)) = lv1) (k : mV p l e R s m args below meth c nL D cl A cells slots Q (ws) (pc + 1) (lv1) (st)) : mV p l e R s m args below meth c nL D cl A cells slots Q (ws) (pc) (lv) (.ref x :: st) := fun H locs ls hP hD hS hl => lv_astore_n C.1 C.2.1 hd hi hl hn hlv (fun ls1 hl1 => k H locs ls1 hP hD hS hl1)
theorem mv_astore (C : mC p s m args meth c cc nL Ts own ret D cl tys A) {i : Nat} {x : Nat} {lv1 : List (Nat × Value)} (hd : decode cc pc = .ok (.astore i, 2))  (hn : i < nL) (hlv : (i, Value.ref x) :: lv.filter (fun q => !(q.1 == i) && !(q.1 + 1 == i && q.2.category == 2)) = lv1) (k : mV p l e R s m args below meth c nL D cl A cells slots Q (ws) (pc + 2) (lv1) (st)) : mV p l e R s m args below meth c nL D cl A cells slots Q (ws) (pc) (lv) (.ref x :: st) := fun H locs ls hP hD hS hl => lv_astore C.1 C.2.1 hd  hl hn hlv (fun ls1 hl1 => k H locs ls1 hP hD hS hl1)
theorem mv_iinc (C : mC p s m args meth c cc nL Ts own ret D cl tys A) {i : Nat} {n : Int} {x v : Int32} {lv1 : List (Nat × Value)} (hd : decode cc pc = .ok (.iinc i n, 3)) (kk : Nat) (hk : lv[kk]? = some (i, .int x)) (hv : x + Int32.ofInt n = v) (hn : i < nL) (hlv : (i, Value.int v) :: lv.filter (fun q => !(q.1 == i) && !(q.1 + 1 == i && q.2.category == 2)) = lv1) (k : mV p l e R s m args below meth c nL D cl A cells slots Q (ws) (pc + 3) (lv1) (st)) : mV p l e R s m args below meth c nL D cl A cells slots Q (ws) (pc) (lv) (st) := fun H locs ls hP hD hS hl => lv_iinc C.1 C.2.1 hd hl hk hv hn hlv (fun ls1 hl1 => k H locs ls1 hP hD hS hl1)
theorem mv_iadd (C : mC p s m args meth c cc nL Ts own ret D cl tys A) {x y : Int32} (hd : decode cc pc = .ok (.iadd, 1))  (k : mV p l e R s m args below meth c nL D cl A cells slots Q (ws) (pc + 1) (lv) (.int (x + y) :: st)) : mV p l e R s m args below meth c nL D cl A cells slots Q (ws) (pc) (lv) (.int y :: .int x :: st) := fun H locs ls hP hD hS hl => lv_iadd C.1 C.2.1 hd  (k H locs ls hP hD hS hl)
theorem mv_isub (C : mC p s m args meth c cc nL Ts own ret D cl tys A) {x y : Int32} (hd : decode cc pc = .ok (.isub, 1))  (k : mV p l e R s m args below meth c nL D cl A cells slots Q (ws) (pc + 1) (lv) (.int (x - y) :: st)) : mV p l e R s m args below meth c nL D cl A cells slots Q (ws) (pc) (lv) (.int y :: .int x :: st) := fun H locs ls hP hD hS hl => lv_isub C.1 C.2.1 hd  (k H locs ls hP hD hS hl)
theorem mv_imul (C : mC p s m args meth c cc nL Ts own ret D cl tys A) {x y : Int32} (hd : decode cc pc = .ok (.imul, 1))  (k : mV p l e R s m args below meth c nL D cl A cells slots Q (ws) (pc + 1) (lv) (.int (x * y) :: st)) : mV p l e R s m args below meth c nL D cl A cells slots Q (ws) (pc) (lv) (.int y :: .int x :: st) := fun H locs ls hP hD hS hl => lv_imul C.1 C.2.1 hd  (k H locs ls hP hD hS hl)
theorem mv_iand (C : mC p s m args meth c cc nL Ts own ret D cl tys A) {x y : Int32} (hd : decode cc pc = .ok (.iand, 1))  (k : mV p l e R s m args below meth c nL D cl A cells slots Q (ws) (pc + 1) (lv) (.int (x &&& y) :: st)) : mV p l e R s m args below meth c nL D cl A cells slots Q (ws) (pc) (lv) (.int y :: .int x :: st) := fun H locs ls hP hD hS hl => lv_iand C.1 C.2.1 hd  (k H locs ls hP hD hS hl)
theorem mv_ior (C : mC p s m args meth c cc nL Ts own ret D cl tys A) {x y : Int32} (hd : decode cc pc = .ok (.ior, 1))  (k : mV p l e R s m args below meth c nL D cl A cells slots Q (ws) (pc + 1) (lv) (.int (x ||| y) :: st)) : mV p l e R s m args below meth c nL D cl A cells slots Q (ws) (pc) (lv) (.int y :: .int x :: st) := fun H locs ls hP hD hS hl => lv_ior C.1 C.2.1 hd  (k H locs ls hP hD hS hl)
theorem mv_ixor (C : mC p s m args meth c cc nL Ts own ret D cl tys A) {x y : Int32} (hd : decode cc pc = .ok (.ixor, 1))  (k : mV p l e R s m args below meth c nL D cl A cells slots Q (ws) (pc + 1) (lv) (.int (x ^^^ y) :: st)) : mV p l e R s m args below meth c nL D cl A cells slots Q (ws) (pc) (lv) (.int y :: .int x :: st) := fun H locs ls hP hD hS hl => lv_ixor C.1 C.2.1 hd  (k H locs ls hP hD hS hl)
theorem mv_ishl (C : mC p s m args meth c cc nL Ts own ret D cl tys A) {x y : Int32} (hd : decode cc pc = .ok (.ishl, 1))  (k : mV p l e R s m args below meth c nL D cl A cells slots Q (ws) (pc + 1) (lv) (.int (x <<< (y &&& 31)) :: st)) : mV p l e R s m args below meth c nL D cl A cells slots Q (ws) (pc) (lv) (.int y :: .int x :: st) := fun H locs ls hP hD hS hl => lv_ishl C.1 C.2.1 hd  (k H locs ls hP hD hS hl)
theorem mv_ishr (C : mC p s m args meth c cc nL Ts own ret D cl tys A) {x y : Int32} (hd : decode cc pc = .ok (.ishr, 1))  (k : mV p l e R s m args below meth c nL D cl A cells slots Q (ws) (pc + 1) (lv) (.int (x >>> (y &&& 31)) :: st)) : mV p l e R s m args below meth c nL D cl A cells slots Q (ws) (pc) (lv) (.int y :: .int x :: st) := fun H locs ls hP hD hS hl => lv_ishr C.1 C.2.1 hd  (k H locs ls hP hD hS hl)
theorem mv_idiv (C : mC p s m args meth c cc nL Ts own ret D cl tys A) {x y : Int32} (hd : decode cc pc = .ok (.idiv, 1)) (hne : ¬ y = 0) (k : mV p l e R s m args below meth c nL D cl A cells slots Q (ws) (pc + 1) (lv) (.int (x / y) :: st)) : mV p l e R s m args below meth c nL D cl A cells slots Q (ws) (pc) (lv) (.int y :: .int x :: st) := fun H locs ls hP hD hS hl => lv_idiv C.1 C.2.1 hd hne (k H locs ls hP hD hS hl)
theorem mv_irem (C : mC p s m args meth c cc nL Ts own ret D cl tys A) {x y : Int32} (hd : decode cc pc = .ok (.irem, 1)) (hne : ¬ y = 0) (k : mV p l e R s m args below meth c nL D cl A cells slots Q (ws) (pc + 1) (lv) (.int (x - x / y * y) :: st)) : mV p l e R s m args below meth c nL D cl A cells slots Q (ws) (pc) (lv) (.int y :: .int x :: st) := fun H locs ls hP hD hS hl => lv_irem C.1 C.2.1 hd hne (k H locs ls hP hD hS hl)
theorem mv_ineg (C : mC p s m args meth c cc nL Ts own ret D cl tys A) {x : Int32} (hd : decode cc pc = .ok (.ineg, 1))  (k : mV p l e R s m args below meth c nL D cl A cells slots Q (ws) (pc + 1) (lv) (.int (-x) :: st)) : mV p l e R s m args below meth c nL D cl A cells slots Q (ws) (pc) (lv) (.int x :: st) := fun H locs ls hP hD hS hl => lv_ineg C.1 C.2.1 hd  (k H locs ls hP hD hS hl)
theorem mv_iushr (C : mC p s m args meth c cc nL Ts own ret D cl tys A) {x y : Int32} (hd : decode cc pc = .ok (.iushr, 1))  (k : mV p l e R s m args below meth c nL D cl A cells slots Q (ws) (pc + 1) (lv) (.int ((x.toUInt32 >>> (y.toUInt32 &&& Int32.toUInt32 31)).toInt32) :: st)) : mV p l e R s m args below meth c nL D cl A cells slots Q (ws) (pc) (lv) (.int y :: .int x :: st) := fun H locs ls hP hD hS hl => lv_iushr C.1 C.2.1 hd rfl (k H locs ls hP hD hS hl)
theorem mv_dup (C : mC p s m args meth c cc nL Ts own ret D cl tys A) {a : Value} (hd : decode cc pc = .ok (.dup, 1)) (ha : a.category = 1) (k : mV p l e R s m args below meth c nL D cl A cells slots Q (ws) (pc + 1) (lv) (a :: a :: st)) : mV p l e R s m args below meth c nL D cl A cells slots Q (ws) (pc) (lv) (a :: st) := fun H locs ls hP hD hS hl => lv_dup C.1 C.2.1 hd ha (k H locs ls hP hD hS hl)
theorem mv_pop (C : mC p s m args meth c cc nL Ts own ret D cl tys A) {a : Value} (hd : decode cc pc = .ok (.pop, 1)) (ha : a.category = 1) (k : mV p l e R s m args below meth c nL D cl A cells slots Q (ws) (pc + 1) (lv) (st)) : mV p l e R s m args below meth c nL D cl A cells slots Q (ws) (pc) (lv) (a :: st) := fun H locs ls hP hD hS hl => lv_pop C.1 C.2.1 hd ha (k H locs ls hP hD hS hl)
theorem mv_dup_x1 (C : mC p s m args meth c cc nL Ts own ret D cl tys A) {a b : Value} (hd : decode cc pc = .ok (.dup_x1, 1)) (ha : a.category = 1) (hb : b.category = 1) (k : mV p l e R s m args below meth c nL D cl A cells slots Q (ws) (pc + 1) (lv) (a :: b :: a :: st)) : mV p l e R s m args below meth c nL D cl A cells slots Q (ws) (pc) (lv) (a :: b :: st) := fun H locs ls hP hD hS hl => lv_dup_x1 C.1 C.2.1 hd ha hb (k H locs ls hP hD hS hl)
theorem mv_dup2 (C : mC p s m args meth c cc nL Ts own ret D cl tys A) {a b : Value} (hd : decode cc pc = .ok (.dup2, 1)) (ha : a.category = 1) (hb : b.category = 1) (k : mV p l e R s m args below meth c nL D cl A cells slots Q (ws) (pc + 1) (lv) (a :: b :: a :: b :: st)) : mV p l e R s m args below meth c nL D cl A cells slots Q (ws) (pc) (lv) (a :: b :: st) := fun H locs ls hP hD hS hl => lv_dup2_11 C.1 C.2.1 hd ha hb (k H locs ls hP hD hS hl)
theorem mv_if_eq (C : mC p s m args meth c cc nL Ts own ret D cl tys A) {x : Int32} {off : Int} {tgt : Nat} (hd : decode cc pc = .ok (.ifCond .eq off, 3)) (ht : (pc : Int) + off = (tgt : Int)) (kt : x = 0 → mV p l e R s m args below meth c nL D cl A cells slots Q (ws) (tgt) (lv) (st)) (kf : ¬ x = 0 → mV p l e R s m args below meth c nL D cl A cells slots Q (ws) (pc + 3) (lv) (st)) : mV p l e R s m args below meth c nL D cl A cells slots Q (ws) (pc) (lv) (.int x :: st) := fun H locs ls hP hD hS hl => lv_if_eq C.1 C.2.1 hd ht (fun h => kt h H locs ls hP hD hS hl) (fun h => kf h H locs ls hP hD hS hl)
theorem mv_if_ne (C : mC p s m args meth c cc nL Ts own ret D cl tys A) {x : Int32} {off : Int} {tgt : Nat} (hd : decode cc pc = .ok (.ifCond .ne off, 3)) (ht : (pc : Int) + off = (tgt : Int)) (kt : ¬ x = 0 → mV p l e R s m args below meth c nL D cl A cells slots Q (ws) (tgt) (lv) (st)) (kf : x = 0 → mV p l e R s m args below meth c nL D cl A cells slots Q (ws) (pc + 3) (lv) (st)) : mV p l e R s m args below meth c nL D cl A cells slots Q (ws) (pc) (lv) (.int x :: st) := fun H locs ls hP hD hS hl => lv_if_ne C.1 C.2.1 hd ht (fun h => kt h H locs ls hP hD hS hl) (fun h => kf h H locs ls hP hD hS hl)
theorem mv_if_lt (C : mC p s m args meth c cc nL Ts own ret D cl tys A) {x : Int32} {off : Int} {tgt : Nat} (hd : decode cc pc = .ok (.ifCond .lt off, 3)) (ht : (pc : Int) + off = (tgt : Int)) (kt : x < 0 → mV p l e R s m args below meth c nL D cl A cells slots Q (ws) (tgt) (lv) (st)) (kf : ¬ x < 0 → mV p l e R s m args below meth c nL D cl A cells slots Q (ws) (pc + 3) (lv) (st)) : mV p l e R s m args below meth c nL D cl A cells slots Q (ws) (pc) (lv) (.int x :: st) := fun H locs ls hP hD hS hl => lv_if_lt C.1 C.2.1 hd ht (fun h => kt h H locs ls hP hD hS hl) (fun h => kf h H locs ls hP hD hS hl)
theorem mv_if_ge (C : mC p s m args meth c cc nL Ts own ret D cl tys A) {x : Int32} {off : Int} {tgt : Nat} (hd : decode cc pc = .ok (.ifCond .ge off, 3)) (ht : (pc : Int) + off = (tgt : Int)) (kt : 0 ≤ x → mV p l e R s m args below meth c nL D cl A cells slots Q (ws) (tgt) (lv) (st)) (kf : ¬ 0 ≤ x → mV p l e R s m args below meth c nL D cl A cells slots Q (ws) (pc + 3) (lv) (st)) : mV p l e R s m args below meth c nL D cl A cells slots Q (ws) (pc) (lv) (.int x :: st) := fun H locs ls hP hD hS hl => lv_if_ge C.1 C.2.1 hd ht (fun h => kt h H locs ls hP hD hS hl) (fun h => kf h H locs ls hP hD hS hl)
theorem mv_if_gt (C : mC p s m args meth c cc nL Ts own ret D cl tys A) {x : Int32} {off : Int} {tgt : Nat} (hd : decode cc pc = .ok (.ifCond .gt off, 3)) (ht : (pc : Int) + off = (tgt : Int)) (kt : 0 < x → mV p l e R s m args below meth c nL D cl A cells slots Q (ws) (tgt) (lv) (st)) (kf : ¬ 0 < x → mV p l e R s m args below meth c nL D cl A cells slots Q (ws) (pc + 3) (lv) (st)) : mV p l e R s m args below meth c nL D cl A cells slots Q (ws) (pc) (lv) (.int x :: st) := fun H locs ls hP hD hS hl => lv_if_gt C.1 C.2.1 hd ht (fun h => kt h H locs ls hP hD hS hl) (fun h => kf h H locs ls hP hD hS hl)
theorem mv_if_le (C : mC p s m args meth c cc nL Ts own ret D cl tys A) {x : Int32} {off : Int} {tgt : Nat} (hd : decode cc pc = .ok (.ifCond .le off, 3)) (ht : (pc : Int) + off = (tgt : Int)) (kt : x ≤ 0 → mV p l e R s m args below meth c nL D cl A cells slots Q (ws) (tgt) (lv) (st)) (kf : ¬ x ≤ 0 → mV p l e R s m args below meth c nL D cl A cells slots Q (ws) (pc + 3) (lv) (st)) : mV p l e R s m args below meth c nL D cl A cells slots Q (ws) (pc) (lv) (.int x :: st) := fun H locs ls hP hD hS hl => lv_if_le C.1 C.2.1 hd ht (fun h => kt h H locs ls hP hD hS hl) (fun h => kf h H locs ls hP hD hS hl)
theorem mv_icmp_eq (C : mC p s m args meth c cc nL Ts own ret D cl tys A) {x y : Int32} {off : Int} {tgt : Nat} (hd : decode cc pc = .ok (.if_icmp .eq off, 3)) (ht : (pc : Int) + off = (tgt : Int)) (kt : x = y → mV p l e R s m args below meth c nL D cl A cells slots Q (ws) (tgt) (lv) (st)) (kf : ¬ x = y → mV p l e R s m args below meth c nL D cl A cells slots Q (ws) (pc + 3) (lv) (st)) : mV p l e R s m args below meth c nL D cl A cells slots Q (ws) (pc) (lv) (.int y :: .int x :: st) := fun H locs ls hP hD hS hl => lv_icmp_eq C.1 C.2.1 hd ht (fun h => kt h H locs ls hP hD hS hl) (fun h => kf h H locs ls hP hD hS hl)
theorem mv_icmp_ne (C : mC p s m args meth c cc nL Ts own ret D cl tys A) {x y : Int32} {off : Int} {tgt : Nat} (hd : decode cc pc = .ok (.if_icmp .ne off, 3)) (ht : (pc : Int) + off = (tgt : Int)) (kt : ¬ x = y → mV p l e R s m args below meth c nL D cl A cells slots Q (ws) (tgt) (lv) (st)) (kf : x = y → mV p l e R s m args below meth c nL D cl A cells slots Q (ws) (pc + 3) (lv) (st)) : mV p l e R s m args below meth c nL D cl A cells slots Q (ws) (pc) (lv) (.int y :: .int x :: st) := fun H locs ls hP hD hS hl => lv_icmp_ne C.1 C.2.1 hd ht (fun h => kt h H locs ls hP hD hS hl) (fun h => kf h H locs ls hP hD hS hl)
theorem mv_icmp_lt (C : mC p s m args meth c cc nL Ts own ret D cl tys A) {x y : Int32} {off : Int} {tgt : Nat} (hd : decode cc pc = .ok (.if_icmp .lt off, 3)) (ht : (pc : Int) + off = (tgt : Int)) (kt : x < y → mV p l e R s m args below meth c nL D cl A cells slots Q (ws) (tgt) (lv) (st)) (kf : ¬ x < y → mV p l e R s m args below meth c nL D cl A cells slots Q (ws) (pc + 3) (lv) (st)) : mV p l e R s m args below meth c nL D cl A cells slots Q (ws) (pc) (lv) (.int y :: .int x :: st) := fun H locs ls hP hD hS hl => lv_icmp_lt C.1 C.2.1 hd ht (fun h => kt h H locs ls hP hD hS hl) (fun h => kf h H locs ls hP hD hS hl)
theorem mv_icmp_ge (C : mC p s m args meth c cc nL Ts own ret D cl tys A) {x y : Int32} {off : Int} {tgt : Nat} (hd : decode cc pc = .ok (.if_icmp .ge off, 3)) (ht : (pc : Int) + off = (tgt : Int)) (kt : y ≤ x → mV p l e R s m args below meth c nL D cl A cells slots Q (ws) (tgt) (lv) (st)) (kf : ¬ y ≤ x → mV p l e R s m args below meth c nL D cl A cells slots Q (ws) (pc + 3) (lv) (st)) : mV p l e R s m args below meth c nL D cl A cells slots Q (ws) (pc) (lv) (.int y :: .int x :: st) := fun H locs ls hP hD hS hl => lv_icmp_ge C.1 C.2.1 hd ht (fun h => kt h H locs ls hP hD hS hl) (fun h => kf h H locs ls hP hD hS hl)
theorem mv_icmp_gt (C : mC p s m args meth c cc nL Ts own ret D cl tys A) {x y : Int32} {off : Int} {tgt : Nat} (hd : decode cc pc = .ok (.if_icmp .gt off, 3)) (ht : (pc : Int) + off = (tgt : Int)) (kt : y < x → mV p l e R s m args below meth c nL D cl A cells slots Q (ws) (tgt) (lv) (st)) (kf : ¬ y < x → mV p l e R s m args below meth c nL D cl A cells slots Q (ws) (pc + 3) (lv) (st)) : mV p l e R s m args below meth c nL D cl A cells slots Q (ws) (pc) (lv) (.int y :: .int x :: st) := fun H locs ls hP hD hS hl => lv_icmp_gt C.1 C.2.1 hd ht (fun h => kt h H locs ls hP hD hS hl) (fun h => kf h H locs ls hP hD hS hl)
theorem mv_icmp_le (C : mC p s m args meth c cc nL Ts own ret D cl tys A) {x y : Int32} {off : Int} {tgt : Nat} (hd : decode cc pc = .ok (.if_icmp .le off, 3)) (ht : (pc : Int) + off = (tgt : Int)) (kt : x ≤ y → mV p l e R s m args below meth c nL D cl A cells slots Q (ws) (tgt) (lv) (st)) (kf : ¬ x ≤ y → mV p l e R s m args below meth c nL D cl A cells slots Q (ws) (pc + 3) (lv) (st)) : mV p l e R s m args below meth c nL D cl A cells slots Q (ws) (pc) (lv) (.int y :: .int x :: st) := fun H locs ls hP hD hS hl => lv_icmp_le C.1 C.2.1 hd ht (fun h => kt h H locs ls hP hD hS hl) (fun h => kf h H locs ls hP hD hS hl)
theorem mv_goto (C : mC p s m args meth c cc nL Ts own ret D cl tys A) {off : Int} {tgt : Nat} (hd : decode cc pc = .ok (.goto off, 3)) (ht : (pc : Int) + off = (tgt : Int)) (k : mV p l e R s m args below meth c nL D cl A cells slots Q (ws) (tgt) (lv) (st)) : mV p l e R s m args below meth c nL D cl A cells slots Q (ws) (pc) (lv) (st) := fun H locs ls hP hD hS hl => lv_goto C.1 C.2.1 hd ht (k H locs ls hP hD hS hl)
theorem mv_ldc (C : mC p s m args meth c cc nL Ts own ret D cl tys A) {index : Nat} {v : Int32} (hc : Jvm.Cond.constant own index v ∈ Ts) (hd : decode cc pc = .ok (.ldc index, 2)) (k : mV p l e R s m args below meth c nL D cl A cells slots Q (ws) (pc + 2) (lv) (.int v :: st)) : mV p l e R s m args below meth c nL D cl A cells slots Q (ws) (pc) (lv) (st) := fun H locs ls hP hD hS hl => lv_ldc C.1 C.2.1 C.2.2.2.1 (C.2.2.2.2.1 _ hc) hd (k H locs ls hP hD hS hl)
theorem mv_lookup (C : mC p s m args meth c cc nL Ts own ret D cl tys A) {dflt : Int} {ps : Array (Int × Int)} {len : Nat} {x : Int32} {off : Int} {tgt : Nat} (hd : decode cc pc = .ok (.lookupswitch dflt ps, len)) (hp : (ps.toList.zip (ps.toList.drop 1)).all (fun (a, next) => a.1 < next.1) = true) (ho : Op.lookupswitch.offset ps.toList dflt x.toInt = off) (ht : (pc : Int) + off = (tgt : Int)) (k : mV p l e R s m args below meth c nL D cl A cells slots Q (ws) (tgt) (lv) (st)) : mV p l e R s m args below meth c nL D cl A cells slots Q (ws) (pc) (lv) (.int x :: st) := fun H locs ls hP hD hS hl => lv_lookup C.1 C.2.1 hd hp ho ht (k H locs ls hP hD hS hl)
theorem mv_tableOut (C : mC p s m args meth c cc nL Ts own ret D cl tys A) {dflt lo hi : Int} {offs : Array Int} {len : Nat} {x : Int32} {tgt : Nat} (hd : decode cc pc = .ok (.tableswitch dflt lo hi offs, len)) (h : x.toInt < lo ∨ hi < x.toInt) (ht : (pc : Int) + dflt = (tgt : Int)) (k : mV p l e R s m args below meth c nL D cl A cells slots Q (ws) (tgt) (lv) (st)) : mV p l e R s m args below meth c nL D cl A cells slots Q (ws) (pc) (lv) (.int x :: st) := fun H locs ls hP hD hS hl => lv_tableOut C.1 C.2.1 hd h ht (k H locs ls hP hD hS hl)
theorem mv_tableIn (C : mC p s m args meth c cc nL Ts own ret D cl tys A) {dflt lo hi : Int} {offs : Array Int} {len : Nat} {x : Int32} {off : Int} {tgt : Nat} (hd : decode cc pc = .ok (.tableswitch dflt lo hi offs, len)) (h1 : ¬ x.toInt < lo) (h2 : ¬ hi < x.toInt) (ho : offs[(x.toInt - lo).toNat]? = some off) (ht : (pc : Int) + off = (tgt : Int)) (k : mV p l e R s m args below meth c nL D cl A cells slots Q (ws) (tgt) (lv) (st)) : mV p l e R s m args below meth c nL D cl A cells slots Q (ws) (pc) (lv) (.int x :: st) := fun H locs ls hP hD hS hl => lv_tableIn C.1 C.2.1 hd h1 h2 ho ht (k H locs ls hP hD hS hl)
theorem mv_topi {x : Int32} (k : ∀ y : Int32, y = x → mV p l e R s m args below meth c nL D cl A cells slots Q (ws) (pc) (lv) (.int y :: st)) : mV p l e R s m args below meth c nL D cl A cells slots Q (ws) (pc) (lv) (.int x :: st) := k x rfl
theorem mv_sub {lv1 : List (Nat × Value)} (ks : List Nat) (h : lv_pick lv ks = lv1) (k : mV p l e R s m args below meth c nL D cl A cells slots Q (ws) (pc) (lv1) (st)) : mV p l e R s m args below meth c nL D cl A cells slots Q (ws) (pc) (lv) (st) := fun H locs ls hP hD hS hl => k H locs ls hP hD hS (lv_sub hl ks h)
theorem mv_ws {ws1 : va_W} (h : ws = ws1) (k : mV p l e R s m args below meth c nL D cl A cells slots Q (ws1) (pc) (lv) (st)) : mV p l e R s m args below meth c nL D cl A cells slots Q (ws) (pc) (lv) (st) := by rw [h]; exact k
theorem mv_nm {f : mS → va_W} {x : mS} (k : ∀ z : mS, z = x → mV p l e R s m args below meth c nL D cl A cells slots Q (f z) (pc) (lv) (st)) : mV p l e R s m args below meth c nL D cl A cells slots Q (f x) (pc) (lv) (st) := k x rfl
theorem mv_get (C : mC p s m args meth c cc nL Ts own ret D cl tys A) {ref C0 : String} {T : u_T} {N ci index a : Nat} {fs : List Value} {v : Value} (hin : ∀ w ∈ u_ws C0 T N, w ∈ Ts) (q0 : Nat) (he : ws[q0]? = some (a, .inr (ci, fs))) (hc : cl[ci]? = some (C0, T, N)) (k : Nat) (hk : k < N) (hlink : Cond.fieldLink own index ref (T k).2.1 (T k).2.2.1 ∈ Ts) (hsame : (T k).1 = ref) (hv : fs[k]? = some v) (hd : decode cc pc = .ok (.getfield index, 3)) (kk : mV p l e R s m args below meth c nL D cl A cells slots Q (ws) (pc + 3) (lv) (v :: st)) : mV p l e R s m args below meth c nL D cl A cells slots Q (ws) (pc) (lv) (.ref a :: st) := by
  subst hsame
  exact fun H locs ls hP hD hS hl => va_get C.1 C.2.1 C.2.2.2.2.1 hin C.2.2.2.1 C.2.2.2.2.2.2.2.1 hP q0 he hc k hk (C.2.2.2.2.1 _ hlink) (fun _ h9 => h9) hv hd (kk H locs ls hP hD hS hl)
theorem mv_put (C : mC p s m args meth c cc nL Ts own ret D cl tys A) {ref C0 : String} {T : u_T} {N ci index a : Nat} {fs : List Value} {v : Value} {ty : FieldType} {ws1 : va_W} (hin : ∀ w ∈ u_ws C0 T N, w ∈ Ts) (ty0 : Nat → FieldType) (hty : ∀ k, k < N → parseFieldDescriptor (T k).2.2.1 = some (ty0 k)) (hnm : ∀ a, a < N → ∀ b, b < N → a ≠ b → (T a).2.1 ≠ (T b).2.1) (q0 : Nat) (he : ws[q0]? = some (a, .inr (ci, fs))) (hc : cl[ci]? = some (C0, T, N)) (k : Nat) (hk : k < N) (hlink : Cond.fieldLink own index ref (T k).2.1 (T k).2.2.1 ∈ Ts) (hsame : (T k).1 = ref) (hfin : (T k).2.2.2 = false) (htk : ty0 k = ty) (hn : narrow ty v = v) (hfit : fits ty v = true) (hlen : k < fs.length) (hset : ws.set q0 (a, .inr (ci, fs.set k v)) = ws1) (hd : decode cc pc = .ok (.putfield index, 3)) (kk : mV p l e R s m args below meth c nL D cl A cells slots Q (ws1) (pc + 3) (lv) (st)) : mV p l e R s m args below meth c nL D cl A cells slots Q (ws) (pc) (lv) (v :: .ref a :: st) := by
  subst hsame
  subst hset
  exact fun H locs ls hP hD hS hl => va_put C.1 C.2.1 C.2.2.2.2.1 hin ty0 hty hnm C.2.2.2.1 C.2.2.2.2.2.2.2.1 hP hD hS q0 he hc k hk (C.2.2.2.2.1 _ hlink) (fun _ h9 => h9) hfin (by rw [hty k hk, htk]) hn hfit hlen hd (fun H1 locs1 hP1 hD1 hS1 => kk H1 locs1 ls hP1 hD1 hS1 hl)
theorem mv_getN (C : mC p s m args meth c cc nL Ts own ret D cl tys A) {ref C0 : String} {T : u_T} {N ci index a : Nat} {host : String} {fs : List Value} {v : Value} (hin : ∀ w ∈ u_ws C0 T N, w ∈ Ts) (q0 : Nat) (he : ws[q0]? = some (a, .inr (ci, fs))) (hc : cl[ci]? = some (C0, T, N)) (k : Nat) (hk : k < N) (hlink : va_Nw (.fieldLinkNest own index ref (T k).2.1 (T k).2.2.1 host) s) (hsame : (T k).1 = ref) (hv : fs[k]? = some v) (hd : decode cc pc = .ok (.getfield index, 3)) (kk : mV p l e R s m args below meth c nL D cl A cells slots Q (ws) (pc + 3) (lv) (v :: st)) : mV p l e R s m args below meth c nL D cl A cells slots Q (ws) (pc) (lv) (.ref a :: st) := by
  subst hsame
  exact fun H locs ls hP hD hS hl => va_getN C.1 C.2.1 C.2.2.2.2.1 hin C.2.2.2.1 C.2.2.2.2.2.2.2.1 hP q0 he hc k hk (va_Nw.use rfl hlink) (fun _ h9 => h9) hv hd (kk H locs ls hP hD hS hl)
theorem mv_putN (C : mC p s m args meth c cc nL Ts own ret D cl tys A) {ref C0 : String} {T : u_T} {N ci index a : Nat} {host : String} {fs : List Value} {v : Value} {ty : FieldType} {ws1 : va_W} (hin : ∀ w ∈ u_ws C0 T N, w ∈ Ts) (ty0 : Nat → FieldType) (hty : ∀ k, k < N → parseFieldDescriptor (T k).2.2.1 = some (ty0 k)) (hnm : ∀ a, a < N → ∀ b, b < N → a ≠ b → (T a).2.1 ≠ (T b).2.1) (q0 : Nat) (he : ws[q0]? = some (a, .inr (ci, fs))) (hc : cl[ci]? = some (C0, T, N)) (k : Nat) (hk : k < N) (hlink : va_Nw (.fieldLinkNest own index ref (T k).2.1 (T k).2.2.1 host) s) (hsame : (T k).1 = ref) (hfin : (T k).2.2.2 = false) (htk : ty0 k = ty) (hn : narrow ty v = v) (hfit : fits ty v = true) (hlen : k < fs.length) (hset : ws.set q0 (a, .inr (ci, fs.set k v)) = ws1) (hd : decode cc pc = .ok (.putfield index, 3)) (kk : mV p l e R s m args below meth c nL D cl A cells slots Q (ws1) (pc + 3) (lv) (st)) : mV p l e R s m args below meth c nL D cl A cells slots Q (ws) (pc) (lv) (v :: .ref a :: st) := by
  subst hsame
  subst hset
  exact fun H locs ls hP hD hS hl => va_putN C.1 C.2.1 C.2.2.2.2.1 hin ty0 hty hnm C.2.2.2.1 C.2.2.2.2.2.2.2.1 hP hD hS q0 he hc k hk (va_Nw.use rfl hlink) (fun _ h9 => h9) hfin (by rw [hty k hk, htk]) hn hfit hlen hd (fun H1 locs1 hP1 hD1 hS1 => kk H1 locs1 ls hP1 hD1 hS1 hl)
theorem mv_putF (C : mC p s m args meth c cc nL Ts own ret D cl tys A) (hinit : meth.name = "<init>") {ref C0 : String} {T : u_T} {N ci index a : Nat} {fs : List Value} {v : Value} {ty : FieldType} {ws1 : va_W} (hin : ∀ w ∈ u_ws C0 T N, w ∈ Ts) (ty0 : Nat → FieldType) (hty : ∀ k, k < N → parseFieldDescriptor (T k).2.2.1 = some (ty0 k)) (hnm : ∀ a, a < N → ∀ b, b < N → a ≠ b → (T a).2.1 ≠ (T b).2.1) (q0 : Nat) (he : ws[q0]? = some (a, .inr (ci, fs))) (hc : cl[ci]? = some (C0, T, N)) (k : Nat) (hk : k < N) (hlink : Cond.fieldLink own index ref (T k).2.1 (T k).2.2.1 ∈ Ts) (hsame : (T k).1 = ref) (hfin : (T k).2.2.2 = true) (hdecl : ref = own) (htk : ty0 k = ty) (hn : narrow ty v = v) (hfit : fits ty v = true) (hlen : k < fs.length) (hset : ws.set q0 (a, .inr (ci, fs.set k v)) = ws1) (hd : decode cc pc = .ok (.putfield index, 3)) (kk : mV p l e R s m args below meth c nL D cl A cells slots Q (ws1) (pc + 3) (lv) (st)) : mV p l e R s m args below meth c nL D cl A cells slots Q (ws) (pc) (lv) (v :: .ref a :: st) := by
  subst hsame
  subst hset
  exact fun H locs ls hP hD hS hl => va_putF C.1 C.2.1 C.2.2.2.2.1 hin ty0 hty hnm C.2.2.2.1 C.2.2.2.2.2.2.2.1 hP hD hS q0 he hc k hk (C.2.2.2.2.1 _ hlink) (fun _ h9 => h9) hfin hinit hdecl (by rw [hty k hk, htk]) hn hfit hlen hd (fun H1 locs1 hP1 hD1 hS1 => kk H1 locs1 ls hP1 hD1 hS1 hl)
theorem mv_iald (C : mC p s m args meth c cc nL Ts own ret D cl tys A) {a n : Nat} {cA : ClassId} {f : Nat → Int32} {i : Int32} (q0 t0 : Nat) (ha : ws[q0]? = some (a, .inl (cA, n, .inl f))) (ht : tys[t0]? = some (cA, .int)) (hin : vp_in i n) (hd : decode cc pc = .ok (.iaload, 1)) (kk : mV p l e R s m args below meth c nL D cl A cells slots Q (ws) (pc + 1) (lv) (.int (f i.toNatClampNeg) :: st)) : mV p l e R s m args below meth c nL D cl A cells slots Q (ws) (pc) (lv) (.int i :: .ref a :: st) := fun H locs ls hP hD hS hl => va_iald C.1 C.2.1 C.2.2.2.2.2.2.2.1 hP q0 t0 ha ht hin hd (kk H locs ls hP hD hS hl)
theorem mv_iast (C : mC p s m args meth c cc nL Ts own ret D cl tys A) {a n : Nat} {cA : ClassId} {f : Nat → Int32} {i x : Int32} {ws1 : va_W} (q0 t0 : Nat) (ha : ws[q0]? = some (a, .inl (cA, n, .inl f))) (ht : tys[t0]? = some (cA, .int)) (hin : vp_in i n) (hset : ws.set q0 (a, .inl (cA, n, .inl (upd f i.toNatClampNeg x))) = ws1) (hd : decode cc pc = .ok (.iastore, 1)) (kk : mV p l e R s m args below meth c nL D cl A cells slots Q (ws1) (pc + 1) (lv) (st)) : mV p l e R s m args below meth c nL D cl A cells slots Q (ws) (pc) (lv) (.int x :: .int i :: .ref a :: st) := by
  subst hset
  exact fun H locs ls hP hD hS hl => va_iast C.1 C.2.1 C.2.2.2.2.2.2.2.1 hP hD hS q0 t0 ha ht hin hd (fun H1 locs1 hP1 hD1 hS1 => kk H1 locs1 ls hP1 hD1 hS1 hl)
theorem mv_alen (C : mC p s m args meth c cc nL Ts own ret D cl tys A) {a n : Nat} {cA : ClassId} {f : Nat → Int32} {v : Int32} (q0 t0 : Nat) (ha : ws[q0]? = some (a, .inl (cA, n, .inl f))) (ht : tys[t0]? = some (cA, .int)) (hv : Int32.ofNat n = v) (hd : decode cc pc = .ok (.arraylength, 1)) (kk : mV p l e R s m args below meth c nL D cl A cells slots Q (ws) (pc + 1) (lv) (.int v :: st)) : mV p l e R s m args below meth c nL D cl A cells slots Q (ws) (pc) (lv) (.ref a :: st) := fun H locs ls hP hD hS hl => va_alen C.1 C.2.1 C.2.2.2.2.2.2.2.1 hP q0 t0 ha ht hv hd (kk H locs ls hP hD hS hl)
theorem mv_gets (C : mC p s m args meth c cc nL Ts own ret D cl tys A) {C0 n d : String} {v : Value} {index : Nat} (hZ : va_Z C0 n d v A s s.heap) (hlink : Cond.fieldLink own index C0 n d ∈ Ts) (hd : decode cc pc = .ok (.getstatic index, 3)) (kk : mV p l e R s m args below meth c nL D cl A cells slots Q (ws) (pc + 3) (lv) (v :: st)) : mV p l e R s m args below meth c nL D cl A cells slots Q (ws) (pc) (lv) (st) := fun H locs ls hP hD hS hl => va_gets C.1 C.2.1 hZ hS C.2.2.2.1 (C.2.2.2.2.1 _ hlink) (fun _ h9 => h9) hd (kk H locs ls hP hD hS hl)
theorem mv_getsN (C : mC p s m args meth c cc nL Ts own ret D cl tys A) {C0 n d host : String} {v : Value} {index : Nat} (hZ : va_Z C0 n d v A s s.heap) (hlink : va_Nw (.fieldLinkNest own index C0 n d host) s) (hd : decode cc pc = .ok (.getstatic index, 3)) (kk : mV p l e R s m args below meth c nL D cl A cells slots Q (ws) (pc + 3) (lv) (v :: st)) : mV p l e R s m args below meth c nL D cl A cells slots Q (ws) (pc) (lv) (st) := fun H locs ls hP hD hS hl => va_getsN C.1 C.2.1 hZ hS C.2.2.2.1 (va_Nw.use rfl hlink) (fun _ h9 => h9) hd (kk H locs ls hP hD hS hl)
theorem mv_ti (C : mC p s m args meth c cc nL Ts own ret D cl tys A) {t N : Nat} {f : Nat → Value} {i : Int32} {v : Value} (hT : va_T .int t N f A s s.heap) (hin : vp_in i N) (hv : f i.toNatClampNeg = v) (hd : decode cc pc = .ok (.iaload, 1)) (kk : mV p l e R s m args below meth c nL D cl A cells slots Q (ws) (pc + 1) (lv) (v :: st)) : mV p l e R s m args below meth c nL D cl A cells slots Q (ws) (pc) (lv) (.int i :: .ref t :: st) := fun H locs ls hP hD hS hl => va_ti C.1 C.2.1 hT hS hin hv hd (kk H locs ls hP hD hS hl)
theorem mv_tlen (C : mC p s m args meth c cc nL Ts own ret D cl tys A) {t N : Nat} {f : Nat → Value} {v : Int32} (hT : va_T .int t N f A s s.heap) (hv : Int32.ofNat N = v) (hd : decode cc pc = .ok (.arraylength, 1)) (kk : mV p l e R s m args below meth c nL D cl A cells slots Q (ws) (pc + 1) (lv) (.int v :: st)) : mV p l e R s m args below meth c nL D cl A cells slots Q (ws) (pc) (lv) (.ref t :: st) := fun H locs ls hP hD hS hl => va_tlen C.1 C.2.1 hT hS hv hd (kk H locs ls hP hD hS hl)
theorem mv_mmax (C : mC p s m args meth c cc nL Ts own ret D cl tys A) {index : Nat} {x y : Int32} (hlink : Cond.methodLink own index Lib.Math.max.name ∈ Ts) (hstat : Cond.static Lib.Math.max.name ∈ Ts) (hini : Cond.initialized "java/lang/Math" ∈ Ts) (hcode : Cond.code Lib.Math.max.name Lib.Math.max.code 2 (some .int) ∈ Ts) (hframes : 1 ≤ R.frames) (hlocals : (st.map fun v => v.category).sum + 13 ≤ R.locals) (hc : cells ≤ R.cells) (hs : slots ≤ R.slots) (hd : decode cc pc = .ok (.invokestatic index, 3)) (kk : mV p l e R s m args below meth c nL D cl A cells slots Q (ws) (pc + 3) (lv) (.int (if x < y then y else x) :: st)) : mV p l e R s m args below meth c nL D cl A cells slots Q (ws) (pc) (lv) (.int y :: .int x :: st) := fun H locs ls hP hD hS hl => va_mmax C.1 C.2.1 (C.2.2.1.trans hl.1.symm) C.2.2.2.1 (C.2.2.2.2.1 _ hlink) (C.2.2.2.2.1 _ hstat) (C.2.2.2.2.1 _ hini) (C.2.2.2.2.1 _ hcode) hframes hlocals hc hs hd (kk H locs ls hP hD hS hl)
theorem mv_mmin (C : mC p s m args meth c cc nL Ts own ret D cl tys A) {index : Nat} {x y : Int32} (hlink : Cond.methodLink own index Lib.Math.min.name ∈ Ts) (hstat : Cond.static Lib.Math.min.name ∈ Ts) (hini : Cond.initialized "java/lang/Math" ∈ Ts) (hcode : Cond.code Lib.Math.min.name Lib.Math.min.code 2 (some .int) ∈ Ts) (hframes : 1 ≤ R.frames) (hlocals : (st.map fun v => v.category).sum + 13 ≤ R.locals) (hc : cells ≤ R.cells) (hs : slots ≤ R.slots) (hd : decode cc pc = .ok (.invokestatic index, 3)) (kk : mV p l e R s m args below meth c nL D cl A cells slots Q (ws) (pc + 3) (lv) (.int (if y < x then y else x) :: st)) : mV p l e R s m args below meth c nL D cl A cells slots Q (ws) (pc) (lv) (.int y :: .int x :: st) := fun H locs ls hP hD hS hl => va_mmin C.1 C.2.1 (C.2.2.1.trans hl.1.symm) C.2.2.2.1 (C.2.2.2.2.1 _ hlink) (C.2.2.2.2.1 _ hstat) (C.2.2.2.2.1 _ hini) (C.2.2.2.2.1 _ hcode) hframes hlocals hc hs hd (kk H locs ls hP hD hS hl)
theorem mv_iret (C : mC p s m args meth c cc nL Ts own (some .int) D cl tys A) {f : mS → va_W} {u : mS} {post : Int32 → mS → Prop} {v : Int32} (hd : decode cc pc = .ok (.ireturn, 1)) (hp : post v u) : mV p l e R s m args below meth c nL D cl A 0 0 (mQi below args s D cl tys f A post) (f u) pc lv [.int v] := fun H locs ls hP hD hS hl => W.iret (v := v) C.1 C.2.1 C.2.2.2.2.2.1 (fun t ht hW => ⟨⟨v, u, rfl, hp, by rw [ht]; exact hP, va_K.moved hW.alike C.2.2.2.2.2.2.2.1, hD⟩, hS.F ht⟩) hS.2.2 hd C.2.2.2.2.2.2.1
theorem mv_zret (C : mC p s m args meth c cc nL Ts own (some .boolean) D cl tys A) {f : mS → va_W} {u : mS} {post : Int32 → mS → Prop} {v : Int32} (hd : decode cc pc = .ok (.ireturn, 1)) (h01 : v = 0 ∨ v = 1) (hp : post v u) : mV p l e R s m args below meth c nL D cl A 0 0 (mQi below args s D cl tys f A (fun r w => (r = 0 ∨ r = 1) ∧ post r w)) (f u) pc lv [.int v] := fun H locs ls hP hD hS hl => W.zret (v := v) C.1 C.2.1 C.2.2.2.2.2.1 (by rcases h01 with rfl | rfl <;> rfl) (fun t ht hW => ⟨⟨v, u, rfl, ⟨h01, hp⟩, by rw [ht]; exact hP, va_K.moved hW.alike C.2.2.2.2.2.2.2.1, hD⟩, hS.F ht⟩) hS.2.2 hd C.2.2.2.2.2.2.1
theorem mv_vret (C : mC p s m args meth c cc nL Ts own none D cl tys A) {f : mS → va_W} {u : mS} {post : mS → Prop} (hd : decode cc pc = .ok (.return_, 1)) (hp : post u) : mV p l e R s m args below meth c nL D cl A 0 0 (mQv below args s D cl tys f A post) (f u) pc lv [] := fun H locs ls hP hD hS hl => W.vret C.1 C.2.1 C.2.2.2.2.2.1 (fun t ht hW => ⟨⟨u, rfl, hp, by rw [ht]; exact hP, va_K.moved hW.alike C.2.2.2.2.2.2.2.1, hD⟩, hS.F ht⟩) hS.2.2 hd C.2.2.2.2.2.2.1
theorem mfree {f : va_W} {H0 H : Heap} {locs : List Loc} (hD : va_D A f) (hS : va_S A H0 H locs) (hA : ∀ q : Nat, H0.size ≤ q → A q) : ∀ q, va_A f H.size q → A q := by
  intro q h
  rcases h with ⟨k, e, h⟩ | h
  · exact hD.2 k (q, e) h
  · exact hA q (Nat.le_trans hS.1 h)
theorem mblind {E : (Nat → Prop) → State → Prop} (hE : mEok E) {f : mS → va_W} {av : List Value} {u : mS} {sz : Nat} : FrameBlind (mPc E D cl tys f av u sz) := by
  intro a U g mk q
  obtain ⟨q0, q1, qP, qK, qD, qE⟩ := q
  exact ⟨q0, q1, qP, va_K.moved (u := U) (U := U.calling g mk a) (Vm.Alike.refl U.vm) qK, qD, hE.2 _ U g mk a qE⟩
theorem mpre {E : (Nat → Prop) → State → Prop} (hE : mEok E) (hs : E A s) (hK : va_K D cl tys s) (hA : ∀ q : Nat, s.heap.size ≤ q → A q) {f : mS → va_W} {av : List Value} {u : mS} {H : Heap} {locs : List Loc} (hP : va_P D cl (f u) H) (hD : va_D A (f u)) (hS : va_S A s.heap H locs) : ∀ U : State, U.heap = H → s.WarmedH U.vm → mPc E D cl tys f av u H.size av.toArray U := by
  intro U hU hW
  exact ⟨rfl, by rw [hU], by rw [hU]; exact hP, va_K.moved hW.alike hK, hD.weaken (fun _ _ _ _ => trivial), hE.1 A _ s U hs (mfree hD hS hA) hW (fun q h1 h2 => by rw [hU]; exact hS.2.1 q h1 h2)⟩
theorem mv_callVi (C : mC p s m args meth c cc nL Ts own ret D cl tys A) {E : (Nat → Prop) → State → Prop} (hE : mEok E) (hs : E A s) {f : mS → va_W} {u : mS} {As rest : List Value} {y : MethodName} {bytes : ByteArray} {maxL index kl n : Nat} {rt : Option FieldType} {wsy : List Cond} {post : Int32 → mS → Prop} {C0 : String} {T : u_T} {N ci b : Nat} {fs : List Value} (q0 : Nat) (he : (f u)[q0]? = some (b, .inr (ci, fs))) (hc : cl[ci]? = some (C0, T, N)) (hM : mKi l y wsy kl E D cl tys f (.ref b :: As) u post) (cw : CallW R s args own C0 index y bytes maxL rt wsy (mRm kl) 0 0 n) (hst : st = As.reverse ++ .ref b :: rest) (hn : As.length = n) (hW : (rest.map fun v => v.category).sum ≤ 8) (hd : decode cc pc = .ok (.invokevirtual index, 3)) (hf : cells ≤ R.cells ∧ slots ≤ R.slots) (kk : ∀ (r : Int32) (w : mS), post r w → mV p l e R s m args below meth c nL D cl A cells slots Q (f w) (pc + 3) (lv) (.int r :: rest)) : mV p l e R s m args below meth c nL D cl A cells slots Q (f u) (pc) (lv) (st) := by
  subst hst
  exact fun H locs ls hP hD hS hl => va_calli (va_runV (As := As) (rest := rest) ⟨C.1, C.2.1, C.2.2.1, C.2.2.2.1, C.2.2.2.2.1⟩ (hM H.size) cw ⟨mblind hE, va_recv (ci := ci) (q0 := q0) C.2.2.2.2.2.2.2.1 hP hc he, mpre hE hs C.2.2.2.2.2.2.2.1 C.2.2.2.2.2.2.2.2 hP hD hS⟩ rfl hn hl.1 rfl (lv_room hW) hd hf) hS (fun q _ h => mfree hD hS C.2.2.2.2.2.2.2.2 q h) (mfree hD hS C.2.2.2.2.2.2.2.2) (fun r w t H1 locs1 ht hvm hw hB hz1 hk1 hS1 => kk r w hw H1 locs1 ls (by rw [← ht]; exact hB.1) (hB.2.2.weaken (fun k q _ h => mfree hD hS C.2.2.2.2.2.2.2.2 q.1 h)) hS1 hl)
theorem mv_callVv (C : mC p s m args meth c cc nL Ts own ret D cl tys A) {E : (Nat → Prop) → State → Prop} (hE : mEok E) (hs : E A s) {f : mS → va_W} {u : mS} {As rest : List Value} {y : MethodName} {bytes : ByteArray} {maxL index kl n : Nat} {rt : Option FieldType} {wsy : List Cond} {post : mS → Prop} {C0 : String} {T : u_T} {N ci b : Nat} {fs : List Value} (q0 : Nat) (he : (f u)[q0]? = some (b, .inr (ci, fs))) (hc : cl[ci]? = some (C0, T, N)) (hM : mKv l y wsy kl E D cl tys f (.ref b :: As) u post) (cw : CallW R s args own C0 index y bytes maxL rt wsy (mRm kl) 0 0 n) (hst : st = As.reverse ++ .ref b :: rest) (hn : As.length = n) (hW : (rest.map fun v => v.category).sum ≤ 8) (hd : decode cc pc = .ok (.invokevirtual index, 3)) (hf : cells ≤ R.cells ∧ slots ≤ R.slots) (kk : ∀ (w : mS), post w → mV p l e R s m args below meth c nL D cl A cells slots Q (f w) (pc + 3) (lv) (rest)) : mV p l e R s m args below meth c nL D cl A cells slots Q (f u) (pc) (lv) (st) := by
  subst hst
  exact fun H locs ls hP hD hS hl => va_callv (va_runV (As := As) (rest := rest) ⟨C.1, C.2.1, C.2.2.1, C.2.2.2.1, C.2.2.2.2.1⟩ (hM H.size) cw ⟨mblind hE, va_recv (ci := ci) (q0 := q0) C.2.2.2.2.2.2.2.1 hP hc he, mpre hE hs C.2.2.2.2.2.2.2.1 C.2.2.2.2.2.2.2.2 hP hD hS⟩ rfl hn hl.1 rfl (lv_room hW) hd hf) hS (fun q _ h => mfree hD hS C.2.2.2.2.2.2.2.2 q h) (mfree hD hS C.2.2.2.2.2.2.2.2) (fun w t H1 locs1 ht hvm hw hB hz1 hk1 hS1 => kk w hw H1 locs1 ls (by rw [← ht]; exact hB.1) (hB.2.2.weaken (fun k q _ h => mfree hD hS C.2.2.2.2.2.2.2.2 q.1 h)) hS1 hl)
theorem mv_callVNi (C : mC p s m args meth c cc nL Ts own ret D cl tys A) {E : (Nat → Prop) → State → Prop} (hE : mEok E) (hs : E A s) {f : mS → va_W} {u : mS} {As rest : List Value} {y : MethodName} {bytes : ByteArray} {maxL index kl n : Nat} {rt : Option FieldType} {wsy : List Cond} {post : Int32 → mS → Prop} {host : String} {C0 : String} {T : u_T} {N ci b : Nat} {fs : List Value} (q0 : Nat) (he : (f u)[q0]? = some (b, .inr (ci, fs))) (hc : cl[ci]? = some (C0, T, N)) (hM : mKi l y wsy kl E D cl tys f (.ref b :: As) u post) (cw : va_CN R s args own index y host bytes maxL rt wsy (mRm kl) 0 0 n ∧ (Cond.instanceMethod y).before args s = true ∧ (Cond.selects C0 y y).before args s = true) (hst : st = As.reverse ++ .ref b :: rest) (hn : As.length = n) (hW : (rest.map fun v => v.category).sum ≤ 8) (hd : decode cc pc = .ok (.invokevirtual index, 3)) (hf : cells ≤ R.cells ∧ slots ≤ R.slots) (kk : ∀ (r : Int32) (w : mS), post r w → mV p l e R s m args below meth c nL D cl A cells slots Q (f w) (pc + 3) (lv) (.int r :: rest)) : mV p l e R s m args below meth c nL D cl A cells slots Q (f u) (pc) (lv) (st) := by
  subst hst
  exact fun H locs ls hP hD hS hl => va_calli (va_runVN (As := As) (rest := rest) ⟨C.1, C.2.1, C.2.2.1, C.2.2.2.1, C.2.2.2.2.1⟩ (hM H.size) cw ⟨mblind hE, va_recv (ci := ci) (q0 := q0) C.2.2.2.2.2.2.2.1 hP hc he, mpre hE hs C.2.2.2.2.2.2.2.1 C.2.2.2.2.2.2.2.2 hP hD hS⟩ rfl hn hl.1 rfl (lv_room hW) hd hf) hS (fun q _ h => mfree hD hS C.2.2.2.2.2.2.2.2 q h) (mfree hD hS C.2.2.2.2.2.2.2.2) (fun r w t H1 locs1 ht hvm hw hB hz1 hk1 hS1 => kk r w hw H1 locs1 ls (by rw [← ht]; exact hB.1) (hB.2.2.weaken (fun k q _ h => mfree hD hS C.2.2.2.2.2.2.2.2 q.1 h)) hS1 hl)
theorem mv_callVNv (C : mC p s m args meth c cc nL Ts own ret D cl tys A) {E : (Nat → Prop) → State → Prop} (hE : mEok E) (hs : E A s) {f : mS → va_W} {u : mS} {As rest : List Value} {y : MethodName} {bytes : ByteArray} {maxL index kl n : Nat} {rt : Option FieldType} {wsy : List Cond} {post : mS → Prop} {host : String} {C0 : String} {T : u_T} {N ci b : Nat} {fs : List Value} (q0 : Nat) (he : (f u)[q0]? = some (b, .inr (ci, fs))) (hc : cl[ci]? = some (C0, T, N)) (hM : mKv l y wsy kl E D cl tys f (.ref b :: As) u post) (cw : va_CN R s args own index y host bytes maxL rt wsy (mRm kl) 0 0 n ∧ (Cond.instanceMethod y).before args s = true ∧ (Cond.selects C0 y y).before args s = true) (hst : st = As.reverse ++ .ref b :: rest) (hn : As.length = n) (hW : (rest.map fun v => v.category).sum ≤ 8) (hd : decode cc pc = .ok (.invokevirtual index, 3)) (hf : cells ≤ R.cells ∧ slots ≤ R.slots) (kk : ∀ (w : mS), post w → mV p l e R s m args below meth c nL D cl A cells slots Q (f w) (pc + 3) (lv) (rest)) : mV p l e R s m args below meth c nL D cl A cells slots Q (f u) (pc) (lv) (st) := by
  subst hst
  exact fun H locs ls hP hD hS hl => va_callv (va_runVN (As := As) (rest := rest) ⟨C.1, C.2.1, C.2.2.1, C.2.2.2.1, C.2.2.2.2.1⟩ (hM H.size) cw ⟨mblind hE, va_recv (ci := ci) (q0 := q0) C.2.2.2.2.2.2.2.1 hP hc he, mpre hE hs C.2.2.2.2.2.2.2.1 C.2.2.2.2.2.2.2.2 hP hD hS⟩ rfl hn hl.1 rfl (lv_room hW) hd hf) hS (fun q _ h => mfree hD hS C.2.2.2.2.2.2.2.2 q h) (mfree hD hS C.2.2.2.2.2.2.2.2) (fun w t H1 locs1 ht hvm hw hB hz1 hk1 hS1 => kk w hw H1 locs1 ls (by rw [← ht]; exact hB.1) (hB.2.2.weaken (fun k q _ h => mfree hD hS C.2.2.2.2.2.2.2.2 q.1 h)) hS1 hl)
theorem mv_callSi (C : mC p s m args meth c cc nL Ts own ret D cl tys A) {E : (Nat → Prop) → State → Prop} (hE : mEok E) (hs : E A s) {f : mS → va_W} {u : mS} {As rest : List Value} {y : MethodName} {bytes : ByteArray} {maxL index kl n : Nat} {rt : Option FieldType} {wsy : List Cond} {post : Int32 → mS → Prop} (hM : mKi l y wsy kl E D cl tys f As u post) (cw : CallB R s args own index y bytes maxL rt wsy (mRm kl) 0 0 n ∧ (Cond.static y).before args s = true) (hst : st = As.reverse ++ rest) (hn : As.length = n) (hW : (rest.map fun v => v.category).sum ≤ 8) (hd : decode cc pc = .ok (.invokestatic index, 3)) (hf : cells ≤ R.cells ∧ slots ≤ R.slots) (kk : ∀ (r : Int32) (w : mS), post r w → mV p l e R s m args below meth c nL D cl A cells slots Q (f w) (pc + 3) (lv) (.int r :: rest)) : mV p l e R s m args below meth c nL D cl A cells slots Q (f u) (pc) (lv) (st) := by
  subst hst
  exact fun H locs ls hP hD hS hl => va_calli (va_runS (As := As) (rest := rest) ⟨C.1, C.2.1, C.2.2.1, C.2.2.2.1, C.2.2.2.2.1⟩ (hM H.size) cw ⟨mblind hE, mpre hE hs C.2.2.2.2.2.2.2.1 C.2.2.2.2.2.2.2.2 hP hD hS⟩ rfl hn hl.1 rfl (lv_room hW) hd hf) hS (fun q _ h => mfree hD hS C.2.2.2.2.2.2.2.2 q h) (mfree hD hS C.2.2.2.2.2.2.2.2) (fun r w t H1 locs1 ht hvm hw hB hz1 hk1 hS1 => kk r w hw H1 locs1 ls (by rw [← ht]; exact hB.1) (hB.2.2.weaken (fun k q _ h => mfree hD hS C.2.2.2.2.2.2.2.2 q.1 h)) hS1 hl)
theorem mv_callSv (C : mC p s m args meth c cc nL Ts own ret D cl tys A) {E : (Nat → Prop) → State → Prop} (hE : mEok E) (hs : E A s) {f : mS → va_W} {u : mS} {As rest : List Value} {y : MethodName} {bytes : ByteArray} {maxL index kl n : Nat} {rt : Option FieldType} {wsy : List Cond} {post : mS → Prop} (hM : mKv l y wsy kl E D cl tys f As u post) (cw : CallB R s args own index y bytes maxL rt wsy (mRm kl) 0 0 n ∧ (Cond.static y).before args s = true) (hst : st = As.reverse ++ rest) (hn : As.length = n) (hW : (rest.map fun v => v.category).sum ≤ 8) (hd : decode cc pc = .ok (.invokestatic index, 3)) (hf : cells ≤ R.cells ∧ slots ≤ R.slots) (kk : ∀ (w : mS), post w → mV p l e R s m args below meth c nL D cl A cells slots Q (f w) (pc + 3) (lv) (rest)) : mV p l e R s m args below meth c nL D cl A cells slots Q (f u) (pc) (lv) (st) := by
  subst hst
  exact fun H locs ls hP hD hS hl => va_callv (va_runS (As := As) (rest := rest) ⟨C.1, C.2.1, C.2.2.1, C.2.2.2.1, C.2.2.2.2.1⟩ (hM H.size) cw ⟨mblind hE, mpre hE hs C.2.2.2.2.2.2.2.1 C.2.2.2.2.2.2.2.2 hP hD hS⟩ rfl hn hl.1 rfl (lv_room hW) hd hf) hS (fun q _ h => mfree hD hS C.2.2.2.2.2.2.2.2 q h) (mfree hD hS C.2.2.2.2.2.2.2.2) (fun w t H1 locs1 ht hvm hw hB hz1 hk1 hS1 => kk w hw H1 locs1 ls (by rw [← ht]; exact hB.1) (hB.2.2.weaken (fun k q _ h => mfree hD hS C.2.2.2.2.2.2.2.2 q.1 h)) hS1 hl)
theorem mv_callSNi (C : mC p s m args meth c cc nL Ts own ret D cl tys A) {E : (Nat → Prop) → State → Prop} (hE : mEok E) (hs : E A s) {f : mS → va_W} {u : mS} {As rest : List Value} {y : MethodName} {bytes : ByteArray} {maxL index kl n : Nat} {rt : Option FieldType} {wsy : List Cond} {post : Int32 → mS → Prop} {host : String} (hM : mKi l y wsy kl E D cl tys f As u post) (cw : va_CN R s args own index y host bytes maxL rt wsy (mRm kl) 0 0 n ∧ (Cond.static y).before args s = true ∧ True) (hst : st = As.reverse ++ rest) (hn : As.length = n) (hW : (rest.map fun v => v.category).sum ≤ 8) (hd : decode cc pc = .ok (.invokestatic index, 3)) (hf : cells ≤ R.cells ∧ slots ≤ R.slots) (kk : ∀ (r : Int32) (w : mS), post r w → mV p l e R s m args below meth c nL D cl A cells slots Q (f w) (pc + 3) (lv) (.int r :: rest)) : mV p l e R s m args below meth c nL D cl A cells slots Q (f u) (pc) (lv) (st) := by
  subst hst
  exact fun H locs ls hP hD hS hl => va_calli (va_runSN (As := As) (rest := rest) ⟨C.1, C.2.1, C.2.2.1, C.2.2.2.1, C.2.2.2.2.1⟩ (hM H.size) cw ⟨mblind hE, mpre hE hs C.2.2.2.2.2.2.2.1 C.2.2.2.2.2.2.2.2 hP hD hS⟩ rfl hn hl.1 rfl (lv_room hW) hd hf) hS (fun q _ h => mfree hD hS C.2.2.2.2.2.2.2.2 q h) (mfree hD hS C.2.2.2.2.2.2.2.2) (fun r w t H1 locs1 ht hvm hw hB hz1 hk1 hS1 => kk r w hw H1 locs1 ls (by rw [← ht]; exact hB.1) (hB.2.2.weaken (fun k q _ h => mfree hD hS C.2.2.2.2.2.2.2.2 q.1 h)) hS1 hl)
theorem mv_callSNv (C : mC p s m args meth c cc nL Ts own ret D cl tys A) {E : (Nat → Prop) → State → Prop} (hE : mEok E) (hs : E A s) {f : mS → va_W} {u : mS} {As rest : List Value} {y : MethodName} {bytes : ByteArray} {maxL index kl n : Nat} {rt : Option FieldType} {wsy : List Cond} {post : mS → Prop} {host : String} (hM : mKv l y wsy kl E D cl tys f As u post) (cw : va_CN R s args own index y host bytes maxL rt wsy (mRm kl) 0 0 n ∧ (Cond.static y).before args s = true ∧ True) (hst : st = As.reverse ++ rest) (hn : As.length = n) (hW : (rest.map fun v => v.category).sum ≤ 8) (hd : decode cc pc = .ok (.invokestatic index, 3)) (hf : cells ≤ R.cells ∧ slots ≤ R.slots) (kk : ∀ (w : mS), post w → mV p l e R s m args below meth c nL D cl A cells slots Q (f w) (pc + 3) (lv) (rest)) : mV p l e R s m args below meth c nL D cl A cells slots Q (f u) (pc) (lv) (st) := by
  subst hst
  exact fun H locs ls hP hD hS hl => va_callv (va_runSN (As := As) (rest := rest) ⟨C.1, C.2.1, C.2.2.1, C.2.2.2.1, C.2.2.2.2.1⟩ (hM H.size) cw ⟨mblind hE, mpre hE hs C.2.2.2.2.2.2.2.1 C.2.2.2.2.2.2.2.2 hP hD hS⟩ rfl hn hl.1 rfl (lv_room hW) hd hf) hS (fun q _ h => mfree hD hS C.2.2.2.2.2.2.2.2 q h) (mfree hD hS C.2.2.2.2.2.2.2.2) (fun w t H1 locs1 ht hvm hw hB hz1 hk1 hS1 => kk w hw H1 locs1 ls (by rw [← ht]; exact hB.1) (hB.2.2.weaken (fun k q _ h => mfree hD hS C.2.2.2.2.2.2.2.2 q.1 h)) hS1 hl)
end MV
def mL1 {A1 : Type} (F : (A1 → Prop) → A1 → Prop) : Nat → A1 → Prop
  | 0, _ => False
  | k + 1, a1 => F (mL1 F k) a1
theorem mL1_of {A1 : Type} {F : (A1 → Prop) → A1 → Prop} {G : A1 → Prop} (h : ∀ K : A1 → Prop, (∀ (a1 : A1), K a1 → G a1) → ∀ (a1 : A1), F K a1 → G a1) : ∀ (k : Nat) (a1 : A1), mL1 F k a1 → G a1
  | 0, _, hw => hw.elim
  | k + 1, a1, hw => h (mL1 F k) (mL1_of h k) a1 hw
theorem mL1_in {A1 : Type} {F : (A1 → Prop) → A1 → Prop} (I : A1 → Prop) (μ : A1 → Nat) (h : ∀ (K : A1 → Prop) (a1 : A1), I a1 → (∀ (b1 : A1), I b1 → μ b1 < μ a1 → K b1) → F K a1) : ∀ (a1 : A1), I a1 → ∃ k, mL1 F k a1 := by
  have key : ∀ (k : Nat) (a1 : A1), I a1 → μ a1 < k → mL1 F k a1 := by
    intro k
    induction k with
    | zero => intro a1 _ hk; omega
    | succ k ih => intro a1 hI hk; exact h _ a1 hI (fun b1 hI2 hk2 => ih b1 hI2 (by omega))
  intro a1 hI
  exact ⟨μ a1 + 1, key _ a1 hI (Nat.lt_succ_self _)⟩
def mL2 {A1 A2 : Type} (F : (A1 → A2 → Prop) → A1 → A2 → Prop) : Nat → A1 → A2 → Prop
  | 0, _, _ => False
  | k + 1, a1, a2 => F (mL2 F k) a1 a2
theorem mL2_of {A1 A2 : Type} {F : (A1 → A2 → Prop) → A1 → A2 → Prop} {G : A1 → A2 → Prop} (h : ∀ K : A1 → A2 → Prop, (∀ (a1 : A1) (a2 : A2), K a1 a2 → G a1 a2) → ∀ (a1 : A1) (a2 : A2), F K a1 a2 → G a1 a2) : ∀ (k : Nat) (a1 : A1) (a2 : A2), mL2 F k a1 a2 → G a1 a2
  | 0, _, _, hw => hw.elim
  | k + 1, a1, a2, hw => h (mL2 F k) (mL2_of h k) a1 a2 hw
theorem mL2_in {A1 A2 : Type} {F : (A1 → A2 → Prop) → A1 → A2 → Prop} (I : A1 → A2 → Prop) (μ : A1 → A2 → Nat) (h : ∀ (K : A1 → A2 → Prop) (a1 : A1) (a2 : A2), I a1 a2 → (∀ (b1 : A1) (b2 : A2), I b1 b2 → μ b1 b2 < μ a1 a2 → K b1 b2) → F K a1 a2) : ∀ (a1 : A1) (a2 : A2), I a1 a2 → ∃ k, mL2 F k a1 a2 := by
  have key : ∀ (k : Nat) (a1 : A1) (a2 : A2), I a1 a2 → μ a1 a2 < k → mL2 F k a1 a2 := by
    intro k
    induction k with
    | zero => intro a1 a2 _ hk; omega
    | succ k ih => intro a1 a2 hI hk; exact h _ a1 a2 hI (fun b1 b2 hI2 hk2 => ih b1 b2 hI2 (by omega))
  intro a1 a2 hI
  exact ⟨μ a1 a2 + 1, key _ a1 a2 hI (Nat.lt_succ_self _)⟩
def mL3 {A1 A2 A3 : Type} (F : (A1 → A2 → A3 → Prop) → A1 → A2 → A3 → Prop) : Nat → A1 → A2 → A3 → Prop
  | 0, _, _, _ => False
  | k + 1, a1, a2, a3 => F (mL3 F k) a1 a2 a3
theorem mL3_of {A1 A2 A3 : Type} {F : (A1 → A2 → A3 → Prop) → A1 → A2 → A3 → Prop} {G : A1 → A2 → A3 → Prop} (h : ∀ K : A1 → A2 → A3 → Prop, (∀ (a1 : A1) (a2 : A2) (a3 : A3), K a1 a2 a3 → G a1 a2 a3) → ∀ (a1 : A1) (a2 : A2) (a3 : A3), F K a1 a2 a3 → G a1 a2 a3) : ∀ (k : Nat) (a1 : A1) (a2 : A2) (a3 : A3), mL3 F k a1 a2 a3 → G a1 a2 a3
  | 0, _, _, _, hw => hw.elim
  | k + 1, a1, a2, a3, hw => h (mL3 F k) (mL3_of h k) a1 a2 a3 hw
theorem mL3_in {A1 A2 A3 : Type} {F : (A1 → A2 → A3 → Prop) → A1 → A2 → A3 → Prop} (I : A1 → A2 → A3 → Prop) (μ : A1 → A2 → A3 → Nat) (h : ∀ (K : A1 → A2 → A3 → Prop) (a1 : A1) (a2 : A2) (a3 : A3), I a1 a2 a3 → (∀ (b1 : A1) (b2 : A2) (b3 : A3), I b1 b2 b3 → μ b1 b2 b3 < μ a1 a2 a3 → K b1 b2 b3) → F K a1 a2 a3) : ∀ (a1 : A1) (a2 : A2) (a3 : A3), I a1 a2 a3 → ∃ k, mL3 F k a1 a2 a3 := by
  have key : ∀ (k : Nat) (a1 : A1) (a2 : A2) (a3 : A3), I a1 a2 a3 → μ a1 a2 a3 < k → mL3 F k a1 a2 a3 := by
    intro k
    induction k with
    | zero => intro a1 a2 a3 _ hk; omega
    | succ k ih => intro a1 a2 a3 hI hk; exact h _ a1 a2 a3 hI (fun b1 b2 b3 hI2 hk2 => ih b1 b2 b3 hI2 (by omega))
  intro a1 a2 a3 hI
  exact ⟨μ a1 a2 a3 + 1, key _ a1 a2 a3 hI (Nat.lt_succ_self _)⟩
def mL4 {A1 A2 A3 A4 : Type} (F : (A1 → A2 → A3 → A4 → Prop) → A1 → A2 → A3 → A4 → Prop) : Nat → A1 → A2 → A3 → A4 → Prop
  | 0, _, _, _, _ => False
  | k + 1, a1, a2, a3, a4 => F (mL4 F k) a1 a2 a3 a4
theorem mL4_of {A1 A2 A3 A4 : Type} {F : (A1 → A2 → A3 → A4 → Prop) → A1 → A2 → A3 → A4 → Prop} {G : A1 → A2 → A3 → A4 → Prop} (h : ∀ K : A1 → A2 → A3 → A4 → Prop, (∀ (a1 : A1) (a2 : A2) (a3 : A3) (a4 : A4), K a1 a2 a3 a4 → G a1 a2 a3 a4) → ∀ (a1 : A1) (a2 : A2) (a3 : A3) (a4 : A4), F K a1 a2 a3 a4 → G a1 a2 a3 a4) : ∀ (k : Nat) (a1 : A1) (a2 : A2) (a3 : A3) (a4 : A4), mL4 F k a1 a2 a3 a4 → G a1 a2 a3 a4
  | 0, _, _, _, _, hw => hw.elim
  | k + 1, a1, a2, a3, a4, hw => h (mL4 F k) (mL4_of h k) a1 a2 a3 a4 hw
theorem mL4_in {A1 A2 A3 A4 : Type} {F : (A1 → A2 → A3 → A4 → Prop) → A1 → A2 → A3 → A4 → Prop} (I : A1 → A2 → A3 → A4 → Prop) (μ : A1 → A2 → A3 → A4 → Nat) (h : ∀ (K : A1 → A2 → A3 → A4 → Prop) (a1 : A1) (a2 : A2) (a3 : A3) (a4 : A4), I a1 a2 a3 a4 → (∀ (b1 : A1) (b2 : A2) (b3 : A3) (b4 : A4), I b1 b2 b3 b4 → μ b1 b2 b3 b4 < μ a1 a2 a3 a4 → K b1 b2 b3 b4) → F K a1 a2 a3 a4) : ∀ (a1 : A1) (a2 : A2) (a3 : A3) (a4 : A4), I a1 a2 a3 a4 → ∃ k, mL4 F k a1 a2 a3 a4 := by
  have key : ∀ (k : Nat) (a1 : A1) (a2 : A2) (a3 : A3) (a4 : A4), I a1 a2 a3 a4 → μ a1 a2 a3 a4 < k → mL4 F k a1 a2 a3 a4 := by
    intro k
    induction k with
    | zero => intro a1 a2 a3 a4 _ hk; omega
    | succ k ih => intro a1 a2 a3 a4 hI hk; exact h _ a1 a2 a3 a4 hI (fun b1 b2 b3 b4 hI2 hk2 => ih b1 b2 b3 b4 hI2 (by omega))
  intro a1 a2 a3 a4 hI
  exact ⟨μ a1 a2 a3 a4 + 1, key _ a1 a2 a3 a4 hI (Nat.lt_succ_self _)⟩
def mL5 {A1 A2 A3 A4 A5 : Type} (F : (A1 → A2 → A3 → A4 → A5 → Prop) → A1 → A2 → A3 → A4 → A5 → Prop) : Nat → A1 → A2 → A3 → A4 → A5 → Prop
  | 0, _, _, _, _, _ => False
  | k + 1, a1, a2, a3, a4, a5 => F (mL5 F k) a1 a2 a3 a4 a5
theorem mL5_of {A1 A2 A3 A4 A5 : Type} {F : (A1 → A2 → A3 → A4 → A5 → Prop) → A1 → A2 → A3 → A4 → A5 → Prop} {G : A1 → A2 → A3 → A4 → A5 → Prop} (h : ∀ K : A1 → A2 → A3 → A4 → A5 → Prop, (∀ (a1 : A1) (a2 : A2) (a3 : A3) (a4 : A4) (a5 : A5), K a1 a2 a3 a4 a5 → G a1 a2 a3 a4 a5) → ∀ (a1 : A1) (a2 : A2) (a3 : A3) (a4 : A4) (a5 : A5), F K a1 a2 a3 a4 a5 → G a1 a2 a3 a4 a5) : ∀ (k : Nat) (a1 : A1) (a2 : A2) (a3 : A3) (a4 : A4) (a5 : A5), mL5 F k a1 a2 a3 a4 a5 → G a1 a2 a3 a4 a5
  | 0, _, _, _, _, _, hw => hw.elim
  | k + 1, a1, a2, a3, a4, a5, hw => h (mL5 F k) (mL5_of h k) a1 a2 a3 a4 a5 hw
theorem mL5_in {A1 A2 A3 A4 A5 : Type} {F : (A1 → A2 → A3 → A4 → A5 → Prop) → A1 → A2 → A3 → A4 → A5 → Prop} (I : A1 → A2 → A3 → A4 → A5 → Prop) (μ : A1 → A2 → A3 → A4 → A5 → Nat) (h : ∀ (K : A1 → A2 → A3 → A4 → A5 → Prop) (a1 : A1) (a2 : A2) (a3 : A3) (a4 : A4) (a5 : A5), I a1 a2 a3 a4 a5 → (∀ (b1 : A1) (b2 : A2) (b3 : A3) (b4 : A4) (b5 : A5), I b1 b2 b3 b4 b5 → μ b1 b2 b3 b4 b5 < μ a1 a2 a3 a4 a5 → K b1 b2 b3 b4 b5) → F K a1 a2 a3 a4 a5) : ∀ (a1 : A1) (a2 : A2) (a3 : A3) (a4 : A4) (a5 : A5), I a1 a2 a3 a4 a5 → ∃ k, mL5 F k a1 a2 a3 a4 a5 := by
  have key : ∀ (k : Nat) (a1 : A1) (a2 : A2) (a3 : A3) (a4 : A4) (a5 : A5), I a1 a2 a3 a4 a5 → μ a1 a2 a3 a4 a5 < k → mL5 F k a1 a2 a3 a4 a5 := by
    intro k
    induction k with
    | zero => intro a1 a2 a3 a4 a5 _ hk; omega
    | succ k ih => intro a1 a2 a3 a4 a5 hI hk; exact h _ a1 a2 a3 a4 a5 hI (fun b1 b2 b3 b4 b5 hI2 hk2 => ih b1 b2 b3 b4 b5 hI2 (by omega))
  intro a1 a2 a3 a4 a5 hI
  exact ⟨μ a1 a2 a3 a4 a5 + 1, key _ a1 a2 a3 a4 a5 hI (Nat.lt_succ_self _)⟩
def mL6 {A1 A2 A3 A4 A5 A6 : Type} (F : (A1 → A2 → A3 → A4 → A5 → A6 → Prop) → A1 → A2 → A3 → A4 → A5 → A6 → Prop) : Nat → A1 → A2 → A3 → A4 → A5 → A6 → Prop
  | 0, _, _, _, _, _, _ => False
  | k + 1, a1, a2, a3, a4, a5, a6 => F (mL6 F k) a1 a2 a3 a4 a5 a6
theorem mL6_of {A1 A2 A3 A4 A5 A6 : Type} {F : (A1 → A2 → A3 → A4 → A5 → A6 → Prop) → A1 → A2 → A3 → A4 → A5 → A6 → Prop} {G : A1 → A2 → A3 → A4 → A5 → A6 → Prop} (h : ∀ K : A1 → A2 → A3 → A4 → A5 → A6 → Prop, (∀ (a1 : A1) (a2 : A2) (a3 : A3) (a4 : A4) (a5 : A5) (a6 : A6), K a1 a2 a3 a4 a5 a6 → G a1 a2 a3 a4 a5 a6) → ∀ (a1 : A1) (a2 : A2) (a3 : A3) (a4 : A4) (a5 : A5) (a6 : A6), F K a1 a2 a3 a4 a5 a6 → G a1 a2 a3 a4 a5 a6) : ∀ (k : Nat) (a1 : A1) (a2 : A2) (a3 : A3) (a4 : A4) (a5 : A5) (a6 : A6), mL6 F k a1 a2 a3 a4 a5 a6 → G a1 a2 a3 a4 a5 a6
  | 0, _, _, _, _, _, _, hw => hw.elim
  | k + 1, a1, a2, a3, a4, a5, a6, hw => h (mL6 F k) (mL6_of h k) a1 a2 a3 a4 a5 a6 hw
theorem mL6_in {A1 A2 A3 A4 A5 A6 : Type} {F : (A1 → A2 → A3 → A4 → A5 → A6 → Prop) → A1 → A2 → A3 → A4 → A5 → A6 → Prop} (I : A1 → A2 → A3 → A4 → A5 → A6 → Prop) (μ : A1 → A2 → A3 → A4 → A5 → A6 → Nat) (h : ∀ (K : A1 → A2 → A3 → A4 → A5 → A6 → Prop) (a1 : A1) (a2 : A2) (a3 : A3) (a4 : A4) (a5 : A5) (a6 : A6), I a1 a2 a3 a4 a5 a6 → (∀ (b1 : A1) (b2 : A2) (b3 : A3) (b4 : A4) (b5 : A5) (b6 : A6), I b1 b2 b3 b4 b5 b6 → μ b1 b2 b3 b4 b5 b6 < μ a1 a2 a3 a4 a5 a6 → K b1 b2 b3 b4 b5 b6) → F K a1 a2 a3 a4 a5 a6) : ∀ (a1 : A1) (a2 : A2) (a3 : A3) (a4 : A4) (a5 : A5) (a6 : A6), I a1 a2 a3 a4 a5 a6 → ∃ k, mL6 F k a1 a2 a3 a4 a5 a6 := by
  have key : ∀ (k : Nat) (a1 : A1) (a2 : A2) (a3 : A3) (a4 : A4) (a5 : A5) (a6 : A6), I a1 a2 a3 a4 a5 a6 → μ a1 a2 a3 a4 a5 a6 < k → mL6 F k a1 a2 a3 a4 a5 a6 := by
    intro k
    induction k with
    | zero => intro a1 a2 a3 a4 a5 a6 _ hk; omega
    | succ k ih => intro a1 a2 a3 a4 a5 a6 hI hk; exact h _ a1 a2 a3 a4 a5 a6 hI (fun b1 b2 b3 b4 b5 b6 hI2 hk2 => ih b1 b2 b3 b4 b5 b6 hI2 (by omega))
  intro a1 a2 a3 a4 a5 a6 hI
  exact ⟨μ a1 a2 a3 a4 a5 a6 + 1, key _ a1 a2 a3 a4 a5 a6 hI (Nat.lt_succ_self _)⟩
def mL7 {A1 A2 A3 A4 A5 A6 A7 : Type} (F : (A1 → A2 → A3 → A4 → A5 → A6 → A7 → Prop) → A1 → A2 → A3 → A4 → A5 → A6 → A7 → Prop) : Nat → A1 → A2 → A3 → A4 → A5 → A6 → A7 → Prop
  | 0, _, _, _, _, _, _, _ => False
  | k + 1, a1, a2, a3, a4, a5, a6, a7 => F (mL7 F k) a1 a2 a3 a4 a5 a6 a7
theorem mL7_of {A1 A2 A3 A4 A5 A6 A7 : Type} {F : (A1 → A2 → A3 → A4 → A5 → A6 → A7 → Prop) → A1 → A2 → A3 → A4 → A5 → A6 → A7 → Prop} {G : A1 → A2 → A3 → A4 → A5 → A6 → A7 → Prop} (h : ∀ K : A1 → A2 → A3 → A4 → A5 → A6 → A7 → Prop, (∀ (a1 : A1) (a2 : A2) (a3 : A3) (a4 : A4) (a5 : A5) (a6 : A6) (a7 : A7), K a1 a2 a3 a4 a5 a6 a7 → G a1 a2 a3 a4 a5 a6 a7) → ∀ (a1 : A1) (a2 : A2) (a3 : A3) (a4 : A4) (a5 : A5) (a6 : A6) (a7 : A7), F K a1 a2 a3 a4 a5 a6 a7 → G a1 a2 a3 a4 a5 a6 a7) : ∀ (k : Nat) (a1 : A1) (a2 : A2) (a3 : A3) (a4 : A4) (a5 : A5) (a6 : A6) (a7 : A7), mL7 F k a1 a2 a3 a4 a5 a6 a7 → G a1 a2 a3 a4 a5 a6 a7
  | 0, _, _, _, _, _, _, _, hw => hw.elim
  | k + 1, a1, a2, a3, a4, a5, a6, a7, hw => h (mL7 F k) (mL7_of h k) a1 a2 a3 a4 a5 a6 a7 hw
theorem mL7_in {A1 A2 A3 A4 A5 A6 A7 : Type} {F : (A1 → A2 → A3 → A4 → A5 → A6 → A7 → Prop) → A1 → A2 → A3 → A4 → A5 → A6 → A7 → Prop} (I : A1 → A2 → A3 → A4 → A5 → A6 → A7 → Prop) (μ : A1 → A2 → A3 → A4 → A5 → A6 → A7 → Nat) (h : ∀ (K : A1 → A2 → A3 → A4 → A5 → A6 → A7 → Prop) (a1 : A1) (a2 : A2) (a3 : A3) (a4 : A4) (a5 : A5) (a6 : A6) (a7 : A7), I a1 a2 a3 a4 a5 a6 a7 → (∀ (b1 : A1) (b2 : A2) (b3 : A3) (b4 : A4) (b5 : A5) (b6 : A6) (b7 : A7), I b1 b2 b3 b4 b5 b6 b7 → μ b1 b2 b3 b4 b5 b6 b7 < μ a1 a2 a3 a4 a5 a6 a7 → K b1 b2 b3 b4 b5 b6 b7) → F K a1 a2 a3 a4 a5 a6 a7) : ∀ (a1 : A1) (a2 : A2) (a3 : A3) (a4 : A4) (a5 : A5) (a6 : A6) (a7 : A7), I a1 a2 a3 a4 a5 a6 a7 → ∃ k, mL7 F k a1 a2 a3 a4 a5 a6 a7 := by
  have key : ∀ (k : Nat) (a1 : A1) (a2 : A2) (a3 : A3) (a4 : A4) (a5 : A5) (a6 : A6) (a7 : A7), I a1 a2 a3 a4 a5 a6 a7 → μ a1 a2 a3 a4 a5 a6 a7 < k → mL7 F k a1 a2 a3 a4 a5 a6 a7 := by
    intro k
    induction k with
    | zero => intro a1 a2 a3 a4 a5 a6 a7 _ hk; omega
    | succ k ih => intro a1 a2 a3 a4 a5 a6 a7 hI hk; exact h _ a1 a2 a3 a4 a5 a6 a7 hI (fun b1 b2 b3 b4 b5 b6 b7 hI2 hk2 => ih b1 b2 b3 b4 b5 b6 b7 hI2 (by omega))
  intro a1 a2 a3 a4 a5 a6 a7 hI
  exact ⟨μ a1 a2 a3 a4 a5 a6 a7 + 1, key _ a1 a2 a3 a4 a5 a6 a7 hI (Nat.lt_succ_self _)⟩
def mL8 {A1 A2 A3 A4 A5 A6 A7 A8 : Type} (F : (A1 → A2 → A3 → A4 → A5 → A6 → A7 → A8 → Prop) → A1 → A2 → A3 → A4 → A5 → A6 → A7 → A8 → Prop) : Nat → A1 → A2 → A3 → A4 → A5 → A6 → A7 → A8 → Prop
  | 0, _, _, _, _, _, _, _, _ => False
  | k + 1, a1, a2, a3, a4, a5, a6, a7, a8 => F (mL8 F k) a1 a2 a3 a4 a5 a6 a7 a8
theorem mL8_of {A1 A2 A3 A4 A5 A6 A7 A8 : Type} {F : (A1 → A2 → A3 → A4 → A5 → A6 → A7 → A8 → Prop) → A1 → A2 → A3 → A4 → A5 → A6 → A7 → A8 → Prop} {G : A1 → A2 → A3 → A4 → A5 → A6 → A7 → A8 → Prop} (h : ∀ K : A1 → A2 → A3 → A4 → A5 → A6 → A7 → A8 → Prop, (∀ (a1 : A1) (a2 : A2) (a3 : A3) (a4 : A4) (a5 : A5) (a6 : A6) (a7 : A7) (a8 : A8), K a1 a2 a3 a4 a5 a6 a7 a8 → G a1 a2 a3 a4 a5 a6 a7 a8) → ∀ (a1 : A1) (a2 : A2) (a3 : A3) (a4 : A4) (a5 : A5) (a6 : A6) (a7 : A7) (a8 : A8), F K a1 a2 a3 a4 a5 a6 a7 a8 → G a1 a2 a3 a4 a5 a6 a7 a8) : ∀ (k : Nat) (a1 : A1) (a2 : A2) (a3 : A3) (a4 : A4) (a5 : A5) (a6 : A6) (a7 : A7) (a8 : A8), mL8 F k a1 a2 a3 a4 a5 a6 a7 a8 → G a1 a2 a3 a4 a5 a6 a7 a8
  | 0, _, _, _, _, _, _, _, _, hw => hw.elim
  | k + 1, a1, a2, a3, a4, a5, a6, a7, a8, hw => h (mL8 F k) (mL8_of h k) a1 a2 a3 a4 a5 a6 a7 a8 hw
theorem mL8_in {A1 A2 A3 A4 A5 A6 A7 A8 : Type} {F : (A1 → A2 → A3 → A4 → A5 → A6 → A7 → A8 → Prop) → A1 → A2 → A3 → A4 → A5 → A6 → A7 → A8 → Prop} (I : A1 → A2 → A3 → A4 → A5 → A6 → A7 → A8 → Prop) (μ : A1 → A2 → A3 → A4 → A5 → A6 → A7 → A8 → Nat) (h : ∀ (K : A1 → A2 → A3 → A4 → A5 → A6 → A7 → A8 → Prop) (a1 : A1) (a2 : A2) (a3 : A3) (a4 : A4) (a5 : A5) (a6 : A6) (a7 : A7) (a8 : A8), I a1 a2 a3 a4 a5 a6 a7 a8 → (∀ (b1 : A1) (b2 : A2) (b3 : A3) (b4 : A4) (b5 : A5) (b6 : A6) (b7 : A7) (b8 : A8), I b1 b2 b3 b4 b5 b6 b7 b8 → μ b1 b2 b3 b4 b5 b6 b7 b8 < μ a1 a2 a3 a4 a5 a6 a7 a8 → K b1 b2 b3 b4 b5 b6 b7 b8) → F K a1 a2 a3 a4 a5 a6 a7 a8) : ∀ (a1 : A1) (a2 : A2) (a3 : A3) (a4 : A4) (a5 : A5) (a6 : A6) (a7 : A7) (a8 : A8), I a1 a2 a3 a4 a5 a6 a7 a8 → ∃ k, mL8 F k a1 a2 a3 a4 a5 a6 a7 a8 := by
  have key : ∀ (k : Nat) (a1 : A1) (a2 : A2) (a3 : A3) (a4 : A4) (a5 : A5) (a6 : A6) (a7 : A7) (a8 : A8), I a1 a2 a3 a4 a5 a6 a7 a8 → μ a1 a2 a3 a4 a5 a6 a7 a8 < k → mL8 F k a1 a2 a3 a4 a5 a6 a7 a8 := by
    intro k
    induction k with
    | zero => intro a1 a2 a3 a4 a5 a6 a7 a8 _ hk; omega
    | succ k ih => intro a1 a2 a3 a4 a5 a6 a7 a8 hI hk; exact h _ a1 a2 a3 a4 a5 a6 a7 a8 hI (fun b1 b2 b3 b4 b5 b6 b7 b8 hI2 hk2 => ih b1 b2 b3 b4 b5 b6 b7 b8 hI2 (by omega))
  intro a1 a2 a3 a4 a5 a6 a7 a8 hI
  exact ⟨μ a1 a2 a3 a4 a5 a6 a7 a8 + 1, key _ a1 a2 a3 a4 a5 a6 a7 a8 hI (Nat.lt_succ_self _)⟩
def mL9 {A1 A2 A3 A4 A5 A6 A7 A8 A9 : Type} (F : (A1 → A2 → A3 → A4 → A5 → A6 → A7 → A8 → A9 → Prop) → A1 → A2 → A3 → A4 → A5 → A6 → A7 → A8 → A9 → Prop) : Nat → A1 → A2 → A3 → A4 → A5 → A6 → A7 → A8 → A9 → Prop
  | 0, _, _, _, _, _, _, _, _, _ => False
  | k + 1, a1, a2, a3, a4, a5, a6, a7, a8, a9 => F (mL9 F k) a1 a2 a3 a4 a5 a6 a7 a8 a9
theorem mL9_of {A1 A2 A3 A4 A5 A6 A7 A8 A9 : Type} {F : (A1 → A2 → A3 → A4 → A5 → A6 → A7 → A8 → A9 → Prop) → A1 → A2 → A3 → A4 → A5 → A6 → A7 → A8 → A9 → Prop} {G : A1 → A2 → A3 → A4 → A5 → A6 → A7 → A8 → A9 → Prop} (h : ∀ K : A1 → A2 → A3 → A4 → A5 → A6 → A7 → A8 → A9 → Prop, (∀ (a1 : A1) (a2 : A2) (a3 : A3) (a4 : A4) (a5 : A5) (a6 : A6) (a7 : A7) (a8 : A8) (a9 : A9), K a1 a2 a3 a4 a5 a6 a7 a8 a9 → G a1 a2 a3 a4 a5 a6 a7 a8 a9) → ∀ (a1 : A1) (a2 : A2) (a3 : A3) (a4 : A4) (a5 : A5) (a6 : A6) (a7 : A7) (a8 : A8) (a9 : A9), F K a1 a2 a3 a4 a5 a6 a7 a8 a9 → G a1 a2 a3 a4 a5 a6 a7 a8 a9) : ∀ (k : Nat) (a1 : A1) (a2 : A2) (a3 : A3) (a4 : A4) (a5 : A5) (a6 : A6) (a7 : A7) (a8 : A8) (a9 : A9), mL9 F k a1 a2 a3 a4 a5 a6 a7 a8 a9 → G a1 a2 a3 a4 a5 a6 a7 a8 a9
  | 0, _, _, _, _, _, _, _, _, _, hw => hw.elim
  | k + 1, a1, a2, a3, a4, a5, a6, a7, a8, a9, hw => h (mL9 F k) (mL9_of h k) a1 a2 a3 a4 a5 a6 a7 a8 a9 hw
theorem mL9_in {A1 A2 A3 A4 A5 A6 A7 A8 A9 : Type} {F : (A1 → A2 → A3 → A4 → A5 → A6 → A7 → A8 → A9 → Prop) → A1 → A2 → A3 → A4 → A5 → A6 → A7 → A8 → A9 → Prop} (I : A1 → A2 → A3 → A4 → A5 → A6 → A7 → A8 → A9 → Prop) (μ : A1 → A2 → A3 → A4 → A5 → A6 → A7 → A8 → A9 → Nat) (h : ∀ (K : A1 → A2 → A3 → A4 → A5 → A6 → A7 → A8 → A9 → Prop) (a1 : A1) (a2 : A2) (a3 : A3) (a4 : A4) (a5 : A5) (a6 : A6) (a7 : A7) (a8 : A8) (a9 : A9), I a1 a2 a3 a4 a5 a6 a7 a8 a9 → (∀ (b1 : A1) (b2 : A2) (b3 : A3) (b4 : A4) (b5 : A5) (b6 : A6) (b7 : A7) (b8 : A8) (b9 : A9), I b1 b2 b3 b4 b5 b6 b7 b8 b9 → μ b1 b2 b3 b4 b5 b6 b7 b8 b9 < μ a1 a2 a3 a4 a5 a6 a7 a8 a9 → K b1 b2 b3 b4 b5 b6 b7 b8 b9) → F K a1 a2 a3 a4 a5 a6 a7 a8 a9) : ∀ (a1 : A1) (a2 : A2) (a3 : A3) (a4 : A4) (a5 : A5) (a6 : A6) (a7 : A7) (a8 : A8) (a9 : A9), I a1 a2 a3 a4 a5 a6 a7 a8 a9 → ∃ k, mL9 F k a1 a2 a3 a4 a5 a6 a7 a8 a9 := by
  have key : ∀ (k : Nat) (a1 : A1) (a2 : A2) (a3 : A3) (a4 : A4) (a5 : A5) (a6 : A6) (a7 : A7) (a8 : A8) (a9 : A9), I a1 a2 a3 a4 a5 a6 a7 a8 a9 → μ a1 a2 a3 a4 a5 a6 a7 a8 a9 < k → mL9 F k a1 a2 a3 a4 a5 a6 a7 a8 a9 := by
    intro k
    induction k with
    | zero => intro a1 a2 a3 a4 a5 a6 a7 a8 a9 _ hk; omega
    | succ k ih => intro a1 a2 a3 a4 a5 a6 a7 a8 a9 hI hk; exact h _ a1 a2 a3 a4 a5 a6 a7 a8 a9 hI (fun b1 b2 b3 b4 b5 b6 b7 b8 b9 hI2 hk2 => ih b1 b2 b3 b4 b5 b6 b7 b8 b9 hI2 (by omega))
  intro a1 a2 a3 a4 a5 a6 a7 a8 a9 hI
  exact ⟨μ a1 a2 a3 a4 a5 a6 a7 a8 a9 + 1, key _ a1 a2 a3 a4 a5 a6 a7 a8 a9 hI (Nat.lt_succ_self _)⟩
def mL10 {A1 A2 A3 A4 A5 A6 A7 A8 A9 A10 : Type} (F : (A1 → A2 → A3 → A4 → A5 → A6 → A7 → A8 → A9 → A10 → Prop) → A1 → A2 → A3 → A4 → A5 → A6 → A7 → A8 → A9 → A10 → Prop) : Nat → A1 → A2 → A3 → A4 → A5 → A6 → A7 → A8 → A9 → A10 → Prop
  | 0, _, _, _, _, _, _, _, _, _, _ => False
  | k + 1, a1, a2, a3, a4, a5, a6, a7, a8, a9, a10 => F (mL10 F k) a1 a2 a3 a4 a5 a6 a7 a8 a9 a10
theorem mL10_of {A1 A2 A3 A4 A5 A6 A7 A8 A9 A10 : Type} {F : (A1 → A2 → A3 → A4 → A5 → A6 → A7 → A8 → A9 → A10 → Prop) → A1 → A2 → A3 → A4 → A5 → A6 → A7 → A8 → A9 → A10 → Prop} {G : A1 → A2 → A3 → A4 → A5 → A6 → A7 → A8 → A9 → A10 → Prop} (h : ∀ K : A1 → A2 → A3 → A4 → A5 → A6 → A7 → A8 → A9 → A10 → Prop, (∀ (a1 : A1) (a2 : A2) (a3 : A3) (a4 : A4) (a5 : A5) (a6 : A6) (a7 : A7) (a8 : A8) (a9 : A9) (a10 : A10), K a1 a2 a3 a4 a5 a6 a7 a8 a9 a10 → G a1 a2 a3 a4 a5 a6 a7 a8 a9 a10) → ∀ (a1 : A1) (a2 : A2) (a3 : A3) (a4 : A4) (a5 : A5) (a6 : A6) (a7 : A7) (a8 : A8) (a9 : A9) (a10 : A10), F K a1 a2 a3 a4 a5 a6 a7 a8 a9 a10 → G a1 a2 a3 a4 a5 a6 a7 a8 a9 a10) : ∀ (k : Nat) (a1 : A1) (a2 : A2) (a3 : A3) (a4 : A4) (a5 : A5) (a6 : A6) (a7 : A7) (a8 : A8) (a9 : A9) (a10 : A10), mL10 F k a1 a2 a3 a4 a5 a6 a7 a8 a9 a10 → G a1 a2 a3 a4 a5 a6 a7 a8 a9 a10
  | 0, _, _, _, _, _, _, _, _, _, _, hw => hw.elim
  | k + 1, a1, a2, a3, a4, a5, a6, a7, a8, a9, a10, hw => h (mL10 F k) (mL10_of h k) a1 a2 a3 a4 a5 a6 a7 a8 a9 a10 hw
theorem mL10_in {A1 A2 A3 A4 A5 A6 A7 A8 A9 A10 : Type} {F : (A1 → A2 → A3 → A4 → A5 → A6 → A7 → A8 → A9 → A10 → Prop) → A1 → A2 → A3 → A4 → A5 → A6 → A7 → A8 → A9 → A10 → Prop} (I : A1 → A2 → A3 → A4 → A5 → A6 → A7 → A8 → A9 → A10 → Prop) (μ : A1 → A2 → A3 → A4 → A5 → A6 → A7 → A8 → A9 → A10 → Nat) (h : ∀ (K : A1 → A2 → A3 → A4 → A5 → A6 → A7 → A8 → A9 → A10 → Prop) (a1 : A1) (a2 : A2) (a3 : A3) (a4 : A4) (a5 : A5) (a6 : A6) (a7 : A7) (a8 : A8) (a9 : A9) (a10 : A10), I a1 a2 a3 a4 a5 a6 a7 a8 a9 a10 → (∀ (b1 : A1) (b2 : A2) (b3 : A3) (b4 : A4) (b5 : A5) (b6 : A6) (b7 : A7) (b8 : A8) (b9 : A9) (b10 : A10), I b1 b2 b3 b4 b5 b6 b7 b8 b9 b10 → μ b1 b2 b3 b4 b5 b6 b7 b8 b9 b10 < μ a1 a2 a3 a4 a5 a6 a7 a8 a9 a10 → K b1 b2 b3 b4 b5 b6 b7 b8 b9 b10) → F K a1 a2 a3 a4 a5 a6 a7 a8 a9 a10) : ∀ (a1 : A1) (a2 : A2) (a3 : A3) (a4 : A4) (a5 : A5) (a6 : A6) (a7 : A7) (a8 : A8) (a9 : A9) (a10 : A10), I a1 a2 a3 a4 a5 a6 a7 a8 a9 a10 → ∃ k, mL10 F k a1 a2 a3 a4 a5 a6 a7 a8 a9 a10 := by
  have key : ∀ (k : Nat) (a1 : A1) (a2 : A2) (a3 : A3) (a4 : A4) (a5 : A5) (a6 : A6) (a7 : A7) (a8 : A8) (a9 : A9) (a10 : A10), I a1 a2 a3 a4 a5 a6 a7 a8 a9 a10 → μ a1 a2 a3 a4 a5 a6 a7 a8 a9 a10 < k → mL10 F k a1 a2 a3 a4 a5 a6 a7 a8 a9 a10 := by
    intro k
    induction k with
    | zero => intro a1 a2 a3 a4 a5 a6 a7 a8 a9 a10 _ hk; omega
    | succ k ih => intro a1 a2 a3 a4 a5 a6 a7 a8 a9 a10 hI hk; exact h _ a1 a2 a3 a4 a5 a6 a7 a8 a9 a10 hI (fun b1 b2 b3 b4 b5 b6 b7 b8 b9 b10 hI2 hk2 => ih b1 b2 b3 b4 b5 b6 b7 b8 b9 b10 hI2 (by omega))
  intro a1 a2 a3 a4 a5 a6 a7 a8 a9 a10 hI
  exact ⟨μ a1 a2 a3 a4 a5 a6 a7 a8 a9 a10 + 1, key _ a1 a2 a3 a4 a5 a6 a7 a8 a9 a10 hI (Nat.lt_succ_self _)⟩
def mL11 {A1 A2 A3 A4 A5 A6 A7 A8 A9 A10 A11 : Type} (F : (A1 → A2 → A3 → A4 → A5 → A6 → A7 → A8 → A9 → A10 → A11 → Prop) → A1 → A2 → A3 → A4 → A5 → A6 → A7 → A8 → A9 → A10 → A11 → Prop) : Nat → A1 → A2 → A3 → A4 → A5 → A6 → A7 → A8 → A9 → A10 → A11 → Prop
  | 0, _, _, _, _, _, _, _, _, _, _, _ => False
  | k + 1, a1, a2, a3, a4, a5, a6, a7, a8, a9, a10, a11 => F (mL11 F k) a1 a2 a3 a4 a5 a6 a7 a8 a9 a10 a11
theorem mL11_of {A1 A2 A3 A4 A5 A6 A7 A8 A9 A10 A11 : Type} {F : (A1 → A2 → A3 → A4 → A5 → A6 → A7 → A8 → A9 → A10 → A11 → Prop) → A1 → A2 → A3 → A4 → A5 → A6 → A7 → A8 → A9 → A10 → A11 → Prop} {G : A1 → A2 → A3 → A4 → A5 → A6 → A7 → A8 → A9 → A10 → A11 → Prop} (h : ∀ K : A1 → A2 → A3 → A4 → A5 → A6 → A7 → A8 → A9 → A10 → A11 → Prop, (∀ (a1 : A1) (a2 : A2) (a3 : A3) (a4 : A4) (a5 : A5) (a6 : A6) (a7 : A7) (a8 : A8) (a9 : A9) (a10 : A10) (a11 : A11), K a1 a2 a3 a4 a5 a6 a7 a8 a9 a10 a11 → G a1 a2 a3 a4 a5 a6 a7 a8 a9 a10 a11) → ∀ (a1 : A1) (a2 : A2) (a3 : A3) (a4 : A4) (a5 : A5) (a6 : A6) (a7 : A7) (a8 : A8) (a9 : A9) (a10 : A10) (a11 : A11), F K a1 a2 a3 a4 a5 a6 a7 a8 a9 a10 a11 → G a1 a2 a3 a4 a5 a6 a7 a8 a9 a10 a11) : ∀ (k : Nat) (a1 : A1) (a2 : A2) (a3 : A3) (a4 : A4) (a5 : A5) (a6 : A6) (a7 : A7) (a8 : A8) (a9 : A9) (a10 : A10) (a11 : A11), mL11 F k a1 a2 a3 a4 a5 a6 a7 a8 a9 a10 a11 → G a1 a2 a3 a4 a5 a6 a7 a8 a9 a10 a11
  | 0, _, _, _, _, _, _, _, _, _, _, _, hw => hw.elim
  | k + 1, a1, a2, a3, a4, a5, a6, a7, a8, a9, a10, a11, hw => h (mL11 F k) (mL11_of h k) a1 a2 a3 a4 a5 a6 a7 a8 a9 a10 a11 hw
theorem mL11_in {A1 A2 A3 A4 A5 A6 A7 A8 A9 A10 A11 : Type} {F : (A1 → A2 → A3 → A4 → A5 → A6 → A7 → A8 → A9 → A10 → A11 → Prop) → A1 → A2 → A3 → A4 → A5 → A6 → A7 → A8 → A9 → A10 → A11 → Prop} (I : A1 → A2 → A3 → A4 → A5 → A6 → A7 → A8 → A9 → A10 → A11 → Prop) (μ : A1 → A2 → A3 → A4 → A5 → A6 → A7 → A8 → A9 → A10 → A11 → Nat) (h : ∀ (K : A1 → A2 → A3 → A4 → A5 → A6 → A7 → A8 → A9 → A10 → A11 → Prop) (a1 : A1) (a2 : A2) (a3 : A3) (a4 : A4) (a5 : A5) (a6 : A6) (a7 : A7) (a8 : A8) (a9 : A9) (a10 : A10) (a11 : A11), I a1 a2 a3 a4 a5 a6 a7 a8 a9 a10 a11 → (∀ (b1 : A1) (b2 : A2) (b3 : A3) (b4 : A4) (b5 : A5) (b6 : A6) (b7 : A7) (b8 : A8) (b9 : A9) (b10 : A10) (b11 : A11), I b1 b2 b3 b4 b5 b6 b7 b8 b9 b10 b11 → μ b1 b2 b3 b4 b5 b6 b7 b8 b9 b10 b11 < μ a1 a2 a3 a4 a5 a6 a7 a8 a9 a10 a11 → K b1 b2 b3 b4 b5 b6 b7 b8 b9 b10 b11) → F K a1 a2 a3 a4 a5 a6 a7 a8 a9 a10 a11) : ∀ (a1 : A1) (a2 : A2) (a3 : A3) (a4 : A4) (a5 : A5) (a6 : A6) (a7 : A7) (a8 : A8) (a9 : A9) (a10 : A10) (a11 : A11), I a1 a2 a3 a4 a5 a6 a7 a8 a9 a10 a11 → ∃ k, mL11 F k a1 a2 a3 a4 a5 a6 a7 a8 a9 a10 a11 := by
  have key : ∀ (k : Nat) (a1 : A1) (a2 : A2) (a3 : A3) (a4 : A4) (a5 : A5) (a6 : A6) (a7 : A7) (a8 : A8) (a9 : A9) (a10 : A10) (a11 : A11), I a1 a2 a3 a4 a5 a6 a7 a8 a9 a10 a11 → μ a1 a2 a3 a4 a5 a6 a7 a8 a9 a10 a11 < k → mL11 F k a1 a2 a3 a4 a5 a6 a7 a8 a9 a10 a11 := by
    intro k
    induction k with
    | zero => intro a1 a2 a3 a4 a5 a6 a7 a8 a9 a10 a11 _ hk; omega
    | succ k ih => intro a1 a2 a3 a4 a5 a6 a7 a8 a9 a10 a11 hI hk; exact h _ a1 a2 a3 a4 a5 a6 a7 a8 a9 a10 a11 hI (fun b1 b2 b3 b4 b5 b6 b7 b8 b9 b10 b11 hI2 hk2 => ih b1 b2 b3 b4 b5 b6 b7 b8 b9 b10 b11 hI2 (by omega))
  intro a1 a2 a3 a4 a5 a6 a7 a8 a9 a10 a11 hI
  exact ⟨μ a1 a2 a3 a4 a5 a6 a7 a8 a9 a10 a11 + 1, key _ a1 a2 a3 a4 a5 a6 a7 a8 a9 a10 a11 hI (Nat.lt_succ_self _)⟩
def mL12 {A1 A2 A3 A4 A5 A6 A7 A8 A9 A10 A11 A12 : Type} (F : (A1 → A2 → A3 → A4 → A5 → A6 → A7 → A8 → A9 → A10 → A11 → A12 → Prop) → A1 → A2 → A3 → A4 → A5 → A6 → A7 → A8 → A9 → A10 → A11 → A12 → Prop) : Nat → A1 → A2 → A3 → A4 → A5 → A6 → A7 → A8 → A9 → A10 → A11 → A12 → Prop
  | 0, _, _, _, _, _, _, _, _, _, _, _, _ => False
  | k + 1, a1, a2, a3, a4, a5, a6, a7, a8, a9, a10, a11, a12 => F (mL12 F k) a1 a2 a3 a4 a5 a6 a7 a8 a9 a10 a11 a12
theorem mL12_of {A1 A2 A3 A4 A5 A6 A7 A8 A9 A10 A11 A12 : Type} {F : (A1 → A2 → A3 → A4 → A5 → A6 → A7 → A8 → A9 → A10 → A11 → A12 → Prop) → A1 → A2 → A3 → A4 → A5 → A6 → A7 → A8 → A9 → A10 → A11 → A12 → Prop} {G : A1 → A2 → A3 → A4 → A5 → A6 → A7 → A8 → A9 → A10 → A11 → A12 → Prop} (h : ∀ K : A1 → A2 → A3 → A4 → A5 → A6 → A7 → A8 → A9 → A10 → A11 → A12 → Prop, (∀ (a1 : A1) (a2 : A2) (a3 : A3) (a4 : A4) (a5 : A5) (a6 : A6) (a7 : A7) (a8 : A8) (a9 : A9) (a10 : A10) (a11 : A11) (a12 : A12), K a1 a2 a3 a4 a5 a6 a7 a8 a9 a10 a11 a12 → G a1 a2 a3 a4 a5 a6 a7 a8 a9 a10 a11 a12) → ∀ (a1 : A1) (a2 : A2) (a3 : A3) (a4 : A4) (a5 : A5) (a6 : A6) (a7 : A7) (a8 : A8) (a9 : A9) (a10 : A10) (a11 : A11) (a12 : A12), F K a1 a2 a3 a4 a5 a6 a7 a8 a9 a10 a11 a12 → G a1 a2 a3 a4 a5 a6 a7 a8 a9 a10 a11 a12) : ∀ (k : Nat) (a1 : A1) (a2 : A2) (a3 : A3) (a4 : A4) (a5 : A5) (a6 : A6) (a7 : A7) (a8 : A8) (a9 : A9) (a10 : A10) (a11 : A11) (a12 : A12), mL12 F k a1 a2 a3 a4 a5 a6 a7 a8 a9 a10 a11 a12 → G a1 a2 a3 a4 a5 a6 a7 a8 a9 a10 a11 a12
  | 0, _, _, _, _, _, _, _, _, _, _, _, _, hw => hw.elim
  | k + 1, a1, a2, a3, a4, a5, a6, a7, a8, a9, a10, a11, a12, hw => h (mL12 F k) (mL12_of h k) a1 a2 a3 a4 a5 a6 a7 a8 a9 a10 a11 a12 hw
theorem mL12_in {A1 A2 A3 A4 A5 A6 A7 A8 A9 A10 A11 A12 : Type} {F : (A1 → A2 → A3 → A4 → A5 → A6 → A7 → A8 → A9 → A10 → A11 → A12 → Prop) → A1 → A2 → A3 → A4 → A5 → A6 → A7 → A8 → A9 → A10 → A11 → A12 → Prop} (I : A1 → A2 → A3 → A4 → A5 → A6 → A7 → A8 → A9 → A10 → A11 → A12 → Prop) (μ : A1 → A2 → A3 → A4 → A5 → A6 → A7 → A8 → A9 → A10 → A11 → A12 → Nat) (h : ∀ (K : A1 → A2 → A3 → A4 → A5 → A6 → A7 → A8 → A9 → A10 → A11 → A12 → Prop) (a1 : A1) (a2 : A2) (a3 : A3) (a4 : A4) (a5 : A5) (a6 : A6) (a7 : A7) (a8 : A8) (a9 : A9) (a10 : A10) (a11 : A11) (a12 : A12), I a1 a2 a3 a4 a5 a6 a7 a8 a9 a10 a11 a12 → (∀ (b1 : A1) (b2 : A2) (b3 : A3) (b4 : A4) (b5 : A5) (b6 : A6) (b7 : A7) (b8 : A8) (b9 : A9) (b10 : A10) (b11 : A11) (b12 : A12), I b1 b2 b3 b4 b5 b6 b7 b8 b9 b10 b11 b12 → μ b1 b2 b3 b4 b5 b6 b7 b8 b9 b10 b11 b12 < μ a1 a2 a3 a4 a5 a6 a7 a8 a9 a10 a11 a12 → K b1 b2 b3 b4 b5 b6 b7 b8 b9 b10 b11 b12) → F K a1 a2 a3 a4 a5 a6 a7 a8 a9 a10 a11 a12) : ∀ (a1 : A1) (a2 : A2) (a3 : A3) (a4 : A4) (a5 : A5) (a6 : A6) (a7 : A7) (a8 : A8) (a9 : A9) (a10 : A10) (a11 : A11) (a12 : A12), I a1 a2 a3 a4 a5 a6 a7 a8 a9 a10 a11 a12 → ∃ k, mL12 F k a1 a2 a3 a4 a5 a6 a7 a8 a9 a10 a11 a12 := by
  have key : ∀ (k : Nat) (a1 : A1) (a2 : A2) (a3 : A3) (a4 : A4) (a5 : A5) (a6 : A6) (a7 : A7) (a8 : A8) (a9 : A9) (a10 : A10) (a11 : A11) (a12 : A12), I a1 a2 a3 a4 a5 a6 a7 a8 a9 a10 a11 a12 → μ a1 a2 a3 a4 a5 a6 a7 a8 a9 a10 a11 a12 < k → mL12 F k a1 a2 a3 a4 a5 a6 a7 a8 a9 a10 a11 a12 := by
    intro k
    induction k with
    | zero => intro a1 a2 a3 a4 a5 a6 a7 a8 a9 a10 a11 a12 _ hk; omega
    | succ k ih => intro a1 a2 a3 a4 a5 a6 a7 a8 a9 a10 a11 a12 hI hk; exact h _ a1 a2 a3 a4 a5 a6 a7 a8 a9 a10 a11 a12 hI (fun b1 b2 b3 b4 b5 b6 b7 b8 b9 b10 b11 b12 hI2 hk2 => ih b1 b2 b3 b4 b5 b6 b7 b8 b9 b10 b11 b12 hI2 (by omega))
  intro a1 a2 a3 a4 a5 a6 a7 a8 a9 a10 a11 a12 hI
  exact ⟨μ a1 a2 a3 a4 a5 a6 a7 a8 a9 a10 a11 a12 + 1, key _ a1 a2 a3 a4 a5 a6 a7 a8 a9 a10 a11 a12 hI (Nat.lt_succ_self _)⟩
theorem mne {x y : Int32} (h : ¬ x = y) : ¬ x.toInt = y.toInt := fun q => h (Int32.toInt_inj.mp q)
theorem mKi_of {l : Launch} {y : MethodName} {ws ws' : List Cond} {cc : ByteArray} {maxL lev : Nat} {E : (Nat → Prop) → State → Prop} {D : va_G} {cl : List vw_C} {tys : List (ClassId × FieldType)} {f : mS → va_W} {av : List Value} {u : mS} {post : Int32 → mS → Prop} {lv : List (Nat × Value)} {own : String} (hy : plainName y.cls = true) (hw : ws = Cond.code y cc maxL (some .int) :: ws') (ho : y.cls = own) (hlen : (lg_sl av).length ≤ maxL) (hlv : lv_args 0 av = lv)
    (body : ∀ (p : Program) (e : Env) (s : State) (m : MethodId) (args : Array Value) (below : List Frame) (meth : Method) (c : Code) (A : Nat → Prop), mC p s m args meth c cc maxL ws own (some .int) D cl tys A → E A s → mV p l e (mRm lev) s m args below meth c maxL D cl A 0 0 (mQi below args s D cl tys f A post) (f u) 0 lv []) : mKi l y ws lev E D cl tys f av u post := by
  intro sz
  subst ho
  refine Met.ofW (cc := cc) (maxL := maxL) (ret := (some .int)) hy hw ?_
  intro p e s m args below meth c s₁ B hml hv
  obtain ⟨rfl, hsz, hP, hK, hD0, hEs⟩ := hv
  subst hsz
  have hts := atoms_spec (ws := ws) B.pre
  have hown : s.vm.findClass y.cls = some m.cls := findClass_of_methodNamed B.named
  have hl := lv_entry av (n := maxL) hlen
  rw [lg_entry_eq]
  rw [hlv] at hl
  exact body p e s m av.toArray below meth c (va_A (f u) s.heap.size) ⟨B.exec, B.bytes, hml, hown, hts, B.returns, B.notSynchronized, hK, fun q h => Or.inr h⟩ hEs s.heap [] _ hP (hD0.self (sz := s.heap.size)) va_S.rf hl
theorem mKz_of {l : Launch} {y : MethodName} {ws ws' : List Cond} {cc : ByteArray} {maxL lev : Nat} {E : (Nat → Prop) → State → Prop} {D : va_G} {cl : List vw_C} {tys : List (ClassId × FieldType)} {f : mS → va_W} {av : List Value} {u : mS} {post : Int32 → mS → Prop} {lv : List (Nat × Value)} {own : String} (hy : plainName y.cls = true) (hw : ws = Cond.code y cc maxL (some .boolean) :: ws') (ho : y.cls = own) (hlen : (lg_sl av).length ≤ maxL) (hlv : lv_args 0 av = lv)
    (body : ∀ (p : Program) (e : Env) (s : State) (m : MethodId) (args : Array Value) (below : List Frame) (meth : Method) (c : Code) (A : Nat → Prop), mC p s m args meth c cc maxL ws own (some .boolean) D cl tys A → E A s → mV p l e (mRm lev) s m args below meth c maxL D cl A 0 0 (mQi below args s D cl tys f A (fun r w => (r = 0 ∨ r = 1) ∧ post r w)) (f u) 0 lv []) : mKi l y ws lev E D cl tys f av u (fun r w => (r = 0 ∨ r = 1) ∧ post r w) := by
  intro sz
  subst ho
  refine Met.ofW (cc := cc) (maxL := maxL) (ret := (some .boolean)) hy hw ?_
  intro p e s m args below meth c s₁ B hml hv
  obtain ⟨rfl, hsz, hP, hK, hD0, hEs⟩ := hv
  subst hsz
  have hts := atoms_spec (ws := ws) B.pre
  have hown : s.vm.findClass y.cls = some m.cls := findClass_of_methodNamed B.named
  have hl := lv_entry av (n := maxL) hlen
  rw [lg_entry_eq]
  rw [hlv] at hl
  exact body p e s m av.toArray below meth c (va_A (f u) s.heap.size) ⟨B.exec, B.bytes, hml, hown, hts, B.returns, B.notSynchronized, hK, fun q h => Or.inr h⟩ hEs s.heap [] _ hP (hD0.self (sz := s.heap.size)) va_S.rf hl
theorem mKv_of {l : Launch} {y : MethodName} {ws ws' : List Cond} {cc : ByteArray} {maxL lev : Nat} {E : (Nat → Prop) → State → Prop} {D : va_G} {cl : List vw_C} {tys : List (ClassId × FieldType)} {f : mS → va_W} {av : List Value} {u : mS} {post : mS → Prop} {lv : List (Nat × Value)} {own : String} (hy : plainName y.cls = true) (hw : ws = Cond.code y cc maxL none :: ws') (ho : y.cls = own) (hlen : (lg_sl av).length ≤ maxL) (hlv : lv_args 0 av = lv)
    (body : ∀ (p : Program) (e : Env) (s : State) (m : MethodId) (args : Array Value) (below : List Frame) (meth : Method) (c : Code) (A : Nat → Prop), mC p s m args meth c cc maxL ws own none D cl tys A → E A s → mV p l e (mRm lev) s m args below meth c maxL D cl A 0 0 (mQv below args s D cl tys f A post) (f u) 0 lv []) : mKv l y ws lev E D cl tys f av u post := by
  intro sz
  subst ho
  refine Met.ofW (cc := cc) (maxL := maxL) (ret := none) hy hw ?_
  intro p e s m args below meth c s₁ B hml hv
  obtain ⟨rfl, hsz, hP, hK, hD0, hEs⟩ := hv
  subst hsz
  have hts := atoms_spec (ws := ws) B.pre
  have hown : s.vm.findClass y.cls = some m.cls := findClass_of_methodNamed B.named
  have hl := lv_entry av (n := maxL) hlen
  rw [lg_entry_eq]
  rw [hlv] at hl
  exact body p e s m av.toArray below meth c (va_A (f u) s.heap.size) ⟨B.exec, B.bytes, hml, hown, hts, B.returns, B.notSynchronized, hK, fun q h => Or.inr h⟩ hEs s.heap [] _ hP (hD0.self (sz := s.heap.size)) va_S.rf hl
end
section
def wA (cA : ClassId) (a : Nat → Nat) (u : mS) : va_W := [(a 0, .inr (8, [.ref (a 1), .int (u.1 0), .ref (a 2), .ref (a 7), .ref (a 8), .ref (a 9), .ref (a 14), .ref (a 16)])),
  (a 1, .inl (cA, 120, .inl (u.2 0))),
  (a 2, .inr (5, [.ref (a 3), .ref (a 4), .ref (a 5), .ref (a 6), .int (u.1 1), .int (u.1 2)])),
  (a 3, .inl (cA, 3000, .inl (u.2 1))),
  (a 4, .inl (cA, 3000, .inl (u.2 2))),
  (a 5, .inl (cA, 3000, .inl (u.2 3))),
  (a 6, .inl (cA, 3000, .inl (u.2 4))),
  (a 7, .inr (3, [.ref (a 2), .int (u.1 3)])),
  (a 8, .inr (6, [.ref (a 2)])),
  (a 9, .inr (7, [.ref (a 10), .ref (a 11), .ref (a 12), .ref (a 13), .int (u.1 4), .int (u.1 5)])),
  (a 10, .inl (cA, 40, .inl (u.2 5))),
  (a 11, .inl (cA, 40, .inl (u.2 6))),
  (a 12, .inl (cA, 40, .inl (u.2 7))),
  (a 13, .inl (cA, 40, .inl (u.2 8))),
  (a 14, .inr (2, [.ref (a 15), .int (u.1 6), .int (u.1 7)])),
  (a 15, .inl (cA, 200, .inl (u.2 9))),
  (a 16, .inr (0, [.ref (a 2), .ref (a 8), .ref (a 9), .ref (a 14), .ref (a 17), .int (u.1 8), .int (u.1 9), .int (u.1 10), .int (u.1 11)])),
  (a 17, .inr (1, [.ref (a 2), .ref (a 14), .ref (a 18), .int (u.1 12), .int (u.1 13), .int (u.1 14)])),
  (a 18, .inr (4, [.ref (a 19), .ref (a 20), .ref (a 21), .int (u.1 15)])),
  (a 19, .inl (cA, 2, .inl (u.2 10))),
  (a 20, .inl (cA, 2, .inl (u.2 11))),
  (a 21, .inl (cA, 2, .inl (u.2 12)))]
def wM (cA : ClassId) (b : Nat → Nat) (u : mS) : va_W := [(b 0, .inr (9, [.ref (b 1), .int (u.1 0), .ref (b 2), .ref (b 3), .int (u.1 1), .ref (b 4), .ref (b 5), .int (u.1 2), .int (u.1 3), .ref (b 6), .ref (b 7), .int (u.1 4), .int (u.1 5), .ref (b 8), .ref (b 9), .ref (b 10), .ref (b 11), .ref (b 12), .ref (b 13), .ref (b 14), .int (u.1 6), .int (u.1 7), .ref (b 15), .ref (b 16), .ref (b 17), .ref (b 18), .ref (b 19), .int (u.1 8), .ref (b 20), .int (u.1 9), .int (u.1 10), .int (u.1 11), .int (u.1 12), .int (u.1 13), .int (u.1 14), .int (u.1 15)])),
  (b 1, .inl (cA, 120, .inl (u.2 0))),
  (b 2, .inl (cA, 2600, .inl (u.2 1))),
  (b 3, .inl (cA, 2600, .inl (u.2 2))),
  (b 4, .inl (cA, 3200, .inl (u.2 3))),
  (b 5, .inl (cA, 3200, .inl (u.2 4))),
  (b 6, .inl (cA, 4, .inl (u.2 5))),
  (b 7, .inl (cA, 4, .inl (u.2 6))),
  (b 8, .inl (cA, 40, .inl (u.2 7))),
  (b 9, .inl (cA, 40, .inl (u.2 8))),
  (b 10, .inl (cA, 40, .inl (u.2 9))),
  (b 11, .inl (cA, 40, .inl (u.2 10))),
  (b 12, .inl (cA, 40, .inl (u.2 11))),
  (b 13, .inl (cA, 310, .inl (u.2 12))),
  (b 14, .inl (cA, 310, .inl (u.2 13))),
  (b 15, .inl (cA, 400, .inl (u.2 14))),
  (b 16, .inl (cA, 400, .inl (u.2 15))),
  (b 17, .inl (cA, 3, .inl (u.2 16))),
  (b 18, .inl (cA, 3, .inl (u.2 17))),
  (b 19, .inl (cA, 3, .inl (u.2 18))),
  (b 20, .inl (cA, 200, .inl (u.2 19)))]
def nestW : List Cond := [Cond.fieldLinkNest "MarkedNames$Reader" 39 "MarkedNames$Row" "top" "I" "MarkedNames", Cond.fieldLinkNest "MarkedNames$Table" 24 "MarkedNames" "FIRST_NAMES" "[I" "MarkedNames", Cond.fieldLinkNest "MarkedNames" 90 "MarkedNames$Table" "ownNames" "I" "MarkedNames", Cond.fieldLinkNest "MarkedNames" 106 "MarkedNames$Outcome" "length" "I" "MarkedNames", Cond.fieldLinkNest "MarkedNames$Expander" 54 "MarkedNames$Outcome" "error" "I" "MarkedNames", Cond.fieldLinkNest "MarkedNames" 103 "MarkedNames$Outcome" "error" "I" "MarkedNames", Cond.fieldLinkNest "MarkedNames$Filler" 86 "MarkedNames$Outcome" "error" "I" "MarkedNames", Cond.fieldLinkNest "MarkedNames$Filler" 101 "MarkedNames$Rounds" "depth" "I" "MarkedNames", Cond.fieldLinkNest "MarkedNames" 112 "MarkedNames$Expander" "scopes" "I" "MarkedNames", Cond.fieldLinkNest "MarkedNames" 115 "MarkedNames$Expander" "bindings" "I" "MarkedNames", Cond.fieldLinkNest "MarkedNames" 118 "MarkedNames$Expander" "variables" "I" "MarkedNames", Cond.fieldLinkNest "MarkedNames" 121 "MarkedNames$Expander" "fuel" "I" "MarkedNames", Cond.methodLinkNest "MarkedNames" 15 ⟨"MarkedNames$Row", "<init>", "()V"⟩ "MarkedNames", Cond.methodLinkNest "MarkedNames" 45 ⟨"MarkedNames$Outcome", "<init>", "()V"⟩ "MarkedNames", Cond.methodLinkNest "MarkedNames$Filler" 11 ⟨"MarkedNames$Rounds", "<init>", "()V"⟩ "MarkedNames", Cond.methodLinkNest "MarkedNames$RuleCheck" 24 ⟨"MarkedNames", "isName", "(I)Z"⟩ "MarkedNames", Cond.methodLinkNest "MarkedNames$RuleCheck" 48 ⟨"MarkedNames", "isTree", "(I)Z"⟩ "MarkedNames", Cond.methodLinkNest "MarkedNames$Expander" 69 ⟨"MarkedNames", "isName", "(I)Z"⟩ "MarkedNames", Cond.methodLinkNest "MarkedNames$Row" 48 ⟨"MarkedNames", "isName", "(I)Z"⟩ "MarkedNames", Cond.methodLinkNest "MarkedNames$Outcome" 29 ⟨"MarkedNames", "isName", "(I)Z"⟩ "MarkedNames", Cond.methodLinkNest "MarkedNames$Outcome" 36 ⟨"MarkedNames", "isNumber", "(I)Z"⟩ "MarkedNames", Cond.methodLinkNest "MarkedNames$Filler" 66 ⟨"MarkedNames", "isName", "(I)Z"⟩ "MarkedNames", Cond.methodLinkNest "MarkedNames$Filler" 116 ⟨"MarkedNames", "isTree", "(I)Z"⟩ "MarkedNames", Cond.methodLinkNest "MarkedNames$Expander" 77 ⟨"MarkedNames", "isNumber", "(I)Z"⟩ "MarkedNames"]
theorem nw_0 : Cond.fieldLinkNest "MarkedNames$Reader" 39 "MarkedNames$Row" "top" "I" "MarkedNames" ∈ nestW := List.mem_of_getElem? (i := 0) rfl
theorem nw_1 : Cond.fieldLinkNest "MarkedNames$Table" 24 "MarkedNames" "FIRST_NAMES" "[I" "MarkedNames" ∈ nestW := List.mem_of_getElem? (i := 1) rfl
theorem nw_2 : Cond.fieldLinkNest "MarkedNames" 90 "MarkedNames$Table" "ownNames" "I" "MarkedNames" ∈ nestW := List.mem_of_getElem? (i := 2) rfl
theorem nw_3 : Cond.fieldLinkNest "MarkedNames" 106 "MarkedNames$Outcome" "length" "I" "MarkedNames" ∈ nestW := List.mem_of_getElem? (i := 3) rfl
theorem nw_4 : Cond.fieldLinkNest "MarkedNames$Expander" 54 "MarkedNames$Outcome" "error" "I" "MarkedNames" ∈ nestW := List.mem_of_getElem? (i := 4) rfl
theorem nw_5 : Cond.fieldLinkNest "MarkedNames" 103 "MarkedNames$Outcome" "error" "I" "MarkedNames" ∈ nestW := List.mem_of_getElem? (i := 5) rfl
theorem nw_6 : Cond.fieldLinkNest "MarkedNames$Filler" 86 "MarkedNames$Outcome" "error" "I" "MarkedNames" ∈ nestW := List.mem_of_getElem? (i := 6) rfl
theorem nw_7 : Cond.fieldLinkNest "MarkedNames$Filler" 101 "MarkedNames$Rounds" "depth" "I" "MarkedNames" ∈ nestW := List.mem_of_getElem? (i := 7) rfl
theorem nw_8 : Cond.fieldLinkNest "MarkedNames" 112 "MarkedNames$Expander" "scopes" "I" "MarkedNames" ∈ nestW := List.mem_of_getElem? (i := 8) rfl
theorem nw_9 : Cond.fieldLinkNest "MarkedNames" 115 "MarkedNames$Expander" "bindings" "I" "MarkedNames" ∈ nestW := List.mem_of_getElem? (i := 9) rfl
theorem nw_10 : Cond.fieldLinkNest "MarkedNames" 118 "MarkedNames$Expander" "variables" "I" "MarkedNames" ∈ nestW := List.mem_of_getElem? (i := 10) rfl
theorem nw_11 : Cond.fieldLinkNest "MarkedNames" 121 "MarkedNames$Expander" "fuel" "I" "MarkedNames" ∈ nestW := List.mem_of_getElem? (i := 11) rfl
theorem nw_12 : Cond.methodLinkNest "MarkedNames" 15 ⟨"MarkedNames$Row", "<init>", "()V"⟩ "MarkedNames" ∈ nestW := List.mem_of_getElem? (i := 12) rfl
theorem nw_13 : Cond.methodLinkNest "MarkedNames" 45 ⟨"MarkedNames$Outcome", "<init>", "()V"⟩ "MarkedNames" ∈ nestW := List.mem_of_getElem? (i := 13) rfl
theorem nw_14 : Cond.methodLinkNest "MarkedNames$Filler" 11 ⟨"MarkedNames$Rounds", "<init>", "()V"⟩ "MarkedNames" ∈ nestW := List.mem_of_getElem? (i := 14) rfl
theorem nw_15 : Cond.methodLinkNest "MarkedNames$RuleCheck" 24 ⟨"MarkedNames", "isName", "(I)Z"⟩ "MarkedNames" ∈ nestW := List.mem_of_getElem? (i := 15) rfl
theorem nw_16 : Cond.methodLinkNest "MarkedNames$RuleCheck" 48 ⟨"MarkedNames", "isTree", "(I)Z"⟩ "MarkedNames" ∈ nestW := List.mem_of_getElem? (i := 16) rfl
theorem nw_17 : Cond.methodLinkNest "MarkedNames$Expander" 69 ⟨"MarkedNames", "isName", "(I)Z"⟩ "MarkedNames" ∈ nestW := List.mem_of_getElem? (i := 17) rfl
theorem nw_18 : Cond.methodLinkNest "MarkedNames$Row" 48 ⟨"MarkedNames", "isName", "(I)Z"⟩ "MarkedNames" ∈ nestW := List.mem_of_getElem? (i := 18) rfl
theorem nw_19 : Cond.methodLinkNest "MarkedNames$Outcome" 29 ⟨"MarkedNames", "isName", "(I)Z"⟩ "MarkedNames" ∈ nestW := List.mem_of_getElem? (i := 19) rfl
theorem nw_20 : Cond.methodLinkNest "MarkedNames$Outcome" 36 ⟨"MarkedNames", "isNumber", "(I)Z"⟩ "MarkedNames" ∈ nestW := List.mem_of_getElem? (i := 20) rfl
theorem nw_21 : Cond.methodLinkNest "MarkedNames$Filler" 66 ⟨"MarkedNames", "isName", "(I)Z"⟩ "MarkedNames" ∈ nestW := List.mem_of_getElem? (i := 21) rfl
theorem nw_22 : Cond.methodLinkNest "MarkedNames$Filler" 116 ⟨"MarkedNames", "isTree", "(I)Z"⟩ "MarkedNames" ∈ nestW := List.mem_of_getElem? (i := 22) rfl
theorem nw_23 : Cond.methodLinkNest "MarkedNames$Expander" 77 ⟨"MarkedNames", "isNumber", "(I)Z"⟩ "MarkedNames" ∈ nestW := List.mem_of_getElem? (i := 23) rfl
def tabF : Nat → Int32 := fun j => match j with
  | 0 => 91758
  | 1 => 92518
  | 2 => 369
  | 3 => 93299
  | 4 => 299
  | 5 => 298
  | 6 => 317
  | _ => 316
def eA (a : Nat → Nat) : (Nat → Prop) → State → Prop := fun A U => (∀ w ∈ nestW, va_Nw w U) ∧ va_Z "MarkedNames" "FIRST_NAMES" "[I" (.ref (a 22)) A U U.heap ∧ va_T .int (a 22) 8 (fun j => .int (tabF j)) A U U.heap
def eM : (Nat → Prop) → State → Prop := fun _ _ => True
theorem eM_ok : mEok eM := ⟨fun _ _ _ _ _ _ _ _ => trivial, fun _ _ _ _ _ _ => trivial⟩
theorem nest_warm {s U : State} (hW : s.WarmedH U.vm) : ∀ w ∈ nestW, va_Nw w s → va_Nw w U := by
  intro w hw h
  simp only [nestW, List.mem_cons, List.not_mem_nil, or_false] at hw
  rcases hw with rfl | rfl | rfl | rfl | rfl | rfl | rfl | rfl | rfl | rfl | rfl | rfl | rfl | rfl | rfl | rfl | rfl | rfl | rfl | rfl | rfl | rfl | rfl | rfl <;> first | exact va_Nw.warmF hW h | exact va_Nw.warmM hW h
theorem nest_tab : ∀ w ∈ nestW, w.onTables = true := by decide +kernel
theorem eA_ok (a : Nat → Nat) : mEok (eA a) := by
  refine ⟨fun A B s U h hAB hW hk => ?_, fun A U g mk x h => ?_⟩
  · obtain ⟨h1, h2, h3⟩ := h
    exact ⟨fun w hw => nest_warm hW w hw (h1 w hw), va_Z.moved hW.alike ((h2.kept hk).narrow hAB), va_T.moved hW.alike ((h3.kept hk).narrow hAB)⟩
  · obtain ⟨h1, h2, h3⟩ := h
    exact ⟨fun w hw => va_Nw.same (u := U) (U := U.calling g mk x) (nest_tab w hw) rfl (h1 w hw), va_Z.moved (u := U) (U := U.calling g mk x) (Vm.Alike.refl U.vm) h2, va_T.moved (u := U) (U := U.calling g mk x) (Vm.Alike.refl U.vm) h3⟩
def tabN : Nat → Int32 := (upd (upd (upd (upd (upd (upd (upd (upd (fun _ => 0) 0 (91758 : Int32)) 1 (92518 : Int32)) 2 (369 : Int32)) 3 (93299 : Int32)) 4 (299 : Int32)) 5 (298 : Int32)) 6 (317 : Int32)) 7 (316 : Int32))
def tabK : Nat → Int32 := (upd (upd (upd (upd (upd (upd (upd (upd (fun _ => 0) 0 (0 : Int32)) 1 (1 : Int32)) 2 (2 : Int32)) 3 (3 : Int32)) 4 (4 : Int32)) 5 (4 : Int32)) 6 (4 : Int32)) 7 (4 : Int32))
def uA0 : mS := (fun k => match k with | 1 => 480 | 2 => -1 | 4 => 8 | _ => 0, fun k => match k with | 5 => tabN | 7 => tabK | _ => fun _ => 0)
def uM0 : mS := (fun _ => 0, fun _ _ => 0)
end
section
def wp_X8_appendTyped (x1 : Int32) (u : mS) (post : mS → Prop) : Prop := ∀ y1 : Int32, y1 = (u.1 0) → ((y1 < 0) → post u) ∧ ((¬ y1 < 0) → ∀ y3 : Int32, y3 = (u.1 0) → (((120 : Int32) ≤ y3) → post u) ∧ ((¬ (120 : Int32) ≤ y3) → ∀ y5 : Int32, y5 = (u.1 0) → vp_in y5 120 ∧ ∀ u6 : mS, u6 = mPut u 0 y5.toNatClampNeg x1 → ∀ y7 : Int32, y7 = (u6.1 0) → ∀ y8 : Int32, y8 = (y7 + (1 : Int32)) → ∀ u9 : mS, u9 = mSet u6 0 y8 → post u9))
def wj_X8_type_68 (K68 : Int32 → Int32 → mS → Prop) (post : Int32 → mS → Prop) (x1 x3 : Int32) (u : mS) : Prop := ((x3 < 0) → post (1 : Int32) u) ∧ ((¬ x3 < 0) → ∀ y15 : Int32, y15 = ((8 : Int32) * x3) → ∀ y16 : Int32, y16 = (x1 >>> (y15 &&& 31)) → ∀ y17 : Int32, y17 = (y16 &&& (255 : Int32)) → wp_X8_appendTyped y17 u (fun u19 => ∀ y20 : Int32, y20 = x3 + (-1 : Int32) → K68 x1 y20 u19))
def wj_X8_type_25 (K25 : Int32 → Int32 → Int32 → mS → Prop) (post : Int32 → mS → Prop) (x1 x2 x3 : Int32) (u : mS) : Prop := ((x2 ≤ x3) → ∀ y7 : Int32, y7 = (x2 - (1 : Int32)) → ∃ n, mL3 (fun K => wj_X8_type_68 K post) n x1 y7 u) ∧ ((¬ x2 ≤ x3) → ∀ y8 : Int32, y8 = ((8 : Int32) * x3) → ∀ y9 : Int32, y9 = (x1 >>> (y8 &&& 31)) → ∀ y10 : Int32, y10 = (y9 &&& (255 : Int32)) → ((y10 < (32 : Int32)) → post (0 : Int32) u) ∧ ((¬ y10 < (32 : Int32)) → ((y10 ≤ (126 : Int32)) → ∀ y13 : Int32, y13 = x3 + (1 : Int32) → K25 x1 x2 y13 u) ∧ ((¬ y10 ≤ (126 : Int32)) → post (0 : Int32) u)))
def wp_X8_type (x1 x2 : Int32) (u : mS) (post : Int32 → mS → Prop) : Prop := ((x2 < (1 : Int32)) → post (0 : Int32) u) ∧ ((¬ x2 < (1 : Int32)) → (((4 : Int32) < x2) → post (0 : Int32) u) ∧ ((¬ (4 : Int32) < x2) → ∀ y3 : Int32, y3 = (u.1 0) → ∀ y4 : Int32, y4 = (y3 + x2) → ((y4 ≤ (120 : Int32)) → ∃ n, mL4 (fun K => wj_X8_type_25 K post) n x1 x2 (0 : Int32) u) ∧ ((¬ y4 ≤ (120 : Int32)) → post (0 : Int32) u)))
def wp_X5_restart (u : mS) (post : mS → Prop) : Prop := ∀ u1 : mS, u1 = mSet u 1 (480 : Int32) → ∀ u2 : mS, u2 = mSet u1 2 (-1 : Int32) → post u2
def wp_X3_isWhole (u : mS) (post : Int32 → mS → Prop) : Prop := ∀ y1 : Int32, y1 = (u.1 3) → ((¬ y1 = 0) → post (0 : Int32) u) ∧ ((y1 = 0) → ∀ y3 : Int32, y3 = (u.1 1) → ((y3 ≤ (480 : Int32)) → post (0 : Int32) u) ∧ ((¬ y3 ≤ (480 : Int32)) → post (1 : Int32) u))
def wj_X3_read_1_59 (K25 : Int32 → Int32 → Int32 → mS → Prop) (post : Int32 → mS → Prop) (x3 x4 x5 z0 : Int32) (u : mS) : Prop := ((¬ z0 = 0) → ∀ y10 : Int32, y10 = (x4 + z0) → ∀ y11 : Int32, y11 = x5 + (1 : Int32) → K25 x3 y10 y11 u) ∧ ((z0 = 0) → post x4 u)
def wj_X3_read_1_82 (post : Int32 → mS → Prop) (x3 : Int32) (u : mS) : Prop := wp_X3_isWhole  u (fun r12 u13 => ((r12 = 0) → post x3 u13) ∧ ((¬ r12 = 0) → post (-1 : Int32) u13))
def wj_X3_read_1_25 (K25 : Int32 → Int32 → Int32 → mS → Prop) (post : Int32 → mS → Prop) (x3 x4 x5 : Int32) (u : mS) : Prop := (((1000000 : Int32) ≤ x5) → wj_X3_read_1_82 post x3 u) ∧ ((¬ (1000000 : Int32) ≤ x5) → ((x3 ≤ x4) → wj_X3_read_1_82 post x3 u) ∧ ((¬ x3 ≤ x4) → vp_in x4 120 ∧ ∀ y7 : Int32, y7 = u.2 0 x4.toNatClampNeg → ((¬ y7 = (32 : Int32)) → False) ∧ ((y7 = (32 : Int32)) → wj_X3_read_1_59 K25 post x3 x4 x5 (1 : Int32) u)))
def wp_X3_read_1 (x2 : Int32) (u : mS) (post : Int32 → mS → Prop) : Prop := wp_X5_restart  u (fun u2 => ∀ u3 : mS, u3 = mSet u2 3 (0 : Int32) → ∀ y4 : Int32, y4 = (if (120 : Int32) < x2 then (120 : Int32) else x2) → ∃ n, mL4 (fun K => wj_X3_read_1_25 K post) n y4 (0 : Int32) (0 : Int32) u3)
def wp_X8_takeTyped (u : mS) (post : Int32 → mS → Prop) : Prop := ∀ y1 : Int32, y1 = (u.1 0) → wp_X3_read_1 y1 u (fun r2 u3 => ∀ u4 : mS, u4 = mSet u3 0 (0 : Int32) → post r2 u4)
def wp_X8_rules (u : mS) (post : Int32 → mS → Prop) : Prop := wp_X8_takeTyped  u (fun r1 u2 => ((r1 < 0) → False) ∧ ((¬ r1 < 0) → ∀ y4 : Int32, y4 = ((-1 : Int32) - r1) → post y4 u2))
def wp_X2_clear (u : mS) (post : mS → Prop) : Prop := ∀ u1 : mS, u1 = mSet u 6 (0 : Int32) → ∀ u2 : mS, u2 = mSet u1 7 (0 : Int32) → post u2
def wp_X7_forgetExpansion (u : mS) (post : mS → Prop) : Prop := ∀ y1 : Int32, y1 = (u.1 5) → ∀ y2 : Int32, y2 = ((8 : Int32) + y1) → ∀ u3 : mS, u3 = mSet u 4 y2 → post u3
def wp_X0_start (x1 : Int32) (u : mS) (post : mS → Prop) : Prop := ∀ u1 : mS, u1 = mSet u 8 (0 : Int32) → ∀ u2 : mS, u2 = mSet u1 9 (0 : Int32) → ∀ u3 : mS, u3 = mSet u2 10 (0 : Int32) → ∀ u4 : mS, u4 = mSet u3 11 x1 → wp_X7_forgetExpansion  u4 (fun u6 => post u6)
def wj_X8_expand_10 (post : Int32 → mS → Prop) (u : mS) : Prop := post (-7000 : Int32) u
def wj_X8_expand_39 (post : Int32 → mS → Prop) (x2 z0 : Int32) (u : mS) : Prop := wp_X0_start z0 u (fun u9 => ((x2 < 0) → False) ∧ ((¬ x2 < 0) → ∀ y11 : Int32, y11 = ((-1 : Int32) - x2) → post y11 u9))
def wp_X8_expand (x1 : Int32) (u : mS) (post : Int32 → mS → Prop) : Prop := ((x1 < 0) → wj_X8_expand_10 post u) ∧ ((¬ x1 < 0) → ((x1 ≤ (8 : Int32)) → wp_X8_takeTyped  u (fun r3 u4 => wp_X2_clear  u4 (fun u6 => ((r3 < 0) → wj_X8_expand_39 post r3 x1 u6) ∧ ((¬ r3 < 0) → wj_X8_expand_39 post r3 (0 : Int32) u6)))) ∧ ((¬ x1 ≤ (8 : Int32)) → wj_X8_expand_10 post u))
def wp_X2_charAt (x1 : Int32) (u : mS) (post : Int32 → mS → Prop) : Prop := ((x1 < 0) → post (-1 : Int32) u) ∧ ((¬ x1 < 0) → ∀ y2 : Int32, y2 = (u.1 6) → ((y2 ≤ x1) → post (-1 : Int32) u) ∧ ((¬ y2 ≤ x1) → (((200 : Int32) ≤ x1) → post (-1 : Int32) u) ∧ ((¬ (200 : Int32) ≤ x1) → vp_in x1 200 ∧ ∀ y5 : Int32, y5 = u.2 9 x1.toNatClampNeg → post y5 u)))
def wp_X8_at (x1 : Int32) (u : mS) (post : Int32 → mS → Prop) : Prop := wp_X2_charAt x1 u (fun r1 u2 => post r1 u2)
def wp_X8_count (x1 : Int32) (u : mS) (post : Int32 → mS → Prop) : Prop := (x1 = (0 : Int32) → ∀ y1 : Int32, y1 = (u.1 8) → post y1 u) ∧ (x1 = (1 : Int32) → ∀ y2 : Int32, y2 = (u.1 9) → post y2 u) ∧ (x1 = (2 : Int32) → ∀ y3 : Int32, y3 = (u.1 10) → post y3 u) ∧ (x1 = (3 : Int32) → ∀ y4 : Int32, y4 = (u.1 11) → post y4 u) ∧ (¬ x1 = (0 : Int32) → ¬ x1 = (1 : Int32) → ¬ x1 = (2 : Int32) → ¬ x1 = (3 : Int32) → post (-1 : Int32) u)
def wj_X9_type_68 (K68 : Int32 → Int32 → mS → Prop) (post : Int32 → mS → Prop) (x1 x3 : Int32) (u : mS) : Prop := ((x3 < 0) → post (1 : Int32) u) ∧ ((¬ x3 < 0) → ∀ y15 : Int32, y15 = (u.1 0) → ∀ y16 : Int32, y16 = ((8 : Int32) * x3) → ∀ y17 : Int32, y17 = (x1 >>> (y16 &&& 31)) → ∀ y18 : Int32, y18 = (y17 &&& (255 : Int32)) → vp_in y15 120 ∧ ∀ u19 : mS, u19 = mPut u 0 y15.toNatClampNeg y18 → ∀ y20 : Int32, y20 = (u19.1 0) → ∀ y21 : Int32, y21 = (y20 + (1 : Int32)) → ∀ u22 : mS, u22 = mSet u19 0 y21 → ∀ y23 : Int32, y23 = x3 + (-1 : Int32) → K68 x1 y23 u22)
def wj_X9_type_25 (K25 : Int32 → Int32 → Int32 → mS → Prop) (post : Int32 → mS → Prop) (x1 x2 x3 : Int32) (u : mS) : Prop := ((x2 ≤ x3) → ∀ y7 : Int32, y7 = (x2 - (1 : Int32)) → ∃ n, mL3 (fun K => wj_X9_type_68 K post) n x1 y7 u) ∧ ((¬ x2 ≤ x3) → ∀ y8 : Int32, y8 = ((8 : Int32) * x3) → ∀ y9 : Int32, y9 = (x1 >>> (y8 &&& 31)) → ∀ y10 : Int32, y10 = (y9 &&& (255 : Int32)) → ((y10 < (32 : Int32)) → post (0 : Int32) u) ∧ ((¬ y10 < (32 : Int32)) → ((y10 ≤ (126 : Int32)) → ∀ y13 : Int32, y13 = x3 + (1 : Int32) → K25 x1 x2 y13 u) ∧ ((¬ y10 ≤ (126 : Int32)) → post (0 : Int32) u)))
def wp_X9_type (x1 x2 : Int32) (u : mS) (post : Int32 → mS → Prop) : Prop := ((x2 < (1 : Int32)) → post (0 : Int32) u) ∧ ((¬ x2 < (1 : Int32)) → (((4 : Int32) < x2) → post (0 : Int32) u) ∧ ((¬ (4 : Int32) < x2) → ∀ y3 : Int32, y3 = (u.1 0) → ∀ y4 : Int32, y4 = (y3 + x2) → ((y4 ≤ (120 : Int32)) → ∃ n, mL4 (fun K => wj_X9_type_25 K post) n x1 x2 (0 : Int32) u) ∧ ((¬ y4 ≤ (120 : Int32)) → post (0 : Int32) u)))
def wj_X9_read_145 (post : Int32 → mS → Prop) (u : mS) : Prop := ∀ y17 : Int32, y17 = (u.1 0) → post y17 u
def wj_X9_read_164 (K164 : Int32 → mS → Prop) (post : Int32 → mS → Prop) (x5 : Int32) (u : mS) : Prop := ((x5 < 0) → post (-1 : Int32) u) ∧ ((¬ x5 < 0) → ∀ y9 : Int32, y9 = (u.1 1) → ∀ y10 : Int32, y10 = (y9 + x5) → vp_in x5 2600 ∧ ∀ y11 : Int32, y11 = u.2 1 x5.toNatClampNeg → vp_in y10 2600 ∧ ∀ u12 : mS, u12 = mPut u 1 y10.toNatClampNeg y11 → ∀ y13 : Int32, y13 = (u12.1 1) → ∀ y14 : Int32, y14 = (y13 + x5) → vp_in y14 2600 ∧ ∀ u15 : mS, u15 = mPut u12 2 y14.toNatClampNeg (0 : Int32) → ∀ y16 : Int32, y16 = x5 + (-1 : Int32) → K164 y16 u15)
def wj_X9_read_9 (K9 : Int32 → Int32 → Int32 → Int32 → mS → Prop) (post : Int32 → mS → Prop) (x1 x2 x3 x4 : Int32) (u : mS) : Prop := ∀ y1 : Int32, y1 = (u.1 0) → ((y1 ≤ x4) → ((0 < x2) → wj_X9_read_145 post u) ∧ ((¬ 0 < x2) → ((¬ x3 = 0) → ∀ y5 : Int32, y5 = ((2600 : Int32) - x1) → ∀ u6 : mS, u6 = mSet u 1 y5 → ∀ y7 : Int32, y7 = (x1 - (1 : Int32)) → ∃ n, mL2 (fun K => wj_X9_read_164 K post) n y7 u6) ∧ ((x3 = 0) → wj_X9_read_145 post u))) ∧ ((¬ y1 ≤ x4) → False)
def wp_X9_read (u : mS) (post : Int32 → mS → Prop) : Prop := ∃ n, mL5 (fun K => wj_X9_read_9 K post) n (0 : Int32) (0 : Int32) (0 : Int32) (0 : Int32) u
def wp_X9_rules (u : mS) (post : Int32 → mS → Prop) : Prop := wp_X9_read  u (fun r1 u2 => ∀ u3 : mS, u3 = mSet u2 0 (0 : Int32) → ((r1 < 0) → ∀ y5 : Int32, y5 = (u3.1 1) → False) ∧ ((¬ r1 < 0) → ∀ y6 : Int32, y6 = ((-1 : Int32) - r1) → post y6 u3))
def wp_X9_bind (x1 x2 x3 x4 x5 : Int32) (u : mS) (post : mS → Prop) : Prop := ∀ y1 : Int32, y1 = (u.1 4) → ((¬ y1 = (40 : Int32)) → ∀ y3 : Int32, y3 = (u.1 4) → vp_in y3 40 ∧ ∀ u4 : mS, u4 = mPut u 7 y3.toNatClampNeg x1 → ∀ y5 : Int32, y5 = (u4.1 4) → vp_in y5 40 ∧ ∀ u6 : mS, u6 = mPut u4 8 y5.toNatClampNeg x2 → ∀ y7 : Int32, y7 = (u6.1 4) → vp_in y7 40 ∧ ∀ u8 : mS, u8 = mPut u6 9 y7.toNatClampNeg x3 → ∀ y9 : Int32, y9 = (u8.1 4) → vp_in y9 40 ∧ ∀ u10 : mS, u10 = mPut u8 10 y9.toNatClampNeg x4 → ∀ y11 : Int32, y11 = (u10.1 4) → vp_in y11 40 ∧ ∀ u12 : mS, u12 = mPut u10 11 y11.toNatClampNeg x5 → ∀ y13 : Int32, y13 = (u12.1 4) → ∀ y14 : Int32, y14 = (y13 + (1 : Int32)) → ∀ u15 : mS, u15 = mSet u12 4 y14 → post u15) ∧ ((y1 = (40 : Int32)) → False)
def wj_X9_beginning_90 (K90 : Int32 → mS → Prop) (post : mS → Prop) (x1 : Int32) (u : mS) : Prop := ∀ y18 : Int32, y18 = (u.1 3) → ((y18 ≤ x1) → ∀ y20 : Int32, y20 = (u.1 4) → ∀ u21 : mS, u21 = mSet u 5 y20 → post u21) ∧ ((¬ y18 ≤ x1) → vp_in x1 4 ∧ ∀ y22 : Int32, y22 = u.2 5 x1.toNatClampNeg → ∀ y23 : Int32, y23 = ((120 : Int32) * x1) → vp_in x1 4 ∧ ∀ y24 : Int32, y24 = u.2 6 x1.toNatClampNeg → wp_X9_bind y22 (0 : Int32) (3 : Int32) y23 y24 u (fun u26 => ∀ y27 : Int32, y27 = x1 + (1 : Int32) → K90 y27 u26))
def wp_X9_beginning (u : mS) (post : mS → Prop) : Prop := ∀ u1 : mS, u1 = mSet u 4 (0 : Int32) → wp_X9_bind (206 : Int32) (0 : Int32) (0 : Int32) (0 : Int32) (0 : Int32) u1 (fun u3 => wp_X9_bind (294 : Int32) (0 : Int32) (0 : Int32) (1 : Int32) (0 : Int32) u3 (fun u5 => wp_X9_bind (17 : Int32) (0 : Int32) (0 : Int32) (2 : Int32) (0 : Int32) u5 (fun u7 => wp_X9_bind (403 : Int32) (0 : Int32) (0 : Int32) (3 : Int32) (0 : Int32) u7 (fun u9 => wp_X9_bind (40043 : Int32) (0 : Int32) (1 : Int32) (0 : Int32) (0 : Int32) u9 (fun u11 => wp_X9_bind (40042 : Int32) (0 : Int32) (1 : Int32) (0 : Int32) (0 : Int32) u11 (fun u13 => wp_X9_bind (40061 : Int32) (0 : Int32) (1 : Int32) (0 : Int32) (0 : Int32) u13 (fun u15 => wp_X9_bind (40060 : Int32) (0 : Int32) (1 : Int32) (0 : Int32) (0 : Int32) u15 (fun u17 => ∃ n, mL2 (fun K => wj_X9_beginning_90 K post) n (0 : Int32) u17))))))))
def wj_X9_expand_10 (post : Int32 → mS → Prop) (u : mS) : Prop := post (-7000 : Int32) u
def wj_X9_expand_122 (post : Int32 → mS → Prop) (u : mS) : Prop := ∀ y26 : Int32, y26 = (u.1 12) → ((y26 = 0) → ∀ y28 : Int32, y28 = (u.1 9) → post y28 u) ∧ ((¬ y26 = 0) → ∀ y29 : Int32, y29 = (u.1 12) → ∀ y30 : Int32, y30 = ((-1000 : Int32) * y29) → post y30 u)
def wj_X9_expand_110 (post : Int32 → mS → Prop) (u : mS) : Prop := ∀ y23 : Int32, y23 = (u.1 12) → ((y23 = 0) → wj_X9_expand_122 post u) ∧ ((¬ y23 = 0) → ∀ u25 : mS, u25 = mSet u 9 (0 : Int32) → wj_X9_expand_122 post u25)
def wj_X9_expand_86 (K86 : mS → Prop) (post : Int32 → mS → Prop) (u : mS) : Prop := ∀ y19 : Int32, y19 = (u.1 1) → (((2600 : Int32) ≤ y19) → wj_X9_expand_110 post u) ∧ ((¬ (2600 : Int32) ≤ y19) → ∀ y21 : Int32, y21 = (u.1 12) → ((¬ y21 = 0) → wj_X9_expand_110 post u) ∧ ((y21 = 0) → False))
def wj_X9_expand_64 (post : Int32 → mS → Prop) (x2 z0 : Int32) (u : mS) : Prop := ∀ u13 : mS, u13 = mSet u 15 z0 → ∀ u14 : mS, u14 = mSet u13 2 (480 : Int32) → wp_X9_beginning  u14 (fun u16 => ((x2 < 0) → ∃ n, mL1 (fun K => wj_X9_expand_86 K post) n u16) ∧ ((¬ x2 < 0) → ∀ y18 : Int32, y18 = ((-1 : Int32) - x2) → post y18 u16))
def wp_X9_expand (x1 : Int32) (u : mS) (post : Int32 → mS → Prop) : Prop := ((x1 < 0) → wj_X9_expand_10 post u) ∧ ((¬ x1 < 0) → ((x1 ≤ (8 : Int32)) → wp_X9_read  u (fun r3 u4 => ∀ u5 : mS, u5 = mSet u4 0 (0 : Int32) → ∀ u6 : mS, u6 = mSet u5 9 (0 : Int32) → ∀ u7 : mS, u7 = mSet u6 10 (0 : Int32) → ∀ u8 : mS, u8 = mSet u7 11 (0 : Int32) → ∀ u9 : mS, u9 = mSet u8 12 (0 : Int32) → ∀ u10 : mS, u10 = mSet u9 13 (0 : Int32) → ∀ u11 : mS, u11 = mSet u10 14 (0 : Int32) → ((0 ≤ r3) → wj_X9_expand_64 post r3 (0 : Int32) u11) ∧ ((¬ 0 ≤ r3) → wj_X9_expand_64 post r3 x1 u11))) ∧ ((¬ x1 ≤ (8 : Int32)) → wj_X9_expand_10 post u))
def wp_X9_at (x1 : Int32) (u : mS) (post : Int32 → mS → Prop) : Prop := ((x1 < 0) → post (-1 : Int32) u) ∧ ((¬ x1 < 0) → ∀ y2 : Int32, y2 = (u.1 9) → ((y2 ≤ x1) → post (-1 : Int32) u) ∧ ((¬ y2 ≤ x1) → vp_in x1 200 ∧ ∀ y4 : Int32, y4 = u.2 19 x1.toNatClampNeg → post y4 u))
def wp_X9_count_ (x1 : Int32) (u : mS) (post : Int32 → mS → Prop) : Prop := (x1 = (0 : Int32) → ∀ y1 : Int32, y1 = (u.1 13) → post y1 u) ∧ (x1 = (1 : Int32) → ∀ y2 : Int32, y2 = (u.1 4) → ∀ y3 : Int32, y3 = (u.1 5) → ∀ y4 : Int32, y4 = (y2 - y3) → post y4 u) ∧ (x1 = (2 : Int32) → ∀ y5 : Int32, y5 = (u.1 14) → post y5 u) ∧ (x1 = (3 : Int32) → ∀ y6 : Int32, y6 = (u.1 15) → post y6 u) ∧ (¬ x1 = (0 : Int32) → ¬ x1 = (1 : Int32) → ¬ x1 = (2 : Int32) → ¬ x1 = (3 : Int32) → post (-1 : Int32) u)
end
section
set_option maxRecDepth 20000 in
theorem ggX0_start_X7_forgetExpansion : GoodIn wsX0_start wsX7_forgetExpansion := goodIn_r _ [10, 11, 12, 22, 23, 24, 25, 26, 27] (by decide +kernel) (by decide +kernel)
set_option maxRecDepth 20000 in
theorem gX0_start_X7_forgetExpansion : GoodIn wsX0_start (wsV RX0 49 RX7 yX7_forgetExpansion wsX7_forgetExpansion) := goodIn_app (goodIn_of _ (by decide +kernel)) ggX0_start_X7_forgetExpansion
theorem dX0_start_0 : decode cX0_start 0 = .ok (.aload_n 0, 1) := by decide +kernel
theorem dX0_start_1 : decode cX0_start 1 = .ok (.iconst 0, 1) := by decide +kernel
theorem dX0_start_2 : decode cX0_start 2 = .ok (.putfield 36, 3) := by decide +kernel
theorem dX0_start_5 : decode cX0_start 5 = .ok (.aload_n 0, 1) := by decide +kernel
theorem dX0_start_6 : decode cX0_start 6 = .ok (.iconst 0, 1) := by decide +kernel
theorem dX0_start_7 : decode cX0_start 7 = .ok (.putfield 40, 3) := by decide +kernel
theorem dX0_start_10 : decode cX0_start 10 = .ok (.aload_n 0, 1) := by decide +kernel
theorem dX0_start_11 : decode cX0_start 11 = .ok (.iconst 0, 1) := by decide +kernel
theorem dX0_start_12 : decode cX0_start 12 = .ok (.putfield 43, 3) := by decide +kernel
theorem dX0_start_15 : decode cX0_start 15 = .ok (.aload_n 0, 1) := by decide +kernel
theorem dX0_start_16 : decode cX0_start 16 = .ok (.iload_n 1, 1) := by decide +kernel
theorem dX0_start_17 : decode cX0_start 17 = .ok (.putfield 46, 3) := by decide +kernel
theorem dX0_start_20 : decode cX0_start 20 = .ok (.aload_n 0, 1) := by decide +kernel
theorem dX0_start_21 : decode cX0_start 21 = .ok (.getfield 19, 3) := by decide +kernel
theorem dX0_start_24 : decode cX0_start 24 = .ok (.invokevirtual 49, 3) := by decide +kernel
theorem dX0_start_27 : decode cX0_start 27 = .ok (.return_, 1) := by decide +kernel
theorem dX2_clear_0 : decode cX2_clear 0 = .ok (.aload_n 0, 1) := by decide +kernel
theorem dX2_clear_1 : decode cX2_clear 1 = .ok (.iconst 0, 1) := by decide +kernel
theorem dX2_clear_2 : decode cX2_clear 2 = .ok (.putfield 15, 3) := by decide +kernel
theorem dX2_clear_5 : decode cX2_clear 5 = .ok (.aload_n 0, 1) := by decide +kernel
theorem dX2_clear_6 : decode cX2_clear 6 = .ok (.iconst 0, 1) := by decide +kernel
theorem dX2_clear_7 : decode cX2_clear 7 = .ok (.putfield 19, 3) := by decide +kernel
theorem dX2_clear_10 : decode cX2_clear 10 = .ok (.return_, 1) := by decide +kernel
theorem dX2_charAt_0 : decode cX2_charAt 0 = .ok (.iload_n 1, 1) := by decide +kernel
theorem dX2_charAt_1 : decode cX2_charAt 1 = .ok (.ifCond .lt 27, 3) := by decide +kernel
theorem dX2_charAt_4 : decode cX2_charAt 4 = .ok (.iload_n 1, 1) := by decide +kernel
theorem dX2_charAt_5 : decode cX2_charAt 5 = .ok (.aload_n 0, 1) := by decide +kernel
theorem dX2_charAt_6 : decode cX2_charAt 6 = .ok (.getfield 15, 3) := by decide +kernel
theorem dX2_charAt_9 : decode cX2_charAt 9 = .ok (.if_icmp .ge 19, 3) := by decide +kernel
theorem dX2_charAt_12 : decode cX2_charAt 12 = .ok (.iload_n 1, 1) := by decide +kernel
theorem dX2_charAt_13 : decode cX2_charAt 13 = .ok (.sipush 200, 3) := by decide +kernel
theorem dX2_charAt_16 : decode cX2_charAt 16 = .ok (.if_icmp .ge 12, 3) := by decide +kernel
theorem dX2_charAt_19 : decode cX2_charAt 19 = .ok (.aload_n 0, 1) := by decide +kernel
theorem dX2_charAt_20 : decode cX2_charAt 20 = .ok (.getfield 9, 3) := by decide +kernel
theorem dX2_charAt_23 : decode cX2_charAt 23 = .ok (.iload_n 1, 1) := by decide +kernel
theorem dX2_charAt_24 : decode cX2_charAt 24 = .ok (.iaload, 1) := by decide +kernel
theorem dX2_charAt_25 : decode cX2_charAt 25 = .ok (.goto 4, 3) := by decide +kernel
theorem dX2_charAt_28 : decode cX2_charAt 28 = .ok (.iconst (-1), 1) := by decide +kernel
theorem dX2_charAt_29 : decode cX2_charAt 29 = .ok (.ireturn, 1) := by decide +kernel
set_option maxRecDepth 20000 in
theorem ggX3_read_X5_restart : GoodIn wsX3_read wsX5_restart := goodIn_r _ [12, 13, 14, 65, 66, 67, 68, 69, 70] (by decide +kernel) (by decide +kernel)
set_option maxRecDepth 20000 in
theorem gX3_read_X5_restart : GoodIn wsX3_read (wsV RX3 15 RX5 yX5_restart wsX5_restart) := goodIn_app (goodIn_of _ (by decide +kernel)) ggX3_read_X5_restart
set_option maxRecDepth 20000 in
theorem ggX3_read_X3_isWhole : GoodIn wsX3_read wsX3_isWhole := goodIn_r _ [23, 2, 1, 63, 64, 65, 66, 67, 68, 69, 70] (by decide +kernel) (by decide +kernel)
set_option maxRecDepth 20000 in
theorem gX3_read_X3_isWhole : GoodIn wsX3_read (wsV RX3 35 RX3 yX3_isWhole wsX3_isWhole) := goodIn_app (goodIn_of _ (by decide +kernel)) ggX3_read_X3_isWhole
theorem dX3_read_0 : decode cX3_read 0 = .ok (.aload_n 0, 1) := by decide +kernel
theorem dX3_read_1 : decode cX3_read 1 = .ok (.getfield 9, 3) := by decide +kernel
theorem dX3_read_4 : decode cX3_read 4 = .ok (.invokevirtual 15, 3) := by decide +kernel
theorem dX3_read_7 : decode cX3_read 7 = .ok (.aload_n 0, 1) := by decide +kernel
theorem dX3_read_8 : decode cX3_read 8 = .ok (.iconst 0, 1) := by decide +kernel
theorem dX3_read_9 : decode cX3_read 9 = .ok (.putfield 20, 3) := by decide +kernel
theorem dX3_read_12 : decode cX3_read 12 = .ok (.iload_n 2, 1) := by decide +kernel
theorem dX3_read_13 : decode cX3_read 13 = .ok (.aload_n 1, 1) := by decide +kernel
theorem dX3_read_14 : decode cX3_read 14 = .ok (.arraylength, 1) := by decide +kernel
theorem dX3_read_15 : decode cX3_read 15 = .ok (.invokestatic 24, 3) := by decide +kernel
theorem dX3_read_18 : decode cX3_read 18 = .ok (.istore_n 3, 1) := by decide +kernel
theorem dX3_read_19 : decode cX3_read 19 = .ok (.iconst 0, 1) := by decide +kernel
theorem dX3_read_20 : decode cX3_read 20 = .ok (.istore 4, 2) := by decide +kernel
theorem dX3_read_22 : decode cX3_read 22 = .ok (.iconst 0, 1) := by decide +kernel
theorem dX3_read_23 : decode cX3_read 23 = .ok (.istore 5, 2) := by decide +kernel
theorem dX3_read_25 : decode cX3_read 25 = .ok (.iload 5, 2) := by decide +kernel
theorem dX3_read_27 : decode cX3_read 27 = .ok (.ldc 30, 2) := by decide +kernel
theorem dX3_read_29 : decode cX3_read 29 = .ok (.if_icmp .ge 53, 3) := by decide +kernel
theorem dX3_read_32 : decode cX3_read 32 = .ok (.iload 4, 2) := by decide +kernel
theorem dX3_read_34 : decode cX3_read 34 = .ok (.iload_n 3, 1) := by decide +kernel
theorem dX3_read_35 : decode cX3_read 35 = .ok (.if_icmp .ge 47, 3) := by decide +kernel
theorem dX3_read_38 : decode cX3_read 38 = .ok (.aload_n 1, 1) := by decide +kernel
theorem dX3_read_39 : decode cX3_read 39 = .ok (.iload 4, 2) := by decide +kernel
theorem dX3_read_41 : decode cX3_read 41 = .ok (.iaload, 1) := by decide +kernel
theorem dX3_read_42 : decode cX3_read 42 = .ok (.bipush 32, 2) := by decide +kernel
theorem dX3_read_44 : decode cX3_read 44 = .ok (.if_icmp .ne 7, 3) := by decide +kernel
theorem dX3_read_47 : decode cX3_read 47 = .ok (.iconst 1, 1) := by decide +kernel
theorem dX3_read_48 : decode cX3_read 48 = .ok (.goto 11, 3) := by decide +kernel
theorem dX3_read_51 : decode cX3_read 51 = .ok (.aload_n 0, 1) := by decide +kernel
theorem dX3_read_52 : decode cX3_read 52 = .ok (.aload_n 1, 1) := by decide +kernel
theorem dX3_read_53 : decode cX3_read 53 = .ok (.iload_n 3, 1) := by decide +kernel
theorem dX3_read_54 : decode cX3_read 54 = .ok (.iload 4, 2) := by decide +kernel
theorem dX3_read_59 : decode cX3_read 59 = .ok (.istore 6, 2) := by decide +kernel
theorem dX3_read_61 : decode cX3_read 61 = .ok (.iload 6, 2) := by decide +kernel
theorem dX3_read_63 : decode cX3_read 63 = .ok (.ifCond .ne 6, 3) := by decide +kernel
theorem dX3_read_66 : decode cX3_read 66 = .ok (.iload 4, 2) := by decide +kernel
theorem dX3_read_68 : decode cX3_read 68 = .ok (.ireturn, 1) := by decide +kernel
theorem dX3_read_69 : decode cX3_read 69 = .ok (.iload 4, 2) := by decide +kernel
theorem dX3_read_71 : decode cX3_read 71 = .ok (.iload 6, 2) := by decide +kernel
theorem dX3_read_73 : decode cX3_read 73 = .ok (.iadd, 1) := by decide +kernel
theorem dX3_read_74 : decode cX3_read 74 = .ok (.istore 4, 2) := by decide +kernel
theorem dX3_read_76 : decode cX3_read 76 = .ok (.iinc 5 1, 3) := by decide +kernel
theorem dX3_read_79 : decode cX3_read 79 = .ok (.goto (-54), 3) := by decide +kernel
theorem dX3_read_82 : decode cX3_read 82 = .ok (.aload_n 0, 1) := by decide +kernel
theorem dX3_read_83 : decode cX3_read 83 = .ok (.invokevirtual 35, 3) := by decide +kernel
theorem dX3_read_86 : decode cX3_read 86 = .ok (.ifCond .eq 7, 3) := by decide +kernel
theorem dX3_read_89 : decode cX3_read 89 = .ok (.iconst (-1), 1) := by decide +kernel
theorem dX3_read_90 : decode cX3_read 90 = .ok (.goto 4, 3) := by decide +kernel
theorem dX3_read_93 : decode cX3_read 93 = .ok (.iload_n 3, 1) := by decide +kernel
theorem dX3_read_94 : decode cX3_read 94 = .ok (.ireturn, 1) := by decide +kernel
theorem dX3_isWhole_0 : decode cX3_isWhole 0 = .ok (.aload_n 0, 1) := by decide +kernel
theorem dX3_isWhole_1 : decode cX3_isWhole 1 = .ok (.getfield 20, 3) := by decide +kernel
theorem dX3_isWhole_4 : decode cX3_isWhole 4 = .ok (.ifCond .ne 20, 3) := by decide +kernel
theorem dX3_isWhole_7 : decode cX3_isWhole 7 = .ok (.aload_n 0, 1) := by decide +kernel
theorem dX3_isWhole_8 : decode cX3_isWhole 8 = .ok (.getfield 9, 3) := by decide +kernel
theorem dX3_isWhole_11 : decode cX3_isWhole 11 = .ok (.getfield 39, 3) := by decide +kernel
theorem dX3_isWhole_14 : decode cX3_isWhole 14 = .ok (.sipush 480, 3) := by decide +kernel
theorem dX3_isWhole_17 : decode cX3_isWhole 17 = .ok (.if_icmp .le 7, 3) := by decide +kernel
theorem dX3_isWhole_20 : decode cX3_isWhole 20 = .ok (.iconst 1, 1) := by decide +kernel
theorem dX3_isWhole_21 : decode cX3_isWhole 21 = .ok (.goto 4, 3) := by decide +kernel
theorem dX3_isWhole_24 : decode cX3_isWhole 24 = .ok (.iconst 0, 1) := by decide +kernel
theorem dX3_isWhole_25 : decode cX3_isWhole 25 = .ok (.ireturn, 1) := by decide +kernel
theorem dX5_restart_0 : decode cX5_restart 0 = .ok (.aload_n 0, 1) := by decide +kernel
theorem dX5_restart_1 : decode cX5_restart 1 = .ok (.sipush 480, 3) := by decide +kernel
theorem dX5_restart_4 : decode cX5_restart 4 = .ok (.putfield 24, 3) := by decide +kernel
theorem dX5_restart_7 : decode cX5_restart 7 = .ok (.aload_n 0, 1) := by decide +kernel
theorem dX5_restart_8 : decode cX5_restart 8 = .ok (.iconst (-1), 1) := by decide +kernel
theorem dX5_restart_9 : decode cX5_restart 9 = .ok (.putfield 28, 3) := by decide +kernel
theorem dX5_restart_12 : decode cX5_restart 12 = .ok (.return_, 1) := by decide +kernel
theorem dX7_forgetExpansion_0 : decode cX7_forgetExpansion 0 = .ok (.aload_n 0, 1) := by decide +kernel
theorem dX7_forgetExpansion_1 : decode cX7_forgetExpansion 1 = .ok (.getstatic 24, 3) := by decide +kernel
theorem dX7_forgetExpansion_4 : decode cX7_forgetExpansion 4 = .ok (.arraylength, 1) := by decide +kernel
theorem dX7_forgetExpansion_5 : decode cX7_forgetExpansion 5 = .ok (.aload_n 0, 1) := by decide +kernel
theorem dX7_forgetExpansion_6 : decode cX7_forgetExpansion 6 = .ok (.getfield 37, 3) := by decide +kernel
theorem dX7_forgetExpansion_9 : decode cX7_forgetExpansion 9 = .ok (.iadd, 1) := by decide +kernel
theorem dX7_forgetExpansion_10 : decode cX7_forgetExpansion 10 = .ok (.putfield 33, 3) := by decide +kernel
theorem dX7_forgetExpansion_13 : decode cX7_forgetExpansion 13 = .ok (.return_, 1) := by decide +kernel
set_option maxRecDepth 20000 in
theorem ggX8_type_X8_appendTyped : GoodIn wsX8_type wsX8_appendTyped := goodIn_r _ [6, 1, 7, 8, 9, 10, 11, 12, 13, 14, 15] (by decide +kernel) (by decide +kernel)
set_option maxRecDepth 20000 in
theorem gX8_type_X8_appendTyped : GoodIn wsX8_type (wsV RX8 63 RX8 yX8_appendTyped wsX8_appendTyped) := goodIn_app (goodIn_of _ (by decide +kernel)) ggX8_type_X8_appendTyped
theorem dX8_type_0 : decode cX8_type 0 = .ok (.iload_n 2, 1) := by decide +kernel
theorem dX8_type_1 : decode cX8_type 1 = .ok (.iconst 1, 1) := by decide +kernel
theorem dX8_type_2 : decode cX8_type 2 = .ok (.if_icmp .lt 19, 3) := by decide +kernel
theorem dX8_type_5 : decode cX8_type 5 = .ok (.iload_n 2, 1) := by decide +kernel
theorem dX8_type_6 : decode cX8_type 6 = .ok (.iconst 4, 1) := by decide +kernel
theorem dX8_type_7 : decode cX8_type 7 = .ok (.if_icmp .gt 14, 3) := by decide +kernel
theorem dX8_type_10 : decode cX8_type 10 = .ok (.aload_n 0, 1) := by decide +kernel
theorem dX8_type_11 : decode cX8_type 11 = .ok (.getfield 59, 3) := by decide +kernel
theorem dX8_type_14 : decode cX8_type 14 = .ok (.iload_n 2, 1) := by decide +kernel
theorem dX8_type_15 : decode cX8_type 15 = .ok (.iadd, 1) := by decide +kernel
theorem dX8_type_16 : decode cX8_type 16 = .ok (.bipush 120, 2) := by decide +kernel
theorem dX8_type_18 : decode cX8_type 18 = .ok (.if_icmp .le 5, 3) := by decide +kernel
theorem dX8_type_21 : decode cX8_type 21 = .ok (.iconst 0, 1) := by decide +kernel
theorem dX8_type_22 : decode cX8_type 22 = .ok (.ireturn, 1) := by decide +kernel
theorem dX8_type_23 : decode cX8_type 23 = .ok (.iconst 0, 1) := by decide +kernel
theorem dX8_type_24 : decode cX8_type 24 = .ok (.istore_n 3, 1) := by decide +kernel
theorem dX8_type_25 : decode cX8_type 25 = .ok (.iload_n 3, 1) := by decide +kernel
theorem dX8_type_26 : decode cX8_type 26 = .ok (.iload_n 2, 1) := by decide +kernel
theorem dX8_type_27 : decode cX8_type 27 = .ok (.if_icmp .ge 37, 3) := by decide +kernel
theorem dX8_type_30 : decode cX8_type 30 = .ok (.iload_n 1, 1) := by decide +kernel
theorem dX8_type_31 : decode cX8_type 31 = .ok (.bipush 8, 2) := by decide +kernel
theorem dX8_type_33 : decode cX8_type 33 = .ok (.iload_n 3, 1) := by decide +kernel
theorem dX8_type_34 : decode cX8_type 34 = .ok (.imul, 1) := by decide +kernel
theorem dX8_type_35 : decode cX8_type 35 = .ok (.ishr, 1) := by decide +kernel
theorem dX8_type_36 : decode cX8_type 36 = .ok (.sipush 255, 3) := by decide +kernel
theorem dX8_type_39 : decode cX8_type 39 = .ok (.iand, 1) := by decide +kernel
theorem dX8_type_40 : decode cX8_type 40 = .ok (.istore 4, 2) := by decide +kernel
theorem dX8_type_42 : decode cX8_type 42 = .ok (.iload 4, 2) := by decide +kernel
theorem dX8_type_44 : decode cX8_type 44 = .ok (.bipush 32, 2) := by decide +kernel
theorem dX8_type_46 : decode cX8_type 46 = .ok (.if_icmp .lt 10, 3) := by decide +kernel
theorem dX8_type_49 : decode cX8_type 49 = .ok (.iload 4, 2) := by decide +kernel
theorem dX8_type_51 : decode cX8_type 51 = .ok (.bipush 126, 2) := by decide +kernel
theorem dX8_type_53 : decode cX8_type 53 = .ok (.if_icmp .le 5, 3) := by decide +kernel
theorem dX8_type_56 : decode cX8_type 56 = .ok (.iconst 0, 1) := by decide +kernel
theorem dX8_type_57 : decode cX8_type 57 = .ok (.ireturn, 1) := by decide +kernel
theorem dX8_type_58 : decode cX8_type 58 = .ok (.iinc 3 1, 3) := by decide +kernel
theorem dX8_type_61 : decode cX8_type 61 = .ok (.goto (-36), 3) := by decide +kernel
theorem dX8_type_64 : decode cX8_type 64 = .ok (.iload_n 2, 1) := by decide +kernel
theorem dX8_type_65 : decode cX8_type 65 = .ok (.iconst 1, 1) := by decide +kernel
theorem dX8_type_66 : decode cX8_type 66 = .ok (.isub, 1) := by decide +kernel
theorem dX8_type_67 : decode cX8_type 67 = .ok (.istore_n 3, 1) := by decide +kernel
theorem dX8_type_68 : decode cX8_type 68 = .ok (.iload_n 3, 1) := by decide +kernel
theorem dX8_type_69 : decode cX8_type 69 = .ok (.ifCond .lt 23, 3) := by decide +kernel
theorem dX8_type_72 : decode cX8_type 72 = .ok (.aload_n 0, 1) := by decide +kernel
theorem dX8_type_73 : decode cX8_type 73 = .ok (.iload_n 1, 1) := by decide +kernel
theorem dX8_type_74 : decode cX8_type 74 = .ok (.bipush 8, 2) := by decide +kernel
theorem dX8_type_76 : decode cX8_type 76 = .ok (.iload_n 3, 1) := by decide +kernel
theorem dX8_type_77 : decode cX8_type 77 = .ok (.imul, 1) := by decide +kernel
theorem dX8_type_78 : decode cX8_type 78 = .ok (.ishr, 1) := by decide +kernel
theorem dX8_type_79 : decode cX8_type 79 = .ok (.sipush 255, 3) := by decide +kernel
theorem dX8_type_82 : decode cX8_type 82 = .ok (.iand, 1) := by decide +kernel
theorem dX8_type_83 : decode cX8_type 83 = .ok (.invokevirtual 63, 3) := by decide +kernel
theorem dX8_type_86 : decode cX8_type 86 = .ok (.iinc 3 (-1), 3) := by decide +kernel
theorem dX8_type_89 : decode cX8_type 89 = .ok (.goto (-21), 3) := by decide +kernel
theorem dX8_type_92 : decode cX8_type 92 = .ok (.iconst 1, 1) := by decide +kernel
theorem dX8_type_93 : decode cX8_type 93 = .ok (.ireturn, 1) := by decide +kernel
set_option maxRecDepth 20000 in
theorem ggX8_rules_X8_takeTyped : GoodIn wsX8_rules wsX8_takeTyped := goodIn_r _ [8, 9, 10, 11, 12, 13, 14, 15, 16, 17, 18, 19, 20, 21, 22, 23, 24, 25, 26, 27, 28, 29, 30, 31, 32, 33, 34, 35, 36, 37, 38, 39, 40, 41, 42, 43, 44, 45, 46, 47, 48, 49, 50, 51, 52, 53, 54, 55, 56, 57, 58, 59, 60, 61, 62, 63, 64, 65, 66, 67, 68, 69, 70, 71, 72, 73, 74, 75, 76, 77, 182, 183, 184, 185, 186, 187, 188, 189, 196, 197, 198, 199, 200, 201, 202, 203] (by decide +kernel) (by decide +kernel)
set_option maxRecDepth 20000 in
theorem gX8_rules_X8_takeTyped : GoodIn wsX8_rules (wsV RX8 67 RX8 yX8_takeTyped wsX8_takeTyped) := goodIn_app (goodIn_of _ (by decide +kernel)) ggX8_rules_X8_takeTyped
theorem dX8_rules_0 : decode cX8_rules 0 = .ok (.aload_n 0, 1) := by decide +kernel
theorem dX8_rules_1 : decode cX8_rules 1 = .ok (.invokevirtual 67, 3) := by decide +kernel
theorem dX8_rules_4 : decode cX8_rules 4 = .ok (.istore_n 1, 1) := by decide +kernel
theorem dX8_rules_5 : decode cX8_rules 5 = .ok (.iload_n 1, 1) := by decide +kernel
theorem dX8_rules_6 : decode cX8_rules 6 = .ok (.ifCond .lt 7, 3) := by decide +kernel
theorem dX8_rules_9 : decode cX8_rules 9 = .ok (.iconst (-1), 1) := by decide +kernel
theorem dX8_rules_10 : decode cX8_rules 10 = .ok (.iload_n 1, 1) := by decide +kernel
theorem dX8_rules_11 : decode cX8_rules 11 = .ok (.isub, 1) := by decide +kernel
theorem dX8_rules_12 : decode cX8_rules 12 = .ok (.ireturn, 1) := by decide +kernel
theorem dX8_rules_13 : decode cX8_rules 13 = .ok (.aload_n 0, 1) := by decide +kernel
theorem dX8_rules_14 : decode cX8_rules 14 = .ok (.getfield 32, 3) := by decide +kernel
theorem dX8_rules_17 : decode cX8_rules 17 = .ok (.sipush 480, 3) := by decide +kernel
set_option maxRecDepth 20000 in
theorem ggX8_expand_X8_takeTyped : GoodIn wsX8_expand wsX8_takeTyped := goodIn_r _ [7, 8, 9, 10, 11, 12, 13, 14, 15, 16, 17, 18, 19, 20, 21, 22, 23, 24, 25, 26, 27, 28, 29, 30, 31, 32, 33, 34, 35, 36, 37, 38, 39, 40, 41, 42, 43, 44, 45, 46, 47, 48, 49, 50, 51, 52, 53, 54, 55, 56, 57, 58, 59, 60, 61, 62, 63, 64, 65, 66, 67, 68, 69, 70, 71, 72, 73, 74, 75, 76, 399, 400, 401, 402, 403, 404, 405, 406, 410, 411, 412, 413, 414, 415, 416, 417] (by decide +kernel) (by decide +kernel)
set_option maxRecDepth 20000 in
theorem gX8_expand_X8_takeTyped : GoodIn wsX8_expand (wsV RX8 67 RX8 yX8_takeTyped wsX8_takeTyped) := goodIn_app (goodIn_of _ (by decide +kernel)) ggX8_expand_X8_takeTyped
set_option maxRecDepth 20000 in
theorem ggX8_expand_X2_clear : GoodIn wsX8_expand wsX2_clear := goodIn_r _ [81, 82, 83, 407, 408, 409] (by decide +kernel) (by decide +kernel)
set_option maxRecDepth 20000 in
theorem gX8_expand_X2_clear : GoodIn wsX8_expand (wsV RX8 93 RX2 yX2_clear wsX2_clear) := goodIn_app (goodIn_of _ (by decide +kernel)) ggX8_expand_X2_clear
set_option maxRecDepth 20000 in
theorem ggX8_expand_X0_start : GoodIn wsX8_expand wsX0_start := goodIn_r _ [88, 89, 90, 91, 92, 93, 94, 95, 96, 97, 98, 99, 100, 418, 419, 420, 421, 422, 423, 424, 425, 426, 427, 428, 429, 430, 431, 432] (by decide +kernel) (by decide +kernel)
set_option maxRecDepth 20000 in
theorem gX8_expand_X0_start : GoodIn wsX8_expand (wsV RX8 96 RX0 yX0_start wsX0_start) := goodIn_app (goodIn_of _ (by decide +kernel)) ggX8_expand_X0_start
theorem dX8_expand_0 : decode cX8_expand 0 = .ok (.iload_n 1, 1) := by decide +kernel
theorem dX8_expand_1 : decode cX8_expand 1 = .ok (.ifCond .lt 9, 3) := by decide +kernel
theorem dX8_expand_4 : decode cX8_expand 4 = .ok (.iload_n 1, 1) := by decide +kernel
theorem dX8_expand_5 : decode cX8_expand 5 = .ok (.bipush 8, 2) := by decide +kernel
theorem dX8_expand_7 : decode cX8_expand 7 = .ok (.if_icmp .le 7, 3) := by decide +kernel
theorem dX8_expand_10 : decode cX8_expand 10 = .ok (.sipush (-7000), 3) := by decide +kernel
theorem dX8_expand_13 : decode cX8_expand 13 = .ok (.ireturn, 1) := by decide +kernel
theorem dX8_expand_14 : decode cX8_expand 14 = .ok (.aload_n 0, 1) := by decide +kernel
theorem dX8_expand_15 : decode cX8_expand 15 = .ok (.invokevirtual 67, 3) := by decide +kernel
theorem dX8_expand_18 : decode cX8_expand 18 = .ok (.istore_n 2, 1) := by decide +kernel
theorem dX8_expand_19 : decode cX8_expand 19 = .ok (.aload_n 0, 1) := by decide +kernel
theorem dX8_expand_20 : decode cX8_expand 20 = .ok (.getfield 46, 3) := by decide +kernel
theorem dX8_expand_23 : decode cX8_expand 23 = .ok (.invokevirtual 93, 3) := by decide +kernel
theorem dX8_expand_26 : decode cX8_expand 26 = .ok (.aload_n 0, 1) := by decide +kernel
theorem dX8_expand_27 : decode cX8_expand 27 = .ok (.getfield 55, 3) := by decide +kernel
theorem dX8_expand_30 : decode cX8_expand 30 = .ok (.iload_n 2, 1) := by decide +kernel
theorem dX8_expand_31 : decode cX8_expand 31 = .ok (.ifCond .lt 7, 3) := by decide +kernel
theorem dX8_expand_34 : decode cX8_expand 34 = .ok (.iconst 0, 1) := by decide +kernel
theorem dX8_expand_35 : decode cX8_expand 35 = .ok (.goto 4, 3) := by decide +kernel
theorem dX8_expand_38 : decode cX8_expand 38 = .ok (.iload_n 1, 1) := by decide +kernel
theorem dX8_expand_39 : decode cX8_expand 39 = .ok (.invokevirtual 96, 3) := by decide +kernel
theorem dX8_expand_42 : decode cX8_expand 42 = .ok (.iload_n 2, 1) := by decide +kernel
theorem dX8_expand_43 : decode cX8_expand 43 = .ok (.ifCond .lt 7, 3) := by decide +kernel
theorem dX8_expand_46 : decode cX8_expand 46 = .ok (.iconst (-1), 1) := by decide +kernel
theorem dX8_expand_47 : decode cX8_expand 47 = .ok (.iload_n 2, 1) := by decide +kernel
theorem dX8_expand_48 : decode cX8_expand 48 = .ok (.isub, 1) := by decide +kernel
theorem dX8_expand_49 : decode cX8_expand 49 = .ok (.ireturn, 1) := by decide +kernel
theorem dX8_expand_50 : decode cX8_expand 50 = .ok (.aload_n 0, 1) := by decide +kernel
theorem dX8_expand_51 : decode cX8_expand 51 = .ok (.getfield 55, 3) := by decide +kernel
theorem dX8_expand_54 : decode cX8_expand 54 = .ok (.sipush 480, 3) := by decide +kernel
theorem dX8_expand_57 : decode cX8_expand 57 = .ok (.iconst 0, 1) := by decide +kernel
set_option maxRecDepth 20000 in
theorem ggX8_at_X2_charAt : GoodIn wsX8_at wsX2_charAt := goodIn_r _ [6, 7, 8, 17, 18, 19] (by decide +kernel) (by decide +kernel)
set_option maxRecDepth 20000 in
theorem gX8_at_X2_charAt : GoodIn wsX8_at (wsV RX8 109 RX2 yX2_charAt wsX2_charAt) := goodIn_app (goodIn_of _ (by decide +kernel)) ggX8_at_X2_charAt
theorem dX8_at_0 : decode cX8_at 0 = .ok (.aload_n 0, 1) := by decide +kernel
theorem dX8_at_1 : decode cX8_at 1 = .ok (.getfield 46, 3) := by decide +kernel
theorem dX8_at_4 : decode cX8_at 4 = .ok (.iload_n 1, 1) := by decide +kernel
theorem dX8_at_5 : decode cX8_at 5 = .ok (.invokevirtual 109, 3) := by decide +kernel
theorem dX8_at_8 : decode cX8_at 8 = .ok (.ireturn, 1) := by decide +kernel
theorem dX8_count_0 : decode cX8_count 0 = .ok (.iload_n 1, 1) := by decide +kernel
theorem dX8_count_1 : decode cX8_count 1 = .ok (.tableswitch 63 0 3 #[31, 39, 47, 55], 31) := by decide +kernel
theorem dX8_count_32 : decode cX8_count 32 = .ok (.aload_n 0, 1) := by decide +kernel
theorem dX8_count_33 : decode cX8_count 33 = .ok (.getfield 55, 3) := by decide +kernel
theorem dX8_count_36 : decode cX8_count 36 = .ok (.getfield 112, 3) := by decide +kernel
theorem dX8_count_39 : decode cX8_count 39 = .ok (.ireturn, 1) := by decide +kernel
theorem dX8_count_40 : decode cX8_count 40 = .ok (.aload_n 0, 1) := by decide +kernel
theorem dX8_count_41 : decode cX8_count 41 = .ok (.getfield 55, 3) := by decide +kernel
theorem dX8_count_44 : decode cX8_count 44 = .ok (.getfield 115, 3) := by decide +kernel
theorem dX8_count_47 : decode cX8_count 47 = .ok (.ireturn, 1) := by decide +kernel
theorem dX8_count_48 : decode cX8_count 48 = .ok (.aload_n 0, 1) := by decide +kernel
theorem dX8_count_49 : decode cX8_count 49 = .ok (.getfield 55, 3) := by decide +kernel
theorem dX8_count_52 : decode cX8_count 52 = .ok (.getfield 118, 3) := by decide +kernel
theorem dX8_count_55 : decode cX8_count 55 = .ok (.ireturn, 1) := by decide +kernel
theorem dX8_count_56 : decode cX8_count 56 = .ok (.aload_n 0, 1) := by decide +kernel
theorem dX8_count_57 : decode cX8_count 57 = .ok (.getfield 55, 3) := by decide +kernel
theorem dX8_count_60 : decode cX8_count 60 = .ok (.getfield 121, 3) := by decide +kernel
theorem dX8_count_63 : decode cX8_count 63 = .ok (.ireturn, 1) := by decide +kernel
theorem dX8_count_64 : decode cX8_count 64 = .ok (.iconst (-1), 1) := by decide +kernel
theorem dX8_count_65 : decode cX8_count 65 = .ok (.ireturn, 1) := by decide +kernel
theorem dX8_appendTyped_0 : decode cX8_appendTyped 0 = .ok (.aload_n 0, 1) := by decide +kernel
theorem dX8_appendTyped_1 : decode cX8_appendTyped 1 = .ok (.getfield 59, 3) := by decide +kernel
theorem dX8_appendTyped_4 : decode cX8_appendTyped 4 = .ok (.ifCond .lt 35, 3) := by decide +kernel
theorem dX8_appendTyped_7 : decode cX8_appendTyped 7 = .ok (.aload_n 0, 1) := by decide +kernel
theorem dX8_appendTyped_8 : decode cX8_appendTyped 8 = .ok (.getfield 59, 3) := by decide +kernel
theorem dX8_appendTyped_11 : decode cX8_appendTyped 11 = .ok (.aload_n 0, 1) := by decide +kernel
theorem dX8_appendTyped_12 : decode cX8_appendTyped 12 = .ok (.getfield 9, 3) := by decide +kernel
theorem dX8_appendTyped_15 : decode cX8_appendTyped 15 = .ok (.arraylength, 1) := by decide +kernel
theorem dX8_appendTyped_16 : decode cX8_appendTyped 16 = .ok (.if_icmp .ge 23, 3) := by decide +kernel
theorem dX8_appendTyped_19 : decode cX8_appendTyped 19 = .ok (.aload_n 0, 1) := by decide +kernel
theorem dX8_appendTyped_20 : decode cX8_appendTyped 20 = .ok (.getfield 9, 3) := by decide +kernel
theorem dX8_appendTyped_23 : decode cX8_appendTyped 23 = .ok (.aload_n 0, 1) := by decide +kernel
theorem dX8_appendTyped_24 : decode cX8_appendTyped 24 = .ok (.getfield 59, 3) := by decide +kernel
theorem dX8_appendTyped_27 : decode cX8_appendTyped 27 = .ok (.iload_n 1, 1) := by decide +kernel
theorem dX8_appendTyped_28 : decode cX8_appendTyped 28 = .ok (.iastore, 1) := by decide +kernel
theorem dX8_appendTyped_29 : decode cX8_appendTyped 29 = .ok (.aload_n 0, 1) := by decide +kernel
theorem dX8_appendTyped_30 : decode cX8_appendTyped 30 = .ok (.dup, 1) := by decide +kernel
theorem dX8_appendTyped_31 : decode cX8_appendTyped 31 = .ok (.getfield 59, 3) := by decide +kernel
theorem dX8_appendTyped_34 : decode cX8_appendTyped 34 = .ok (.iconst 1, 1) := by decide +kernel
theorem dX8_appendTyped_35 : decode cX8_appendTyped 35 = .ok (.iadd, 1) := by decide +kernel
theorem dX8_appendTyped_36 : decode cX8_appendTyped 36 = .ok (.putfield 59, 3) := by decide +kernel
theorem dX8_appendTyped_39 : decode cX8_appendTyped 39 = .ok (.return_, 1) := by decide +kernel
set_option maxRecDepth 20000 in
theorem ggX8_takeTyped_X3_read : GoodIn wsX8_takeTyped wsX3_read := goodIn_r _ [8, 9, 10, 11, 12, 13, 14, 15, 16, 17, 18, 19, 20, 21, 22, 23, 24, 25, 7, 26, 27, 28, 29, 30, 31, 32, 33, 34, 35, 36, 37, 38, 39, 40, 41, 42, 43, 44, 45, 46, 47, 48, 49, 50, 51, 52, 53, 54, 55, 56, 57, 58, 59, 60, 61, 62, 63, 64, 65, 66, 67, 68, 69, 78, 79, 80, 81, 82, 83, 84, 85] (by decide +kernel) (by decide +kernel)
set_option maxRecDepth 20000 in
theorem gX8_takeTyped_X3_read : GoodIn wsX8_takeTyped (wsV RX8 124 RX3 yX3_read wsX3_read) := goodIn_app (goodIn_of _ (by decide +kernel)) ggX8_takeTyped_X3_read
theorem dX8_takeTyped_0 : decode cX8_takeTyped 0 = .ok (.aload_n 0, 1) := by decide +kernel
theorem dX8_takeTyped_1 : decode cX8_takeTyped 1 = .ok (.getfield 25, 3) := by decide +kernel
theorem dX8_takeTyped_4 : decode cX8_takeTyped 4 = .ok (.aload_n 0, 1) := by decide +kernel
theorem dX8_takeTyped_5 : decode cX8_takeTyped 5 = .ok (.getfield 9, 3) := by decide +kernel
theorem dX8_takeTyped_8 : decode cX8_takeTyped 8 = .ok (.aload_n 0, 1) := by decide +kernel
theorem dX8_takeTyped_9 : decode cX8_takeTyped 9 = .ok (.getfield 59, 3) := by decide +kernel
theorem dX8_takeTyped_12 : decode cX8_takeTyped 12 = .ok (.invokevirtual 124, 3) := by decide +kernel
theorem dX8_takeTyped_15 : decode cX8_takeTyped 15 = .ok (.istore_n 1, 1) := by decide +kernel
theorem dX8_takeTyped_16 : decode cX8_takeTyped 16 = .ok (.aload_n 0, 1) := by decide +kernel
theorem dX8_takeTyped_17 : decode cX8_takeTyped 17 = .ok (.iconst 0, 1) := by decide +kernel
theorem dX8_takeTyped_18 : decode cX8_takeTyped 18 = .ok (.putfield 59, 3) := by decide +kernel
theorem dX8_takeTyped_21 : decode cX8_takeTyped 21 = .ok (.iload_n 1, 1) := by decide +kernel
theorem dX8_takeTyped_22 : decode cX8_takeTyped 22 = .ok (.ireturn, 1) := by decide +kernel
theorem iw_X8_type_X8 : ∀ w ∈ wsX80, w ∈ wsX8_type := by decide +kernel
theorem lk_X8_type_59 : Cond.fieldLink RX8 59 "MarkedNames" "typedLength" "I" ∈ wsX8_type := by decide +kernel
theorem iw_X8_appendTyped_X8 : ∀ w ∈ wsX80, w ∈ wsX8_appendTyped := by decide +kernel
theorem lk_X8_appendTyped_59 : Cond.fieldLink RX8 59 "MarkedNames" "typedLength" "I" ∈ wsX8_appendTyped := by decide +kernel
theorem lk_X8_appendTyped_9 : Cond.fieldLink RX8 9 "MarkedNames" "typed" "[I" ∈ wsX8_appendTyped := by decide +kernel
theorem iw_X8_takeTyped_X8 : ∀ w ∈ wsX80, w ∈ wsX8_takeTyped := by decide +kernel
theorem lk_X8_takeTyped_25 : Cond.fieldLink RX8 25 "MarkedNames" "reader" "LMarkedNames$Reader;" ∈ wsX8_takeTyped := by decide +kernel
theorem lk_X8_takeTyped_9 : Cond.fieldLink RX8 9 "MarkedNames" "typed" "[I" ∈ wsX8_takeTyped := by decide +kernel
theorem lk_X8_takeTyped_59 : Cond.fieldLink RX8 59 "MarkedNames" "typedLength" "I" ∈ wsX8_takeTyped := by decide +kernel
theorem iw_X3_read_X3 : ∀ w ∈ wsX30, w ∈ wsX3_read := by decide +kernel
theorem lk_X3_read_9 : Cond.fieldLink RX3 9 "MarkedNames$Reader" "row" "LMarkedNames$Row;" ∈ wsX3_read := by decide +kernel
theorem iw_X5_restart_X5 : ∀ w ∈ wsX50, w ∈ wsX5_restart := by decide +kernel
theorem lk_X5_restart_24 : Cond.fieldLink RX5 24 "MarkedNames$Row" "top" "I" ∈ wsX5_restart := by decide +kernel
theorem lk_X5_restart_28 : Cond.fieldLink RX5 28 "MarkedNames$Row" "open" "I" ∈ wsX5_restart := by decide +kernel
theorem lk_X3_read_20 : Cond.fieldLink RX3 20 "MarkedNames$Reader" "depth" "I" ∈ wsX3_read := by decide +kernel
theorem ml_X3_read_24 : Cond.methodLink RX3 24 Lib.Math.min.name ∈ wsX3_read := by decide +kernel
theorem ms_X3_read_min : Cond.static Lib.Math.min.name ∈ wsX3_read := by decide +kernel
theorem mi_X3_read_Math : Cond.initialized "java/lang/Math" ∈ wsX3_read := by decide +kernel
theorem mc_X3_read_min : Cond.code Lib.Math.min.name Lib.Math.min.code 2 (some .int) ∈ wsX3_read := by decide +kernel
theorem mw_X3_read__constant_RX3_30_1000000_Int32_ : Cond.constant RX3 30 (1000000 : Int32) ∈ wsX3_read := by decide +kernel
theorem iw_X3_isWhole_X3 : ∀ w ∈ wsX30, w ∈ wsX3_isWhole := by decide +kernel
theorem lk_X3_isWhole_20 : Cond.fieldLink RX3 20 "MarkedNames$Reader" "depth" "I" ∈ wsX3_isWhole := by decide +kernel
theorem lk_X3_isWhole_9 : Cond.fieldLink RX3 9 "MarkedNames$Reader" "row" "LMarkedNames$Row;" ∈ wsX3_isWhole := by decide +kernel
theorem iw_X3_isWhole_X5 : ∀ w ∈ wsX50, w ∈ wsX3_isWhole := by decide +kernel
theorem iw_X8_rules_X8 : ∀ w ∈ wsX80, w ∈ wsX8_rules := by decide +kernel
theorem lk_X8_rules_32 : Cond.fieldLink RX8 32 "MarkedNames" "check" "LMarkedNames$RuleCheck;" ∈ wsX8_rules := by decide +kernel
theorem iw_X8_expand_X8 : ∀ w ∈ wsX80, w ∈ wsX8_expand := by decide +kernel
theorem lk_X8_expand_46 : Cond.fieldLink RX8 46 "MarkedNames" "outcome" "LMarkedNames$Outcome;" ∈ wsX8_expand := by decide +kernel
theorem iw_X2_clear_X2 : ∀ w ∈ wsX20, w ∈ wsX2_clear := by decide +kernel
theorem lk_X2_clear_15 : Cond.fieldLink RX2 15 "MarkedNames$Outcome" "length" "I" ∈ wsX2_clear := by decide +kernel
theorem lk_X2_clear_19 : Cond.fieldLink RX2 19 "MarkedNames$Outcome" "error" "I" ∈ wsX2_clear := by decide +kernel
theorem lk_X8_expand_55 : Cond.fieldLink RX8 55 "MarkedNames" "expander" "LMarkedNames$Expander;" ∈ wsX8_expand := by decide +kernel
theorem iw_X0_start_X0 : ∀ w ∈ wsX00, w ∈ wsX0_start := by decide +kernel
theorem lk_X0_start_36 : Cond.fieldLink RX0 36 "MarkedNames$Expander" "scopes" "I" ∈ wsX0_start := by decide +kernel
theorem lk_X0_start_40 : Cond.fieldLink RX0 40 "MarkedNames$Expander" "bindings" "I" ∈ wsX0_start := by decide +kernel
theorem lk_X0_start_43 : Cond.fieldLink RX0 43 "MarkedNames$Expander" "variables" "I" ∈ wsX0_start := by decide +kernel
theorem lk_X0_start_46 : Cond.fieldLink RX0 46 "MarkedNames$Expander" "fuel" "I" ∈ wsX0_start := by decide +kernel
theorem lk_X0_start_19 : Cond.fieldLink RX0 19 "MarkedNames$Expander" "table" "LMarkedNames$Table;" ∈ wsX0_start := by decide +kernel
theorem iw_X7_forgetExpansion_X7 : ∀ w ∈ wsX70, w ∈ wsX7_forgetExpansion := by decide +kernel
theorem lk_X7_forgetExpansion_37 : Cond.fieldLink RX7 37 "MarkedNames$Table" "ownNames" "I" ∈ wsX7_forgetExpansion := by decide +kernel
theorem lk_X7_forgetExpansion_33 : Cond.fieldLink RX7 33 "MarkedNames$Table" "length" "I" ∈ wsX7_forgetExpansion := by decide +kernel
theorem iw_X8_at_X8 : ∀ w ∈ wsX80, w ∈ wsX8_at := by decide +kernel
theorem lk_X8_at_46 : Cond.fieldLink RX8 46 "MarkedNames" "outcome" "LMarkedNames$Outcome;" ∈ wsX8_at := by decide +kernel
theorem iw_X2_charAt_X2 : ∀ w ∈ wsX20, w ∈ wsX2_charAt := by decide +kernel
theorem lk_X2_charAt_15 : Cond.fieldLink RX2 15 "MarkedNames$Outcome" "length" "I" ∈ wsX2_charAt := by decide +kernel
theorem lk_X2_charAt_9 : Cond.fieldLink RX2 9 "MarkedNames$Outcome" "text" "[I" ∈ wsX2_charAt := by decide +kernel
theorem iw_X8_count_X8 : ∀ w ∈ wsX80, w ∈ wsX8_count := by decide +kernel
theorem lk_X8_count_55 : Cond.fieldLink RX8 55 "MarkedNames" "expander" "LMarkedNames$Expander;" ∈ wsX8_count := by decide +kernel
theorem iw_X8_count_X0 : ∀ w ∈ wsX00, w ∈ wsX8_count := by decide +kernel
section
variable {l : Launch} {p : Program} {e : Env} {s : State} {m : MethodId} {args : Array Value} {below : List Frame} {meth : Method} {c : Code} {A : Nat → Prop} {dC : Nat → ClassId} {dI : Nat → Nat → Nat} {cA : ClassId} {a b : Nat → Nat} {lev : Nat}
set_option maxHeartbeats 4000000 in
set_option maxRecDepth 100000 in
theorem X8_appendTyped_met (hlev : 0 ≤ lev) {x1 : Int32} {u : mS} {post : mS → Prop} (hw : wp_X8_appendTyped x1 u post) : mKv l yX8_appendTyped wsX8_appendTyped lev (eA a) (dC, dI) vwCl [(cA, .int)] (wA cA a) [.ref (a 0), .int x1] u post := by
  refine mKv_of (cc := cX8_appendTyped) (maxL := 2) (by decide) rfl rfl (Nat.le_of_ble_eq_true rfl) rfl ?_
  intro p e s m args below meth c A C hs
  unfold wp_X8_appendTyped at hw
  refine mv_aload_n C dX8_appendTyped_0 rfl 0 rfl ?_
  refine mv_get (v := .int (u.1 0)) C iw_X8_appendTyped_X8 0 rfl rfl 1 (by decide) lk_X8_appendTyped_59 rfl rfl dX8_appendTyped_1 ?_
  refine mv_topi (fun y1 ey1 => ?_)
  have hw := hw y1 ey1
  refine mv_if_lt (tgt := 39) C dX8_appendTyped_4 (by decide) (fun h2 => ?_) (fun h2 => ?_)
  · have hw := hw.1 h2
    exact mv_vret C dX8_appendTyped_39 hw
  · have hw := hw.2 h2
    refine mv_aload_n C dX8_appendTyped_7 rfl 0 rfl ?_
    refine mv_get (v := .int (u.1 0)) C iw_X8_appendTyped_X8 0 rfl rfl 1 (by decide) lk_X8_appendTyped_59 rfl rfl dX8_appendTyped_8 ?_
    refine mv_topi (fun y3 ey3 => ?_)
    have hw := hw y3 ey3
    refine mv_aload_n C dX8_appendTyped_11 rfl 0 rfl ?_
    refine mv_get (v := .ref (a 1)) C iw_X8_appendTyped_X8 0 rfl rfl 0 (by decide) lk_X8_appendTyped_9 rfl rfl dX8_appendTyped_12 ?_
    refine mv_alen (v := (120 : Int32)) C 1 0 rfl rfl (by decide) dX8_appendTyped_15 ?_
    refine mv_icmp_ge (tgt := 39) C dX8_appendTyped_16 (by decide) (fun h4 => ?_) (fun h4 => ?_)
    · have hw := hw.1 h4
      exact mv_vret C dX8_appendTyped_39 hw
    · have hw := hw.2 h4
      refine mv_aload_n C dX8_appendTyped_19 rfl 0 rfl ?_
      refine mv_get (v := .ref (a 1)) C iw_X8_appendTyped_X8 0 rfl rfl 0 (by decide) lk_X8_appendTyped_9 rfl rfl dX8_appendTyped_20 ?_
      refine mv_aload_n C dX8_appendTyped_23 rfl 0 rfl ?_
      refine mv_get (v := .int (u.1 0)) C iw_X8_appendTyped_X8 0 rfl rfl 1 (by decide) lk_X8_appendTyped_59 rfl rfl dX8_appendTyped_24 ?_
      refine mv_topi (fun y5 ey5 => ?_)
      have hw := hw y5 ey5
      refine mv_iload_n C dX8_appendTyped_27 rfl 1 rfl ?_
      refine mv_iast (f := u.2 0) (ws1 := wA cA a (mPut u 0 y5.toNatClampNeg x1)) C 1 0 rfl rfl hw.1 rfl dX8_appendTyped_28 ?_
      refine mv_nm (f := wA cA a) (fun u6 eu6 => ?_)
      have hw := hw.2 u6 eu6
      refine mv_aload_n C dX8_appendTyped_29 rfl 0 rfl ?_
      refine mv_dup C dX8_appendTyped_30 rfl ?_
      refine mv_get (v := .int (u6.1 0)) C iw_X8_appendTyped_X8 0 rfl rfl 1 (by decide) lk_X8_appendTyped_59 rfl rfl dX8_appendTyped_31 ?_
      refine mv_topi (fun y7 ey7 => ?_)
      have hw := hw y7 ey7
      refine mv_iconst (v := (1 : Int32)) C dX8_appendTyped_34 (by decide) ?_
      refine mv_iadd C dX8_appendTyped_35 ?_
      refine mv_topi (fun y8 ey8 => ?_)
      have hw := hw y8 ey8
      refine mv_put (ty := .int) (ws1 := wA cA a (mSet u6 0 y8)) C iw_X8_appendTyped_X8 tyX8 tyX8_ok nmX8 0 rfl rfl 1 (by decide) lk_X8_appendTyped_59 rfl rfl rfl rfl rfl (Nat.le_of_ble_eq_true rfl) rfl dX8_appendTyped_36 ?_
      refine mv_nm (f := wA cA a) (fun u9 eu9 => ?_)
      have hw := hw u9 eu9
      exact mv_vret C dX8_appendTyped_39 hw
set_option maxHeartbeats 4000000 in
set_option maxRecDepth 100000 in
theorem wj_X8_type_68_ok (C : mC p s m args meth c cX8_type 5 wsX8_type RX8 (some .boolean) (dC, dI) vwCl [(cA, .int)] A) (hs : eA a A s) (hlev : 1 ≤ lev) {post : Int32 → mS → Prop} {K68 : Int32 → Int32 → mS → Prop} (hK68 : ∀ (x1 x3 : Int32) (u : mS), K68 x1 x3 u → mV p l e (mRm lev) s m args below meth c 5 (dC, dI) vwCl A 0 0 (mQi below args s (dC, dI) vwCl [(cA, .int)] (wA cA a) A (fun r w => (r = 0 ∨ r = 1) ∧ post r w)) (wA cA a u) 68 [(0, .ref (a 0)), (1, .int x1), (3, .int x3)] []) {x1 x3 : Int32} {u : mS} (hw : wj_X8_type_68 K68 post x1 x3 u) : mV p l e (mRm lev) s m args below meth c 5 (dC, dI) vwCl A 0 0 (mQi below args s (dC, dI) vwCl [(cA, .int)] (wA cA a) A (fun r w => (r = 0 ∨ r = 1) ∧ post r w)) (wA cA a u) 68 [(0, .ref (a 0)), (1, .int x1), (3, .int x3)] [] := by
  unfold wj_X8_type_68 at hw
  refine mv_iload_n C dX8_type_68 rfl 2 rfl ?_
  refine mv_if_lt (tgt := 92) C dX8_type_69 (by decide) (fun h14 => ?_) (fun h14 => ?_)
  · have hw := hw.1 h14
    refine mv_iconst (v := (1 : Int32)) C dX8_type_92 (by decide) ?_
    exact mv_zret C dX8_type_93 (Or.inr rfl) hw
  · have hw := hw.2 h14
    refine mv_aload_n C dX8_type_72 rfl 0 rfl ?_
    refine mv_iload_n C dX8_type_73 rfl 1 rfl ?_
    refine mv_bipush (v := (8 : Int32)) C dX8_type_74 (by decide) ?_
    refine mv_iload_n C dX8_type_76 rfl 2 rfl ?_
    refine mv_imul C dX8_type_77 ?_
    refine mv_topi (fun y15 ey15 => ?_)
    have hw := hw y15 ey15
    refine mv_ishr C dX8_type_78 ?_
    refine mv_topi (fun y16 ey16 => ?_)
    have hw := hw y16 ey16
    refine mv_sipush (v := (255 : Int32)) C dX8_type_79 (by decide) ?_
    refine mv_iand C dX8_type_82 ?_
    refine mv_topi (fun y17 ey17 => ?_)
    have hw := hw y17 ey17
    refine mv_callVv (f := wA cA a) (As := [.int y17]) (rest := []) C (eA_ok a) hs 0 rfl rfl (X8_appendTyped_met (l := l) (lev := lev - 1) (by omega) hw) (cwV 1 C.2.2.2.2.1 gX8_type_X8_appendTyped rfl rfl rfl (by decide +kernel) (mRm_le (by omega) (by decide))) rfl rfl (Nat.le_of_ble_eq_true rfl) dX8_type_83 ⟨Nat.le_refl 0, Nat.le_refl 0⟩ (fun u19 hw => ?_)
    obtain ⟨y20, ey20⟩ : ∃ z : Int32, z = x3 + (-1 : Int32) := ⟨_, rfl⟩
    have hw := hw y20 ey20
    refine mv_iinc (v := y20) (lv1 := [(3, .int y20), (0, .ref (a 0)), (1, .int x1)]) C dX8_type_86 2 rfl (by rw [ey20]; rfl) (by decide) rfl ?_
    refine mv_goto (tgt := 68) C dX8_type_89 (by decide) ?_
    refine mv_sub [1, 2, 0] rfl ?_
    exact hK68 x1 y20 u19 hw
set_option maxHeartbeats 4000000 in
set_option maxRecDepth 100000 in
theorem wj_X8_type_25_ok (C : mC p s m args meth c cX8_type 5 wsX8_type RX8 (some .boolean) (dC, dI) vwCl [(cA, .int)] A) (hs : eA a A s) (hlev : 1 ≤ lev) {post : Int32 → mS → Prop} {K25 : Int32 → Int32 → Int32 → mS → Prop} (hK25 : ∀ (x1 x2 x3 : Int32) (u : mS), K25 x1 x2 x3 u → mV p l e (mRm lev) s m args below meth c 5 (dC, dI) vwCl A 0 0 (mQi below args s (dC, dI) vwCl [(cA, .int)] (wA cA a) A (fun r w => (r = 0 ∨ r = 1) ∧ post r w)) (wA cA a u) 25 [(0, .ref (a 0)), (1, .int x1), (2, .int x2), (3, .int x3)] []) {x1 x2 x3 : Int32} {u : mS} (hw : wj_X8_type_25 K25 post x1 x2 x3 u) : mV p l e (mRm lev) s m args below meth c 5 (dC, dI) vwCl A 0 0 (mQi below args s (dC, dI) vwCl [(cA, .int)] (wA cA a) A (fun r w => (r = 0 ∨ r = 1) ∧ post r w)) (wA cA a u) 25 [(0, .ref (a 0)), (1, .int x1), (2, .int x2), (3, .int x3)] [] := by
  unfold wj_X8_type_25 at hw
  refine mv_iload_n C dX8_type_25 rfl 3 rfl ?_
  refine mv_iload_n C dX8_type_26 rfl 2 rfl ?_
  refine mv_icmp_ge (tgt := 64) C dX8_type_27 (by decide) (fun h6 => ?_) (fun h6 => ?_)
  · have hw := hw.1 h6
    refine mv_iload_n C dX8_type_64 rfl 2 rfl ?_
    refine mv_iconst (v := (1 : Int32)) C dX8_type_65 (by decide) ?_
    refine mv_isub C dX8_type_66 ?_
    refine mv_topi (fun y7 ey7 => ?_)
    have hw := hw y7 ey7
    refine mv_istore_n (lv1 := [(3, .int y7), (0, .ref (a 0)), (1, .int x1), (2, .int x2)]) C dX8_type_67 rfl (by decide) rfl ?_
    refine mv_sub [1, 2, 0] rfl ?_
    obtain ⟨n, hw⟩ := hw
    exact mL3_of (fun K hK b0 b1 b2 hw => wj_X8_type_68_ok C hs hlev hK hw) n x1 y7 u hw
  · have hw := hw.2 h6
    refine mv_iload_n C dX8_type_30 rfl 1 rfl ?_
    refine mv_bipush (v := (8 : Int32)) C dX8_type_31 (by decide) ?_
    refine mv_iload_n C dX8_type_33 rfl 3 rfl ?_
    refine mv_imul C dX8_type_34 ?_
    refine mv_topi (fun y8 ey8 => ?_)
    have hw := hw y8 ey8
    refine mv_ishr C dX8_type_35 ?_
    refine mv_topi (fun y9 ey9 => ?_)
    have hw := hw y9 ey9
    refine mv_sipush (v := (255 : Int32)) C dX8_type_36 (by decide) ?_
    refine mv_iand C dX8_type_39 ?_
    refine mv_topi (fun y10 ey10 => ?_)
    have hw := hw y10 ey10
    refine mv_istore (lv1 := [(4, .int y10), (0, .ref (a 0)), (1, .int x1), (2, .int x2), (3, .int x3)]) C dX8_type_40 (by decide) rfl ?_
    refine mv_iload C dX8_type_42 0 rfl ?_
    refine mv_bipush (v := (32 : Int32)) C dX8_type_44 (by decide) ?_
    refine mv_icmp_lt (tgt := 56) C dX8_type_46 (by decide) (fun h11 => ?_) (fun h11 => ?_)
    · have hw := hw.1 h11
      refine mv_iconst (v := (0 : Int32)) C dX8_type_56 (by decide) ?_
      exact mv_zret C dX8_type_57 (Or.inl rfl) hw
    · have hw := hw.2 h11
      refine mv_iload C dX8_type_49 0 rfl ?_
      refine mv_bipush (v := (126 : Int32)) C dX8_type_51 (by decide) ?_
      refine mv_icmp_le (tgt := 58) C dX8_type_53 (by decide) (fun h12 => ?_) (fun h12 => ?_)
      · have hw := hw.1 h12
        obtain ⟨y13, ey13⟩ : ∃ z : Int32, z = x3 + (1 : Int32) := ⟨_, rfl⟩
        have hw := hw y13 ey13
        refine mv_iinc (v := y13) (lv1 := [(3, .int y13), (4, .int y10), (0, .ref (a 0)), (1, .int x1), (2, .int x2)]) C dX8_type_58 4 rfl (by rw [ey13]; rfl) (by decide) rfl ?_
        refine mv_goto (tgt := 25) C dX8_type_61 (by decide) ?_
        refine mv_sub [2, 3, 4, 0] rfl ?_
        exact hK25 x1 x2 y13 u hw
      · have hw := hw.2 h12
        refine mv_iconst (v := (0 : Int32)) C dX8_type_56 (by decide) ?_
        exact mv_zret C dX8_type_57 (Or.inl rfl) hw
set_option maxHeartbeats 4000000 in
set_option maxRecDepth 100000 in
theorem X8_type_met (hlev : 1 ≤ lev) {x1 x2 : Int32} {u : mS} {post : Int32 → mS → Prop} (hw : wp_X8_type x1 x2 u post) : mKi l yX8_type wsX8_type lev (eA a) (dC, dI) vwCl [(cA, .int)] (wA cA a) [.ref (a 0), .int x1, .int x2] u (fun r w => (r = 0 ∨ r = 1) ∧ post r w) := by
  refine mKz_of (cc := cX8_type) (maxL := 5) (by decide) rfl rfl (Nat.le_of_ble_eq_true rfl) rfl ?_
  intro p e s m args below meth c A C hs
  unfold wp_X8_type at hw
  refine mv_iload_n C dX8_type_0 rfl 2 rfl ?_
  refine mv_iconst (v := (1 : Int32)) C dX8_type_1 (by decide) ?_
  refine mv_icmp_lt (tgt := 21) C dX8_type_2 (by decide) (fun h1 => ?_) (fun h1 => ?_)
  · have hw := hw.1 h1
    refine mv_iconst (v := (0 : Int32)) C dX8_type_21 (by decide) ?_
    exact mv_zret C dX8_type_22 (Or.inl rfl) hw
  · have hw := hw.2 h1
    refine mv_iload_n C dX8_type_5 rfl 2 rfl ?_
    refine mv_iconst (v := (4 : Int32)) C dX8_type_6 (by decide) ?_
    refine mv_icmp_gt (tgt := 21) C dX8_type_7 (by decide) (fun h2 => ?_) (fun h2 => ?_)
    · have hw := hw.1 h2
      refine mv_iconst (v := (0 : Int32)) C dX8_type_21 (by decide) ?_
      exact mv_zret C dX8_type_22 (Or.inl rfl) hw
    · have hw := hw.2 h2
      refine mv_aload_n C dX8_type_10 rfl 0 rfl ?_
      refine mv_get (v := .int (u.1 0)) C iw_X8_type_X8 0 rfl rfl 1 (by decide) lk_X8_type_59 rfl rfl dX8_type_11 ?_
      refine mv_topi (fun y3 ey3 => ?_)
      have hw := hw y3 ey3
      refine mv_iload_n C dX8_type_14 rfl 2 rfl ?_
      refine mv_iadd C dX8_type_15 ?_
      refine mv_topi (fun y4 ey4 => ?_)
      have hw := hw y4 ey4
      refine mv_bipush (v := (120 : Int32)) C dX8_type_16 (by decide) ?_
      refine mv_icmp_le (tgt := 23) C dX8_type_18 (by decide) (fun h5 => ?_) (fun h5 => ?_)
      · have hw := hw.1 h5
        refine mv_iconst (v := (0 : Int32)) C dX8_type_23 (by decide) ?_
        refine mv_istore_n (lv1 := [(3, .int (0 : Int32)), (0, .ref (a 0)), (1, .int x1), (2, .int x2)]) C dX8_type_24 rfl (by decide) rfl ?_
        refine mv_sub [1, 2, 3, 0] rfl ?_
        obtain ⟨n, hw⟩ := hw
        exact mL4_of (fun K hK b0 b1 b2 b3 hw => wj_X8_type_25_ok C hs hlev hK hw) n x1 x2 (0 : Int32) u hw
      · have hw := hw.2 h5
        refine mv_iconst (v := (0 : Int32)) C dX8_type_21 (by decide) ?_
        exact mv_zret C dX8_type_22 (Or.inl rfl) hw
set_option maxHeartbeats 4000000 in
set_option maxRecDepth 100000 in
theorem X5_restart_met (hlev : 0 ≤ lev) {u : mS} {post : mS → Prop} (hw : wp_X5_restart  u post) : mKv l yX5_restart wsX5_restart lev (eA a) (dC, dI) vwCl [(cA, .int)] (wA cA a) [.ref (a 2)] u post := by
  refine mKv_of (cc := cX5_restart) (maxL := 1) (by decide) rfl rfl (Nat.le_of_ble_eq_true rfl) rfl ?_
  intro p e s m args below meth c A C hs
  unfold wp_X5_restart at hw
  refine mv_aload_n C dX5_restart_0 rfl 0 rfl ?_
  refine mv_sipush (v := (480 : Int32)) C dX5_restart_1 (by decide) ?_
  refine mv_put (ty := .int) (ws1 := wA cA a (mSet u 1 (480 : Int32))) C iw_X5_restart_X5 tyX5 tyX5_ok nmX5 2 rfl rfl 4 (by decide) lk_X5_restart_24 rfl rfl rfl rfl rfl (Nat.le_of_ble_eq_true rfl) rfl dX5_restart_4 ?_
  refine mv_nm (f := wA cA a) (fun u1 eu1 => ?_)
  have hw := hw u1 eu1
  refine mv_aload_n C dX5_restart_7 rfl 0 rfl ?_
  refine mv_iconst (v := (-1 : Int32)) C dX5_restart_8 (by decide) ?_
  refine mv_put (ty := .int) (ws1 := wA cA a (mSet u1 2 (-1 : Int32))) C iw_X5_restart_X5 tyX5 tyX5_ok nmX5 2 rfl rfl 5 (by decide) lk_X5_restart_28 rfl rfl rfl rfl rfl (Nat.le_of_ble_eq_true rfl) rfl dX5_restart_9 ?_
  refine mv_nm (f := wA cA a) (fun u2 eu2 => ?_)
  have hw := hw u2 eu2
  exact mv_vret C dX5_restart_12 hw
set_option maxHeartbeats 4000000 in
set_option maxRecDepth 100000 in
theorem X3_isWhole_met (hlev : 0 ≤ lev) {u : mS} {post : Int32 → mS → Prop} (hw : wp_X3_isWhole  u post) : mKi l yX3_isWhole wsX3_isWhole lev (eA a) (dC, dI) vwCl [(cA, .int)] (wA cA a) [.ref (a 7)] u (fun r w => (r = 0 ∨ r = 1) ∧ post r w) := by
  refine mKz_of (cc := cX3_isWhole) (maxL := 1) (by decide) rfl rfl (Nat.le_of_ble_eq_true rfl) rfl ?_
  intro p e s m args below meth c A C hs
  unfold wp_X3_isWhole at hw
  refine mv_aload_n C dX3_isWhole_0 rfl 0 rfl ?_
  refine mv_get (v := .int (u.1 3)) C iw_X3_isWhole_X3 7 rfl rfl 1 (by decide) lk_X3_isWhole_20 rfl rfl dX3_isWhole_1 ?_
  refine mv_topi (fun y1 ey1 => ?_)
  have hw := hw y1 ey1
  refine mv_if_ne (tgt := 24) C dX3_isWhole_4 (by decide) (fun h2 => ?_) (fun h2 => ?_)
  · have hw := hw.1 h2
    refine mv_iconst (v := (0 : Int32)) C dX3_isWhole_24 (by decide) ?_
    exact mv_zret C dX3_isWhole_25 (Or.inl rfl) hw
  · have hw := hw.2 h2
    refine mv_aload_n C dX3_isWhole_7 rfl 0 rfl ?_
    refine mv_get (v := .ref (a 2)) C iw_X3_isWhole_X3 7 rfl rfl 0 (by decide) lk_X3_isWhole_9 rfl rfl dX3_isWhole_8 ?_
    refine mv_getN (v := .int (u.1 1)) C iw_X3_isWhole_X5 2 rfl rfl 4 (by decide) (hs.1 _ nw_0) rfl rfl dX3_isWhole_11 ?_
    refine mv_topi (fun y3 ey3 => ?_)
    have hw := hw y3 ey3
    refine mv_sipush (v := (480 : Int32)) C dX3_isWhole_14 (by decide) ?_
    refine mv_icmp_le (tgt := 24) C dX3_isWhole_17 (by decide) (fun h4 => ?_) (fun h4 => ?_)
    · have hw := hw.1 h4
      refine mv_iconst (v := (0 : Int32)) C dX3_isWhole_24 (by decide) ?_
      exact mv_zret C dX3_isWhole_25 (Or.inl rfl) hw
    · have hw := hw.2 h4
      refine mv_iconst (v := (1 : Int32)) C dX3_isWhole_20 (by decide) ?_
      refine mv_goto (tgt := 25) C dX3_isWhole_21 (by decide) ?_
      exact mv_zret C dX3_isWhole_25 (Or.inr rfl) hw
set_option maxHeartbeats 4000000 in
set_option maxRecDepth 100000 in
theorem wj_X3_read_1_59_ok (C : mC p s m args meth c cX3_read 7 wsX3_read RX3 (some .int) (dC, dI) vwCl [(cA, .int)] A) (hs : eA a A s) (hlev : 1 ≤ lev) {post : Int32 → mS → Prop} {K25 : Int32 → Int32 → Int32 → mS → Prop} (hK25 : ∀ (x3 x4 x5 : Int32) (u : mS), K25 x3 x4 x5 u → mV p l e (mRm lev) s m args below meth c 7 (dC, dI) vwCl A 0 0 (mQi below args s (dC, dI) vwCl [(cA, .int)] (wA cA a) A post) (wA cA a u) 25 [(0, .ref (a 7)), (1, .ref (a 1)), (3, .int x3), (4, .int x4), (5, .int x5)] []) {x3 x4 x5 z0 : Int32} {u : mS} (hw : wj_X3_read_1_59 K25 post x3 x4 x5 z0 u) : mV p l e (mRm lev) s m args below meth c 7 (dC, dI) vwCl A 0 0 (mQi below args s (dC, dI) vwCl [(cA, .int)] (wA cA a) A post) (wA cA a u) 59 [(0, .ref (a 7)), (1, .ref (a 1)), (3, .int x3), (4, .int x4), (5, .int x5)] [.int z0] := by
  unfold wj_X3_read_1_59 at hw
  refine mv_istore (lv1 := [(6, .int z0), (0, .ref (a 7)), (1, .ref (a 1)), (3, .int x3), (4, .int x4), (5, .int x5)]) C dX3_read_59 (by decide) rfl ?_
  refine mv_iload C dX3_read_61 0 rfl ?_
  refine mv_if_ne (tgt := 69) C dX3_read_63 (by decide) (fun h9 => ?_) (fun h9 => ?_)
  · have hw := hw.1 h9
    refine mv_iload C dX3_read_69 4 rfl ?_
    refine mv_iload C dX3_read_71 0 rfl ?_
    refine mv_iadd C dX3_read_73 ?_
    refine mv_topi (fun y10 ey10 => ?_)
    have hw := hw y10 ey10
    refine mv_istore (lv1 := [(4, .int y10), (6, .int z0), (0, .ref (a 7)), (1, .ref (a 1)), (3, .int x3), (5, .int x5)]) C dX3_read_74 (by decide) rfl ?_
    obtain ⟨y11, ey11⟩ : ∃ z : Int32, z = x5 + (1 : Int32) := ⟨_, rfl⟩
    have hw := hw y11 ey11
    refine mv_iinc (v := y11) (lv1 := [(5, .int y11), (4, .int y10), (6, .int z0), (0, .ref (a 7)), (1, .ref (a 1)), (3, .int x3)]) C dX3_read_76 5 rfl (by rw [ey11]; rfl) (by decide) rfl ?_
    refine mv_goto (tgt := 25) C dX3_read_79 (by decide) ?_
    refine mv_sub [3, 4, 5, 1, 0] rfl ?_
    exact hK25 x3 y10 y11 u hw
  · have hw := hw.2 h9
    refine mv_iload C dX3_read_66 4 rfl ?_
    exact mv_iret C dX3_read_68 hw
set_option maxHeartbeats 4000000 in
set_option maxRecDepth 100000 in
theorem wj_X3_read_1_82_ok (C : mC p s m args meth c cX3_read 7 wsX3_read RX3 (some .int) (dC, dI) vwCl [(cA, .int)] A) (hs : eA a A s) (hlev : 1 ≤ lev) {post : Int32 → mS → Prop} {x3 : Int32} {u : mS} (hw : wj_X3_read_1_82 post x3 u) : mV p l e (mRm lev) s m args below meth c 7 (dC, dI) vwCl A 0 0 (mQi below args s (dC, dI) vwCl [(cA, .int)] (wA cA a) A post) (wA cA a u) 82 [(0, .ref (a 7)), (3, .int x3)] [] := by
  unfold wj_X3_read_1_82 at hw
  refine mv_aload_n C dX3_read_82 rfl 0 rfl ?_
  refine mv_callVi (f := wA cA a) (As := []) (rest := []) C (eA_ok a) hs 7 rfl rfl (X3_isWhole_met (l := l) (lev := lev - 1) (by omega) hw) (cwV 0 C.2.2.2.2.1 gX3_read_X3_isWhole rfl rfl rfl (by decide +kernel) (mRm_le (by omega) (by decide))) rfl rfl (Nat.le_of_ble_eq_true rfl) dX3_read_83 ⟨Nat.le_refl 0, Nat.le_refl 0⟩ (fun r12 u13 hw => ?_)
  obtain ⟨gr12, hw⟩ := hw
  refine mv_if_eq (tgt := 93) C dX3_read_86 (by decide) (fun h14 => ?_) (fun h14 => ?_)
  · have hw := hw.1 h14
    refine mv_iload_n C dX3_read_93 rfl 1 rfl ?_
    exact mv_iret C dX3_read_94 hw
  · have hw := hw.2 h14
    refine mv_iconst (v := (-1 : Int32)) C dX3_read_89 (by decide) ?_
    refine mv_goto (tgt := 94) C dX3_read_90 (by decide) ?_
    exact mv_iret C dX3_read_94 hw
set_option maxHeartbeats 4000000 in
set_option maxRecDepth 100000 in
theorem wj_X3_read_1_25_ok (C : mC p s m args meth c cX3_read 7 wsX3_read RX3 (some .int) (dC, dI) vwCl [(cA, .int)] A) (hs : eA a A s) (hlev : 1 ≤ lev) {post : Int32 → mS → Prop} {K25 : Int32 → Int32 → Int32 → mS → Prop} (hK25 : ∀ (x3 x4 x5 : Int32) (u : mS), K25 x3 x4 x5 u → mV p l e (mRm lev) s m args below meth c 7 (dC, dI) vwCl A 0 0 (mQi below args s (dC, dI) vwCl [(cA, .int)] (wA cA a) A post) (wA cA a u) 25 [(0, .ref (a 7)), (1, .ref (a 1)), (3, .int x3), (4, .int x4), (5, .int x5)] []) {x3 x4 x5 : Int32} {u : mS} (hw : wj_X3_read_1_25 K25 post x3 x4 x5 u) : mV p l e (mRm lev) s m args below meth c 7 (dC, dI) vwCl A 0 0 (mQi below args s (dC, dI) vwCl [(cA, .int)] (wA cA a) A post) (wA cA a u) 25 [(0, .ref (a 7)), (1, .ref (a 1)), (3, .int x3), (4, .int x4), (5, .int x5)] [] := by
  unfold wj_X3_read_1_25 at hw
  refine mv_iload C dX3_read_25 4 rfl ?_
  refine mv_ldc (v := (1000000 : Int32)) C mw_X3_read__constant_RX3_30_1000000_Int32_ dX3_read_27 ?_
  refine mv_icmp_ge (tgt := 82) C dX3_read_29 (by decide) (fun h5 => ?_) (fun h5 => ?_)
  · have hw := hw.1 h5
    refine mv_sub [0, 2] rfl ?_
    exact wj_X3_read_1_82_ok C hs hlev hw
  · have hw := hw.2 h5
    refine mv_iload C dX3_read_32 3 rfl ?_
    refine mv_iload_n C dX3_read_34 rfl 2 rfl ?_
    refine mv_icmp_ge (tgt := 82) C dX3_read_35 (by decide) (fun h6 => ?_) (fun h6 => ?_)
    · have hw := hw.1 h6
      refine mv_sub [0, 2] rfl ?_
      exact wj_X3_read_1_82_ok C hs hlev hw
    · have hw := hw.2 h6
      refine mv_aload_n C dX3_read_38 rfl 1 rfl ?_
      refine mv_iload C dX3_read_39 3 rfl ?_
      refine mv_iald (f := u.2 0) C 1 0 rfl rfl hw.1 dX3_read_41 ?_
      refine mv_topi (fun y7 ey7 => ?_)
      have hw := hw.2 y7 ey7
      refine mv_bipush (v := (32 : Int32)) C dX3_read_42 (by decide) ?_
      refine mv_icmp_ne (tgt := 51) C dX3_read_44 (by decide) (fun h8 => ?_) (fun h8 => ?_)
      · have hw := hw.1 h8
        refine mv_aload_n C dX3_read_51 rfl 0 rfl ?_
        refine mv_aload_n C dX3_read_52 rfl 1 rfl ?_
        refine mv_iload_n C dX3_read_53 rfl 2 rfl ?_
        refine mv_iload C dX3_read_54 3 rfl ?_
        exact hw.elim
      · have hw := hw.2 h8
        refine mv_iconst (v := (1 : Int32)) C dX3_read_47 (by decide) ?_
        refine mv_goto (tgt := 59) C dX3_read_48 (by decide) ?_
        exact wj_X3_read_1_59_ok C hs hlev hK25 hw
set_option maxHeartbeats 4000000 in
set_option maxRecDepth 100000 in
theorem X3_read_1_met (hlev : 1 ≤ lev) {x2 : Int32} {u : mS} {post : Int32 → mS → Prop} (hw : wp_X3_read_1 x2 u post) : mKi l yX3_read wsX3_read lev (eA a) (dC, dI) vwCl [(cA, .int)] (wA cA a) [.ref (a 7), .ref (a 1), .int x2] u post := by
  refine mKi_of (cc := cX3_read) (maxL := 7) (by decide) rfl rfl (Nat.le_of_ble_eq_true rfl) rfl ?_
  intro p e s m args below meth c A C hs
  unfold wp_X3_read_1 at hw
  refine mv_aload_n C dX3_read_0 rfl 0 rfl ?_
  refine mv_get (v := .ref (a 2)) C iw_X3_read_X3 7 rfl rfl 0 (by decide) lk_X3_read_9 rfl rfl dX3_read_1 ?_
  refine mv_callVv (f := wA cA a) (As := []) (rest := []) C (eA_ok a) hs 2 rfl rfl (X5_restart_met (l := l) (lev := lev - 1) (by omega) hw) (cwV 0 C.2.2.2.2.1 gX3_read_X5_restart rfl rfl rfl (by decide +kernel) (mRm_le (by omega) (by decide))) rfl rfl (Nat.le_of_ble_eq_true rfl) dX3_read_4 ⟨Nat.le_refl 0, Nat.le_refl 0⟩ (fun u2 hw => ?_)
  refine mv_aload_n C dX3_read_7 rfl 0 rfl ?_
  refine mv_iconst (v := (0 : Int32)) C dX3_read_8 (by decide) ?_
  refine mv_put (ty := .int) (ws1 := wA cA a (mSet u2 3 (0 : Int32))) C iw_X3_read_X3 tyX3 tyX3_ok nmX3 7 rfl rfl 1 (by decide) lk_X3_read_20 rfl rfl rfl rfl rfl (Nat.le_of_ble_eq_true rfl) rfl dX3_read_9 ?_
  refine mv_nm (f := wA cA a) (fun u3 eu3 => ?_)
  have hw := hw u3 eu3
  refine mv_iload_n C dX3_read_12 rfl 2 rfl ?_
  refine mv_aload_n C dX3_read_13 rfl 1 rfl ?_
  refine mv_alen (v := (120 : Int32)) C 1 0 rfl rfl (by decide) dX3_read_14 ?_
  refine mv_mmin C ml_X3_read_24 ms_X3_read_min mi_X3_read_Math mc_X3_read_min (by show 1 ≤ lev; omega) (by show _ ≤ 64 * lev; exact Nat.le_trans (Nat.le_of_ble_eq_true rfl : _ ≤ 64) (by omega)) (Nat.le_refl 0) (Nat.le_refl 0) dX3_read_15 ?_
  refine mv_topi (fun y4 ey4 => ?_)
  have hw := hw y4 ey4
  refine mv_istore_n (lv1 := [(3, .int y4), (0, .ref (a 7)), (1, .ref (a 1)), (2, .int x2)]) C dX3_read_18 rfl (by decide) rfl ?_
  refine mv_iconst (v := (0 : Int32)) C dX3_read_19 (by decide) ?_
  refine mv_istore (lv1 := [(4, .int (0 : Int32)), (3, .int y4), (0, .ref (a 7)), (1, .ref (a 1)), (2, .int x2)]) C dX3_read_20 (by decide) rfl ?_
  refine mv_iconst (v := (0 : Int32)) C dX3_read_22 (by decide) ?_
  refine mv_istore (lv1 := [(5, .int (0 : Int32)), (4, .int (0 : Int32)), (3, .int y4), (0, .ref (a 7)), (1, .ref (a 1)), (2, .int x2)]) C dX3_read_23 (by decide) rfl ?_
  refine mv_sub [3, 4, 2, 1, 0] rfl ?_
  obtain ⟨n, hw⟩ := hw
  exact mL4_of (fun K hK b0 b1 b2 b3 hw => wj_X3_read_1_25_ok C hs hlev hK hw) n y4 (0 : Int32) (0 : Int32) u3 hw
set_option maxHeartbeats 4000000 in
set_option maxRecDepth 100000 in
theorem X8_takeTyped_met (hlev : 2 ≤ lev) {u : mS} {post : Int32 → mS → Prop} (hw : wp_X8_takeTyped  u post) : mKi l yX8_takeTyped wsX8_takeTyped lev (eA a) (dC, dI) vwCl [(cA, .int)] (wA cA a) [.ref (a 0)] u post := by
  refine mKi_of (cc := cX8_takeTyped) (maxL := 2) (by decide) rfl rfl (Nat.le_of_ble_eq_true rfl) rfl ?_
  intro p e s m args below meth c A C hs
  unfold wp_X8_takeTyped at hw
  refine mv_aload_n C dX8_takeTyped_0 rfl 0 rfl ?_
  refine mv_get (v := .ref (a 7)) C iw_X8_takeTyped_X8 0 rfl rfl 3 (by decide) lk_X8_takeTyped_25 rfl rfl dX8_takeTyped_1 ?_
  refine mv_aload_n C dX8_takeTyped_4 rfl 0 rfl ?_
  refine mv_get (v := .ref (a 1)) C iw_X8_takeTyped_X8 0 rfl rfl 0 (by decide) lk_X8_takeTyped_9 rfl rfl dX8_takeTyped_5 ?_
  refine mv_aload_n C dX8_takeTyped_8 rfl 0 rfl ?_
  refine mv_get (v := .int (u.1 0)) C iw_X8_takeTyped_X8 0 rfl rfl 1 (by decide) lk_X8_takeTyped_59 rfl rfl dX8_takeTyped_9 ?_
  refine mv_topi (fun y1 ey1 => ?_)
  have hw := hw y1 ey1
  refine mv_callVi (f := wA cA a) (As := [.ref (a 1), .int y1]) (rest := []) C (eA_ok a) hs 7 rfl rfl (X3_read_1_met (l := l) (lev := lev - 1) (by omega) hw) (cwV 2 C.2.2.2.2.1 gX8_takeTyped_X3_read rfl rfl rfl (by decide +kernel) (mRm_le (by omega) (by decide))) rfl rfl (Nat.le_of_ble_eq_true rfl) dX8_takeTyped_12 ⟨Nat.le_refl 0, Nat.le_refl 0⟩ (fun r2 u3 hw => ?_)
  refine mv_istore_n (lv1 := [(1, .int r2), (0, .ref (a 0))]) C dX8_takeTyped_15 rfl (by decide) rfl ?_
  refine mv_aload_n C dX8_takeTyped_16 rfl 1 rfl ?_
  refine mv_iconst (v := (0 : Int32)) C dX8_takeTyped_17 (by decide) ?_
  refine mv_put (ty := .int) (ws1 := wA cA a (mSet u3 0 (0 : Int32))) C iw_X8_takeTyped_X8 tyX8 tyX8_ok nmX8 0 rfl rfl 1 (by decide) lk_X8_takeTyped_59 rfl rfl rfl rfl rfl (Nat.le_of_ble_eq_true rfl) rfl dX8_takeTyped_18 ?_
  refine mv_nm (f := wA cA a) (fun u4 eu4 => ?_)
  have hw := hw u4 eu4
  refine mv_iload_n C dX8_takeTyped_21 rfl 0 rfl ?_
  exact mv_iret C dX8_takeTyped_22 hw
set_option maxHeartbeats 4000000 in
set_option maxRecDepth 100000 in
theorem X8_rules_met (hlev : 3 ≤ lev) {u : mS} {post : Int32 → mS → Prop} (hw : wp_X8_rules  u post) : mKi l yX8_rules wsX8_rules lev (eA a) (dC, dI) vwCl [(cA, .int)] (wA cA a) [.ref (a 0)] u post := by
  refine mKi_of (cc := cX8_rules) (maxL := 4) (by decide) rfl rfl (Nat.le_of_ble_eq_true rfl) rfl ?_
  intro p e s m args below meth c A C hs
  unfold wp_X8_rules at hw
  refine mv_aload_n C dX8_rules_0 rfl 0 rfl ?_
  refine mv_callVi (f := wA cA a) (As := []) (rest := []) C (eA_ok a) hs 0 rfl rfl (X8_takeTyped_met (l := l) (lev := lev - 1) (by omega) hw) (cwV 0 C.2.2.2.2.1 gX8_rules_X8_takeTyped rfl rfl rfl (by decide +kernel) (mRm_le (by omega) (by decide))) rfl rfl (Nat.le_of_ble_eq_true rfl) dX8_rules_1 ⟨Nat.le_refl 0, Nat.le_refl 0⟩ (fun r1 u2 hw => ?_)
  refine mv_istore_n (lv1 := [(1, .int r1), (0, .ref (a 0))]) C dX8_rules_4 rfl (by decide) rfl ?_
  refine mv_iload_n C dX8_rules_5 rfl 0 rfl ?_
  refine mv_if_lt (tgt := 13) C dX8_rules_6 (by decide) (fun h3 => ?_) (fun h3 => ?_)
  · have hw := hw.1 h3
    refine mv_aload_n C dX8_rules_13 rfl 1 rfl ?_
    refine mv_get (v := .ref (a 8)) C iw_X8_rules_X8 0 rfl rfl 4 (by decide) lk_X8_rules_32 rfl rfl dX8_rules_14 ?_
    refine mv_sipush (v := (480 : Int32)) C dX8_rules_17 (by decide) ?_
    exact hw.elim
  · have hw := hw.2 h3
    refine mv_iconst (v := (-1 : Int32)) C dX8_rules_9 (by decide) ?_
    refine mv_iload_n C dX8_rules_10 rfl 0 rfl ?_
    refine mv_isub C dX8_rules_11 ?_
    refine mv_topi (fun y4 ey4 => ?_)
    have hw := hw y4 ey4
    exact mv_iret C dX8_rules_12 hw
set_option maxHeartbeats 4000000 in
set_option maxRecDepth 100000 in
theorem X2_clear_met (hlev : 0 ≤ lev) {u : mS} {post : mS → Prop} (hw : wp_X2_clear  u post) : mKv l yX2_clear wsX2_clear lev (eA a) (dC, dI) vwCl [(cA, .int)] (wA cA a) [.ref (a 14)] u post := by
  refine mKv_of (cc := cX2_clear) (maxL := 1) (by decide) rfl rfl (Nat.le_of_ble_eq_true rfl) rfl ?_
  intro p e s m args below meth c A C hs
  unfold wp_X2_clear at hw
  refine mv_aload_n C dX2_clear_0 rfl 0 rfl ?_
  refine mv_iconst (v := (0 : Int32)) C dX2_clear_1 (by decide) ?_
  refine mv_put (ty := .int) (ws1 := wA cA a (mSet u 6 (0 : Int32))) C iw_X2_clear_X2 tyX2 tyX2_ok nmX2 14 rfl rfl 1 (by decide) lk_X2_clear_15 rfl rfl rfl rfl rfl (Nat.le_of_ble_eq_true rfl) rfl dX2_clear_2 ?_
  refine mv_nm (f := wA cA a) (fun u1 eu1 => ?_)
  have hw := hw u1 eu1
  refine mv_aload_n C dX2_clear_5 rfl 0 rfl ?_
  refine mv_iconst (v := (0 : Int32)) C dX2_clear_6 (by decide) ?_
  refine mv_put (ty := .int) (ws1 := wA cA a (mSet u1 7 (0 : Int32))) C iw_X2_clear_X2 tyX2 tyX2_ok nmX2 14 rfl rfl 2 (by decide) lk_X2_clear_19 rfl rfl rfl rfl rfl (Nat.le_of_ble_eq_true rfl) rfl dX2_clear_7 ?_
  refine mv_nm (f := wA cA a) (fun u2 eu2 => ?_)
  have hw := hw u2 eu2
  exact mv_vret C dX2_clear_10 hw
set_option maxHeartbeats 4000000 in
set_option maxRecDepth 100000 in
theorem X7_forgetExpansion_met (hlev : 0 ≤ lev) {u : mS} {post : mS → Prop} (hw : wp_X7_forgetExpansion  u post) : mKv l yX7_forgetExpansion wsX7_forgetExpansion lev (eA a) (dC, dI) vwCl [(cA, .int)] (wA cA a) [.ref (a 9)] u post := by
  refine mKv_of (cc := cX7_forgetExpansion) (maxL := 1) (by decide) rfl rfl (Nat.le_of_ble_eq_true rfl) rfl ?_
  intro p e s m args below meth c A C hs
  unfold wp_X7_forgetExpansion at hw
  refine mv_aload_n C dX7_forgetExpansion_0 rfl 0 rfl ?_
  refine mv_getsN C hs.2.1 (hs.1 _ nw_1) dX7_forgetExpansion_1 ?_
  refine mv_tlen (v := (8 : Int32)) C hs.2.2 (by decide) dX7_forgetExpansion_4 ?_
  refine mv_aload_n C dX7_forgetExpansion_5 rfl 0 rfl ?_
  refine mv_get (v := .int (u.1 5)) C iw_X7_forgetExpansion_X7 9 rfl rfl 5 (by decide) lk_X7_forgetExpansion_37 rfl rfl dX7_forgetExpansion_6 ?_
  refine mv_topi (fun y1 ey1 => ?_)
  have hw := hw y1 ey1
  refine mv_iadd C dX7_forgetExpansion_9 ?_
  refine mv_topi (fun y2 ey2 => ?_)
  have hw := hw y2 ey2
  refine mv_put (ty := .int) (ws1 := wA cA a (mSet u 4 y2)) C iw_X7_forgetExpansion_X7 tyX7 tyX7_ok nmX7 9 rfl rfl 4 (by decide) lk_X7_forgetExpansion_33 rfl rfl rfl rfl rfl (Nat.le_of_ble_eq_true rfl) rfl dX7_forgetExpansion_10 ?_
  refine mv_nm (f := wA cA a) (fun u3 eu3 => ?_)
  have hw := hw u3 eu3
  exact mv_vret C dX7_forgetExpansion_13 hw
set_option maxHeartbeats 4000000 in
set_option maxRecDepth 100000 in
theorem X0_start_met (hlev : 1 ≤ lev) {x1 : Int32} {u : mS} {post : mS → Prop} (hw : wp_X0_start x1 u post) : mKv l yX0_start wsX0_start lev (eA a) (dC, dI) vwCl [(cA, .int)] (wA cA a) [.ref (a 16), .int x1] u post := by
  refine mKv_of (cc := cX0_start) (maxL := 2) (by decide) rfl rfl (Nat.le_of_ble_eq_true rfl) rfl ?_
  intro p e s m args below meth c A C hs
  unfold wp_X0_start at hw
  refine mv_aload_n C dX0_start_0 rfl 0 rfl ?_
  refine mv_iconst (v := (0 : Int32)) C dX0_start_1 (by decide) ?_
  refine mv_put (ty := .int) (ws1 := wA cA a (mSet u 8 (0 : Int32))) C iw_X0_start_X0 tyX0 tyX0_ok nmX0 16 rfl rfl 5 (by decide) lk_X0_start_36 rfl rfl rfl rfl rfl (Nat.le_of_ble_eq_true rfl) rfl dX0_start_2 ?_
  refine mv_nm (f := wA cA a) (fun u1 eu1 => ?_)
  have hw := hw u1 eu1
  refine mv_aload_n C dX0_start_5 rfl 0 rfl ?_
  refine mv_iconst (v := (0 : Int32)) C dX0_start_6 (by decide) ?_
  refine mv_put (ty := .int) (ws1 := wA cA a (mSet u1 9 (0 : Int32))) C iw_X0_start_X0 tyX0 tyX0_ok nmX0 16 rfl rfl 6 (by decide) lk_X0_start_40 rfl rfl rfl rfl rfl (Nat.le_of_ble_eq_true rfl) rfl dX0_start_7 ?_
  refine mv_nm (f := wA cA a) (fun u2 eu2 => ?_)
  have hw := hw u2 eu2
  refine mv_aload_n C dX0_start_10 rfl 0 rfl ?_
  refine mv_iconst (v := (0 : Int32)) C dX0_start_11 (by decide) ?_
  refine mv_put (ty := .int) (ws1 := wA cA a (mSet u2 10 (0 : Int32))) C iw_X0_start_X0 tyX0 tyX0_ok nmX0 16 rfl rfl 7 (by decide) lk_X0_start_43 rfl rfl rfl rfl rfl (Nat.le_of_ble_eq_true rfl) rfl dX0_start_12 ?_
  refine mv_nm (f := wA cA a) (fun u3 eu3 => ?_)
  have hw := hw u3 eu3
  refine mv_aload_n C dX0_start_15 rfl 0 rfl ?_
  refine mv_iload_n C dX0_start_16 rfl 1 rfl ?_
  refine mv_put (ty := .int) (ws1 := wA cA a (mSet u3 11 x1)) C iw_X0_start_X0 tyX0 tyX0_ok nmX0 16 rfl rfl 8 (by decide) lk_X0_start_46 rfl rfl rfl rfl rfl (Nat.le_of_ble_eq_true rfl) rfl dX0_start_17 ?_
  refine mv_nm (f := wA cA a) (fun u4 eu4 => ?_)
  have hw := hw u4 eu4
  refine mv_aload_n C dX0_start_20 rfl 0 rfl ?_
  refine mv_get (v := .ref (a 9)) C iw_X0_start_X0 16 rfl rfl 2 (by decide) lk_X0_start_19 rfl rfl dX0_start_21 ?_
  refine mv_callVv (f := wA cA a) (As := []) (rest := []) C (eA_ok a) hs 9 rfl rfl (X7_forgetExpansion_met (l := l) (lev := lev - 1) (by omega) hw) (cwV 0 C.2.2.2.2.1 gX0_start_X7_forgetExpansion rfl rfl rfl (by decide +kernel) (mRm_le (by omega) (by decide))) rfl rfl (Nat.le_of_ble_eq_true rfl) dX0_start_24 ⟨Nat.le_refl 0, Nat.le_refl 0⟩ (fun u6 hw => ?_)
  exact mv_vret C dX0_start_27 hw
set_option maxHeartbeats 4000000 in
set_option maxRecDepth 100000 in
theorem wj_X8_expand_10_ok (C : mC p s m args meth c cX8_expand 3 wsX8_expand RX8 (some .int) (dC, dI) vwCl [(cA, .int)] A) (hs : eA a A s) (hlev : 3 ≤ lev) {post : Int32 → mS → Prop} {u : mS} (hw : wj_X8_expand_10 post  u) : mV p l e (mRm lev) s m args below meth c 3 (dC, dI) vwCl A 0 0 (mQi below args s (dC, dI) vwCl [(cA, .int)] (wA cA a) A post) (wA cA a u) 10 [] [] := by
  unfold wj_X8_expand_10 at hw
  refine mv_sipush (v := (-7000 : Int32)) C dX8_expand_10 (by decide) ?_
  exact mv_iret C dX8_expand_13 hw
set_option maxHeartbeats 4000000 in
set_option maxRecDepth 100000 in
theorem wj_X8_expand_39_ok (C : mC p s m args meth c cX8_expand 3 wsX8_expand RX8 (some .int) (dC, dI) vwCl [(cA, .int)] A) (hs : eA a A s) (hlev : 3 ≤ lev) {post : Int32 → mS → Prop} {x2 z0 : Int32} {u : mS} (hw : wj_X8_expand_39 post x2 z0 u) : mV p l e (mRm lev) s m args below meth c 3 (dC, dI) vwCl A 0 0 (mQi below args s (dC, dI) vwCl [(cA, .int)] (wA cA a) A post) (wA cA a u) 39 [(0, .ref (a 0)), (2, .int x2)] [.int z0, .ref (a 16)] := by
  unfold wj_X8_expand_39 at hw
  refine mv_callVv (f := wA cA a) (As := [.int z0]) (rest := []) C (eA_ok a) hs 16 rfl rfl (X0_start_met (l := l) (lev := lev - 1) (by omega) hw) (cwV 1 C.2.2.2.2.1 gX8_expand_X0_start rfl rfl rfl (by decide +kernel) (mRm_le (by omega) (by decide))) rfl rfl (Nat.le_of_ble_eq_true rfl) dX8_expand_39 ⟨Nat.le_refl 0, Nat.le_refl 0⟩ (fun u9 hw => ?_)
  refine mv_iload_n C dX8_expand_42 rfl 1 rfl ?_
  refine mv_if_lt (tgt := 50) C dX8_expand_43 (by decide) (fun h10 => ?_) (fun h10 => ?_)
  · have hw := hw.1 h10
    refine mv_aload_n C dX8_expand_50 rfl 0 rfl ?_
    refine mv_get (v := .ref (a 16)) C iw_X8_expand_X8 0 rfl rfl 7 (by decide) lk_X8_expand_55 rfl rfl dX8_expand_51 ?_
    refine mv_sipush (v := (480 : Int32)) C dX8_expand_54 (by decide) ?_
    refine mv_iconst (v := (0 : Int32)) C dX8_expand_57 (by decide) ?_
    exact hw.elim
  · have hw := hw.2 h10
    refine mv_iconst (v := (-1 : Int32)) C dX8_expand_46 (by decide) ?_
    refine mv_iload_n C dX8_expand_47 rfl 1 rfl ?_
    refine mv_isub C dX8_expand_48 ?_
    refine mv_topi (fun y11 ey11 => ?_)
    have hw := hw y11 ey11
    exact mv_iret C dX8_expand_49 hw
set_option maxHeartbeats 4000000 in
set_option maxRecDepth 100000 in
theorem X8_expand_met (hlev : 3 ≤ lev) {x1 : Int32} {u : mS} {post : Int32 → mS → Prop} (hw : wp_X8_expand x1 u post) : mKi l yX8_expand wsX8_expand lev (eA a) (dC, dI) vwCl [(cA, .int)] (wA cA a) [.ref (a 0), .int x1] u post := by
  refine mKi_of (cc := cX8_expand) (maxL := 3) (by decide) rfl rfl (Nat.le_of_ble_eq_true rfl) rfl ?_
  intro p e s m args below meth c A C hs
  unfold wp_X8_expand at hw
  refine mv_iload_n C dX8_expand_0 rfl 1 rfl ?_
  refine mv_if_lt (tgt := 10) C dX8_expand_1 (by decide) (fun h1 => ?_) (fun h1 => ?_)
  · have hw := hw.1 h1
    refine mv_sub [] rfl ?_
    exact wj_X8_expand_10_ok C hs hlev hw
  · have hw := hw.2 h1
    refine mv_iload_n C dX8_expand_4 rfl 1 rfl ?_
    refine mv_bipush (v := (8 : Int32)) C dX8_expand_5 (by decide) ?_
    refine mv_icmp_le (tgt := 14) C dX8_expand_7 (by decide) (fun h2 => ?_) (fun h2 => ?_)
    · have hw := hw.1 h2
      refine mv_aload_n C dX8_expand_14 rfl 0 rfl ?_
      refine mv_callVi (f := wA cA a) (As := []) (rest := []) C (eA_ok a) hs 0 rfl rfl (X8_takeTyped_met (l := l) (lev := lev - 1) (by omega) hw) (cwV 0 C.2.2.2.2.1 gX8_expand_X8_takeTyped rfl rfl rfl (by decide +kernel) (mRm_le (by omega) (by decide))) rfl rfl (Nat.le_of_ble_eq_true rfl) dX8_expand_15 ⟨Nat.le_refl 0, Nat.le_refl 0⟩ (fun r3 u4 hw => ?_)
      refine mv_istore_n (lv1 := [(2, .int r3), (0, .ref (a 0)), (1, .int x1)]) C dX8_expand_18 rfl (by decide) rfl ?_
      refine mv_aload_n C dX8_expand_19 rfl 1 rfl ?_
      refine mv_get (v := .ref (a 14)) C iw_X8_expand_X8 0 rfl rfl 6 (by decide) lk_X8_expand_46 rfl rfl dX8_expand_20 ?_
      refine mv_callVv (f := wA cA a) (As := []) (rest := []) C (eA_ok a) hs 14 rfl rfl (X2_clear_met (l := l) (lev := lev - 1) (by omega) hw) (cwV 0 C.2.2.2.2.1 gX8_expand_X2_clear rfl rfl rfl (by decide +kernel) (mRm_le (by omega) (by decide))) rfl rfl (Nat.le_of_ble_eq_true rfl) dX8_expand_23 ⟨Nat.le_refl 0, Nat.le_refl 0⟩ (fun u6 hw => ?_)
      refine mv_aload_n C dX8_expand_26 rfl 1 rfl ?_
      refine mv_get (v := .ref (a 16)) C iw_X8_expand_X8 0 rfl rfl 7 (by decide) lk_X8_expand_55 rfl rfl dX8_expand_27 ?_
      refine mv_iload_n C dX8_expand_30 rfl 0 rfl ?_
      refine mv_if_lt (tgt := 38) C dX8_expand_31 (by decide) (fun h7 => ?_) (fun h7 => ?_)
      · have hw := hw.1 h7
        refine mv_iload_n C dX8_expand_38 rfl 2 rfl ?_
        refine mv_sub [1, 0] rfl ?_
        exact wj_X8_expand_39_ok C hs hlev hw
      · have hw := hw.2 h7
        refine mv_iconst (v := (0 : Int32)) C dX8_expand_34 (by decide) ?_
        refine mv_goto (tgt := 39) C dX8_expand_35 (by decide) ?_
        refine mv_sub [1, 0] rfl ?_
        exact wj_X8_expand_39_ok C hs hlev hw
    · have hw := hw.2 h2
      refine mv_sub [] rfl ?_
      exact wj_X8_expand_10_ok C hs hlev hw
set_option maxHeartbeats 4000000 in
set_option maxRecDepth 100000 in
theorem X2_charAt_met (hlev : 0 ≤ lev) {x1 : Int32} {u : mS} {post : Int32 → mS → Prop} (hw : wp_X2_charAt x1 u post) : mKi l yX2_charAt wsX2_charAt lev (eA a) (dC, dI) vwCl [(cA, .int)] (wA cA a) [.ref (a 14), .int x1] u post := by
  refine mKi_of (cc := cX2_charAt) (maxL := 2) (by decide) rfl rfl (Nat.le_of_ble_eq_true rfl) rfl ?_
  intro p e s m args below meth c A C hs
  unfold wp_X2_charAt at hw
  refine mv_iload_n C dX2_charAt_0 rfl 1 rfl ?_
  refine mv_if_lt (tgt := 28) C dX2_charAt_1 (by decide) (fun h1 => ?_) (fun h1 => ?_)
  · have hw := hw.1 h1
    refine mv_iconst (v := (-1 : Int32)) C dX2_charAt_28 (by decide) ?_
    exact mv_iret C dX2_charAt_29 hw
  · have hw := hw.2 h1
    refine mv_iload_n C dX2_charAt_4 rfl 1 rfl ?_
    refine mv_aload_n C dX2_charAt_5 rfl 0 rfl ?_
    refine mv_get (v := .int (u.1 6)) C iw_X2_charAt_X2 14 rfl rfl 1 (by decide) lk_X2_charAt_15 rfl rfl dX2_charAt_6 ?_
    refine mv_topi (fun y2 ey2 => ?_)
    have hw := hw y2 ey2
    refine mv_icmp_ge (tgt := 28) C dX2_charAt_9 (by decide) (fun h3 => ?_) (fun h3 => ?_)
    · have hw := hw.1 h3
      refine mv_iconst (v := (-1 : Int32)) C dX2_charAt_28 (by decide) ?_
      exact mv_iret C dX2_charAt_29 hw
    · have hw := hw.2 h3
      refine mv_iload_n C dX2_charAt_12 rfl 1 rfl ?_
      refine mv_sipush (v := (200 : Int32)) C dX2_charAt_13 (by decide) ?_
      refine mv_icmp_ge (tgt := 28) C dX2_charAt_16 (by decide) (fun h4 => ?_) (fun h4 => ?_)
      · have hw := hw.1 h4
        refine mv_iconst (v := (-1 : Int32)) C dX2_charAt_28 (by decide) ?_
        exact mv_iret C dX2_charAt_29 hw
      · have hw := hw.2 h4
        refine mv_aload_n C dX2_charAt_19 rfl 0 rfl ?_
        refine mv_get (v := .ref (a 15)) C iw_X2_charAt_X2 14 rfl rfl 0 (by decide) lk_X2_charAt_9 rfl rfl dX2_charAt_20 ?_
        refine mv_iload_n C dX2_charAt_23 rfl 1 rfl ?_
        refine mv_iald (f := u.2 9) C 15 0 rfl rfl hw.1 dX2_charAt_24 ?_
        refine mv_topi (fun y5 ey5 => ?_)
        have hw := hw.2 y5 ey5
        refine mv_goto (tgt := 29) C dX2_charAt_25 (by decide) ?_
        exact mv_iret C dX2_charAt_29 hw
set_option maxHeartbeats 4000000 in
set_option maxRecDepth 100000 in
theorem X8_at_met (hlev : 1 ≤ lev) {x1 : Int32} {u : mS} {post : Int32 → mS → Prop} (hw : wp_X8_at x1 u post) : mKi l yX8_at wsX8_at lev (eA a) (dC, dI) vwCl [(cA, .int)] (wA cA a) [.ref (a 0), .int x1] u post := by
  refine mKi_of (cc := cX8_at) (maxL := 2) (by decide) rfl rfl (Nat.le_of_ble_eq_true rfl) rfl ?_
  intro p e s m args below meth c A C hs
  unfold wp_X8_at at hw
  refine mv_aload_n C dX8_at_0 rfl 0 rfl ?_
  refine mv_get (v := .ref (a 14)) C iw_X8_at_X8 0 rfl rfl 6 (by decide) lk_X8_at_46 rfl rfl dX8_at_1 ?_
  refine mv_iload_n C dX8_at_4 rfl 1 rfl ?_
  refine mv_callVi (f := wA cA a) (As := [.int x1]) (rest := []) C (eA_ok a) hs 14 rfl rfl (X2_charAt_met (l := l) (lev := lev - 1) (by omega) hw) (cwV 1 C.2.2.2.2.1 gX8_at_X2_charAt rfl rfl rfl (by decide +kernel) (mRm_le (by omega) (by decide))) rfl rfl (Nat.le_of_ble_eq_true rfl) dX8_at_5 ⟨Nat.le_refl 0, Nat.le_refl 0⟩ (fun r1 u2 hw => ?_)
  exact mv_iret C dX8_at_8 hw
set_option maxHeartbeats 4000000 in
set_option maxRecDepth 100000 in
theorem X8_count_met (hlev : 0 ≤ lev) {x1 : Int32} {u : mS} {post : Int32 → mS → Prop} (hw : wp_X8_count x1 u post) : mKi l yX8_count wsX8_count lev (eA a) (dC, dI) vwCl [(cA, .int)] (wA cA a) [.ref (a 0), .int x1] u post := by
  refine mKi_of (cc := cX8_count) (maxL := 2) (by decide) rfl rfl (Nat.le_of_ble_eq_true rfl) rfl ?_
  intro p e s m args below meth c A C hs
  unfold wp_X8_count at hw
  refine mv_iload_n C dX8_count_0 rfl 1 rfl ?_
  by_cases hc1_0 : x1 = (0 : Int32)
  · have hw := hw.1 hc1_0
    refine mv_tableIn (tgt := 32) C dX8_count_1 (by rw [hc1_0]; decide) (by rw [hc1_0]; decide) (by rw [hc1_0]; rfl) (by decide) ?_
    refine mv_aload_n C dX8_count_32 rfl 0 rfl ?_
    refine mv_get (v := .ref (a 16)) C iw_X8_count_X8 0 rfl rfl 7 (by decide) lk_X8_count_55 rfl rfl dX8_count_33 ?_
    refine mv_getN (v := .int (u.1 8)) C iw_X8_count_X0 16 rfl rfl 5 (by decide) (hs.1 _ nw_8) rfl rfl dX8_count_36 ?_
    refine mv_topi (fun y1 ey1 => ?_)
    have hw := hw y1 ey1
    exact mv_iret C dX8_count_39 hw
  by_cases hc1_1 : x1 = (1 : Int32)
  · have hw := hw.2.1 hc1_1
    refine mv_tableIn (tgt := 40) C dX8_count_1 (by rw [hc1_1]; decide) (by rw [hc1_1]; decide) (by rw [hc1_1]; rfl) (by decide) ?_
    refine mv_aload_n C dX8_count_40 rfl 0 rfl ?_
    refine mv_get (v := .ref (a 16)) C iw_X8_count_X8 0 rfl rfl 7 (by decide) lk_X8_count_55 rfl rfl dX8_count_41 ?_
    refine mv_getN (v := .int (u.1 9)) C iw_X8_count_X0 16 rfl rfl 6 (by decide) (hs.1 _ nw_9) rfl rfl dX8_count_44 ?_
    refine mv_topi (fun y2 ey2 => ?_)
    have hw := hw y2 ey2
    exact mv_iret C dX8_count_47 hw
  by_cases hc1_2 : x1 = (2 : Int32)
  · have hw := hw.2.2.1 hc1_2
    refine mv_tableIn (tgt := 48) C dX8_count_1 (by rw [hc1_2]; decide) (by rw [hc1_2]; decide) (by rw [hc1_2]; rfl) (by decide) ?_
    refine mv_aload_n C dX8_count_48 rfl 0 rfl ?_
    refine mv_get (v := .ref (a 16)) C iw_X8_count_X8 0 rfl rfl 7 (by decide) lk_X8_count_55 rfl rfl dX8_count_49 ?_
    refine mv_getN (v := .int (u.1 10)) C iw_X8_count_X0 16 rfl rfl 7 (by decide) (hs.1 _ nw_10) rfl rfl dX8_count_52 ?_
    refine mv_topi (fun y3 ey3 => ?_)
    have hw := hw y3 ey3
    exact mv_iret C dX8_count_55 hw
  by_cases hc1_3 : x1 = (3 : Int32)
  · have hw := hw.2.2.2.1 hc1_3
    refine mv_tableIn (tgt := 56) C dX8_count_1 (by rw [hc1_3]; decide) (by rw [hc1_3]; decide) (by rw [hc1_3]; rfl) (by decide) ?_
    refine mv_aload_n C dX8_count_56 rfl 0 rfl ?_
    refine mv_get (v := .ref (a 16)) C iw_X8_count_X8 0 rfl rfl 7 (by decide) lk_X8_count_55 rfl rfl dX8_count_57 ?_
    refine mv_getN (v := .int (u.1 11)) C iw_X8_count_X0 16 rfl rfl 8 (by decide) (hs.1 _ nw_11) rfl rfl dX8_count_60 ?_
    refine mv_topi (fun y4 ey4 => ?_)
    have hw := hw y4 ey4
    exact mv_iret C dX8_count_63 hw
  have hw := hw.2.2.2.2 hc1_0 hc1_1 hc1_2 hc1_3
  refine mv_tableOut (tgt := 64) C dX8_count_1 (by have q0 : ¬ x1.toInt = 0 := mne hc1_0; have q1 : ¬ x1.toInt = 1 := mne hc1_1; have q2 : ¬ x1.toInt = 2 := mne hc1_2; have q3 : ¬ x1.toInt = 3 := mne hc1_3; omega) (by decide) ?_
  refine mv_iconst (v := (-1 : Int32)) C dX8_count_64 (by decide) ?_
  exact mv_iret C dX8_count_65 hw
end
end
section
theorem dX9_type_0 : decode cX9_type 0 = .ok (.iload_n 2, 1) := by decide +kernel
theorem dX9_type_1 : decode cX9_type 1 = .ok (.iconst 1, 1) := by decide +kernel
theorem dX9_type_2 : decode cX9_type 2 = .ok (.if_icmp .lt 19, 3) := by decide +kernel
theorem dX9_type_5 : decode cX9_type 5 = .ok (.iload_n 2, 1) := by decide +kernel
theorem dX9_type_6 : decode cX9_type 6 = .ok (.iconst 4, 1) := by decide +kernel
theorem dX9_type_7 : decode cX9_type 7 = .ok (.if_icmp .gt 14, 3) := by decide +kernel
theorem dX9_type_10 : decode cX9_type 10 = .ok (.aload_n 0, 1) := by decide +kernel
theorem dX9_type_11 : decode cX9_type 11 = .ok (.getfield 70, 3) := by decide +kernel
theorem dX9_type_14 : decode cX9_type 14 = .ok (.iload_n 2, 1) := by decide +kernel
theorem dX9_type_15 : decode cX9_type 15 = .ok (.iadd, 1) := by decide +kernel
theorem dX9_type_16 : decode cX9_type 16 = .ok (.bipush 120, 2) := by decide +kernel
theorem dX9_type_18 : decode cX9_type 18 = .ok (.if_icmp .le 5, 3) := by decide +kernel
theorem dX9_type_21 : decode cX9_type 21 = .ok (.iconst 0, 1) := by decide +kernel
theorem dX9_type_22 : decode cX9_type 22 = .ok (.ireturn, 1) := by decide +kernel
theorem dX9_type_23 : decode cX9_type 23 = .ok (.iconst 0, 1) := by decide +kernel
theorem dX9_type_24 : decode cX9_type 24 = .ok (.istore_n 3, 1) := by decide +kernel
theorem dX9_type_25 : decode cX9_type 25 = .ok (.iload_n 3, 1) := by decide +kernel
theorem dX9_type_26 : decode cX9_type 26 = .ok (.iload_n 2, 1) := by decide +kernel
theorem dX9_type_27 : decode cX9_type 27 = .ok (.if_icmp .ge 37, 3) := by decide +kernel
theorem dX9_type_30 : decode cX9_type 30 = .ok (.iload_n 1, 1) := by decide +kernel
theorem dX9_type_31 : decode cX9_type 31 = .ok (.bipush 8, 2) := by decide +kernel
theorem dX9_type_33 : decode cX9_type 33 = .ok (.iload_n 3, 1) := by decide +kernel
theorem dX9_type_34 : decode cX9_type 34 = .ok (.imul, 1) := by decide +kernel
theorem dX9_type_35 : decode cX9_type 35 = .ok (.ishr, 1) := by decide +kernel
theorem dX9_type_36 : decode cX9_type 36 = .ok (.sipush 255, 3) := by decide +kernel
theorem dX9_type_39 : decode cX9_type 39 = .ok (.iand, 1) := by decide +kernel
theorem dX9_type_40 : decode cX9_type 40 = .ok (.istore 4, 2) := by decide +kernel
theorem dX9_type_42 : decode cX9_type 42 = .ok (.iload 4, 2) := by decide +kernel
theorem dX9_type_44 : decode cX9_type 44 = .ok (.bipush 32, 2) := by decide +kernel
theorem dX9_type_46 : decode cX9_type 46 = .ok (.if_icmp .lt 10, 3) := by decide +kernel
theorem dX9_type_49 : decode cX9_type 49 = .ok (.iload 4, 2) := by decide +kernel
theorem dX9_type_51 : decode cX9_type 51 = .ok (.bipush 126, 2) := by decide +kernel
theorem dX9_type_53 : decode cX9_type 53 = .ok (.if_icmp .le 5, 3) := by decide +kernel
theorem dX9_type_56 : decode cX9_type 56 = .ok (.iconst 0, 1) := by decide +kernel
theorem dX9_type_57 : decode cX9_type 57 = .ok (.ireturn, 1) := by decide +kernel
theorem dX9_type_58 : decode cX9_type 58 = .ok (.iinc 3 1, 3) := by decide +kernel
theorem dX9_type_61 : decode cX9_type 61 = .ok (.goto (-36), 3) := by decide +kernel
theorem dX9_type_64 : decode cX9_type 64 = .ok (.iload_n 2, 1) := by decide +kernel
theorem dX9_type_65 : decode cX9_type 65 = .ok (.iconst 1, 1) := by decide +kernel
theorem dX9_type_66 : decode cX9_type 66 = .ok (.isub, 1) := by decide +kernel
theorem dX9_type_67 : decode cX9_type 67 = .ok (.istore_n 3, 1) := by decide +kernel
theorem dX9_type_68 : decode cX9_type 68 = .ok (.iload_n 3, 1) := by decide +kernel
theorem dX9_type_69 : decode cX9_type 69 = .ok (.ifCond .lt 38, 3) := by decide +kernel
theorem dX9_type_72 : decode cX9_type 72 = .ok (.aload_n 0, 1) := by decide +kernel
theorem dX9_type_73 : decode cX9_type 73 = .ok (.getfield 7, 3) := by decide +kernel
theorem dX9_type_76 : decode cX9_type 76 = .ok (.aload_n 0, 1) := by decide +kernel
theorem dX9_type_77 : decode cX9_type 77 = .ok (.getfield 70, 3) := by decide +kernel
theorem dX9_type_80 : decode cX9_type 80 = .ok (.iload_n 1, 1) := by decide +kernel
theorem dX9_type_81 : decode cX9_type 81 = .ok (.bipush 8, 2) := by decide +kernel
theorem dX9_type_83 : decode cX9_type 83 = .ok (.iload_n 3, 1) := by decide +kernel
theorem dX9_type_84 : decode cX9_type 84 = .ok (.imul, 1) := by decide +kernel
theorem dX9_type_85 : decode cX9_type 85 = .ok (.ishr, 1) := by decide +kernel
theorem dX9_type_86 : decode cX9_type 86 = .ok (.sipush 255, 3) := by decide +kernel
theorem dX9_type_89 : decode cX9_type 89 = .ok (.iand, 1) := by decide +kernel
theorem dX9_type_90 : decode cX9_type 90 = .ok (.iastore, 1) := by decide +kernel
theorem dX9_type_91 : decode cX9_type 91 = .ok (.aload_n 0, 1) := by decide +kernel
theorem dX9_type_92 : decode cX9_type 92 = .ok (.dup, 1) := by decide +kernel
theorem dX9_type_93 : decode cX9_type 93 = .ok (.getfield 70, 3) := by decide +kernel
theorem dX9_type_96 : decode cX9_type 96 = .ok (.iconst 1, 1) := by decide +kernel
theorem dX9_type_97 : decode cX9_type 97 = .ok (.iadd, 1) := by decide +kernel
theorem dX9_type_98 : decode cX9_type 98 = .ok (.putfield 70, 3) := by decide +kernel
theorem dX9_type_101 : decode cX9_type 101 = .ok (.iinc 3 (-1), 3) := by decide +kernel
theorem dX9_type_104 : decode cX9_type 104 = .ok (.goto (-36), 3) := by decide +kernel
theorem dX9_type_107 : decode cX9_type 107 = .ok (.iconst 1, 1) := by decide +kernel
theorem dX9_type_108 : decode cX9_type 108 = .ok (.ireturn, 1) := by decide +kernel
theorem dX9_read_0 : decode cX9_read 0 = .ok (.iconst 0, 1) := by decide +kernel
theorem dX9_read_1 : decode cX9_read 1 = .ok (.istore_n 1, 1) := by decide +kernel
theorem dX9_read_2 : decode cX9_read 2 = .ok (.iconst 0, 1) := by decide +kernel
theorem dX9_read_3 : decode cX9_read 3 = .ok (.istore_n 2, 1) := by decide +kernel
theorem dX9_read_4 : decode cX9_read 4 = .ok (.iconst 0, 1) := by decide +kernel
theorem dX9_read_5 : decode cX9_read 5 = .ok (.istore_n 3, 1) := by decide +kernel
theorem dX9_read_6 : decode cX9_read 6 = .ok (.iconst 0, 1) := by decide +kernel
theorem dX9_read_7 : decode cX9_read 7 = .ok (.istore 4, 2) := by decide +kernel
theorem dX9_read_9 : decode cX9_read 9 = .ok (.iload 4, 2) := by decide +kernel
theorem dX9_read_11 : decode cX9_read 11 = .ok (.aload_n 0, 1) := by decide +kernel
theorem dX9_read_12 : decode cX9_read 12 = .ok (.getfield 70, 3) := by decide +kernel
theorem dX9_read_15 : decode cX9_read 15 = .ok (.if_icmp .ge 122, 3) := by decide +kernel
theorem dX9_read_18 : decode cX9_read 18 = .ok (.aload_n 0, 1) := by decide +kernel
theorem dX9_read_19 : decode cX9_read 19 = .ok (.iload 4, 2) := by decide +kernel
theorem dX9_read_137 : decode cX9_read 137 = .ok (.iload_n 2, 1) := by decide +kernel
theorem dX9_read_138 : decode cX9_read 138 = .ok (.ifCond .gt 7, 3) := by decide +kernel
theorem dX9_read_141 : decode cX9_read 141 = .ok (.iload_n 3, 1) := by decide +kernel
theorem dX9_read_142 : decode cX9_read 142 = .ok (.ifCond .ne 8, 3) := by decide +kernel
theorem dX9_read_145 : decode cX9_read 145 = .ok (.aload_n 0, 1) := by decide +kernel
theorem dX9_read_146 : decode cX9_read 146 = .ok (.getfield 70, 3) := by decide +kernel
theorem dX9_read_149 : decode cX9_read 149 = .ok (.ireturn, 1) := by decide +kernel
theorem dX9_read_150 : decode cX9_read 150 = .ok (.aload_n 0, 1) := by decide +kernel
theorem dX9_read_151 : decode cX9_read 151 = .ok (.sipush 2600, 3) := by decide +kernel
theorem dX9_read_154 : decode cX9_read 154 = .ok (.iload_n 1, 1) := by decide +kernel
theorem dX9_read_155 : decode cX9_read 155 = .ok (.isub, 1) := by decide +kernel
theorem dX9_read_156 : decode cX9_read 156 = .ok (.putfield 104, 3) := by decide +kernel
theorem dX9_read_159 : decode cX9_read 159 = .ok (.iload_n 1, 1) := by decide +kernel
theorem dX9_read_160 : decode cX9_read 160 = .ok (.iconst 1, 1) := by decide +kernel
theorem dX9_read_161 : decode cX9_read 161 = .ok (.isub, 1) := by decide +kernel
theorem dX9_read_162 : decode cX9_read 162 = .ok (.istore 5, 2) := by decide +kernel
theorem dX9_read_164 : decode cX9_read 164 = .ok (.iload 5, 2) := by decide +kernel
theorem dX9_read_166 : decode cX9_read 166 = .ok (.ifCond .lt 41, 3) := by decide +kernel
theorem dX9_read_169 : decode cX9_read 169 = .ok (.aload_n 0, 1) := by decide +kernel
theorem dX9_read_170 : decode cX9_read 170 = .ok (.getfield 13, 3) := by decide +kernel
theorem dX9_read_173 : decode cX9_read 173 = .ok (.aload_n 0, 1) := by decide +kernel
theorem dX9_read_174 : decode cX9_read 174 = .ok (.getfield 104, 3) := by decide +kernel
theorem dX9_read_177 : decode cX9_read 177 = .ok (.iload 5, 2) := by decide +kernel
theorem dX9_read_179 : decode cX9_read 179 = .ok (.iadd, 1) := by decide +kernel
theorem dX9_read_180 : decode cX9_read 180 = .ok (.aload_n 0, 1) := by decide +kernel
theorem dX9_read_181 : decode cX9_read 181 = .ok (.getfield 13, 3) := by decide +kernel
theorem dX9_read_184 : decode cX9_read 184 = .ok (.iload 5, 2) := by decide +kernel
theorem dX9_read_186 : decode cX9_read 186 = .ok (.iaload, 1) := by decide +kernel
theorem dX9_read_187 : decode cX9_read 187 = .ok (.iastore, 1) := by decide +kernel
theorem dX9_read_188 : decode cX9_read 188 = .ok (.aload_n 0, 1) := by decide +kernel
theorem dX9_read_189 : decode cX9_read 189 = .ok (.getfield 16, 3) := by decide +kernel
theorem dX9_read_192 : decode cX9_read 192 = .ok (.aload_n 0, 1) := by decide +kernel
theorem dX9_read_193 : decode cX9_read 193 = .ok (.getfield 104, 3) := by decide +kernel
theorem dX9_read_196 : decode cX9_read 196 = .ok (.iload 5, 2) := by decide +kernel
theorem dX9_read_198 : decode cX9_read 198 = .ok (.iadd, 1) := by decide +kernel
theorem dX9_read_199 : decode cX9_read 199 = .ok (.iconst 0, 1) := by decide +kernel
theorem dX9_read_200 : decode cX9_read 200 = .ok (.iastore, 1) := by decide +kernel
theorem dX9_read_201 : decode cX9_read 201 = .ok (.iinc 5 (-1), 3) := by decide +kernel
theorem dX9_read_204 : decode cX9_read 204 = .ok (.goto (-40), 3) := by decide +kernel
theorem dX9_read_207 : decode cX9_read 207 = .ok (.iconst (-1), 1) := by decide +kernel
theorem dX9_read_208 : decode cX9_read 208 = .ok (.ireturn, 1) := by decide +kernel
set_option maxRecDepth 20000 in
theorem ggX9_rules_X9_read : GoodIn wsX9_rules wsX9_read := goodIn_r _ [12, 1, 13, 2, 3, 14, 15, 16, 17, 11, 18, 19, 20, 21, 22, 23, 24, 25, 26, 27, 28, 29, 30, 31, 32, 33, 34, 35, 36, 37, 38, 39, 40, 4, 41, 42, 43, 95, 96, 97, 98, 99, 100, 101, 102, 103, 104, 105, 106, 107, 108, 109, 110, 111, 112, 113, 114, 115, 116, 117, 118, 119, 120, 121, 122, 123, 124, 125, 126, 127, 128, 129, 130] (by decide +kernel) (by decide +kernel)
set_option maxRecDepth 20000 in
theorem gX9_rules_X9_read : GoodIn wsX9_rules (wsV RX9 141 RX9 yX9_read wsX9_read) := goodIn_app (goodIn_of _ (by decide +kernel)) ggX9_rules_X9_read
theorem dX9_rules_0 : decode cX9_rules 0 = .ok (.aload_n 0, 1) := by decide +kernel
theorem dX9_rules_1 : decode cX9_rules 1 = .ok (.invokevirtual 141, 3) := by decide +kernel
theorem dX9_rules_4 : decode cX9_rules 4 = .ok (.istore_n 1, 1) := by decide +kernel
theorem dX9_rules_5 : decode cX9_rules 5 = .ok (.aload_n 0, 1) := by decide +kernel
theorem dX9_rules_6 : decode cX9_rules 6 = .ok (.iconst 0, 1) := by decide +kernel
theorem dX9_rules_7 : decode cX9_rules 7 = .ok (.putfield 70, 3) := by decide +kernel
theorem dX9_rules_10 : decode cX9_rules 10 = .ok (.iload_n 1, 1) := by decide +kernel
theorem dX9_rules_11 : decode cX9_rules 11 = .ok (.ifCond .lt 7, 3) := by decide +kernel
theorem dX9_rules_14 : decode cX9_rules 14 = .ok (.iconst (-1), 1) := by decide +kernel
theorem dX9_rules_15 : decode cX9_rules 15 = .ok (.iload_n 1, 1) := by decide +kernel
theorem dX9_rules_16 : decode cX9_rules 16 = .ok (.isub, 1) := by decide +kernel
theorem dX9_rules_17 : decode cX9_rules 17 = .ok (.ireturn, 1) := by decide +kernel
theorem dX9_rules_18 : decode cX9_rules 18 = .ok (.aload_n 0, 1) := by decide +kernel
theorem dX9_rules_19 : decode cX9_rules 19 = .ok (.getfield 13, 3) := by decide +kernel
theorem dX9_rules_22 : decode cX9_rules 22 = .ok (.aload_n 0, 1) := by decide +kernel
theorem dX9_rules_23 : decode cX9_rules 23 = .ok (.getfield 104, 3) := by decide +kernel
theorem dX9_bind_0 : decode cX9_bind 0 = .ok (.aload_n 0, 1) := by decide +kernel
theorem dX9_bind_1 : decode cX9_bind 1 = .ok (.getfield 160, 3) := by decide +kernel
theorem dX9_bind_4 : decode cX9_bind 4 = .ok (.bipush 40, 2) := by decide +kernel
theorem dX9_bind_6 : decode cX9_bind 6 = .ok (.if_icmp .ne 10, 3) := by decide +kernel
theorem dX9_bind_9 : decode cX9_bind 9 = .ok (.aload_n 0, 1) := by decide +kernel
theorem dX9_bind_10 : decode cX9_bind 10 = .ok (.bipush 6, 2) := by decide +kernel
theorem dX9_bind_16 : decode cX9_bind 16 = .ok (.aload_n 0, 1) := by decide +kernel
theorem dX9_bind_17 : decode cX9_bind 17 = .ok (.getfield 31, 3) := by decide +kernel
theorem dX9_bind_20 : decode cX9_bind 20 = .ok (.aload_n 0, 1) := by decide +kernel
theorem dX9_bind_21 : decode cX9_bind 21 = .ok (.getfield 160, 3) := by decide +kernel
theorem dX9_bind_24 : decode cX9_bind 24 = .ok (.iload_n 1, 1) := by decide +kernel
theorem dX9_bind_25 : decode cX9_bind 25 = .ok (.iastore, 1) := by decide +kernel
theorem dX9_bind_26 : decode cX9_bind 26 = .ok (.aload_n 0, 1) := by decide +kernel
theorem dX9_bind_27 : decode cX9_bind 27 = .ok (.getfield 34, 3) := by decide +kernel
theorem dX9_bind_30 : decode cX9_bind 30 = .ok (.aload_n 0, 1) := by decide +kernel
theorem dX9_bind_31 : decode cX9_bind 31 = .ok (.getfield 160, 3) := by decide +kernel
theorem dX9_bind_34 : decode cX9_bind 34 = .ok (.iload_n 2, 1) := by decide +kernel
theorem dX9_bind_35 : decode cX9_bind 35 = .ok (.iastore, 1) := by decide +kernel
theorem dX9_bind_36 : decode cX9_bind 36 = .ok (.aload_n 0, 1) := by decide +kernel
theorem dX9_bind_37 : decode cX9_bind 37 = .ok (.getfield 37, 3) := by decide +kernel
theorem dX9_bind_40 : decode cX9_bind 40 = .ok (.aload_n 0, 1) := by decide +kernel
theorem dX9_bind_41 : decode cX9_bind 41 = .ok (.getfield 160, 3) := by decide +kernel
theorem dX9_bind_44 : decode cX9_bind 44 = .ok (.iload_n 3, 1) := by decide +kernel
theorem dX9_bind_45 : decode cX9_bind 45 = .ok (.iastore, 1) := by decide +kernel
theorem dX9_bind_46 : decode cX9_bind 46 = .ok (.aload_n 0, 1) := by decide +kernel
theorem dX9_bind_47 : decode cX9_bind 47 = .ok (.getfield 40, 3) := by decide +kernel
theorem dX9_bind_50 : decode cX9_bind 50 = .ok (.aload_n 0, 1) := by decide +kernel
theorem dX9_bind_51 : decode cX9_bind 51 = .ok (.getfield 160, 3) := by decide +kernel
theorem dX9_bind_54 : decode cX9_bind 54 = .ok (.iload 4, 2) := by decide +kernel
theorem dX9_bind_56 : decode cX9_bind 56 = .ok (.iastore, 1) := by decide +kernel
theorem dX9_bind_57 : decode cX9_bind 57 = .ok (.aload_n 0, 1) := by decide +kernel
theorem dX9_bind_58 : decode cX9_bind 58 = .ok (.getfield 43, 3) := by decide +kernel
theorem dX9_bind_61 : decode cX9_bind 61 = .ok (.aload_n 0, 1) := by decide +kernel
theorem dX9_bind_62 : decode cX9_bind 62 = .ok (.getfield 160, 3) := by decide +kernel
theorem dX9_bind_65 : decode cX9_bind 65 = .ok (.iload 5, 2) := by decide +kernel
theorem dX9_bind_67 : decode cX9_bind 67 = .ok (.iastore, 1) := by decide +kernel
theorem dX9_bind_68 : decode cX9_bind 68 = .ok (.aload_n 0, 1) := by decide +kernel
theorem dX9_bind_69 : decode cX9_bind 69 = .ok (.dup, 1) := by decide +kernel
theorem dX9_bind_70 : decode cX9_bind 70 = .ok (.getfield 160, 3) := by decide +kernel
theorem dX9_bind_73 : decode cX9_bind 73 = .ok (.iconst 1, 1) := by decide +kernel
theorem dX9_bind_74 : decode cX9_bind 74 = .ok (.iadd, 1) := by decide +kernel
theorem dX9_bind_75 : decode cX9_bind 75 = .ok (.putfield 160, 3) := by decide +kernel
theorem dX9_bind_78 : decode cX9_bind 78 = .ok (.return_, 1) := by decide +kernel
set_option maxRecDepth 20000 in
theorem ggX9_beginning_X9_bind : GoodIn wsX9_beginning wsX9_bind := goodIn_r _ [14, 1, 15, 16, 17, 18, 19, 20, 21, 22, 13, 23, 24, 25, 26, 27, 28, 29, 30, 31, 32, 33, 34, 35, 36, 37, 38, 39, 40, 41, 42, 43, 44, 45, 46, 47, 48, 49, 50, 51, 52, 53, 54, 55, 56, 57, 58, 59, 60] (by decide +kernel) (by decide +kernel)
set_option maxRecDepth 20000 in
theorem gX9_beginning_X9_bind : GoodIn wsX9_beginning (wsV RX9 167 RX9 yX9_bind wsX9_bind) := goodIn_app (goodIn_of _ (by decide +kernel)) ggX9_beginning_X9_bind
theorem dX9_beginning_0 : decode cX9_beginning 0 = .ok (.aload_n 0, 1) := by decide +kernel
theorem dX9_beginning_1 : decode cX9_beginning 1 = .ok (.iconst 0, 1) := by decide +kernel
theorem dX9_beginning_2 : decode cX9_beginning 2 = .ok (.putfield 160, 3) := by decide +kernel
theorem dX9_beginning_5 : decode cX9_beginning 5 = .ok (.aload_n 0, 1) := by decide +kernel
theorem dX9_beginning_6 : decode cX9_beginning 6 = .ok (.sipush 206, 3) := by decide +kernel
theorem dX9_beginning_9 : decode cX9_beginning 9 = .ok (.iconst 0, 1) := by decide +kernel
theorem dX9_beginning_10 : decode cX9_beginning 10 = .ok (.iconst 0, 1) := by decide +kernel
theorem dX9_beginning_11 : decode cX9_beginning 11 = .ok (.iconst 0, 1) := by decide +kernel
theorem dX9_beginning_12 : decode cX9_beginning 12 = .ok (.iconst 0, 1) := by decide +kernel
theorem dX9_beginning_13 : decode cX9_beginning 13 = .ok (.invokevirtual 167, 3) := by decide +kernel
theorem dX9_beginning_16 : decode cX9_beginning 16 = .ok (.aload_n 0, 1) := by decide +kernel
theorem dX9_beginning_17 : decode cX9_beginning 17 = .ok (.sipush 294, 3) := by decide +kernel
theorem dX9_beginning_20 : decode cX9_beginning 20 = .ok (.iconst 0, 1) := by decide +kernel
theorem dX9_beginning_21 : decode cX9_beginning 21 = .ok (.iconst 0, 1) := by decide +kernel
theorem dX9_beginning_22 : decode cX9_beginning 22 = .ok (.iconst 1, 1) := by decide +kernel
theorem dX9_beginning_23 : decode cX9_beginning 23 = .ok (.iconst 0, 1) := by decide +kernel
theorem dX9_beginning_24 : decode cX9_beginning 24 = .ok (.invokevirtual 167, 3) := by decide +kernel
theorem dX9_beginning_27 : decode cX9_beginning 27 = .ok (.aload_n 0, 1) := by decide +kernel
theorem dX9_beginning_28 : decode cX9_beginning 28 = .ok (.bipush 17, 2) := by decide +kernel
theorem dX9_beginning_30 : decode cX9_beginning 30 = .ok (.iconst 0, 1) := by decide +kernel
theorem dX9_beginning_31 : decode cX9_beginning 31 = .ok (.iconst 0, 1) := by decide +kernel
theorem dX9_beginning_32 : decode cX9_beginning 32 = .ok (.iconst 2, 1) := by decide +kernel
theorem dX9_beginning_33 : decode cX9_beginning 33 = .ok (.iconst 0, 1) := by decide +kernel
theorem dX9_beginning_34 : decode cX9_beginning 34 = .ok (.invokevirtual 167, 3) := by decide +kernel
theorem dX9_beginning_37 : decode cX9_beginning 37 = .ok (.aload_n 0, 1) := by decide +kernel
theorem dX9_beginning_38 : decode cX9_beginning 38 = .ok (.sipush 403, 3) := by decide +kernel
theorem dX9_beginning_41 : decode cX9_beginning 41 = .ok (.iconst 0, 1) := by decide +kernel
theorem dX9_beginning_42 : decode cX9_beginning 42 = .ok (.iconst 0, 1) := by decide +kernel
theorem dX9_beginning_43 : decode cX9_beginning 43 = .ok (.iconst 3, 1) := by decide +kernel
theorem dX9_beginning_44 : decode cX9_beginning 44 = .ok (.iconst 0, 1) := by decide +kernel
theorem dX9_beginning_45 : decode cX9_beginning 45 = .ok (.invokevirtual 167, 3) := by decide +kernel
theorem dX9_beginning_48 : decode cX9_beginning 48 = .ok (.aload_n 0, 1) := by decide +kernel
theorem dX9_beginning_49 : decode cX9_beginning 49 = .ok (.ldc 171, 2) := by decide +kernel
theorem dX9_beginning_51 : decode cX9_beginning 51 = .ok (.iconst 0, 1) := by decide +kernel
theorem dX9_beginning_52 : decode cX9_beginning 52 = .ok (.iconst 1, 1) := by decide +kernel
theorem dX9_beginning_53 : decode cX9_beginning 53 = .ok (.iconst 0, 1) := by decide +kernel
theorem dX9_beginning_54 : decode cX9_beginning 54 = .ok (.iconst 0, 1) := by decide +kernel
theorem dX9_beginning_55 : decode cX9_beginning 55 = .ok (.invokevirtual 167, 3) := by decide +kernel
theorem dX9_beginning_58 : decode cX9_beginning 58 = .ok (.aload_n 0, 1) := by decide +kernel
theorem dX9_beginning_59 : decode cX9_beginning 59 = .ok (.ldc 172, 2) := by decide +kernel
theorem dX9_beginning_61 : decode cX9_beginning 61 = .ok (.iconst 0, 1) := by decide +kernel
theorem dX9_beginning_62 : decode cX9_beginning 62 = .ok (.iconst 1, 1) := by decide +kernel
theorem dX9_beginning_63 : decode cX9_beginning 63 = .ok (.iconst 0, 1) := by decide +kernel
theorem dX9_beginning_64 : decode cX9_beginning 64 = .ok (.iconst 0, 1) := by decide +kernel
theorem dX9_beginning_65 : decode cX9_beginning 65 = .ok (.invokevirtual 167, 3) := by decide +kernel
theorem dX9_beginning_68 : decode cX9_beginning 68 = .ok (.aload_n 0, 1) := by decide +kernel
theorem dX9_beginning_69 : decode cX9_beginning 69 = .ok (.ldc 173, 2) := by decide +kernel
theorem dX9_beginning_71 : decode cX9_beginning 71 = .ok (.iconst 0, 1) := by decide +kernel
theorem dX9_beginning_72 : decode cX9_beginning 72 = .ok (.iconst 1, 1) := by decide +kernel
theorem dX9_beginning_73 : decode cX9_beginning 73 = .ok (.iconst 0, 1) := by decide +kernel
theorem dX9_beginning_74 : decode cX9_beginning 74 = .ok (.iconst 0, 1) := by decide +kernel
theorem dX9_beginning_75 : decode cX9_beginning 75 = .ok (.invokevirtual 167, 3) := by decide +kernel
theorem dX9_beginning_78 : decode cX9_beginning 78 = .ok (.aload_n 0, 1) := by decide +kernel
theorem dX9_beginning_79 : decode cX9_beginning 79 = .ok (.ldc 174, 2) := by decide +kernel
theorem dX9_beginning_81 : decode cX9_beginning 81 = .ok (.iconst 0, 1) := by decide +kernel
theorem dX9_beginning_82 : decode cX9_beginning 82 = .ok (.iconst 1, 1) := by decide +kernel
theorem dX9_beginning_83 : decode cX9_beginning 83 = .ok (.iconst 0, 1) := by decide +kernel
theorem dX9_beginning_84 : decode cX9_beginning 84 = .ok (.iconst 0, 1) := by decide +kernel
theorem dX9_beginning_85 : decode cX9_beginning 85 = .ok (.invokevirtual 167, 3) := by decide +kernel
theorem dX9_beginning_88 : decode cX9_beginning 88 = .ok (.iconst 0, 1) := by decide +kernel
theorem dX9_beginning_89 : decode cX9_beginning 89 = .ok (.istore_n 1, 1) := by decide +kernel
theorem dX9_beginning_90 : decode cX9_beginning 90 = .ok (.iload_n 1, 1) := by decide +kernel
theorem dX9_beginning_91 : decode cX9_beginning 91 = .ok (.aload_n 0, 1) := by decide +kernel
theorem dX9_beginning_92 : decode cX9_beginning 92 = .ok (.getfield 157, 3) := by decide +kernel
theorem dX9_beginning_95 : decode cX9_beginning 95 = .ok (.if_icmp .ge 31, 3) := by decide +kernel
theorem dX9_beginning_98 : decode cX9_beginning 98 = .ok (.aload_n 0, 1) := by decide +kernel
theorem dX9_beginning_99 : decode cX9_beginning 99 = .ok (.aload_n 0, 1) := by decide +kernel
theorem dX9_beginning_100 : decode cX9_beginning 100 = .ok (.getfield 25, 3) := by decide +kernel
theorem dX9_beginning_103 : decode cX9_beginning 103 = .ok (.iload_n 1, 1) := by decide +kernel
theorem dX9_beginning_104 : decode cX9_beginning 104 = .ok (.iaload, 1) := by decide +kernel
theorem dX9_beginning_105 : decode cX9_beginning 105 = .ok (.iconst 0, 1) := by decide +kernel
theorem dX9_beginning_106 : decode cX9_beginning 106 = .ok (.iconst 3, 1) := by decide +kernel
theorem dX9_beginning_107 : decode cX9_beginning 107 = .ok (.bipush 120, 2) := by decide +kernel
theorem dX9_beginning_109 : decode cX9_beginning 109 = .ok (.iload_n 1, 1) := by decide +kernel
theorem dX9_beginning_110 : decode cX9_beginning 110 = .ok (.imul, 1) := by decide +kernel
theorem dX9_beginning_111 : decode cX9_beginning 111 = .ok (.aload_n 0, 1) := by decide +kernel
theorem dX9_beginning_112 : decode cX9_beginning 112 = .ok (.getfield 28, 3) := by decide +kernel
theorem dX9_beginning_115 : decode cX9_beginning 115 = .ok (.iload_n 1, 1) := by decide +kernel
theorem dX9_beginning_116 : decode cX9_beginning 116 = .ok (.iaload, 1) := by decide +kernel
theorem dX9_beginning_117 : decode cX9_beginning 117 = .ok (.invokevirtual 167, 3) := by decide +kernel
theorem dX9_beginning_120 : decode cX9_beginning 120 = .ok (.iinc 1 1, 3) := by decide +kernel
theorem dX9_beginning_123 : decode cX9_beginning 123 = .ok (.goto (-33), 3) := by decide +kernel
theorem dX9_beginning_126 : decode cX9_beginning 126 = .ok (.aload_n 0, 1) := by decide +kernel
theorem dX9_beginning_127 : decode cX9_beginning 127 = .ok (.aload_n 0, 1) := by decide +kernel
theorem dX9_beginning_128 : decode cX9_beginning 128 = .ok (.getfield 160, 3) := by decide +kernel
theorem dX9_beginning_131 : decode cX9_beginning 131 = .ok (.putfield 175, 3) := by decide +kernel
theorem dX9_beginning_134 : decode cX9_beginning 134 = .ok (.return_, 1) := by decide +kernel
set_option maxRecDepth 20000 in
theorem ggX9_expand_X9_read : GoodIn wsX9_expand wsX9_read := goodIn_r _ [15, 1, 16, 17, 10, 18, 19, 20, 21, 14, 22, 23, 24, 25, 26, 27, 28, 29, 30, 31, 32, 33, 34, 35, 36, 37, 38, 39, 40, 41, 42, 43, 44, 45, 46, 47, 48, 251, 252, 253, 254, 255, 256, 257, 258, 259, 260, 261, 262, 263, 264, 265, 266, 267, 268, 269, 270, 271, 272, 273, 274, 275, 276, 277, 278, 279, 280, 281, 282, 283, 284, 285, 286] (by decide +kernel) (by decide +kernel)
set_option maxRecDepth 20000 in
theorem gX9_expand_X9_read : GoodIn wsX9_expand (wsV RX9 141 RX9 yX9_read wsX9_read) := goodIn_app (goodIn_of _ (by decide +kernel)) ggX9_expand_X9_read
set_option maxRecDepth 20000 in
theorem ggX9_expand_X9_beginning : GoodIn wsX9_expand wsX9_beginning := goodIn_r _ [52, 53, 54, 55, 56, 57, 58, 59, 60, 61, 62, 63, 64, 14, 65, 66, 67, 68, 69, 70, 71, 72, 73, 74, 5, 251, 252, 253, 254, 255, 256, 257, 258, 259, 260, 261, 262, 263, 264, 265, 266, 267, 268, 269, 270, 271, 272, 273, 274, 275, 276, 277, 278, 279, 280, 281, 282, 283, 284, 285, 286] (by decide +kernel) (by decide +kernel)
set_option maxRecDepth 20000 in
theorem gX9_expand_X9_beginning : GoodIn wsX9_expand (wsV RX9 302 RX9 yX9_beginning wsX9_beginning) := goodIn_app (goodIn_of _ (by decide +kernel)) ggX9_expand_X9_beginning
theorem dX9_expand_0 : decode cX9_expand 0 = .ok (.iload_n 1, 1) := by decide +kernel
theorem dX9_expand_1 : decode cX9_expand 1 = .ok (.ifCond .lt 9, 3) := by decide +kernel
theorem dX9_expand_4 : decode cX9_expand 4 = .ok (.iload_n 1, 1) := by decide +kernel
theorem dX9_expand_5 : decode cX9_expand 5 = .ok (.bipush 8, 2) := by decide +kernel
theorem dX9_expand_7 : decode cX9_expand 7 = .ok (.if_icmp .le 7, 3) := by decide +kernel
theorem dX9_expand_10 : decode cX9_expand 10 = .ok (.sipush (-7000), 3) := by decide +kernel
theorem dX9_expand_13 : decode cX9_expand 13 = .ok (.ireturn, 1) := by decide +kernel
theorem dX9_expand_14 : decode cX9_expand 14 = .ok (.aload_n 0, 1) := by decide +kernel
theorem dX9_expand_15 : decode cX9_expand 15 = .ok (.invokevirtual 141, 3) := by decide +kernel
theorem dX9_expand_18 : decode cX9_expand 18 = .ok (.istore_n 2, 1) := by decide +kernel
theorem dX9_expand_19 : decode cX9_expand 19 = .ok (.aload_n 0, 1) := by decide +kernel
theorem dX9_expand_20 : decode cX9_expand 20 = .ok (.iconst 0, 1) := by decide +kernel
theorem dX9_expand_21 : decode cX9_expand 21 = .ok (.putfield 70, 3) := by decide +kernel
theorem dX9_expand_24 : decode cX9_expand 24 = .ok (.aload_n 0, 1) := by decide +kernel
theorem dX9_expand_25 : decode cX9_expand 25 = .ok (.iconst 0, 1) := by decide +kernel
theorem dX9_expand_26 : decode cX9_expand 26 = .ok (.putfield 184, 3) := by decide +kernel
theorem dX9_expand_29 : decode cX9_expand 29 = .ok (.aload_n 0, 1) := by decide +kernel
theorem dX9_expand_30 : decode cX9_expand 30 = .ok (.iconst 0, 1) := by decide +kernel
theorem dX9_expand_31 : decode cX9_expand 31 = .ok (.putfield 187, 3) := by decide +kernel
theorem dX9_expand_34 : decode cX9_expand 34 = .ok (.aload_n 0, 1) := by decide +kernel
theorem dX9_expand_35 : decode cX9_expand 35 = .ok (.iconst 0, 1) := by decide +kernel
theorem dX9_expand_36 : decode cX9_expand 36 = .ok (.putfield 271, 3) := by decide +kernel
theorem dX9_expand_39 : decode cX9_expand 39 = .ok (.aload_n 0, 1) := by decide +kernel
theorem dX9_expand_40 : decode cX9_expand 40 = .ok (.iconst 0, 1) := by decide +kernel
theorem dX9_expand_41 : decode cX9_expand 41 = .ok (.putfield 178, 3) := by decide +kernel
theorem dX9_expand_44 : decode cX9_expand 44 = .ok (.aload_n 0, 1) := by decide +kernel
theorem dX9_expand_45 : decode cX9_expand 45 = .ok (.iconst 0, 1) := by decide +kernel
theorem dX9_expand_46 : decode cX9_expand 46 = .ok (.putfield 181, 3) := by decide +kernel
theorem dX9_expand_49 : decode cX9_expand 49 = .ok (.aload_n 0, 1) := by decide +kernel
theorem dX9_expand_50 : decode cX9_expand 50 = .ok (.iconst 0, 1) := by decide +kernel
theorem dX9_expand_51 : decode cX9_expand 51 = .ok (.putfield 265, 3) := by decide +kernel
theorem dX9_expand_54 : decode cX9_expand 54 = .ok (.aload_n 0, 1) := by decide +kernel
theorem dX9_expand_55 : decode cX9_expand 55 = .ok (.iload_n 2, 1) := by decide +kernel
theorem dX9_expand_56 : decode cX9_expand 56 = .ok (.ifCond .ge 7, 3) := by decide +kernel
theorem dX9_expand_59 : decode cX9_expand 59 = .ok (.iload_n 1, 1) := by decide +kernel
theorem dX9_expand_60 : decode cX9_expand 60 = .ok (.goto 4, 3) := by decide +kernel
theorem dX9_expand_63 : decode cX9_expand 63 = .ok (.iconst 0, 1) := by decide +kernel
theorem dX9_expand_64 : decode cX9_expand 64 = .ok (.putfield 245, 3) := by decide +kernel
theorem dX9_expand_67 : decode cX9_expand 67 = .ok (.aload_n 0, 1) := by decide +kernel
theorem dX9_expand_68 : decode cX9_expand 68 = .ok (.sipush 480, 3) := by decide +kernel
theorem dX9_expand_71 : decode cX9_expand 71 = .ok (.putfield 274, 3) := by decide +kernel
theorem dX9_expand_74 : decode cX9_expand 74 = .ok (.aload_n 0, 1) := by decide +kernel
theorem dX9_expand_75 : decode cX9_expand 75 = .ok (.invokevirtual 302, 3) := by decide +kernel
theorem dX9_expand_78 : decode cX9_expand 78 = .ok (.iload_n 2, 1) := by decide +kernel
theorem dX9_expand_79 : decode cX9_expand 79 = .ok (.ifCond .lt 7, 3) := by decide +kernel
theorem dX9_expand_82 : decode cX9_expand 82 = .ok (.iconst (-1), 1) := by decide +kernel
theorem dX9_expand_83 : decode cX9_expand 83 = .ok (.iload_n 2, 1) := by decide +kernel
theorem dX9_expand_84 : decode cX9_expand 84 = .ok (.isub, 1) := by decide +kernel
theorem dX9_expand_85 : decode cX9_expand 85 = .ok (.ireturn, 1) := by decide +kernel
theorem dX9_expand_86 : decode cX9_expand 86 = .ok (.aload_n 0, 1) := by decide +kernel
theorem dX9_expand_87 : decode cX9_expand 87 = .ok (.getfield 104, 3) := by decide +kernel
theorem dX9_expand_90 : decode cX9_expand 90 = .ok (.sipush 2600, 3) := by decide +kernel
theorem dX9_expand_93 : decode cX9_expand 93 = .ok (.if_icmp .ge 17, 3) := by decide +kernel
theorem dX9_expand_96 : decode cX9_expand 96 = .ok (.aload_n 0, 1) := by decide +kernel
theorem dX9_expand_97 : decode cX9_expand 97 = .ok (.getfield 178, 3) := by decide +kernel
theorem dX9_expand_100 : decode cX9_expand 100 = .ok (.ifCond .ne 10, 3) := by decide +kernel
theorem dX9_expand_103 : decode cX9_expand 103 = .ok (.aload_n 0, 1) := by decide +kernel
theorem dX9_expand_110 : decode cX9_expand 110 = .ok (.aload_n 0, 1) := by decide +kernel
theorem dX9_expand_111 : decode cX9_expand 111 = .ok (.getfield 178, 3) := by decide +kernel
theorem dX9_expand_114 : decode cX9_expand 114 = .ok (.ifCond .eq 8, 3) := by decide +kernel
theorem dX9_expand_117 : decode cX9_expand 117 = .ok (.aload_n 0, 1) := by decide +kernel
theorem dX9_expand_118 : decode cX9_expand 118 = .ok (.iconst 0, 1) := by decide +kernel
theorem dX9_expand_119 : decode cX9_expand 119 = .ok (.putfield 184, 3) := by decide +kernel
theorem dX9_expand_122 : decode cX9_expand 122 = .ok (.aload_n 0, 1) := by decide +kernel
theorem dX9_expand_123 : decode cX9_expand 123 = .ok (.getfield 178, 3) := by decide +kernel
theorem dX9_expand_126 : decode cX9_expand 126 = .ok (.ifCond .eq 14, 3) := by decide +kernel
theorem dX9_expand_129 : decode cX9_expand 129 = .ok (.sipush (-1000), 3) := by decide +kernel
theorem dX9_expand_132 : decode cX9_expand 132 = .ok (.aload_n 0, 1) := by decide +kernel
theorem dX9_expand_133 : decode cX9_expand 133 = .ok (.getfield 178, 3) := by decide +kernel
theorem dX9_expand_136 : decode cX9_expand 136 = .ok (.imul, 1) := by decide +kernel
theorem dX9_expand_137 : decode cX9_expand 137 = .ok (.goto 7, 3) := by decide +kernel
theorem dX9_expand_140 : decode cX9_expand 140 = .ok (.aload_n 0, 1) := by decide +kernel
theorem dX9_expand_141 : decode cX9_expand 141 = .ok (.getfield 184, 3) := by decide +kernel
theorem dX9_expand_144 : decode cX9_expand 144 = .ok (.ireturn, 1) := by decide +kernel
theorem dX9_at_0 : decode cX9_at 0 = .ok (.iload_n 1, 1) := by decide +kernel
theorem dX9_at_1 : decode cX9_at 1 = .ok (.ifCond .lt 20, 3) := by decide +kernel
theorem dX9_at_4 : decode cX9_at 4 = .ok (.iload_n 1, 1) := by decide +kernel
theorem dX9_at_5 : decode cX9_at 5 = .ok (.aload_n 0, 1) := by decide +kernel
theorem dX9_at_6 : decode cX9_at 6 = .ok (.getfield 184, 3) := by decide +kernel
theorem dX9_at_9 : decode cX9_at 9 = .ok (.if_icmp .ge 12, 3) := by decide +kernel
theorem dX9_at_12 : decode cX9_at 12 = .ok (.aload_n 0, 1) := by decide +kernel
theorem dX9_at_13 : decode cX9_at 13 = .ok (.getfield 67, 3) := by decide +kernel
theorem dX9_at_16 : decode cX9_at 16 = .ok (.iload_n 1, 1) := by decide +kernel
theorem dX9_at_17 : decode cX9_at 17 = .ok (.iaload, 1) := by decide +kernel
theorem dX9_at_18 : decode cX9_at 18 = .ok (.goto 4, 3) := by decide +kernel
theorem dX9_at_21 : decode cX9_at 21 = .ok (.iconst (-1), 1) := by decide +kernel
theorem dX9_at_22 : decode cX9_at 22 = .ok (.ireturn, 1) := by decide +kernel
theorem dX9_count__0 : decode cX9_count_ 0 = .ok (.iload_n 1, 1) := by decide +kernel
theorem dX9_count__1 : decode cX9_count_ 1 = .ok (.tableswitch 56 0 3 #[31, 36, 46, 51], 31) := by decide +kernel
theorem dX9_count__32 : decode cX9_count_ 32 = .ok (.aload_n 0, 1) := by decide +kernel
theorem dX9_count__33 : decode cX9_count_ 33 = .ok (.getfield 181, 3) := by decide +kernel
theorem dX9_count__36 : decode cX9_count_ 36 = .ok (.ireturn, 1) := by decide +kernel
theorem dX9_count__37 : decode cX9_count_ 37 = .ok (.aload_n 0, 1) := by decide +kernel
theorem dX9_count__38 : decode cX9_count_ 38 = .ok (.getfield 160, 3) := by decide +kernel
theorem dX9_count__41 : decode cX9_count_ 41 = .ok (.aload_n 0, 1) := by decide +kernel
theorem dX9_count__42 : decode cX9_count_ 42 = .ok (.getfield 175, 3) := by decide +kernel
theorem dX9_count__45 : decode cX9_count_ 45 = .ok (.isub, 1) := by decide +kernel
theorem dX9_count__46 : decode cX9_count_ 46 = .ok (.ireturn, 1) := by decide +kernel
theorem dX9_count__47 : decode cX9_count_ 47 = .ok (.aload_n 0, 1) := by decide +kernel
theorem dX9_count__48 : decode cX9_count_ 48 = .ok (.getfield 265, 3) := by decide +kernel
theorem dX9_count__51 : decode cX9_count_ 51 = .ok (.ireturn, 1) := by decide +kernel
theorem dX9_count__52 : decode cX9_count_ 52 = .ok (.aload_n 0, 1) := by decide +kernel
theorem dX9_count__53 : decode cX9_count_ 53 = .ok (.getfield 245, 3) := by decide +kernel
theorem dX9_count__56 : decode cX9_count_ 56 = .ok (.ireturn, 1) := by decide +kernel
theorem dX9_count__57 : decode cX9_count_ 57 = .ok (.iconst (-1), 1) := by decide +kernel
theorem dX9_count__58 : decode cX9_count_ 58 = .ok (.ireturn, 1) := by decide +kernel
theorem iw_X9_type_X9 : ∀ w ∈ wsX90, w ∈ wsX9_type := by decide +kernel
theorem lk_X9_type_70 : Cond.fieldLink RX9 70 "MarkedNamesModel" "length" "I" ∈ wsX9_type := by decide +kernel
theorem lk_X9_type_7 : Cond.fieldLink RX9 7 "MarkedNamesModel" "typed" "[I" ∈ wsX9_type := by decide +kernel
theorem iw_X9_read_X9 : ∀ w ∈ wsX90, w ∈ wsX9_read := by decide +kernel
theorem lk_X9_read_70 : Cond.fieldLink RX9 70 "MarkedNamesModel" "length" "I" ∈ wsX9_read := by decide +kernel
theorem lk_X9_read_104 : Cond.fieldLink RX9 104 "MarkedNamesModel" "head" "I" ∈ wsX9_read := by decide +kernel
theorem lk_X9_read_13 : Cond.fieldLink RX9 13 "MarkedNamesModel" "row" "[I" ∈ wsX9_read := by decide +kernel
theorem lk_X9_read_16 : Cond.fieldLink RX9 16 "MarkedNamesModel" "set" "[I" ∈ wsX9_read := by decide +kernel
theorem iw_X9_rules_X9 : ∀ w ∈ wsX90, w ∈ wsX9_rules := by decide +kernel
theorem lk_X9_rules_70 : Cond.fieldLink RX9 70 "MarkedNamesModel" "length" "I" ∈ wsX9_rules := by decide +kernel
theorem lk_X9_rules_13 : Cond.fieldLink RX9 13 "MarkedNamesModel" "row" "[I" ∈ wsX9_rules := by decide +kernel
theorem lk_X9_rules_104 : Cond.fieldLink RX9 104 "MarkedNamesModel" "head" "I" ∈ wsX9_rules := by decide +kernel
theorem iw_X9_expand_X9 : ∀ w ∈ wsX90, w ∈ wsX9_expand := by decide +kernel
theorem lk_X9_expand_70 : Cond.fieldLink RX9 70 "MarkedNamesModel" "length" "I" ∈ wsX9_expand := by decide +kernel
theorem lk_X9_expand_184 : Cond.fieldLink RX9 184 "MarkedNamesModel" "size" "I" ∈ wsX9_expand := by decide +kernel
theorem lk_X9_expand_187 : Cond.fieldLink RX9 187 "MarkedNamesModel" "gap" "Z" ∈ wsX9_expand := by decide +kernel
theorem lk_X9_expand_271 : Cond.fieldLink RX9 271 "MarkedNamesModel" "deep" "I" ∈ wsX9_expand := by decide +kernel
theorem lk_X9_expand_178 : Cond.fieldLink RX9 178 "MarkedNamesModel" "error" "I" ∈ wsX9_expand := by decide +kernel
theorem lk_X9_expand_181 : Cond.fieldLink RX9 181 "MarkedNamesModel" "scopesMade" "I" ∈ wsX9_expand := by decide +kernel
theorem lk_X9_expand_265 : Cond.fieldLink RX9 265 "MarkedNamesModel" "variables" "I" ∈ wsX9_expand := by decide +kernel
theorem lk_X9_expand_245 : Cond.fieldLink RX9 245 "MarkedNamesModel" "fuelLeft" "I" ∈ wsX9_expand := by decide +kernel
theorem lk_X9_expand_274 : Cond.fieldLink RX9 274 "MarkedNamesModel" "keptEnd" "I" ∈ wsX9_expand := by decide +kernel
theorem iw_X9_beginning_X9 : ∀ w ∈ wsX90, w ∈ wsX9_beginning := by decide +kernel
theorem lk_X9_beginning_160 : Cond.fieldLink RX9 160 "MarkedNamesModel" "bindings" "I" ∈ wsX9_beginning := by decide +kernel
theorem iw_X9_bind_X9 : ∀ w ∈ wsX90, w ∈ wsX9_bind := by decide +kernel
theorem lk_X9_bind_160 : Cond.fieldLink RX9 160 "MarkedNamesModel" "bindings" "I" ∈ wsX9_bind := by decide +kernel
theorem lk_X9_bind_31 : Cond.fieldLink RX9 31 "MarkedNamesModel" "name" "[I" ∈ wsX9_bind := by decide +kernel
theorem lk_X9_bind_34 : Cond.fieldLink RX9 34 "MarkedNamesModel" "scopes" "[I" ∈ wsX9_bind := by decide +kernel
theorem lk_X9_bind_37 : Cond.fieldLink RX9 37 "MarkedNamesModel" "meaning" "[I" ∈ wsX9_bind := by decide +kernel
theorem lk_X9_bind_40 : Cond.fieldLink RX9 40 "MarkedNamesModel" "from" "[I" ∈ wsX9_bind := by decide +kernel
theorem lk_X9_bind_43 : Cond.fieldLink RX9 43 "MarkedNamesModel" "to" "[I" ∈ wsX9_bind := by decide +kernel
theorem mw_X9_beginning__constant_RX9_171_40043_Int32_ : Cond.constant RX9 171 (40043 : Int32) ∈ wsX9_beginning := by decide +kernel
theorem mw_X9_beginning__constant_RX9_172_40042_Int32_ : Cond.constant RX9 172 (40042 : Int32) ∈ wsX9_beginning := by decide +kernel
theorem mw_X9_beginning__constant_RX9_173_40061_Int32_ : Cond.constant RX9 173 (40061 : Int32) ∈ wsX9_beginning := by decide +kernel
theorem mw_X9_beginning__constant_RX9_174_40060_Int32_ : Cond.constant RX9 174 (40060 : Int32) ∈ wsX9_beginning := by decide +kernel
theorem lk_X9_beginning_157 : Cond.fieldLink RX9 157 "MarkedNamesModel" "own" "I" ∈ wsX9_beginning := by decide +kernel
theorem lk_X9_beginning_175 : Cond.fieldLink RX9 175 "MarkedNamesModel" "atFirst" "I" ∈ wsX9_beginning := by decide +kernel
theorem lk_X9_beginning_25 : Cond.fieldLink RX9 25 "MarkedNamesModel" "ownName" "[I" ∈ wsX9_beginning := by decide +kernel
theorem lk_X9_beginning_28 : Cond.fieldLink RX9 28 "MarkedNamesModel" "ownEnd" "[I" ∈ wsX9_beginning := by decide +kernel
theorem lk_X9_expand_104 : Cond.fieldLink RX9 104 "MarkedNamesModel" "head" "I" ∈ wsX9_expand := by decide +kernel
theorem iw_X9_at_X9 : ∀ w ∈ wsX90, w ∈ wsX9_at := by decide +kernel
theorem lk_X9_at_184 : Cond.fieldLink RX9 184 "MarkedNamesModel" "size" "I" ∈ wsX9_at := by decide +kernel
theorem lk_X9_at_67 : Cond.fieldLink RX9 67 "MarkedNamesModel" "text" "[I" ∈ wsX9_at := by decide +kernel
theorem iw_X9_count__X9 : ∀ w ∈ wsX90, w ∈ wsX9_count_ := by decide +kernel
theorem lk_X9_count__181 : Cond.fieldLink RX9 181 "MarkedNamesModel" "scopesMade" "I" ∈ wsX9_count_ := by decide +kernel
theorem lk_X9_count__160 : Cond.fieldLink RX9 160 "MarkedNamesModel" "bindings" "I" ∈ wsX9_count_ := by decide +kernel
theorem lk_X9_count__175 : Cond.fieldLink RX9 175 "MarkedNamesModel" "atFirst" "I" ∈ wsX9_count_ := by decide +kernel
theorem lk_X9_count__265 : Cond.fieldLink RX9 265 "MarkedNamesModel" "variables" "I" ∈ wsX9_count_ := by decide +kernel
theorem lk_X9_count__245 : Cond.fieldLink RX9 245 "MarkedNamesModel" "fuelLeft" "I" ∈ wsX9_count_ := by decide +kernel
section
variable {l : Launch} {p : Program} {e : Env} {s : State} {m : MethodId} {args : Array Value} {below : List Frame} {meth : Method} {c : Code} {A : Nat → Prop} {dC : Nat → ClassId} {dI : Nat → Nat → Nat} {cA : ClassId} {a b : Nat → Nat} {lev : Nat}
set_option maxHeartbeats 4000000 in
set_option maxRecDepth 100000 in
theorem wj_X9_type_68_ok (C : mC p s m args meth c cX9_type 5 wsX9_type RX9 (some .boolean) (dC, dI) vwCl [(cA, .int)] A) (hs : eM A s) (hlev : 0 ≤ lev) {post : Int32 → mS → Prop} {K68 : Int32 → Int32 → mS → Prop} (hK68 : ∀ (x1 x3 : Int32) (u : mS), K68 x1 x3 u → mV p l e (mRm lev) s m args below meth c 5 (dC, dI) vwCl A 0 0 (mQi below args s (dC, dI) vwCl [(cA, .int)] (wM cA b) A (fun r w => (r = 0 ∨ r = 1) ∧ post r w)) (wM cA b u) 68 [(0, .ref (b 0)), (1, .int x1), (3, .int x3)] []) {x1 x3 : Int32} {u : mS} (hw : wj_X9_type_68 K68 post x1 x3 u) : mV p l e (mRm lev) s m args below meth c 5 (dC, dI) vwCl A 0 0 (mQi below args s (dC, dI) vwCl [(cA, .int)] (wM cA b) A (fun r w => (r = 0 ∨ r = 1) ∧ post r w)) (wM cA b u) 68 [(0, .ref (b 0)), (1, .int x1), (3, .int x3)] [] := by
  unfold wj_X9_type_68 at hw
  refine mv_iload_n C dX9_type_68 rfl 2 rfl ?_
  refine mv_if_lt (tgt := 107) C dX9_type_69 (by decide) (fun h14 => ?_) (fun h14 => ?_)
  · have hw := hw.1 h14
    refine mv_iconst (v := (1 : Int32)) C dX9_type_107 (by decide) ?_
    exact mv_zret C dX9_type_108 (Or.inr rfl) hw
  · have hw := hw.2 h14
    refine mv_aload_n C dX9_type_72 rfl 0 rfl ?_
    refine mv_get (v := .ref (b 1)) C iw_X9_type_X9 0 rfl rfl 0 (by decide) lk_X9_type_7 rfl rfl dX9_type_73 ?_
    refine mv_aload_n C dX9_type_76 rfl 0 rfl ?_
    refine mv_get (v := .int (u.1 0)) C iw_X9_type_X9 0 rfl rfl 1 (by decide) lk_X9_type_70 rfl rfl dX9_type_77 ?_
    refine mv_topi (fun y15 ey15 => ?_)
    have hw := hw y15 ey15
    refine mv_iload_n C dX9_type_80 rfl 1 rfl ?_
    refine mv_bipush (v := (8 : Int32)) C dX9_type_81 (by decide) ?_
    refine mv_iload_n C dX9_type_83 rfl 2 rfl ?_
    refine mv_imul C dX9_type_84 ?_
    refine mv_topi (fun y16 ey16 => ?_)
    have hw := hw y16 ey16
    refine mv_ishr C dX9_type_85 ?_
    refine mv_topi (fun y17 ey17 => ?_)
    have hw := hw y17 ey17
    refine mv_sipush (v := (255 : Int32)) C dX9_type_86 (by decide) ?_
    refine mv_iand C dX9_type_89 ?_
    refine mv_topi (fun y18 ey18 => ?_)
    have hw := hw y18 ey18
    refine mv_iast (f := u.2 0) (ws1 := wM cA b (mPut u 0 y15.toNatClampNeg y18)) C 1 0 rfl rfl hw.1 rfl dX9_type_90 ?_
    refine mv_nm (f := wM cA b) (fun u19 eu19 => ?_)
    have hw := hw.2 u19 eu19
    refine mv_aload_n C dX9_type_91 rfl 0 rfl ?_
    refine mv_dup C dX9_type_92 rfl ?_
    refine mv_get (v := .int (u19.1 0)) C iw_X9_type_X9 0 rfl rfl 1 (by decide) lk_X9_type_70 rfl rfl dX9_type_93 ?_
    refine mv_topi (fun y20 ey20 => ?_)
    have hw := hw y20 ey20
    refine mv_iconst (v := (1 : Int32)) C dX9_type_96 (by decide) ?_
    refine mv_iadd C dX9_type_97 ?_
    refine mv_topi (fun y21 ey21 => ?_)
    have hw := hw y21 ey21
    refine mv_put (ty := .int) (ws1 := wM cA b (mSet u19 0 y21)) C iw_X9_type_X9 tyX9 tyX9_ok nmX9 0 rfl rfl 1 (by decide) lk_X9_type_70 rfl rfl rfl rfl rfl (Nat.le_of_ble_eq_true rfl) rfl dX9_type_98 ?_
    refine mv_nm (f := wM cA b) (fun u22 eu22 => ?_)
    have hw := hw u22 eu22
    obtain ⟨y23, ey23⟩ : ∃ z : Int32, z = x3 + (-1 : Int32) := ⟨_, rfl⟩
    have hw := hw y23 ey23
    refine mv_iinc (v := y23) (lv1 := [(3, .int y23), (0, .ref (b 0)), (1, .int x1)]) C dX9_type_101 2 rfl (by rw [ey23]; rfl) (by decide) rfl ?_
    refine mv_goto (tgt := 68) C dX9_type_104 (by decide) ?_
    refine mv_sub [1, 2, 0] rfl ?_
    exact hK68 x1 y23 u22 hw
set_option maxHeartbeats 4000000 in
set_option maxRecDepth 100000 in
theorem wj_X9_type_25_ok (C : mC p s m args meth c cX9_type 5 wsX9_type RX9 (some .boolean) (dC, dI) vwCl [(cA, .int)] A) (hs : eM A s) (hlev : 0 ≤ lev) {post : Int32 → mS → Prop} {K25 : Int32 → Int32 → Int32 → mS → Prop} (hK25 : ∀ (x1 x2 x3 : Int32) (u : mS), K25 x1 x2 x3 u → mV p l e (mRm lev) s m args below meth c 5 (dC, dI) vwCl A 0 0 (mQi below args s (dC, dI) vwCl [(cA, .int)] (wM cA b) A (fun r w => (r = 0 ∨ r = 1) ∧ post r w)) (wM cA b u) 25 [(0, .ref (b 0)), (1, .int x1), (2, .int x2), (3, .int x3)] []) {x1 x2 x3 : Int32} {u : mS} (hw : wj_X9_type_25 K25 post x1 x2 x3 u) : mV p l e (mRm lev) s m args below meth c 5 (dC, dI) vwCl A 0 0 (mQi below args s (dC, dI) vwCl [(cA, .int)] (wM cA b) A (fun r w => (r = 0 ∨ r = 1) ∧ post r w)) (wM cA b u) 25 [(0, .ref (b 0)), (1, .int x1), (2, .int x2), (3, .int x3)] [] := by
  unfold wj_X9_type_25 at hw
  refine mv_iload_n C dX9_type_25 rfl 3 rfl ?_
  refine mv_iload_n C dX9_type_26 rfl 2 rfl ?_
  refine mv_icmp_ge (tgt := 64) C dX9_type_27 (by decide) (fun h6 => ?_) (fun h6 => ?_)
  · have hw := hw.1 h6
    refine mv_iload_n C dX9_type_64 rfl 2 rfl ?_
    refine mv_iconst (v := (1 : Int32)) C dX9_type_65 (by decide) ?_
    refine mv_isub C dX9_type_66 ?_
    refine mv_topi (fun y7 ey7 => ?_)
    have hw := hw y7 ey7
    refine mv_istore_n (lv1 := [(3, .int y7), (0, .ref (b 0)), (1, .int x1), (2, .int x2)]) C dX9_type_67 rfl (by decide) rfl ?_
    refine mv_sub [1, 2, 0] rfl ?_
    obtain ⟨n, hw⟩ := hw
    exact mL3_of (fun K hK b0 b1 b2 hw => wj_X9_type_68_ok C hs hlev hK hw) n x1 y7 u hw
  · have hw := hw.2 h6
    refine mv_iload_n C dX9_type_30 rfl 1 rfl ?_
    refine mv_bipush (v := (8 : Int32)) C dX9_type_31 (by decide) ?_
    refine mv_iload_n C dX9_type_33 rfl 3 rfl ?_
    refine mv_imul C dX9_type_34 ?_
    refine mv_topi (fun y8 ey8 => ?_)
    have hw := hw y8 ey8
    refine mv_ishr C dX9_type_35 ?_
    refine mv_topi (fun y9 ey9 => ?_)
    have hw := hw y9 ey9
    refine mv_sipush (v := (255 : Int32)) C dX9_type_36 (by decide) ?_
    refine mv_iand C dX9_type_39 ?_
    refine mv_topi (fun y10 ey10 => ?_)
    have hw := hw y10 ey10
    refine mv_istore (lv1 := [(4, .int y10), (0, .ref (b 0)), (1, .int x1), (2, .int x2), (3, .int x3)]) C dX9_type_40 (by decide) rfl ?_
    refine mv_iload C dX9_type_42 0 rfl ?_
    refine mv_bipush (v := (32 : Int32)) C dX9_type_44 (by decide) ?_
    refine mv_icmp_lt (tgt := 56) C dX9_type_46 (by decide) (fun h11 => ?_) (fun h11 => ?_)
    · have hw := hw.1 h11
      refine mv_iconst (v := (0 : Int32)) C dX9_type_56 (by decide) ?_
      exact mv_zret C dX9_type_57 (Or.inl rfl) hw
    · have hw := hw.2 h11
      refine mv_iload C dX9_type_49 0 rfl ?_
      refine mv_bipush (v := (126 : Int32)) C dX9_type_51 (by decide) ?_
      refine mv_icmp_le (tgt := 58) C dX9_type_53 (by decide) (fun h12 => ?_) (fun h12 => ?_)
      · have hw := hw.1 h12
        obtain ⟨y13, ey13⟩ : ∃ z : Int32, z = x3 + (1 : Int32) := ⟨_, rfl⟩
        have hw := hw y13 ey13
        refine mv_iinc (v := y13) (lv1 := [(3, .int y13), (4, .int y10), (0, .ref (b 0)), (1, .int x1), (2, .int x2)]) C dX9_type_58 4 rfl (by rw [ey13]; rfl) (by decide) rfl ?_
        refine mv_goto (tgt := 25) C dX9_type_61 (by decide) ?_
        refine mv_sub [2, 3, 4, 0] rfl ?_
        exact hK25 x1 x2 y13 u hw
      · have hw := hw.2 h12
        refine mv_iconst (v := (0 : Int32)) C dX9_type_56 (by decide) ?_
        exact mv_zret C dX9_type_57 (Or.inl rfl) hw
set_option maxHeartbeats 4000000 in
set_option maxRecDepth 100000 in
theorem X9_type_met (hlev : 0 ≤ lev) {x1 x2 : Int32} {u : mS} {post : Int32 → mS → Prop} (hw : wp_X9_type x1 x2 u post) : mKi l yX9_type wsX9_type lev (eM) (dC, dI) vwCl [(cA, .int)] (wM cA b) [.ref (b 0), .int x1, .int x2] u (fun r w => (r = 0 ∨ r = 1) ∧ post r w) := by
  refine mKz_of (cc := cX9_type) (maxL := 5) (by decide) rfl rfl (Nat.le_of_ble_eq_true rfl) rfl ?_
  intro p e s m args below meth c A C hs
  unfold wp_X9_type at hw
  refine mv_iload_n C dX9_type_0 rfl 2 rfl ?_
  refine mv_iconst (v := (1 : Int32)) C dX9_type_1 (by decide) ?_
  refine mv_icmp_lt (tgt := 21) C dX9_type_2 (by decide) (fun h1 => ?_) (fun h1 => ?_)
  · have hw := hw.1 h1
    refine mv_iconst (v := (0 : Int32)) C dX9_type_21 (by decide) ?_
    exact mv_zret C dX9_type_22 (Or.inl rfl) hw
  · have hw := hw.2 h1
    refine mv_iload_n C dX9_type_5 rfl 2 rfl ?_
    refine mv_iconst (v := (4 : Int32)) C dX9_type_6 (by decide) ?_
    refine mv_icmp_gt (tgt := 21) C dX9_type_7 (by decide) (fun h2 => ?_) (fun h2 => ?_)
    · have hw := hw.1 h2
      refine mv_iconst (v := (0 : Int32)) C dX9_type_21 (by decide) ?_
      exact mv_zret C dX9_type_22 (Or.inl rfl) hw
    · have hw := hw.2 h2
      refine mv_aload_n C dX9_type_10 rfl 0 rfl ?_
      refine mv_get (v := .int (u.1 0)) C iw_X9_type_X9 0 rfl rfl 1 (by decide) lk_X9_type_70 rfl rfl dX9_type_11 ?_
      refine mv_topi (fun y3 ey3 => ?_)
      have hw := hw y3 ey3
      refine mv_iload_n C dX9_type_14 rfl 2 rfl ?_
      refine mv_iadd C dX9_type_15 ?_
      refine mv_topi (fun y4 ey4 => ?_)
      have hw := hw y4 ey4
      refine mv_bipush (v := (120 : Int32)) C dX9_type_16 (by decide) ?_
      refine mv_icmp_le (tgt := 23) C dX9_type_18 (by decide) (fun h5 => ?_) (fun h5 => ?_)
      · have hw := hw.1 h5
        refine mv_iconst (v := (0 : Int32)) C dX9_type_23 (by decide) ?_
        refine mv_istore_n (lv1 := [(3, .int (0 : Int32)), (0, .ref (b 0)), (1, .int x1), (2, .int x2)]) C dX9_type_24 rfl (by decide) rfl ?_
        refine mv_sub [1, 2, 3, 0] rfl ?_
        obtain ⟨n, hw⟩ := hw
        exact mL4_of (fun K hK b0 b1 b2 b3 hw => wj_X9_type_25_ok C hs hlev hK hw) n x1 x2 (0 : Int32) u hw
      · have hw := hw.2 h5
        refine mv_iconst (v := (0 : Int32)) C dX9_type_21 (by decide) ?_
        exact mv_zret C dX9_type_22 (Or.inl rfl) hw
set_option maxHeartbeats 4000000 in
set_option maxRecDepth 100000 in
theorem wj_X9_read_145_ok (C : mC p s m args meth c cX9_read 8 wsX9_read RX9 (some .int) (dC, dI) vwCl [(cA, .int)] A) (hs : eM A s) (hlev : 0 ≤ lev) {post : Int32 → mS → Prop} {u : mS} (hw : wj_X9_read_145 post  u) : mV p l e (mRm lev) s m args below meth c 8 (dC, dI) vwCl A 0 0 (mQi below args s (dC, dI) vwCl [(cA, .int)] (wM cA b) A post) (wM cA b u) 145 [(0, .ref (b 0))] [] := by
  unfold wj_X9_read_145 at hw
  refine mv_aload_n C dX9_read_145 rfl 0 rfl ?_
  refine mv_get (v := .int (u.1 0)) C iw_X9_read_X9 0 rfl rfl 1 (by decide) lk_X9_read_70 rfl rfl dX9_read_146 ?_
  refine mv_topi (fun y17 ey17 => ?_)
  have hw := hw y17 ey17
  exact mv_iret C dX9_read_149 hw
set_option maxHeartbeats 4000000 in
set_option maxRecDepth 100000 in
theorem wj_X9_read_164_ok (C : mC p s m args meth c cX9_read 8 wsX9_read RX9 (some .int) (dC, dI) vwCl [(cA, .int)] A) (hs : eM A s) (hlev : 0 ≤ lev) {post : Int32 → mS → Prop} {K164 : Int32 → mS → Prop} (hK164 : ∀ (x5 : Int32) (u : mS), K164 x5 u → mV p l e (mRm lev) s m args below meth c 8 (dC, dI) vwCl A 0 0 (mQi below args s (dC, dI) vwCl [(cA, .int)] (wM cA b) A post) (wM cA b u) 164 [(0, .ref (b 0)), (5, .int x5)] []) {x5 : Int32} {u : mS} (hw : wj_X9_read_164 K164 post x5 u) : mV p l e (mRm lev) s m args below meth c 8 (dC, dI) vwCl A 0 0 (mQi below args s (dC, dI) vwCl [(cA, .int)] (wM cA b) A post) (wM cA b u) 164 [(0, .ref (b 0)), (5, .int x5)] [] := by
  unfold wj_X9_read_164 at hw
  refine mv_iload C dX9_read_164 1 rfl ?_
  refine mv_if_lt (tgt := 207) C dX9_read_166 (by decide) (fun h8 => ?_) (fun h8 => ?_)
  · have hw := hw.1 h8
    refine mv_iconst (v := (-1 : Int32)) C dX9_read_207 (by decide) ?_
    exact mv_iret C dX9_read_208 hw
  · have hw := hw.2 h8
    refine mv_aload_n C dX9_read_169 rfl 0 rfl ?_
    refine mv_get (v := .ref (b 2)) C iw_X9_read_X9 0 rfl rfl 2 (by decide) lk_X9_read_13 rfl rfl dX9_read_170 ?_
    refine mv_aload_n C dX9_read_173 rfl 0 rfl ?_
    refine mv_get (v := .int (u.1 1)) C iw_X9_read_X9 0 rfl rfl 4 (by decide) lk_X9_read_104 rfl rfl dX9_read_174 ?_
    refine mv_topi (fun y9 ey9 => ?_)
    have hw := hw y9 ey9
    refine mv_iload C dX9_read_177 1 rfl ?_
    refine mv_iadd C dX9_read_179 ?_
    refine mv_topi (fun y10 ey10 => ?_)
    have hw := hw y10 ey10
    refine mv_aload_n C dX9_read_180 rfl 0 rfl ?_
    refine mv_get (v := .ref (b 2)) C iw_X9_read_X9 0 rfl rfl 2 (by decide) lk_X9_read_13 rfl rfl dX9_read_181 ?_
    refine mv_iload C dX9_read_184 1 rfl ?_
    refine mv_iald (f := u.2 1) C 2 0 rfl rfl hw.1 dX9_read_186 ?_
    refine mv_topi (fun y11 ey11 => ?_)
    have hw := hw.2 y11 ey11
    refine mv_iast (f := u.2 1) (ws1 := wM cA b (mPut u 1 y10.toNatClampNeg y11)) C 2 0 rfl rfl hw.1 rfl dX9_read_187 ?_
    refine mv_nm (f := wM cA b) (fun u12 eu12 => ?_)
    have hw := hw.2 u12 eu12
    refine mv_aload_n C dX9_read_188 rfl 0 rfl ?_
    refine mv_get (v := .ref (b 3)) C iw_X9_read_X9 0 rfl rfl 3 (by decide) lk_X9_read_16 rfl rfl dX9_read_189 ?_
    refine mv_aload_n C dX9_read_192 rfl 0 rfl ?_
    refine mv_get (v := .int (u12.1 1)) C iw_X9_read_X9 0 rfl rfl 4 (by decide) lk_X9_read_104 rfl rfl dX9_read_193 ?_
    refine mv_topi (fun y13 ey13 => ?_)
    have hw := hw y13 ey13
    refine mv_iload C dX9_read_196 1 rfl ?_
    refine mv_iadd C dX9_read_198 ?_
    refine mv_topi (fun y14 ey14 => ?_)
    have hw := hw y14 ey14
    refine mv_iconst (v := (0 : Int32)) C dX9_read_199 (by decide) ?_
    refine mv_iast (f := u12.2 2) (ws1 := wM cA b (mPut u12 2 y14.toNatClampNeg (0 : Int32))) C 3 0 rfl rfl hw.1 rfl dX9_read_200 ?_
    refine mv_nm (f := wM cA b) (fun u15 eu15 => ?_)
    have hw := hw.2 u15 eu15
    obtain ⟨y16, ey16⟩ : ∃ z : Int32, z = x5 + (-1 : Int32) := ⟨_, rfl⟩
    have hw := hw y16 ey16
    refine mv_iinc (v := y16) (lv1 := [(5, .int y16), (0, .ref (b 0))]) C dX9_read_201 1 rfl (by rw [ey16]; rfl) (by decide) rfl ?_
    refine mv_goto (tgt := 164) C dX9_read_204 (by decide) ?_
    refine mv_sub [1, 0] rfl ?_
    exact hK164 y16 u15 hw
set_option maxHeartbeats 4000000 in
set_option maxRecDepth 100000 in
theorem wj_X9_read_9_ok (C : mC p s m args meth c cX9_read 8 wsX9_read RX9 (some .int) (dC, dI) vwCl [(cA, .int)] A) (hs : eM A s) (hlev : 0 ≤ lev) {post : Int32 → mS → Prop} {K9 : Int32 → Int32 → Int32 → Int32 → mS → Prop} (hK9 : ∀ (x1 x2 x3 x4 : Int32) (u : mS), K9 x1 x2 x3 x4 u → mV p l e (mRm lev) s m args below meth c 8 (dC, dI) vwCl A 0 0 (mQi below args s (dC, dI) vwCl [(cA, .int)] (wM cA b) A post) (wM cA b u) 9 [(0, .ref (b 0)), (1, .int x1), (2, .int x2), (3, .int x3), (4, .int x4)] []) {x1 x2 x3 x4 : Int32} {u : mS} (hw : wj_X9_read_9 K9 post x1 x2 x3 x4 u) : mV p l e (mRm lev) s m args below meth c 8 (dC, dI) vwCl A 0 0 (mQi below args s (dC, dI) vwCl [(cA, .int)] (wM cA b) A post) (wM cA b u) 9 [(0, .ref (b 0)), (1, .int x1), (2, .int x2), (3, .int x3), (4, .int x4)] [] := by
  unfold wj_X9_read_9 at hw
  refine mv_iload C dX9_read_9 4 rfl ?_
  refine mv_aload_n C dX9_read_11 rfl 0 rfl ?_
  refine mv_get (v := .int (u.1 0)) C iw_X9_read_X9 0 rfl rfl 1 (by decide) lk_X9_read_70 rfl rfl dX9_read_12 ?_
  refine mv_topi (fun y1 ey1 => ?_)
  have hw := hw y1 ey1
  refine mv_icmp_ge (tgt := 137) C dX9_read_15 (by decide) (fun h2 => ?_) (fun h2 => ?_)
  · have hw := hw.1 h2
    refine mv_iload_n C dX9_read_137 rfl 2 rfl ?_
    refine mv_if_gt (tgt := 145) C dX9_read_138 (by decide) (fun h3 => ?_) (fun h3 => ?_)
    · have hw := hw.1 h3
      refine mv_sub [0] rfl ?_
      exact wj_X9_read_145_ok C hs hlev hw
    · have hw := hw.2 h3
      refine mv_iload_n C dX9_read_141 rfl 3 rfl ?_
      refine mv_if_ne (tgt := 150) C dX9_read_142 (by decide) (fun h4 => ?_) (fun h4 => ?_)
      · have hw := hw.1 h4
        refine mv_aload_n C dX9_read_150 rfl 0 rfl ?_
        refine mv_sipush (v := (2600 : Int32)) C dX9_read_151 (by decide) ?_
        refine mv_iload_n C dX9_read_154 rfl 1 rfl ?_
        refine mv_isub C dX9_read_155 ?_
        refine mv_topi (fun y5 ey5 => ?_)
        have hw := hw y5 ey5
        refine mv_put (ty := .int) (ws1 := wM cA b (mSet u 1 y5)) C iw_X9_read_X9 tyX9 tyX9_ok nmX9 0 rfl rfl 4 (by decide) lk_X9_read_104 rfl rfl rfl rfl rfl (Nat.le_of_ble_eq_true rfl) rfl dX9_read_156 ?_
        refine mv_nm (f := wM cA b) (fun u6 eu6 => ?_)
        have hw := hw u6 eu6
        refine mv_iload_n C dX9_read_159 rfl 1 rfl ?_
        refine mv_iconst (v := (1 : Int32)) C dX9_read_160 (by decide) ?_
        refine mv_isub C dX9_read_161 ?_
        refine mv_topi (fun y7 ey7 => ?_)
        have hw := hw y7 ey7
        refine mv_istore (lv1 := [(5, .int y7), (0, .ref (b 0)), (1, .int x1), (2, .int x2), (3, .int x3), (4, .int x4)]) C dX9_read_162 (by decide) rfl ?_
        refine mv_sub [1, 0] rfl ?_
        obtain ⟨n, hw⟩ := hw
        exact mL2_of (fun K hK b0 b1 hw => wj_X9_read_164_ok C hs hlev hK hw) n y7 u6 hw
      · have hw := hw.2 h4
        refine mv_sub [0] rfl ?_
        exact wj_X9_read_145_ok C hs hlev hw
  · have hw := hw.2 h2
    refine mv_aload_n C dX9_read_18 rfl 0 rfl ?_
    refine mv_iload C dX9_read_19 4 rfl ?_
    exact hw.elim
set_option maxHeartbeats 4000000 in
set_option maxRecDepth 100000 in
theorem X9_read_met (hlev : 0 ≤ lev) {u : mS} {post : Int32 → mS → Prop} (hw : wp_X9_read  u post) : mKi l yX9_read wsX9_read lev (eM) (dC, dI) vwCl [(cA, .int)] (wM cA b) [.ref (b 0)] u post := by
  refine mKi_of (cc := cX9_read) (maxL := 8) (by decide) rfl rfl (Nat.le_of_ble_eq_true rfl) rfl ?_
  intro p e s m args below meth c A C hs
  unfold wp_X9_read at hw
  refine mv_iconst (v := (0 : Int32)) C dX9_read_0 (by decide) ?_
  refine mv_istore_n (lv1 := [(1, .int (0 : Int32)), (0, .ref (b 0))]) C dX9_read_1 rfl (by decide) rfl ?_
  refine mv_iconst (v := (0 : Int32)) C dX9_read_2 (by decide) ?_
  refine mv_istore_n (lv1 := [(2, .int (0 : Int32)), (1, .int (0 : Int32)), (0, .ref (b 0))]) C dX9_read_3 rfl (by decide) rfl ?_
  refine mv_iconst (v := (0 : Int32)) C dX9_read_4 (by decide) ?_
  refine mv_istore_n (lv1 := [(3, .int (0 : Int32)), (2, .int (0 : Int32)), (1, .int (0 : Int32)), (0, .ref (b 0))]) C dX9_read_5 rfl (by decide) rfl ?_
  refine mv_iconst (v := (0 : Int32)) C dX9_read_6 (by decide) ?_
  refine mv_istore (lv1 := [(4, .int (0 : Int32)), (3, .int (0 : Int32)), (2, .int (0 : Int32)), (1, .int (0 : Int32)), (0, .ref (b 0))]) C dX9_read_7 (by decide) rfl ?_
  refine mv_sub [4, 3, 2, 1, 0] rfl ?_
  obtain ⟨n, hw⟩ := hw
  exact mL5_of (fun K hK b0 b1 b2 b3 b4 hw => wj_X9_read_9_ok C hs hlev hK hw) n (0 : Int32) (0 : Int32) (0 : Int32) (0 : Int32) u hw
set_option maxHeartbeats 4000000 in
set_option maxRecDepth 100000 in
theorem X9_rules_met (hlev : 1 ≤ lev) {u : mS} {post : Int32 → mS → Prop} (hw : wp_X9_rules  u post) : mKi l yX9_rules wsX9_rules lev (eM) (dC, dI) vwCl [(cA, .int)] (wM cA b) [.ref (b 0)] u post := by
  refine mKi_of (cc := cX9_rules) (maxL := 5) (by decide) rfl rfl (Nat.le_of_ble_eq_true rfl) rfl ?_
  intro p e s m args below meth c A C hs
  unfold wp_X9_rules at hw
  refine mv_aload_n C dX9_rules_0 rfl 0 rfl ?_
  refine mv_callVi (f := wM cA b) (As := []) (rest := []) C eM_ok hs 0 rfl rfl (X9_read_met (l := l) (lev := lev - 1) (by omega) hw) (cwV 0 C.2.2.2.2.1 gX9_rules_X9_read rfl rfl rfl (by decide +kernel) (mRm_le (by omega) (by decide))) rfl rfl (Nat.le_of_ble_eq_true rfl) dX9_rules_1 ⟨Nat.le_refl 0, Nat.le_refl 0⟩ (fun r1 u2 hw => ?_)
  refine mv_istore_n (lv1 := [(1, .int r1), (0, .ref (b 0))]) C dX9_rules_4 rfl (by decide) rfl ?_
  refine mv_aload_n C dX9_rules_5 rfl 1 rfl ?_
  refine mv_iconst (v := (0 : Int32)) C dX9_rules_6 (by decide) ?_
  refine mv_put (ty := .int) (ws1 := wM cA b (mSet u2 0 (0 : Int32))) C iw_X9_rules_X9 tyX9 tyX9_ok nmX9 0 rfl rfl 1 (by decide) lk_X9_rules_70 rfl rfl rfl rfl rfl (Nat.le_of_ble_eq_true rfl) rfl dX9_rules_7 ?_
  refine mv_nm (f := wM cA b) (fun u3 eu3 => ?_)
  have hw := hw u3 eu3
  refine mv_iload_n C dX9_rules_10 rfl 0 rfl ?_
  refine mv_if_lt (tgt := 18) C dX9_rules_11 (by decide) (fun h4 => ?_) (fun h4 => ?_)
  · have hw := hw.1 h4
    refine mv_aload_n C dX9_rules_18 rfl 1 rfl ?_
    refine mv_get (v := .ref (b 2)) C iw_X9_rules_X9 0 rfl rfl 2 (by decide) lk_X9_rules_13 rfl rfl dX9_rules_19 ?_
    refine mv_aload_n C dX9_rules_22 rfl 1 rfl ?_
    refine mv_get (v := .int (u3.1 1)) C iw_X9_rules_X9 0 rfl rfl 4 (by decide) lk_X9_rules_104 rfl rfl dX9_rules_23 ?_
    refine mv_topi (fun y5 ey5 => ?_)
    have hw := hw y5 ey5
    exact hw.elim
  · have hw := hw.2 h4
    refine mv_iconst (v := (-1 : Int32)) C dX9_rules_14 (by decide) ?_
    refine mv_iload_n C dX9_rules_15 rfl 0 rfl ?_
    refine mv_isub C dX9_rules_16 ?_
    refine mv_topi (fun y6 ey6 => ?_)
    have hw := hw y6 ey6
    exact mv_iret C dX9_rules_17 hw
set_option maxHeartbeats 4000000 in
set_option maxRecDepth 100000 in
theorem X9_bind_met (hlev : 0 ≤ lev) {x1 x2 x3 x4 x5 : Int32} {u : mS} {post : mS → Prop} (hw : wp_X9_bind x1 x2 x3 x4 x5 u post) : mKv l yX9_bind wsX9_bind lev (eM) (dC, dI) vwCl [(cA, .int)] (wM cA b) [.ref (b 0), .int x1, .int x2, .int x3, .int x4, .int x5] u post := by
  refine mKv_of (cc := cX9_bind) (maxL := 6) (by decide) rfl rfl (Nat.le_of_ble_eq_true rfl) rfl ?_
  intro p e s m args below meth c A C hs
  unfold wp_X9_bind at hw
  refine mv_aload_n C dX9_bind_0 rfl 0 rfl ?_
  refine mv_get (v := .int (u.1 4)) C iw_X9_bind_X9 0 rfl rfl 11 (by decide) lk_X9_bind_160 rfl rfl dX9_bind_1 ?_
  refine mv_topi (fun y1 ey1 => ?_)
  have hw := hw y1 ey1
  refine mv_bipush (v := (40 : Int32)) C dX9_bind_4 (by decide) ?_
  refine mv_icmp_ne (tgt := 16) C dX9_bind_6 (by decide) (fun h2 => ?_) (fun h2 => ?_)
  · have hw := hw.1 h2
    refine mv_aload_n C dX9_bind_16 rfl 0 rfl ?_
    refine mv_get (v := .ref (b 8)) C iw_X9_bind_X9 0 rfl rfl 13 (by decide) lk_X9_bind_31 rfl rfl dX9_bind_17 ?_
    refine mv_aload_n C dX9_bind_20 rfl 0 rfl ?_
    refine mv_get (v := .int (u.1 4)) C iw_X9_bind_X9 0 rfl rfl 11 (by decide) lk_X9_bind_160 rfl rfl dX9_bind_21 ?_
    refine mv_topi (fun y3 ey3 => ?_)
    have hw := hw y3 ey3
    refine mv_iload_n C dX9_bind_24 rfl 1 rfl ?_
    refine mv_iast (f := u.2 7) (ws1 := wM cA b (mPut u 7 y3.toNatClampNeg x1)) C 8 0 rfl rfl hw.1 rfl dX9_bind_25 ?_
    refine mv_nm (f := wM cA b) (fun u4 eu4 => ?_)
    have hw := hw.2 u4 eu4
    refine mv_aload_n C dX9_bind_26 rfl 0 rfl ?_
    refine mv_get (v := .ref (b 9)) C iw_X9_bind_X9 0 rfl rfl 14 (by decide) lk_X9_bind_34 rfl rfl dX9_bind_27 ?_
    refine mv_aload_n C dX9_bind_30 rfl 0 rfl ?_
    refine mv_get (v := .int (u4.1 4)) C iw_X9_bind_X9 0 rfl rfl 11 (by decide) lk_X9_bind_160 rfl rfl dX9_bind_31 ?_
    refine mv_topi (fun y5 ey5 => ?_)
    have hw := hw y5 ey5
    refine mv_iload_n C dX9_bind_34 rfl 2 rfl ?_
    refine mv_iast (f := u4.2 8) (ws1 := wM cA b (mPut u4 8 y5.toNatClampNeg x2)) C 9 0 rfl rfl hw.1 rfl dX9_bind_35 ?_
    refine mv_nm (f := wM cA b) (fun u6 eu6 => ?_)
    have hw := hw.2 u6 eu6
    refine mv_aload_n C dX9_bind_36 rfl 0 rfl ?_
    refine mv_get (v := .ref (b 10)) C iw_X9_bind_X9 0 rfl rfl 15 (by decide) lk_X9_bind_37 rfl rfl dX9_bind_37 ?_
    refine mv_aload_n C dX9_bind_40 rfl 0 rfl ?_
    refine mv_get (v := .int (u6.1 4)) C iw_X9_bind_X9 0 rfl rfl 11 (by decide) lk_X9_bind_160 rfl rfl dX9_bind_41 ?_
    refine mv_topi (fun y7 ey7 => ?_)
    have hw := hw y7 ey7
    refine mv_iload_n C dX9_bind_44 rfl 3 rfl ?_
    refine mv_iast (f := u6.2 9) (ws1 := wM cA b (mPut u6 9 y7.toNatClampNeg x3)) C 10 0 rfl rfl hw.1 rfl dX9_bind_45 ?_
    refine mv_nm (f := wM cA b) (fun u8 eu8 => ?_)
    have hw := hw.2 u8 eu8
    refine mv_aload_n C dX9_bind_46 rfl 0 rfl ?_
    refine mv_get (v := .ref (b 11)) C iw_X9_bind_X9 0 rfl rfl 16 (by decide) lk_X9_bind_40 rfl rfl dX9_bind_47 ?_
    refine mv_aload_n C dX9_bind_50 rfl 0 rfl ?_
    refine mv_get (v := .int (u8.1 4)) C iw_X9_bind_X9 0 rfl rfl 11 (by decide) lk_X9_bind_160 rfl rfl dX9_bind_51 ?_
    refine mv_topi (fun y9 ey9 => ?_)
    have hw := hw y9 ey9
    refine mv_iload C dX9_bind_54 4 rfl ?_
    refine mv_iast (f := u8.2 10) (ws1 := wM cA b (mPut u8 10 y9.toNatClampNeg x4)) C 11 0 rfl rfl hw.1 rfl dX9_bind_56 ?_
    refine mv_nm (f := wM cA b) (fun u10 eu10 => ?_)
    have hw := hw.2 u10 eu10
    refine mv_aload_n C dX9_bind_57 rfl 0 rfl ?_
    refine mv_get (v := .ref (b 12)) C iw_X9_bind_X9 0 rfl rfl 17 (by decide) lk_X9_bind_43 rfl rfl dX9_bind_58 ?_
    refine mv_aload_n C dX9_bind_61 rfl 0 rfl ?_
    refine mv_get (v := .int (u10.1 4)) C iw_X9_bind_X9 0 rfl rfl 11 (by decide) lk_X9_bind_160 rfl rfl dX9_bind_62 ?_
    refine mv_topi (fun y11 ey11 => ?_)
    have hw := hw y11 ey11
    refine mv_iload C dX9_bind_65 5 rfl ?_
    refine mv_iast (f := u10.2 11) (ws1 := wM cA b (mPut u10 11 y11.toNatClampNeg x5)) C 12 0 rfl rfl hw.1 rfl dX9_bind_67 ?_
    refine mv_nm (f := wM cA b) (fun u12 eu12 => ?_)
    have hw := hw.2 u12 eu12
    refine mv_aload_n C dX9_bind_68 rfl 0 rfl ?_
    refine mv_dup C dX9_bind_69 rfl ?_
    refine mv_get (v := .int (u12.1 4)) C iw_X9_bind_X9 0 rfl rfl 11 (by decide) lk_X9_bind_160 rfl rfl dX9_bind_70 ?_
    refine mv_topi (fun y13 ey13 => ?_)
    have hw := hw y13 ey13
    refine mv_iconst (v := (1 : Int32)) C dX9_bind_73 (by decide) ?_
    refine mv_iadd C dX9_bind_74 ?_
    refine mv_topi (fun y14 ey14 => ?_)
    have hw := hw y14 ey14
    refine mv_put (ty := .int) (ws1 := wM cA b (mSet u12 4 y14)) C iw_X9_bind_X9 tyX9 tyX9_ok nmX9 0 rfl rfl 11 (by decide) lk_X9_bind_160 rfl rfl rfl rfl rfl (Nat.le_of_ble_eq_true rfl) rfl dX9_bind_75 ?_
    refine mv_nm (f := wM cA b) (fun u15 eu15 => ?_)
    have hw := hw u15 eu15
    exact mv_vret C dX9_bind_78 hw
  · have hw := hw.2 h2
    refine mv_aload_n C dX9_bind_9 rfl 0 rfl ?_
    refine mv_bipush (v := (6 : Int32)) C dX9_bind_10 (by decide) ?_
    exact hw.elim
set_option maxHeartbeats 4000000 in
set_option maxRecDepth 100000 in
theorem wj_X9_beginning_90_ok (C : mC p s m args meth c cX9_beginning 2 wsX9_beginning RX9 none (dC, dI) vwCl [(cA, .int)] A) (hs : eM A s) (hlev : 1 ≤ lev) {post : mS → Prop} {K90 : Int32 → mS → Prop} (hK90 : ∀ (x1 : Int32) (u : mS), K90 x1 u → mV p l e (mRm lev) s m args below meth c 2 (dC, dI) vwCl A 0 0 (mQv below args s (dC, dI) vwCl [(cA, .int)] (wM cA b) A post) (wM cA b u) 90 [(0, .ref (b 0)), (1, .int x1)] []) {x1 : Int32} {u : mS} (hw : wj_X9_beginning_90 K90 post x1 u) : mV p l e (mRm lev) s m args below meth c 2 (dC, dI) vwCl A 0 0 (mQv below args s (dC, dI) vwCl [(cA, .int)] (wM cA b) A post) (wM cA b u) 90 [(0, .ref (b 0)), (1, .int x1)] [] := by
  unfold wj_X9_beginning_90 at hw
  refine mv_iload_n C dX9_beginning_90 rfl 1 rfl ?_
  refine mv_aload_n C dX9_beginning_91 rfl 0 rfl ?_
  refine mv_get (v := .int (u.1 3)) C iw_X9_beginning_X9 0 rfl rfl 8 (by decide) lk_X9_beginning_157 rfl rfl dX9_beginning_92 ?_
  refine mv_topi (fun y18 ey18 => ?_)
  have hw := hw y18 ey18
  refine mv_icmp_ge (tgt := 126) C dX9_beginning_95 (by decide) (fun h19 => ?_) (fun h19 => ?_)
  · have hw := hw.1 h19
    refine mv_aload_n C dX9_beginning_126 rfl 0 rfl ?_
    refine mv_aload_n C dX9_beginning_127 rfl 0 rfl ?_
    refine mv_get (v := .int (u.1 4)) C iw_X9_beginning_X9 0 rfl rfl 11 (by decide) lk_X9_beginning_160 rfl rfl dX9_beginning_128 ?_
    refine mv_topi (fun y20 ey20 => ?_)
    have hw := hw y20 ey20
    refine mv_put (ty := .int) (ws1 := wM cA b (mSet u 5 y20)) C iw_X9_beginning_X9 tyX9 tyX9_ok nmX9 0 rfl rfl 12 (by decide) lk_X9_beginning_175 rfl rfl rfl rfl rfl (Nat.le_of_ble_eq_true rfl) rfl dX9_beginning_131 ?_
    refine mv_nm (f := wM cA b) (fun u21 eu21 => ?_)
    have hw := hw u21 eu21
    exact mv_vret C dX9_beginning_134 hw
  · have hw := hw.2 h19
    refine mv_aload_n C dX9_beginning_98 rfl 0 rfl ?_
    refine mv_aload_n C dX9_beginning_99 rfl 0 rfl ?_
    refine mv_get (v := .ref (b 6)) C iw_X9_beginning_X9 0 rfl rfl 9 (by decide) lk_X9_beginning_25 rfl rfl dX9_beginning_100 ?_
    refine mv_iload_n C dX9_beginning_103 rfl 1 rfl ?_
    refine mv_iald (f := u.2 5) C 6 0 rfl rfl hw.1 dX9_beginning_104 ?_
    refine mv_topi (fun y22 ey22 => ?_)
    have hw := hw.2 y22 ey22
    refine mv_iconst (v := (0 : Int32)) C dX9_beginning_105 (by decide) ?_
    refine mv_iconst (v := (3 : Int32)) C dX9_beginning_106 (by decide) ?_
    refine mv_bipush (v := (120 : Int32)) C dX9_beginning_107 (by decide) ?_
    refine mv_iload_n C dX9_beginning_109 rfl 1 rfl ?_
    refine mv_imul C dX9_beginning_110 ?_
    refine mv_topi (fun y23 ey23 => ?_)
    have hw := hw y23 ey23
    refine mv_aload_n C dX9_beginning_111 rfl 0 rfl ?_
    refine mv_get (v := .ref (b 7)) C iw_X9_beginning_X9 0 rfl rfl 10 (by decide) lk_X9_beginning_28 rfl rfl dX9_beginning_112 ?_
    refine mv_iload_n C dX9_beginning_115 rfl 1 rfl ?_
    refine mv_iald (f := u.2 6) C 7 0 rfl rfl hw.1 dX9_beginning_116 ?_
    refine mv_topi (fun y24 ey24 => ?_)
    have hw := hw.2 y24 ey24
    refine mv_callVv (f := wM cA b) (As := [.int y22, .int (0 : Int32), .int (3 : Int32), .int y23, .int y24]) (rest := []) C eM_ok hs 0 rfl rfl (X9_bind_met (l := l) (lev := lev - 1) (by omega) hw) (cwV 5 C.2.2.2.2.1 gX9_beginning_X9_bind rfl rfl rfl (by decide +kernel) (mRm_le (by omega) (by decide))) rfl rfl (Nat.le_of_ble_eq_true rfl) dX9_beginning_117 ⟨Nat.le_refl 0, Nat.le_refl 0⟩ (fun u26 hw => ?_)
    obtain ⟨y27, ey27⟩ : ∃ z : Int32, z = x1 + (1 : Int32) := ⟨_, rfl⟩
    have hw := hw y27 ey27
    refine mv_iinc (v := y27) (lv1 := [(1, .int y27), (0, .ref (b 0))]) C dX9_beginning_120 1 rfl (by rw [ey27]; rfl) (by decide) rfl ?_
    refine mv_goto (tgt := 90) C dX9_beginning_123 (by decide) ?_
    refine mv_sub [1, 0] rfl ?_
    exact hK90 y27 u26 hw
set_option maxHeartbeats 4000000 in
set_option maxRecDepth 100000 in
theorem X9_beginning_met (hlev : 1 ≤ lev) {u : mS} {post : mS → Prop} (hw : wp_X9_beginning  u post) : mKv l yX9_beginning wsX9_beginning lev (eM) (dC, dI) vwCl [(cA, .int)] (wM cA b) [.ref (b 0)] u post := by
  refine mKv_of (cc := cX9_beginning) (maxL := 2) (by decide) rfl rfl (Nat.le_of_ble_eq_true rfl) rfl ?_
  intro p e s m args below meth c A C hs
  unfold wp_X9_beginning at hw
  refine mv_aload_n C dX9_beginning_0 rfl 0 rfl ?_
  refine mv_iconst (v := (0 : Int32)) C dX9_beginning_1 (by decide) ?_
  refine mv_put (ty := .int) (ws1 := wM cA b (mSet u 4 (0 : Int32))) C iw_X9_beginning_X9 tyX9 tyX9_ok nmX9 0 rfl rfl 11 (by decide) lk_X9_beginning_160 rfl rfl rfl rfl rfl (Nat.le_of_ble_eq_true rfl) rfl dX9_beginning_2 ?_
  refine mv_nm (f := wM cA b) (fun u1 eu1 => ?_)
  have hw := hw u1 eu1
  refine mv_aload_n C dX9_beginning_5 rfl 0 rfl ?_
  refine mv_sipush (v := (206 : Int32)) C dX9_beginning_6 (by decide) ?_
  refine mv_iconst (v := (0 : Int32)) C dX9_beginning_9 (by decide) ?_
  refine mv_iconst (v := (0 : Int32)) C dX9_beginning_10 (by decide) ?_
  refine mv_iconst (v := (0 : Int32)) C dX9_beginning_11 (by decide) ?_
  refine mv_iconst (v := (0 : Int32)) C dX9_beginning_12 (by decide) ?_
  refine mv_callVv (f := wM cA b) (As := [.int (206 : Int32), .int (0 : Int32), .int (0 : Int32), .int (0 : Int32), .int (0 : Int32)]) (rest := []) C eM_ok hs 0 rfl rfl (X9_bind_met (l := l) (lev := lev - 1) (by omega) hw) (cwV 5 C.2.2.2.2.1 gX9_beginning_X9_bind rfl rfl rfl (by decide +kernel) (mRm_le (by omega) (by decide))) rfl rfl (Nat.le_of_ble_eq_true rfl) dX9_beginning_13 ⟨Nat.le_refl 0, Nat.le_refl 0⟩ (fun u3 hw => ?_)
  refine mv_aload_n C dX9_beginning_16 rfl 0 rfl ?_
  refine mv_sipush (v := (294 : Int32)) C dX9_beginning_17 (by decide) ?_
  refine mv_iconst (v := (0 : Int32)) C dX9_beginning_20 (by decide) ?_
  refine mv_iconst (v := (0 : Int32)) C dX9_beginning_21 (by decide) ?_
  refine mv_iconst (v := (1 : Int32)) C dX9_beginning_22 (by decide) ?_
  refine mv_iconst (v := (0 : Int32)) C dX9_beginning_23 (by decide) ?_
  refine mv_callVv (f := wM cA b) (As := [.int (294 : Int32), .int (0 : Int32), .int (0 : Int32), .int (1 : Int32), .int (0 : Int32)]) (rest := []) C eM_ok hs 0 rfl rfl (X9_bind_met (l := l) (lev := lev - 1) (by omega) hw) (cwV 5 C.2.2.2.2.1 gX9_beginning_X9_bind rfl rfl rfl (by decide +kernel) (mRm_le (by omega) (by decide))) rfl rfl (Nat.le_of_ble_eq_true rfl) dX9_beginning_24 ⟨Nat.le_refl 0, Nat.le_refl 0⟩ (fun u5 hw => ?_)
  refine mv_aload_n C dX9_beginning_27 rfl 0 rfl ?_
  refine mv_bipush (v := (17 : Int32)) C dX9_beginning_28 (by decide) ?_
  refine mv_iconst (v := (0 : Int32)) C dX9_beginning_30 (by decide) ?_
  refine mv_iconst (v := (0 : Int32)) C dX9_beginning_31 (by decide) ?_
  refine mv_iconst (v := (2 : Int32)) C dX9_beginning_32 (by decide) ?_
  refine mv_iconst (v := (0 : Int32)) C dX9_beginning_33 (by decide) ?_
  refine mv_callVv (f := wM cA b) (As := [.int (17 : Int32), .int (0 : Int32), .int (0 : Int32), .int (2 : Int32), .int (0 : Int32)]) (rest := []) C eM_ok hs 0 rfl rfl (X9_bind_met (l := l) (lev := lev - 1) (by omega) hw) (cwV 5 C.2.2.2.2.1 gX9_beginning_X9_bind rfl rfl rfl (by decide +kernel) (mRm_le (by omega) (by decide))) rfl rfl (Nat.le_of_ble_eq_true rfl) dX9_beginning_34 ⟨Nat.le_refl 0, Nat.le_refl 0⟩ (fun u7 hw => ?_)
  refine mv_aload_n C dX9_beginning_37 rfl 0 rfl ?_
  refine mv_sipush (v := (403 : Int32)) C dX9_beginning_38 (by decide) ?_
  refine mv_iconst (v := (0 : Int32)) C dX9_beginning_41 (by decide) ?_
  refine mv_iconst (v := (0 : Int32)) C dX9_beginning_42 (by decide) ?_
  refine mv_iconst (v := (3 : Int32)) C dX9_beginning_43 (by decide) ?_
  refine mv_iconst (v := (0 : Int32)) C dX9_beginning_44 (by decide) ?_
  refine mv_callVv (f := wM cA b) (As := [.int (403 : Int32), .int (0 : Int32), .int (0 : Int32), .int (3 : Int32), .int (0 : Int32)]) (rest := []) C eM_ok hs 0 rfl rfl (X9_bind_met (l := l) (lev := lev - 1) (by omega) hw) (cwV 5 C.2.2.2.2.1 gX9_beginning_X9_bind rfl rfl rfl (by decide +kernel) (mRm_le (by omega) (by decide))) rfl rfl (Nat.le_of_ble_eq_true rfl) dX9_beginning_45 ⟨Nat.le_refl 0, Nat.le_refl 0⟩ (fun u9 hw => ?_)
  refine mv_aload_n C dX9_beginning_48 rfl 0 rfl ?_
  refine mv_ldc (v := (40043 : Int32)) C mw_X9_beginning__constant_RX9_171_40043_Int32_ dX9_beginning_49 ?_
  refine mv_iconst (v := (0 : Int32)) C dX9_beginning_51 (by decide) ?_
  refine mv_iconst (v := (1 : Int32)) C dX9_beginning_52 (by decide) ?_
  refine mv_iconst (v := (0 : Int32)) C dX9_beginning_53 (by decide) ?_
  refine mv_iconst (v := (0 : Int32)) C dX9_beginning_54 (by decide) ?_
  refine mv_callVv (f := wM cA b) (As := [.int (40043 : Int32), .int (0 : Int32), .int (1 : Int32), .int (0 : Int32), .int (0 : Int32)]) (rest := []) C eM_ok hs 0 rfl rfl (X9_bind_met (l := l) (lev := lev - 1) (by omega) hw) (cwV 5 C.2.2.2.2.1 gX9_beginning_X9_bind rfl rfl rfl (by decide +kernel) (mRm_le (by omega) (by decide))) rfl rfl (Nat.le_of_ble_eq_true rfl) dX9_beginning_55 ⟨Nat.le_refl 0, Nat.le_refl 0⟩ (fun u11 hw => ?_)
  refine mv_aload_n C dX9_beginning_58 rfl 0 rfl ?_
  refine mv_ldc (v := (40042 : Int32)) C mw_X9_beginning__constant_RX9_172_40042_Int32_ dX9_beginning_59 ?_
  refine mv_iconst (v := (0 : Int32)) C dX9_beginning_61 (by decide) ?_
  refine mv_iconst (v := (1 : Int32)) C dX9_beginning_62 (by decide) ?_
  refine mv_iconst (v := (0 : Int32)) C dX9_beginning_63 (by decide) ?_
  refine mv_iconst (v := (0 : Int32)) C dX9_beginning_64 (by decide) ?_
  refine mv_callVv (f := wM cA b) (As := [.int (40042 : Int32), .int (0 : Int32), .int (1 : Int32), .int (0 : Int32), .int (0 : Int32)]) (rest := []) C eM_ok hs 0 rfl rfl (X9_bind_met (l := l) (lev := lev - 1) (by omega) hw) (cwV 5 C.2.2.2.2.1 gX9_beginning_X9_bind rfl rfl rfl (by decide +kernel) (mRm_le (by omega) (by decide))) rfl rfl (Nat.le_of_ble_eq_true rfl) dX9_beginning_65 ⟨Nat.le_refl 0, Nat.le_refl 0⟩ (fun u13 hw => ?_)
  refine mv_aload_n C dX9_beginning_68 rfl 0 rfl ?_
  refine mv_ldc (v := (40061 : Int32)) C mw_X9_beginning__constant_RX9_173_40061_Int32_ dX9_beginning_69 ?_
  refine mv_iconst (v := (0 : Int32)) C dX9_beginning_71 (by decide) ?_
  refine mv_iconst (v := (1 : Int32)) C dX9_beginning_72 (by decide) ?_
  refine mv_iconst (v := (0 : Int32)) C dX9_beginning_73 (by decide) ?_
  refine mv_iconst (v := (0 : Int32)) C dX9_beginning_74 (by decide) ?_
  refine mv_callVv (f := wM cA b) (As := [.int (40061 : Int32), .int (0 : Int32), .int (1 : Int32), .int (0 : Int32), .int (0 : Int32)]) (rest := []) C eM_ok hs 0 rfl rfl (X9_bind_met (l := l) (lev := lev - 1) (by omega) hw) (cwV 5 C.2.2.2.2.1 gX9_beginning_X9_bind rfl rfl rfl (by decide +kernel) (mRm_le (by omega) (by decide))) rfl rfl (Nat.le_of_ble_eq_true rfl) dX9_beginning_75 ⟨Nat.le_refl 0, Nat.le_refl 0⟩ (fun u15 hw => ?_)
  refine mv_aload_n C dX9_beginning_78 rfl 0 rfl ?_
  refine mv_ldc (v := (40060 : Int32)) C mw_X9_beginning__constant_RX9_174_40060_Int32_ dX9_beginning_79 ?_
  refine mv_iconst (v := (0 : Int32)) C dX9_beginning_81 (by decide) ?_
  refine mv_iconst (v := (1 : Int32)) C dX9_beginning_82 (by decide) ?_
  refine mv_iconst (v := (0 : Int32)) C dX9_beginning_83 (by decide) ?_
  refine mv_iconst (v := (0 : Int32)) C dX9_beginning_84 (by decide) ?_
  refine mv_callVv (f := wM cA b) (As := [.int (40060 : Int32), .int (0 : Int32), .int (1 : Int32), .int (0 : Int32), .int (0 : Int32)]) (rest := []) C eM_ok hs 0 rfl rfl (X9_bind_met (l := l) (lev := lev - 1) (by omega) hw) (cwV 5 C.2.2.2.2.1 gX9_beginning_X9_bind rfl rfl rfl (by decide +kernel) (mRm_le (by omega) (by decide))) rfl rfl (Nat.le_of_ble_eq_true rfl) dX9_beginning_85 ⟨Nat.le_refl 0, Nat.le_refl 0⟩ (fun u17 hw => ?_)
  refine mv_iconst (v := (0 : Int32)) C dX9_beginning_88 (by decide) ?_
  refine mv_istore_n (lv1 := [(1, .int (0 : Int32)), (0, .ref (b 0))]) C dX9_beginning_89 rfl (by decide) rfl ?_
  refine mv_sub [1, 0] rfl ?_
  obtain ⟨n, hw⟩ := hw
  exact mL2_of (fun K hK b0 b1 hw => wj_X9_beginning_90_ok C hs hlev hK hw) n (0 : Int32) u17 hw
set_option maxHeartbeats 4000000 in
set_option maxRecDepth 100000 in
theorem wj_X9_expand_10_ok (C : mC p s m args meth c cX9_expand 3 wsX9_expand RX9 (some .int) (dC, dI) vwCl [(cA, .int)] A) (hs : eM A s) (hlev : 2 ≤ lev) {post : Int32 → mS → Prop} {u : mS} (hw : wj_X9_expand_10 post  u) : mV p l e (mRm lev) s m args below meth c 3 (dC, dI) vwCl A 0 0 (mQi below args s (dC, dI) vwCl [(cA, .int)] (wM cA b) A post) (wM cA b u) 10 [] [] := by
  unfold wj_X9_expand_10 at hw
  refine mv_sipush (v := (-7000 : Int32)) C dX9_expand_10 (by decide) ?_
  exact mv_iret C dX9_expand_13 hw
set_option maxHeartbeats 4000000 in
set_option maxRecDepth 100000 in
theorem wj_X9_expand_122_ok (C : mC p s m args meth c cX9_expand 3 wsX9_expand RX9 (some .int) (dC, dI) vwCl [(cA, .int)] A) (hs : eM A s) (hlev : 2 ≤ lev) {post : Int32 → mS → Prop} {u : mS} (hw : wj_X9_expand_122 post  u) : mV p l e (mRm lev) s m args below meth c 3 (dC, dI) vwCl A 0 0 (mQi below args s (dC, dI) vwCl [(cA, .int)] (wM cA b) A post) (wM cA b u) 122 [(0, .ref (b 0))] [] := by
  unfold wj_X9_expand_122 at hw
  refine mv_aload_n C dX9_expand_122 rfl 0 rfl ?_
  refine mv_get (v := .int (u.1 12)) C iw_X9_expand_X9 0 rfl rfl 32 (by decide) lk_X9_expand_178 rfl rfl dX9_expand_123 ?_
  refine mv_topi (fun y26 ey26 => ?_)
  have hw := hw y26 ey26
  refine mv_if_eq (tgt := 140) C dX9_expand_126 (by decide) (fun h27 => ?_) (fun h27 => ?_)
  · have hw := hw.1 h27
    refine mv_aload_n C dX9_expand_140 rfl 0 rfl ?_
    refine mv_get (v := .int (u.1 9)) C iw_X9_expand_X9 0 rfl rfl 29 (by decide) lk_X9_expand_184 rfl rfl dX9_expand_141 ?_
    refine mv_topi (fun y28 ey28 => ?_)
    have hw := hw y28 ey28
    exact mv_iret C dX9_expand_144 hw
  · have hw := hw.2 h27
    refine mv_sipush (v := (-1000 : Int32)) C dX9_expand_129 (by decide) ?_
    refine mv_aload_n C dX9_expand_132 rfl 0 rfl ?_
    refine mv_get (v := .int (u.1 12)) C iw_X9_expand_X9 0 rfl rfl 32 (by decide) lk_X9_expand_178 rfl rfl dX9_expand_133 ?_
    refine mv_topi (fun y29 ey29 => ?_)
    have hw := hw y29 ey29
    refine mv_imul C dX9_expand_136 ?_
    refine mv_topi (fun y30 ey30 => ?_)
    have hw := hw y30 ey30
    refine mv_goto (tgt := 144) C dX9_expand_137 (by decide) ?_
    exact mv_iret C dX9_expand_144 hw
set_option maxHeartbeats 4000000 in
set_option maxRecDepth 100000 in
theorem wj_X9_expand_110_ok (C : mC p s m args meth c cX9_expand 3 wsX9_expand RX9 (some .int) (dC, dI) vwCl [(cA, .int)] A) (hs : eM A s) (hlev : 2 ≤ lev) {post : Int32 → mS → Prop} {u : mS} (hw : wj_X9_expand_110 post  u) : mV p l e (mRm lev) s m args below meth c 3 (dC, dI) vwCl A 0 0 (mQi below args s (dC, dI) vwCl [(cA, .int)] (wM cA b) A post) (wM cA b u) 110 [(0, .ref (b 0))] [] := by
  unfold wj_X9_expand_110 at hw
  refine mv_aload_n C dX9_expand_110 rfl 0 rfl ?_
  refine mv_get (v := .int (u.1 12)) C iw_X9_expand_X9 0 rfl rfl 32 (by decide) lk_X9_expand_178 rfl rfl dX9_expand_111 ?_
  refine mv_topi (fun y23 ey23 => ?_)
  have hw := hw y23 ey23
  refine mv_if_eq (tgt := 122) C dX9_expand_114 (by decide) (fun h24 => ?_) (fun h24 => ?_)
  · have hw := hw.1 h24
    exact wj_X9_expand_122_ok C hs hlev hw
  · have hw := hw.2 h24
    refine mv_aload_n C dX9_expand_117 rfl 0 rfl ?_
    refine mv_iconst (v := (0 : Int32)) C dX9_expand_118 (by decide) ?_
    refine mv_put (ty := .int) (ws1 := wM cA b (mSet u 9 (0 : Int32))) C iw_X9_expand_X9 tyX9 tyX9_ok nmX9 0 rfl rfl 29 (by decide) lk_X9_expand_184 rfl rfl rfl rfl rfl (Nat.le_of_ble_eq_true rfl) rfl dX9_expand_119 ?_
    refine mv_nm (f := wM cA b) (fun u25 eu25 => ?_)
    have hw := hw u25 eu25
    exact wj_X9_expand_122_ok C hs hlev hw
set_option maxHeartbeats 4000000 in
set_option maxRecDepth 100000 in
theorem wj_X9_expand_86_ok (C : mC p s m args meth c cX9_expand 3 wsX9_expand RX9 (some .int) (dC, dI) vwCl [(cA, .int)] A) (hs : eM A s) (hlev : 2 ≤ lev) {post : Int32 → mS → Prop} {K86 : mS → Prop} (hK86 : ∀ (u : mS), K86  u → mV p l e (mRm lev) s m args below meth c 3 (dC, dI) vwCl A 0 0 (mQi below args s (dC, dI) vwCl [(cA, .int)] (wM cA b) A post) (wM cA b u) 86 [(0, .ref (b 0))] []) {u : mS} (hw : wj_X9_expand_86 K86 post  u) : mV p l e (mRm lev) s m args below meth c 3 (dC, dI) vwCl A 0 0 (mQi below args s (dC, dI) vwCl [(cA, .int)] (wM cA b) A post) (wM cA b u) 86 [(0, .ref (b 0))] [] := by
  unfold wj_X9_expand_86 at hw
  refine mv_aload_n C dX9_expand_86 rfl 0 rfl ?_
  refine mv_get (v := .int (u.1 1)) C iw_X9_expand_X9 0 rfl rfl 4 (by decide) lk_X9_expand_104 rfl rfl dX9_expand_87 ?_
  refine mv_topi (fun y19 ey19 => ?_)
  have hw := hw y19 ey19
  refine mv_sipush (v := (2600 : Int32)) C dX9_expand_90 (by decide) ?_
  refine mv_icmp_ge (tgt := 110) C dX9_expand_93 (by decide) (fun h20 => ?_) (fun h20 => ?_)
  · have hw := hw.1 h20
    exact wj_X9_expand_110_ok C hs hlev hw
  · have hw := hw.2 h20
    refine mv_aload_n C dX9_expand_96 rfl 0 rfl ?_
    refine mv_get (v := .int (u.1 12)) C iw_X9_expand_X9 0 rfl rfl 32 (by decide) lk_X9_expand_178 rfl rfl dX9_expand_97 ?_
    refine mv_topi (fun y21 ey21 => ?_)
    have hw := hw y21 ey21
    refine mv_if_ne (tgt := 110) C dX9_expand_100 (by decide) (fun h22 => ?_) (fun h22 => ?_)
    · have hw := hw.1 h22
      exact wj_X9_expand_110_ok C hs hlev hw
    · have hw := hw.2 h22
      refine mv_aload_n C dX9_expand_103 rfl 0 rfl ?_
      exact hw.elim
set_option maxHeartbeats 4000000 in
set_option maxRecDepth 100000 in
theorem wj_X9_expand_64_ok (C : mC p s m args meth c cX9_expand 3 wsX9_expand RX9 (some .int) (dC, dI) vwCl [(cA, .int)] A) (hs : eM A s) (hlev : 2 ≤ lev) {post : Int32 → mS → Prop} {x2 z0 : Int32} {u : mS} (hw : wj_X9_expand_64 post x2 z0 u) : mV p l e (mRm lev) s m args below meth c 3 (dC, dI) vwCl A 0 0 (mQi below args s (dC, dI) vwCl [(cA, .int)] (wM cA b) A post) (wM cA b u) 64 [(0, .ref (b 0)), (2, .int x2)] [.int z0, .ref (b 0)] := by
  unfold wj_X9_expand_64 at hw
  refine mv_put (ty := .int) (ws1 := wM cA b (mSet u 15 z0)) C iw_X9_expand_X9 tyX9 tyX9_ok nmX9 0 rfl rfl 35 (by decide) lk_X9_expand_245 rfl rfl rfl rfl rfl (Nat.le_of_ble_eq_true rfl) rfl dX9_expand_64 ?_
  refine mv_nm (f := wM cA b) (fun u13 eu13 => ?_)
  have hw := hw u13 eu13
  refine mv_aload_n C dX9_expand_67 rfl 0 rfl ?_
  refine mv_sipush (v := (480 : Int32)) C dX9_expand_68 (by decide) ?_
  refine mv_put (ty := .int) (ws1 := wM cA b (mSet u13 2 (480 : Int32))) C iw_X9_expand_X9 tyX9 tyX9_ok nmX9 0 rfl rfl 7 (by decide) lk_X9_expand_274 rfl rfl rfl rfl rfl (Nat.le_of_ble_eq_true rfl) rfl dX9_expand_71 ?_
  refine mv_nm (f := wM cA b) (fun u14 eu14 => ?_)
  have hw := hw u14 eu14
  refine mv_aload_n C dX9_expand_74 rfl 0 rfl ?_
  refine mv_callVv (f := wM cA b) (As := []) (rest := []) C eM_ok hs 0 rfl rfl (X9_beginning_met (l := l) (lev := lev - 1) (by omega) hw) (cwV 0 C.2.2.2.2.1 gX9_expand_X9_beginning rfl rfl rfl (by decide +kernel) (mRm_le (by omega) (by decide))) rfl rfl (Nat.le_of_ble_eq_true rfl) dX9_expand_75 ⟨Nat.le_refl 0, Nat.le_refl 0⟩ (fun u16 hw => ?_)
  refine mv_iload_n C dX9_expand_78 rfl 1 rfl ?_
  refine mv_if_lt (tgt := 86) C dX9_expand_79 (by decide) (fun h17 => ?_) (fun h17 => ?_)
  · have hw := hw.1 h17
    refine mv_sub [0] rfl ?_
    obtain ⟨n, hw⟩ := hw
    exact mL1_of (fun K hK b0 hw => wj_X9_expand_86_ok C hs hlev hK hw) n u16 hw
  · have hw := hw.2 h17
    refine mv_iconst (v := (-1 : Int32)) C dX9_expand_82 (by decide) ?_
    refine mv_iload_n C dX9_expand_83 rfl 1 rfl ?_
    refine mv_isub C dX9_expand_84 ?_
    refine mv_topi (fun y18 ey18 => ?_)
    have hw := hw y18 ey18
    exact mv_iret C dX9_expand_85 hw
set_option maxHeartbeats 4000000 in
set_option maxRecDepth 100000 in
theorem X9_expand_met (hlev : 2 ≤ lev) {x1 : Int32} {u : mS} {post : Int32 → mS → Prop} (hw : wp_X9_expand x1 u post) : mKi l yX9_expand wsX9_expand lev (eM) (dC, dI) vwCl [(cA, .int)] (wM cA b) [.ref (b 0), .int x1] u post := by
  refine mKi_of (cc := cX9_expand) (maxL := 3) (by decide) rfl rfl (Nat.le_of_ble_eq_true rfl) rfl ?_
  intro p e s m args below meth c A C hs
  unfold wp_X9_expand at hw
  refine mv_iload_n C dX9_expand_0 rfl 1 rfl ?_
  refine mv_if_lt (tgt := 10) C dX9_expand_1 (by decide) (fun h1 => ?_) (fun h1 => ?_)
  · have hw := hw.1 h1
    refine mv_sub [] rfl ?_
    exact wj_X9_expand_10_ok C hs hlev hw
  · have hw := hw.2 h1
    refine mv_iload_n C dX9_expand_4 rfl 1 rfl ?_
    refine mv_bipush (v := (8 : Int32)) C dX9_expand_5 (by decide) ?_
    refine mv_icmp_le (tgt := 14) C dX9_expand_7 (by decide) (fun h2 => ?_) (fun h2 => ?_)
    · have hw := hw.1 h2
      refine mv_aload_n C dX9_expand_14 rfl 0 rfl ?_
      refine mv_callVi (f := wM cA b) (As := []) (rest := []) C eM_ok hs 0 rfl rfl (X9_read_met (l := l) (lev := lev - 1) (by omega) hw) (cwV 0 C.2.2.2.2.1 gX9_expand_X9_read rfl rfl rfl (by decide +kernel) (mRm_le (by omega) (by decide))) rfl rfl (Nat.le_of_ble_eq_true rfl) dX9_expand_15 ⟨Nat.le_refl 0, Nat.le_refl 0⟩ (fun r3 u4 hw => ?_)
      refine mv_istore_n (lv1 := [(2, .int r3), (0, .ref (b 0)), (1, .int x1)]) C dX9_expand_18 rfl (by decide) rfl ?_
      refine mv_aload_n C dX9_expand_19 rfl 1 rfl ?_
      refine mv_iconst (v := (0 : Int32)) C dX9_expand_20 (by decide) ?_
      refine mv_put (ty := .int) (ws1 := wM cA b (mSet u4 0 (0 : Int32))) C iw_X9_expand_X9 tyX9 tyX9_ok nmX9 0 rfl rfl 1 (by decide) lk_X9_expand_70 rfl rfl rfl rfl rfl (Nat.le_of_ble_eq_true rfl) rfl dX9_expand_21 ?_
      refine mv_nm (f := wM cA b) (fun u5 eu5 => ?_)
      have hw := hw u5 eu5
      refine mv_aload_n C dX9_expand_24 rfl 1 rfl ?_
      refine mv_iconst (v := (0 : Int32)) C dX9_expand_25 (by decide) ?_
      refine mv_put (ty := .int) (ws1 := wM cA b (mSet u5 9 (0 : Int32))) C iw_X9_expand_X9 tyX9 tyX9_ok nmX9 0 rfl rfl 29 (by decide) lk_X9_expand_184 rfl rfl rfl rfl rfl (Nat.le_of_ble_eq_true rfl) rfl dX9_expand_26 ?_
      refine mv_nm (f := wM cA b) (fun u6 eu6 => ?_)
      have hw := hw u6 eu6
      refine mv_aload_n C dX9_expand_29 rfl 1 rfl ?_
      refine mv_iconst (v := (0 : Int32)) C dX9_expand_30 (by decide) ?_
      refine mv_put (ty := .boolean) (ws1 := wM cA b (mSet u6 10 (0 : Int32))) C iw_X9_expand_X9 tyX9 tyX9_ok nmX9 0 rfl rfl 30 (by decide) lk_X9_expand_187 rfl rfl rfl (by decide) (by decide) (Nat.le_of_ble_eq_true rfl) rfl dX9_expand_31 ?_
      refine mv_nm (f := wM cA b) (fun u7 eu7 => ?_)
      have hw := hw u7 eu7
      refine mv_aload_n C dX9_expand_34 rfl 1 rfl ?_
      refine mv_iconst (v := (0 : Int32)) C dX9_expand_35 (by decide) ?_
      refine mv_put (ty := .int) (ws1 := wM cA b (mSet u7 11 (0 : Int32))) C iw_X9_expand_X9 tyX9 tyX9_ok nmX9 0 rfl rfl 31 (by decide) lk_X9_expand_271 rfl rfl rfl rfl rfl (Nat.le_of_ble_eq_true rfl) rfl dX9_expand_36 ?_
      refine mv_nm (f := wM cA b) (fun u8 eu8 => ?_)
      have hw := hw u8 eu8
      refine mv_aload_n C dX9_expand_39 rfl 1 rfl ?_
      refine mv_iconst (v := (0 : Int32)) C dX9_expand_40 (by decide) ?_
      refine mv_put (ty := .int) (ws1 := wM cA b (mSet u8 12 (0 : Int32))) C iw_X9_expand_X9 tyX9 tyX9_ok nmX9 0 rfl rfl 32 (by decide) lk_X9_expand_178 rfl rfl rfl rfl rfl (Nat.le_of_ble_eq_true rfl) rfl dX9_expand_41 ?_
      refine mv_nm (f := wM cA b) (fun u9 eu9 => ?_)
      have hw := hw u9 eu9
      refine mv_aload_n C dX9_expand_44 rfl 1 rfl ?_
      refine mv_iconst (v := (0 : Int32)) C dX9_expand_45 (by decide) ?_
      refine mv_put (ty := .int) (ws1 := wM cA b (mSet u9 13 (0 : Int32))) C iw_X9_expand_X9 tyX9 tyX9_ok nmX9 0 rfl rfl 33 (by decide) lk_X9_expand_181 rfl rfl rfl rfl rfl (Nat.le_of_ble_eq_true rfl) rfl dX9_expand_46 ?_
      refine mv_nm (f := wM cA b) (fun u10 eu10 => ?_)
      have hw := hw u10 eu10
      refine mv_aload_n C dX9_expand_49 rfl 1 rfl ?_
      refine mv_iconst (v := (0 : Int32)) C dX9_expand_50 (by decide) ?_
      refine mv_put (ty := .int) (ws1 := wM cA b (mSet u10 14 (0 : Int32))) C iw_X9_expand_X9 tyX9 tyX9_ok nmX9 0 rfl rfl 34 (by decide) lk_X9_expand_265 rfl rfl rfl rfl rfl (Nat.le_of_ble_eq_true rfl) rfl dX9_expand_51 ?_
      refine mv_nm (f := wM cA b) (fun u11 eu11 => ?_)
      have hw := hw u11 eu11
      refine mv_aload_n C dX9_expand_54 rfl 1 rfl ?_
      refine mv_iload_n C dX9_expand_55 rfl 0 rfl ?_
      refine mv_if_ge (tgt := 63) C dX9_expand_56 (by decide) (fun h12 => ?_) (fun h12 => ?_)
      · have hw := hw.1 h12
        refine mv_iconst (v := (0 : Int32)) C dX9_expand_63 (by decide) ?_
        refine mv_sub [1, 0] rfl ?_
        exact wj_X9_expand_64_ok C hs hlev hw
      · have hw := hw.2 h12
        refine mv_iload_n C dX9_expand_59 rfl 2 rfl ?_
        refine mv_goto (tgt := 64) C dX9_expand_60 (by decide) ?_
        refine mv_sub [1, 0] rfl ?_
        exact wj_X9_expand_64_ok C hs hlev hw
    · have hw := hw.2 h2
      refine mv_sub [] rfl ?_
      exact wj_X9_expand_10_ok C hs hlev hw
set_option maxHeartbeats 4000000 in
set_option maxRecDepth 100000 in
theorem X9_at_met (hlev : 0 ≤ lev) {x1 : Int32} {u : mS} {post : Int32 → mS → Prop} (hw : wp_X9_at x1 u post) : mKi l yX9_at wsX9_at lev (eM) (dC, dI) vwCl [(cA, .int)] (wM cA b) [.ref (b 0), .int x1] u post := by
  refine mKi_of (cc := cX9_at) (maxL := 2) (by decide) rfl rfl (Nat.le_of_ble_eq_true rfl) rfl ?_
  intro p e s m args below meth c A C hs
  unfold wp_X9_at at hw
  refine mv_iload_n C dX9_at_0 rfl 1 rfl ?_
  refine mv_if_lt (tgt := 21) C dX9_at_1 (by decide) (fun h1 => ?_) (fun h1 => ?_)
  · have hw := hw.1 h1
    refine mv_iconst (v := (-1 : Int32)) C dX9_at_21 (by decide) ?_
    exact mv_iret C dX9_at_22 hw
  · have hw := hw.2 h1
    refine mv_iload_n C dX9_at_4 rfl 1 rfl ?_
    refine mv_aload_n C dX9_at_5 rfl 0 rfl ?_
    refine mv_get (v := .int (u.1 9)) C iw_X9_at_X9 0 rfl rfl 29 (by decide) lk_X9_at_184 rfl rfl dX9_at_6 ?_
    refine mv_topi (fun y2 ey2 => ?_)
    have hw := hw y2 ey2
    refine mv_icmp_ge (tgt := 21) C dX9_at_9 (by decide) (fun h3 => ?_) (fun h3 => ?_)
    · have hw := hw.1 h3
      refine mv_iconst (v := (-1 : Int32)) C dX9_at_21 (by decide) ?_
      exact mv_iret C dX9_at_22 hw
    · have hw := hw.2 h3
      refine mv_aload_n C dX9_at_12 rfl 0 rfl ?_
      refine mv_get (v := .ref (b 20)) C iw_X9_at_X9 0 rfl rfl 28 (by decide) lk_X9_at_67 rfl rfl dX9_at_13 ?_
      refine mv_iload_n C dX9_at_16 rfl 1 rfl ?_
      refine mv_iald (f := u.2 19) C 20 0 rfl rfl hw.1 dX9_at_17 ?_
      refine mv_topi (fun y4 ey4 => ?_)
      have hw := hw.2 y4 ey4
      refine mv_goto (tgt := 22) C dX9_at_18 (by decide) ?_
      exact mv_iret C dX9_at_22 hw
set_option maxHeartbeats 4000000 in
set_option maxRecDepth 100000 in
theorem X9_count__met (hlev : 0 ≤ lev) {x1 : Int32} {u : mS} {post : Int32 → mS → Prop} (hw : wp_X9_count_ x1 u post) : mKi l yX9_count_ wsX9_count_ lev (eM) (dC, dI) vwCl [(cA, .int)] (wM cA b) [.ref (b 0), .int x1] u post := by
  refine mKi_of (cc := cX9_count_) (maxL := 2) (by decide) rfl rfl (Nat.le_of_ble_eq_true rfl) rfl ?_
  intro p e s m args below meth c A C hs
  unfold wp_X9_count_ at hw
  refine mv_iload_n C dX9_count__0 rfl 1 rfl ?_
  by_cases hc1_0 : x1 = (0 : Int32)
  · have hw := hw.1 hc1_0
    refine mv_tableIn (tgt := 32) C dX9_count__1 (by rw [hc1_0]; decide) (by rw [hc1_0]; decide) (by rw [hc1_0]; rfl) (by decide) ?_
    refine mv_aload_n C dX9_count__32 rfl 0 rfl ?_
    refine mv_get (v := .int (u.1 13)) C iw_X9_count__X9 0 rfl rfl 33 (by decide) lk_X9_count__181 rfl rfl dX9_count__33 ?_
    refine mv_topi (fun y1 ey1 => ?_)
    have hw := hw y1 ey1
    exact mv_iret C dX9_count__36 hw
  by_cases hc1_1 : x1 = (1 : Int32)
  · have hw := hw.2.1 hc1_1
    refine mv_tableIn (tgt := 37) C dX9_count__1 (by rw [hc1_1]; decide) (by rw [hc1_1]; decide) (by rw [hc1_1]; rfl) (by decide) ?_
    refine mv_aload_n C dX9_count__37 rfl 0 rfl ?_
    refine mv_get (v := .int (u.1 4)) C iw_X9_count__X9 0 rfl rfl 11 (by decide) lk_X9_count__160 rfl rfl dX9_count__38 ?_
    refine mv_topi (fun y2 ey2 => ?_)
    have hw := hw y2 ey2
    refine mv_aload_n C dX9_count__41 rfl 0 rfl ?_
    refine mv_get (v := .int (u.1 5)) C iw_X9_count__X9 0 rfl rfl 12 (by decide) lk_X9_count__175 rfl rfl dX9_count__42 ?_
    refine mv_topi (fun y3 ey3 => ?_)
    have hw := hw y3 ey3
    refine mv_isub C dX9_count__45 ?_
    refine mv_topi (fun y4 ey4 => ?_)
    have hw := hw y4 ey4
    exact mv_iret C dX9_count__46 hw
  by_cases hc1_2 : x1 = (2 : Int32)
  · have hw := hw.2.2.1 hc1_2
    refine mv_tableIn (tgt := 47) C dX9_count__1 (by rw [hc1_2]; decide) (by rw [hc1_2]; decide) (by rw [hc1_2]; rfl) (by decide) ?_
    refine mv_aload_n C dX9_count__47 rfl 0 rfl ?_
    refine mv_get (v := .int (u.1 14)) C iw_X9_count__X9 0 rfl rfl 34 (by decide) lk_X9_count__265 rfl rfl dX9_count__48 ?_
    refine mv_topi (fun y5 ey5 => ?_)
    have hw := hw y5 ey5
    exact mv_iret C dX9_count__51 hw
  by_cases hc1_3 : x1 = (3 : Int32)
  · have hw := hw.2.2.2.1 hc1_3
    refine mv_tableIn (tgt := 52) C dX9_count__1 (by rw [hc1_3]; decide) (by rw [hc1_3]; decide) (by rw [hc1_3]; rfl) (by decide) ?_
    refine mv_aload_n C dX9_count__52 rfl 0 rfl ?_
    refine mv_get (v := .int (u.1 15)) C iw_X9_count__X9 0 rfl rfl 35 (by decide) lk_X9_count__245 rfl rfl dX9_count__53 ?_
    refine mv_topi (fun y6 ey6 => ?_)
    have hw := hw y6 ey6
    exact mv_iret C dX9_count__56 hw
  have hw := hw.2.2.2.2 hc1_0 hc1_1 hc1_2 hc1_3
  refine mv_tableOut (tgt := 57) C dX9_count__1 (by have q0 : ¬ x1.toInt = 0 := mne hc1_0; have q1 : ¬ x1.toInt = 1 := mne hc1_1; have q2 : ¬ x1.toInt = 2 := mne hc1_2; have q3 : ¬ x1.toInt = 3 := mne hc1_3; omega) (by decide) ?_
  refine mv_iconst (v := (-1 : Int32)) C dX9_count__57 (by decide) ?_
  exact mv_iret C dX9_count__58 hw
end
end
section
-- 09: what the calls do on a new object, over the predicates of 04
def tyB (x : Int32) (j : Nat) : Int32 := (x >>> (((8 : Int32) * nI j) &&& 31)) &&& 255
def tyOk (x : Int32) (j : Nat) : Prop := ¬ tyB x j < 32 ∧ tyB x j ≤ 126
def tyPut (x : Int32) : Nat → mS → mS
  | 0, u => u
  | j + 1, u => tyPut x j (mSet (mPut u 0 (u.1 0).toNatClampNeg (tyB x j)) 0 (u.1 0 + 1))
def tyC (x n : Int32) (t : Nat) : Prop := ∃ N : Nat, n = nI N ∧ 1 ≤ N ∧ N ≤ 4 ∧ t + N ≤ 120 ∧ ∀ j, j < N → tyOk x j
theorem ty_le {a b : Nat} (ha : a < 2 ^ 31) (hb : b < 2 ^ 31) (h : ¬ a ≤ b) : ¬ nI a ≤ nI b := by rw [nI_leI ha hb]; exact h
theorem ty_i {N : Nat} {i : Int32} (h : (N = 0 ∧ i < 0) ∨ ∃ M, N = M + 1 ∧ i = nI M) : ∀ M, N = M + 1 → i = nI M := by
  intro M hM
  rcases h with ⟨h, _⟩ | ⟨K, h, e⟩
  · omega
  · have : K = M := by omega
    rw [← this]; exact e
theorem ty_prev (M : Nat) (hM : M < 2 ^ 31) : (M = 0 ∧ nI M + (-1 : Int32) < 0) ∨ ∃ K, M = K + 1 ∧ nI M + (-1 : Int32) = nI K := by
  cases M with
  | zero => exact Or.inl ⟨rfl, by decide⟩
  | succ K => exact Or.inr ⟨K, rfl, pk_m1 K⟩
theorem tyA2 {x : Int32} {post : Int32 → mS → Prop} : ∀ (N : Nat) (i : Int32) (t : Nat) (u : mS), ((N = 0 ∧ i < 0) ∨ ∃ M, N = M + 1 ∧ i = nI M) → u.1 0 = nI t → t + N ≤ 120 → post 1 (tyPut x N u) → mL3 (fun K => wj_X8_type_68 K post) (N + 1) x i u := by
  intro N
  induction N with
  | zero =>
    intro i t u hi ht h120 hp
    have hi : i < 0 := by
      rcases hi with ⟨_, h⟩ | ⟨M, h, _⟩
      · exact h
      · omega
    show wj_X8_type_68 _ post x i u
    exact ⟨fun _ => hp, fun h => absurd hi h⟩
  | succ N ih =>
    intro i t u hi ht h120 hp
    have hi := ty_i hi N rfl
    subst hi
    show wj_X8_type_68 _ post x (nI N) u
    refine ⟨fun h => absurd h (nI_pos (by omega)), fun _ => ?_⟩
    rintro _ rfl _ rfl _ rfl
    show wp_X8_appendTyped (tyB x N) u _
    intro y1 e1
    rw [ht] at e1; subst e1
    refine ⟨fun h => absurd h (nI_pos (by omega)), fun _ => ?_⟩
    intro y3 e3
    rw [ht] at e3; subst e3
    refine ⟨fun h => absurd h (by rw [show (120 : Int32) = nI 120 from by decide]; exact ty_le (by omega) (by omega) (by omega)), fun _ => ?_⟩
    intro y5 e5
    rw [ht] at e5; subst e5
    refine ⟨vp_in_nI (by omega) (by omega), ?_⟩
    rintro u6 rfl y7 rfl y8 rfl u9 rfl y20 rfl
    refine ih _ (t + 1) _ (ty_prev N (by omega)) ?_ (by omega) ?_
    · show u.1 0 + 1 = nI (t + 1)
      rw [ht, nI_1]
    · have e : tyPut x (N + 1) u = tyPut x N (mSet (mPut u 0 (nI t).toNatClampNeg (tyB x N)) 0 ((mPut u 0 (nI t).toNatClampNeg (tyB x N)).1 0 + 1)) := by
        show tyPut x N (mSet (mPut u 0 (u.1 0).toNatClampNeg (tyB x N)) 0 (u.1 0 + 1)) = _
        rw [ht]
        show _ = tyPut x N (mSet (mPut u 0 (nI t).toNatClampNeg (tyB x N)) 0 (u.1 0 + 1))
        rw [ht]
      rw [← e]; exact hp
theorem tyA1 {x : Int32} {post : Int32 → mS → Prop} {N t : Nat} {u : mS} (h1N : 1 ≤ N) (hN : N ≤ 4) (ht : u.1 0 = nI t) (h120 : t + N ≤ 120) (h1 : (∀ j, j < N → tyOk x j) → post 1 (tyPut x N u)) (h0 : ¬ (∀ j, j < N → tyOk x j) → post 0 u) : ∀ (d j : Nat), j + d = N → (∀ i, i < j → tyOk x i) → mL4 (fun K => wj_X8_type_25 K post) (d + 1) x (nI N) (nI j) u := by
  intro d
  induction d with
  | zero =>
    intro j hj hok
    have hj : j = N := by omega
    subst hj
    show wj_X8_type_25 _ post x (nI j) (nI j) u
    refine ⟨fun _ => ?_, fun h => absurd (Int32.le_refl _) h⟩
    rintro _ rfl
    refine ⟨j + 1, tyA2 j _ t u (Or.inr ⟨j - 1, by omega, ?_⟩) ht h120 (h1 hok)⟩
    have : j = (j - 1) + 1 := by omega
    rw [this, nI_pred]; rfl
  | succ d ih =>
    intro j hj hok
    show wj_X8_type_25 _ post x (nI N) (nI j) u
    refine ⟨fun h => absurd h (ty_le (by omega) (by omega) (by omega)), fun _ => ?_⟩
    rintro _ rfl _ rfl y10 e10
    have e10 : y10 = tyB x j := e10
    subst e10
    refine ⟨fun h => h0 (fun hall => (hall j (by omega)).1 h), fun hlo => ⟨fun hhi => ?_, fun h => h0 (fun hall => h (hall j (by omega)).2)⟩⟩
    rintro _ rfl
    rw [nI_1]
    exact ih (j + 1) (by omega) (fun i hi => by
      rcases Nat.lt_or_ge i j with h | h
      · exact hok i h
      · have : i = j := by omega
        subst this
        exact ⟨hlo, hhi⟩)
theorem tyM2 {x : Int32} {post : Int32 → mS → Prop} : ∀ (N : Nat) (i : Int32) (t : Nat) (u : mS), ((N = 0 ∧ i < 0) ∨ ∃ M, N = M + 1 ∧ i = nI M) → u.1 0 = nI t → t + N ≤ 120 → post 1 (tyPut x N u) → mL3 (fun K => wj_X9_type_68 K post) (N + 1) x i u := by
  intro N
  induction N with
  | zero =>
    intro i t u hi ht h120 hp
    have hi : i < 0 := by
      rcases hi with ⟨_, h⟩ | ⟨M, h, _⟩
      · exact h
      · omega
    show wj_X9_type_68 _ post x i u
    exact ⟨fun _ => hp, fun h => absurd hi h⟩
  | succ N ih =>
    intro i t u hi ht h120 hp
    have hi := ty_i hi N rfl
    subst hi
    show wj_X9_type_68 _ post x (nI N) u
    refine ⟨fun h => absurd h (nI_pos (by omega)), fun _ => ?_⟩
    intro y15 e15
    rw [ht] at e15; subst e15
    rintro _ rfl _ rfl y18 e18
    have e18 : y18 = tyB x N := e18
    subst e18
    refine ⟨vp_in_nI (by omega) (by omega), ?_⟩
    rintro u6 rfl y7 rfl y8 rfl u9 rfl y20 rfl
    refine ih _ (t + 1) _ (ty_prev N (by omega)) ?_ (by omega) ?_
    · show u.1 0 + 1 = nI (t + 1)
      rw [ht, nI_1]
    · have e : tyPut x (N + 1) u = tyPut x N (mSet (mPut u 0 (nI t).toNatClampNeg (tyB x N)) 0 ((mPut u 0 (nI t).toNatClampNeg (tyB x N)).1 0 + 1)) := by
        show tyPut x N (mSet (mPut u 0 (u.1 0).toNatClampNeg (tyB x N)) 0 (u.1 0 + 1)) = _
        rw [ht]
        show _ = tyPut x N (mSet (mPut u 0 (nI t).toNatClampNeg (tyB x N)) 0 (u.1 0 + 1))
        rw [ht]
      rw [← e]; exact hp
theorem tyM1 {x : Int32} {post : Int32 → mS → Prop} {N t : Nat} {u : mS} (h1N : 1 ≤ N) (hN : N ≤ 4) (ht : u.1 0 = nI t) (h120 : t + N ≤ 120) (h1 : (∀ j, j < N → tyOk x j) → post 1 (tyPut x N u)) (h0 : ¬ (∀ j, j < N → tyOk x j) → post 0 u) : ∀ (d j : Nat), j + d = N → (∀ i, i < j → tyOk x i) → mL4 (fun K => wj_X9_type_25 K post) (d + 1) x (nI N) (nI j) u := by
  intro d
  induction d with
  | zero =>
    intro j hj hok
    have hj : j = N := by omega
    subst hj
    show wj_X9_type_25 _ post x (nI j) (nI j) u
    refine ⟨fun _ => ?_, fun h => absurd (Int32.le_refl _) h⟩
    rintro _ rfl
    refine ⟨j + 1, tyM2 j _ t u (Or.inr ⟨j - 1, by omega, ?_⟩) ht h120 (h1 hok)⟩
    have : j = (j - 1) + 1 := by omega
    rw [this, nI_pred]; rfl
  | succ d ih =>
    intro j hj hok
    show wj_X9_type_25 _ post x (nI N) (nI j) u
    refine ⟨fun h => absurd h (ty_le (by omega) (by omega) (by omega)), fun _ => ?_⟩
    rintro _ rfl _ rfl y10 e10
    have e10 : y10 = tyB x j := e10
    subst e10
    refine ⟨fun h => h0 (fun hall => (hall j (by omega)).1 h), fun hlo => ⟨fun hhi => ?_, fun h => h0 (fun hall => h (hall j (by omega)).2)⟩⟩
    rintro _ rfl
    rw [nI_1]
    exact ih (j + 1) (by omega) (fun i hi => by
      rcases Nat.lt_or_ge i j with h | h
      · exact hok i h
      · have : i = j := by omega
        subst this
        exact ⟨hlo, hhi⟩)
theorem ty_n {n : Int32} (h1 : ¬ n < 1) (h4 : ¬ 4 < n) : ∃ N : Nat, n = nI N ∧ 1 ≤ N ∧ N ≤ 4 := by
  have a := Int32.not_lt.mp h1
  have b := Int32.not_lt.mp h4
  rw [Int32.le_iff_toInt_le] at a b
  have a : (1 : Int) ≤ n.toInt := a
  have b : n.toInt ≤ (4 : Int) := b
  refine ⟨n.toInt.toNat, ?_, by omega, by omega⟩
  apply Int32.toInt_inj.mp
  rw [nI_toInt (by omega)]
  omega
theorem typeA {x n : Int32} {post : Int32 → mS → Prop} {t : Nat} {u : mS} (ht : u.1 0 = nI t) (ht2 : t ≤ 120) (h1 : ∀ N : Nat, n = nI N → tyC x n t → post 1 (tyPut x N u)) (h0 : ¬ tyC x n t → post 0 u) : wp_X8_type x n u post := by
  refine ⟨fun h => h0 ?_, fun hn1 => ⟨fun h => h0 ?_, fun hn4 => ?_⟩⟩
  · rintro ⟨N, rfl, hN, hN4, _⟩
    rw [show (1 : Int32) = nI 1 from by decide, nI_ltI (by omega) (by omega)] at h
    omega
  · rintro ⟨N, rfl, hN, hN4, _⟩
    rw [show (4 : Int32) = nI 4 from by decide, nI_ltI (by omega) (by omega)] at h
    omega
  · obtain ⟨N, rfl, hN, hN4⟩ := ty_n hn1 hn4
    intro y3 e3
    rw [ht] at e3; subst e3
    intro y4 e4
    rw [nI_add] at e4; subst e4
    have hc : (nI (t + N) ≤ 120) ↔ t + N ≤ 120 := by rw [show (120 : Int32) = nI 120 from by decide, nI_leI (by omega) (by omega)]
    have uniq : ∀ M : Nat, nI N = nI M → M ≤ 4 → M = N := fun M e hM => ((nI_eq (by omega) (by omega)).mp e).symm
    refine ⟨fun h => ?_, fun h => h0 ?_⟩
    · have h := hc.mp h
      refine ⟨N + 1, ?_⟩
      refine tyA1 (N := N) hN hN4 ht h (fun hall => h1 N rfl ⟨N, rfl, hN, hN4, h, hall⟩) (fun hnot => h0 ?_) N 0 (by omega) (fun i hi => by omega)
      rintro ⟨M, e, _, hM4, _, hall⟩
      have := uniq M e hM4
      subst this
      exact hnot hall
    · rintro ⟨M, e, _, hM4, hM, _⟩
      have := uniq M e hM4
      subst this
      exact h (hc.mpr hM)
theorem typeM {x n : Int32} {post : Int32 → mS → Prop} {t : Nat} {u : mS} (ht : u.1 0 = nI t) (ht2 : t ≤ 120) (h1 : ∀ N : Nat, n = nI N → tyC x n t → post 1 (tyPut x N u)) (h0 : ¬ tyC x n t → post 0 u) : wp_X9_type x n u post := by
  refine ⟨fun h => h0 ?_, fun hn1 => ⟨fun h => h0 ?_, fun hn4 => ?_⟩⟩
  · rintro ⟨N, rfl, hN, hN4, _⟩
    rw [show (1 : Int32) = nI 1 from by decide, nI_ltI (by omega) (by omega)] at h
    omega
  · rintro ⟨N, rfl, hN, hN4, _⟩
    rw [show (4 : Int32) = nI 4 from by decide, nI_ltI (by omega) (by omega)] at h
    omega
  · obtain ⟨N, rfl, hN, hN4⟩ := ty_n hn1 hn4
    intro y3 e3
    rw [ht] at e3; subst e3
    intro y4 e4
    rw [nI_add] at e4; subst e4
    have hc : (nI (t + N) ≤ 120) ↔ t + N ≤ 120 := by rw [show (120 : Int32) = nI 120 from by decide, nI_leI (by omega) (by omega)]
    have uniq : ∀ M : Nat, nI N = nI M → M ≤ 4 → M = N := fun M e hM => ((nI_eq (by omega) (by omega)).mp e).symm
    refine ⟨fun h => ?_, fun h => h0 ?_⟩
    · have h := hc.mp h
      refine ⟨N + 1, ?_⟩
      refine tyM1 (N := N) hN hN4 ht h (fun hall => h1 N rfl ⟨N, rfl, hN, hN4, h, hall⟩) (fun hnot => h0 ?_) N 0 (by omega) (fun i hi => by omega)
      rintro ⟨M, e, _, hM4, _, hall⟩
      have := uniq M e hM4
      subst this
      exact hnot hall
    · rintro ⟨M, e, _, hM4, hM, _⟩
      have := uniq M e hM4
      subst this
      exact h (hc.mpr hM)
theorem takeA {u : mS} {post : Int32 → mS → Prop} (h0 : u.1 0 = 0) (hp : post 0 (mSet (mSet (mSet (mSet u 1 480) 2 (-1)) 3 0) 0 0)) : wp_X8_takeTyped u post := by
  unfold wp_X8_takeTyped
  intro y1 e1
  rw [h0] at e1; subst e1
  show wp_X3_read_1 0 u _
  unfold wp_X3_read_1
  show wp_X5_restart u _
  unfold wp_X5_restart
  rintro u1 rfl u2 rfl u3 rfl y4 e4
  have e4 : y4 = 0 := by rw [e4]; decide
  subst e4
  refine ⟨1, ?_⟩
  show wj_X3_read_1_25 _ _ 0 0 0 _
  refine ⟨fun h => absurd h (by decide), fun _ => ⟨fun _ => ?_, fun h => absurd (by decide) h⟩⟩
  show wp_X3_isWhole _ _
  intro y1 e1
  have e1 : y1 = 0 := e1
  subst e1
  refine ⟨fun h => absurd rfl h, fun _ => ?_⟩
  intro y3 e3
  have e3 : y3 = 480 := e3
  subst e3
  refine ⟨fun _ => ?_, fun h => absurd (by decide) h⟩
  refine ⟨fun _ => ?_, fun h => absurd rfl h⟩
  rintro u4 rfl
  exact hp
theorem rulesA {u : mS} {post : Int32 → mS → Prop} (h0 : u.1 0 = 0) (hp : ∀ w, post (-1) w) : wp_X8_rules u post := by
  unfold wp_X8_rules
  refine takeA h0 ⟨fun h => absurd h (by decide), fun _ => ?_⟩
  rintro _ rfl
  exact hp _
theorem readM {u : mS} {post : Int32 → mS → Prop} (h0 : u.1 0 = 0) (hp : post 0 u) : wp_X9_read u post := by
  refine ⟨1, ?_⟩
  show wj_X9_read_9 (mL5 (fun K => wj_X9_read_9 K post) 0) post 0 0 0 0 u
  intro y1 e1
  rw [h0] at e1; subst e1
  refine ⟨fun _ => ⟨fun h => absurd h (by decide), fun _ => ⟨fun h => absurd rfl h, fun _ => ?_⟩⟩, fun h => absurd (by decide) h⟩
  intro y17 e17
  rw [h0] at e17; subst e17
  exact hp
theorem rulesM {u : mS} {post : Int32 → mS → Prop} (h0 : u.1 0 = 0) (hp : ∀ w, post (-1) w) : wp_X9_rules u post := by
  unfold wp_X9_rules
  refine readM h0 ?_
  rintro _ rfl
  refine ⟨fun h => absurd h (by decide), fun _ => ?_⟩
  rintro _ rfl
  exact hp _
theorem expA {x : Int32} {u : mS} {post : Int32 → mS → Prop} (h0 : u.1 0 = 0) (h7 : (x < 0 ∨ ¬ x ≤ 8) → ∀ w, post (-7000) w) (h1 : ¬ x < 0 → x ≤ 8 → ∀ w, post (-1) w) : wp_X8_expand x u post := by
  unfold wp_X8_expand
  refine ⟨fun h => h7 (Or.inl h) _, fun hx => ⟨fun hx8 => ?_, fun h => h7 (Or.inr h) _⟩⟩
  refine takeA h0 ?_
  rintro u1 rfl u2 rfl
  refine ⟨fun h => absurd h (by decide), fun _ => ?_⟩
  rintro u1 rfl u2 rfl u3 rfl u4 rfl _ rfl _ rfl _ rfl
  refine ⟨fun h => absurd h (by decide), fun _ => ?_⟩
  rintro _ rfl
  exact h1 hx hx8 _
theorem bindM {x1 x2 x3 x4 x5 : Int32} {u : mS} {post : mS → Prop} (k : Nat) (h : u.1 4 = nI k) (hk : k < 40) (hp : ∀ w : mS, w.1 4 = nI (k + 1) → w.1 3 = u.1 3 → post w) : wp_X9_bind x1 x2 x3 x4 x5 u post := by
  intro y1 e1
  rw [h] at e1; subst e1
  refine ⟨fun _ => ?_, fun e => absurd e (by rw [show (40 : Int32) = nI 40 from by decide, nI_eq (by omega) (by omega)]; omega)⟩
  have hin : vp_in (nI k) 40 := vp_in_nI hk (by omega)
  intro y3 e3
  rw [h] at e3; subst e3
  refine ⟨hin, ?_⟩
  rintro u4 rfl y5 e5
  have e5 : y5 = nI k := e5.trans h
  subst e5
  refine ⟨hin, ?_⟩
  rintro u6 rfl y7 e7
  have e7 : y7 = nI k := e7.trans h
  subst e7
  refine ⟨hin, ?_⟩
  rintro u8 rfl y9 e9
  have e9 : y9 = nI k := e9.trans h
  subst e9
  refine ⟨hin, ?_⟩
  rintro u10 rfl y11 e11
  have e11 : y11 = nI k := e11.trans h
  subst e11
  refine ⟨hin, ?_⟩
  rintro u12 rfl y13 e13
  have e13 : y13 = nI k := e13.trans h
  subst e13
  rintro y14 rfl u15 rfl
  exact hp _ (nI_1 k) rfl
theorem beginM {u : mS} {post : mS → Prop} (h3 : u.1 3 = 0) (hp : ∀ w, post w) : wp_X9_beginning u post := by
  rintro u1 rfl
  have h3' : (mSet u 4 0).1 3 = 0 := h3
  refine bindM 0 rfl (by omega) (fun w1 a1 b1 => ?_)
  refine bindM 1 a1 (by omega) (fun w2 a2 b2 => ?_)
  refine bindM 2 a2 (by omega) (fun w3 a3 b3 => ?_)
  refine bindM 3 a3 (by omega) (fun w4 a4 b4 => ?_)
  refine bindM 4 a4 (by omega) (fun w5 a5 b5 => ?_)
  refine bindM 5 a5 (by omega) (fun w6 a6 b6 => ?_)
  refine bindM 6 a6 (by omega) (fun w7 a7 b7 => ?_)
  refine bindM 7 a7 (by omega) (fun w8 a8 b8 => ?_)
  have e : w8.1 3 = 0 := by rw [b8, b7, b6, b5, b4, b3, b2, b1]; exact h3'
  refine ⟨1, ?_⟩
  show wj_X9_beginning_90 _ _ 0 w8
  intro y18 e18
  rw [e] at e18; subst e18
  refine ⟨fun _ => ?_, fun h => absurd (by decide) h⟩
  rintro _ rfl _ rfl
  exact hp _
theorem expM {x : Int32} {u : mS} {post : Int32 → mS → Prop} (h0 : u.1 0 = 0) (h3 : u.1 3 = 0) (h7 : (x < 0 ∨ ¬ x ≤ 8) → ∀ w, post (-7000) w) (h1 : ¬ x < 0 → x ≤ 8 → ∀ w, post (-1) w) : wp_X9_expand x u post := by
  unfold wp_X9_expand
  refine ⟨fun h => h7 (Or.inl h) _, fun hx => ⟨fun hx8 => ?_, fun h => h7 (Or.inr h) _⟩⟩
  refine readM h0 ?_
  rintro u5 rfl u6 rfl u7 rfl u8 rfl u9 rfl u10 rfl u11 rfl
  refine ⟨fun _ => ?_, fun h => absurd (by decide) h⟩
  rintro u13 rfl u14 rfl
  refine beginM h3 (fun w => ?_)
  refine ⟨fun h => absurd h (by decide), fun _ => ?_⟩
  rintro _ rfl
  exact h1 hx hx8 _
theorem atA {x : Int32} {u : mS} {post : Int32 → mS → Prop} (h6 : u.1 6 = 0) (hp : ∀ w, post (-1) w) : wp_X8_at x u post := by
  show wp_X2_charAt x u _
  refine ⟨fun _ => hp _, fun hx => ?_⟩
  intro y2 e2
  rw [h6] at e2; subst e2
  exact ⟨fun _ => hp _, fun h => absurd (Int32.not_lt.mp hx) h⟩
theorem atM {x : Int32} {u : mS} {post : Int32 → mS → Prop} (h9 : u.1 9 = 0) (hp : ∀ w, post (-1) w) : wp_X9_at x u post := by
  refine ⟨fun _ => hp _, fun hx => ?_⟩
  intro y2 e2
  rw [h9] at e2; subst e2
  exact ⟨fun _ => hp _, fun h => absurd (Int32.not_lt.mp hx) h⟩
def cntV (x : Int32) : Int32 := if x = 0 ∨ x = 1 ∨ x = 2 ∨ x = 3 then 0 else -1
theorem cntV_no {x : Int32} (h0 : ¬ x = 0) (h1 : ¬ x = 1) (h2 : ¬ x = 2) (h3 : ¬ x = 3) : cntV x = -1 := by
  unfold cntV
  rw [if_neg]
  rintro (h | h | h | h)
  · exact h0 h
  · exact h1 h
  · exact h2 h
  · exact h3 h
theorem countA {x : Int32} {u : mS} {post : Int32 → mS → Prop} (h8 : u.1 8 = 0) (h9 : u.1 9 = 0) (h10 : u.1 10 = 0) (h11 : u.1 11 = 0) (hp : post (cntV x) u) : wp_X8_count x u post := by
  refine ⟨?_, ?_, ?_, ?_, ?_⟩
  · rintro rfl y e
    rw [h8] at e; subst e; exact hp
  · rintro rfl y e
    rw [h9] at e; subst e; exact hp
  · rintro rfl y e
    rw [h10] at e; subst e; exact hp
  · rintro rfl y e
    rw [h11] at e; subst e; exact hp
  · intro a b c d
    rw [cntV_no a b c d] at hp
    exact hp
theorem countM {x : Int32} {u : mS} {post : Int32 → mS → Prop} (h13 : u.1 13 = 0) (h4 : u.1 4 = 0) (h5 : u.1 5 = 0) (h14 : u.1 14 = 0) (h15 : u.1 15 = 0) (hp : post (cntV x) u) : wp_X9_count_ x u post := by
  refine ⟨?_, ?_, ?_, ?_, ?_⟩
  · rintro rfl y e
    rw [h13] at e; subst e; exact hp
  · rintro rfl y e z f y4 g
    rw [h4] at e; rw [h5] at f; subst e; subst f; subst g; exact hp
  · rintro rfl y e
    rw [h14] at e; subst e; exact hp
  · rintro rfl y e
    rw [h15] at e; subst e; exact hp
  · intro a b c d
    rw [cntV_no a b c d] at hp
    exact hp
end
section
-- rows of constructors
def mRc (k mc ms : Nat) : Room := { frames := k, cells := mc, slots := ms, locals := 64 * k }
def u00 : mS := (fun _ => 0, fun _ _ => 0)
def mKc (l : Launch) (y : MethodName) (ws : List Cond) (k mc ms : Nat) (E : (Nat → Prop) → State → Prop) (D : va_G) (cl : List vw_C) (tys : List (ClassId × FieldType)) (w0 : va_W) (av : List Value) (Pz : (Nat → Nat) → Prop) (F : (Nat → Nat) → va_W) : Prop :=
  ∀ sz : Nat, Met l y ws (mRc k mc ms) (mPc E D cl tys (fun _ => w0) av u00 sz) (va_Qv Pz (fun z t => va_P D cl (F z) t.heap ∧ va_K D cl tys t ∧ va_D (va_A w0 sz) (F z)) (va_A w0 sz)) mc ms (va_A w0 sz)
def mQc (below : List Frame) (args : Array Value) (s : State) (D : va_G) (cl : List vw_C) (tys : List (ClassId × FieldType)) (A : Nat → Prop) (mc ms : Nat) (Pz : (Nat → Nat) → Prop) (F : (Nat → Nat) → va_W) : State → Prop := MQ below (va_Qv Pz (fun z t => va_P D cl (F z) t.heap ∧ va_K D cl tys t ∧ va_D A (F z)) A) args s mc ms A
theorem mRc_le {k lev mx mc ms a b : Nat} (h : k + 1 ≤ lev) (hm : mx ≤ 45) : (mRc k mc ms).frames + 1 ≤ (mRc lev a b).frames ∧ 8 + (mx + 11) + (mRc k mc ms).locals ≤ (mRc lev a b).locals := by
  simp only [mRc]; omega
section MC
variable {p : Program} {l : Launch} {e : Env} {R : Room} {s : State} {m : MethodId} {args : Array Value} {below : List Frame} {meth : Method} {c : Code} {cells slots : Nat} {Q : State → Prop}
variable {cc : ByteArray} {nL : Nat} {Ts : List Cond} {own : String} {ret : Option FieldType} {D : va_G} {cl : List vw_C} {tys : List (ClassId × FieldType)} {A : Nat → Prop} {ws : va_W} {pc : Nat} {lv : List (Nat × Value)} {st : List Value}
theorem mv_topv {x v : Int32} (h : x = v) (k : mV p l e R s m args below meth c nL D cl A cells slots Q ws pc lv (.int v :: st)) : mV p l e R s m args below meth c nL D cl A cells slots Q ws pc lv (.int x :: st) := by rw [h]; exact k
theorem mv_perm {ws1 : va_W} (is : List Nat) (hn : va_nd is = true) (h1 : is.filterMap (fun i => ws[i]?) = ws1) (h2 : is.map (fun i => ws[i]?) = ws1.map some) (k : mV p l e R s m args below meth c nL D cl A cells slots Q ws1 pc lv st) : mV p l e R s m args below meth c nL D cl A cells slots Q ws pc lv st := fun H locs ls hP hD hS hl => k H locs ls (hP.sub is h1) (hD.sub is hn h2) hS hl
theorem mv_objInit (C : mC p s m args meth c cc nL Ts own ret D cl tys A) {idx a : Nat} (hlink : Cond.methodLink own idx Lib.objectInit ∈ Ts) (hinst : Cond.instanceMethod Lib.objectInit ∈ Ts) (hcode : Cond.code Lib.objectInit ⟨#[0xb1]⟩ 1 none ∈ Ts) (hd : decode cc pc = .ok (.invokespecial idx, 3)) (hfr : 1 ≤ R.frames) (hlo : (st.map fun v => v.category).sum + 12 ≤ R.locals) (k : mV p l e R s m args below meth c nL D cl A cells slots Q ws (pc + 3) lv st) : mV p l e R s m args below meth c nL D cl A cells slots Q ws pc lv (.ref a :: st) := fun H locs ls hP hD hS hl => W.objInit C.1 C.2.1 C.2.2.2.1 (C.2.2.2.2.1 _ hlink) (C.2.2.2.2.1 _ hinst) (C.2.2.2.2.1 _ hcode) (g := F0 m pc ls (.ref a :: st)) rfl (hl.1.trans C.2.2.1.symm) rfl hd hfr (by show 2 * 0 + _ + 12 ≤ _; omega) (k H locs ls hP hD hS hl)
theorem mv_newa {cA : ClassId} (C : mC p s m args meth c cc nL Ts own ret D cl [(cA, .int)] A) (harr : Cond.arrayClass .int ∈ Ts) {n : Int32} {N : Nat} (hn : ¬ n < 0) (hN : n.toNatClampNeg = N) (hbytes : N * 4 ≤ 536870912) (hcells : cells + 1 ≤ R.cells) (hslots : slots + N ≤ R.slots) (hd : decode cc pc = .ok (.newarray .int, 2)) (kk : ∀ q : Nat, mV p l e R s m args below meth c nL D cl A (cells + 1) (slots + N) Q (ws ++ [(q, .inl (cA, N, .inl (fun _ => 0)))]) (pc + 2) lv (.ref q :: st)) : mV p l e R s m args below meth c nL D cl A cells slots Q ws pc lv (.int n :: st) := by
  intro H locs ls hP hD hS hl
  refine va_newa (atype := .int) (ty := .int) (a0 := (N, .inl (fun _ => 0))) C.1 C.2.1 (C.2.2.2.2.1 _ harr) rfl C.2.2.2.2.2.2.2.1 hP hD hS C.2.2.2.2.2.2.2.2 (fun _ => rfl) hn hN hbytes hcells hslots hd (fun q cB H1 hK1 hP1 hD1 hS1 => ?_)
  have e1 : s.vm.findClass ("[" ++ FieldType.int.toString) = some cA := (hK1.2 0 (cA, .int) rfl).2
  have e2 : s.vm.findClass ("[" ++ FieldType.int.toString) = some cB := (hK1.2 1 (cB, .int) rfl).2
  have e3 : cA = cB := Option.some.inj (e1.symm.trans e2)
  subst e3
  exact kk q H1 locs ls hP1 hD1 hS1 hl
theorem mv_new (C : mC p s m args meth c cc nL Ts own ret D cl tys A) {C0 : String} {T : u_T} {N ci index : Nat} {fs : List Value} (hin : ∀ w ∈ u_ws C0 T N, w ∈ Ts) (ty0 : Nat → FieldType) (hty : ∀ k, k < N → parseFieldDescriptor (T k).2.2.1 = some (ty0 k)) (hcl : Cond.classLink own index C0 ∈ Ts) (hinst : Cond.instantiable C0 N ∈ Ts) (hini : Cond.initialized C0 ∈ Ts) (hc : cl[ci]? = some (C0, T, N)) (hfs : ∀ j, j < N → defaultValue (ty0 j) = vp_V fs j) (hcells : cells + 1 ≤ R.cells) (hslots : slots + N ≤ R.slots) (hd : decode cc pc = .ok (.new index, 3)) (kk : ∀ q : Nat, mV p l e R s m args below meth c nL D cl A (cells + 1) (slots + N) Q (ws ++ [(q, .inr (ci, fs))]) (pc + 3) lv (.ref q :: st)) : mV p l e R s m args below meth c nL D cl A cells slots Q ws pc lv st := fun H locs ls hP hD hS hl => va_new C.1 C.2.1 C.2.2.2.2.1 hin ty0 hty C.2.2.2.1 (C.2.2.2.2.1 _ hcl) (C.2.2.2.2.1 _ hinst) (C.2.2.2.2.1 _ hini) C.2.2.2.2.2.2.2.1 hP hD hS C.2.2.2.2.2.2.2.2 hc hfs hcells hslots hd (fun q H1 hP1 hD1 hS1 => kk q H1 locs ls hP1 hD1 hS1 hl)
theorem mv_cret (C : mC p s m args meth c cc nL Ts own none D cl tys A) {Pz : (Nat → Nat) → Prop} {F : (Nat → Nat) → va_W} (z : Nat → Nat) (hp : Pz z) (hz : ws = F z) (hd : decode cc pc = .ok (.return_, 1)) : mV p l e R s m args below meth c nL D cl A cells slots (mQc below args s D cl tys A cells slots Pz F) ws pc lv [] := by
  subst hz
  exact fun H locs ls hP hD hS hl => W.vret C.1 C.2.1 C.2.2.2.2.2.1 (fun t ht hW => ⟨⟨z, rfl, hp, by rw [ht]; exact hP, va_K.moved hW.alike C.2.2.2.2.2.2.2.1, hD⟩, hS.F ht⟩) hS.2.2 hd C.2.2.2.2.2.2.1
theorem mv_callI (C : mC p s m args meth c cc nL Ts own ret D cl tys A) {E : (Nat → Prop) → State → Prop} (hE : mEok E) (hs : E A s) {As rest : List Value} {y : MethodName} {bytes : ByteArray} {maxL index kl n mc ms b : Nat} {wsy : List Cond} {Pz : (Nat → Nat) → Prop} {F : (Nat → Nat) → va_W} {x0 : Nat × va_E} {wr : va_W} (q0 : Nat) (isR : List Nat) (he : [q0].map (fun i => ws[i]?) = [x0].map some) (hR : isR.map (fun i => ws[i]?) = wr.map some) (hnd : va_nd isR = true) (hdis : ∀ i ∈ isR, i ∉ [q0]) (hM : mKc l y wsy kl mc ms E D cl tys [x0] (.ref b :: As) Pz F) (cw : CallB R s args own index y bytes maxL none wsy (mRc kl mc ms) mc ms n ∧ y.name = "<init>" ∧ (Cond.instanceMethod y).before args s = true) (hst : st = As.reverse ++ .ref b :: rest) (hn : As.length = n) (hW : (rest.map fun v => v.category).sum ≤ 8) (hd : decode cc pc = .ok (.invokespecial index, 3)) (hf : cells + mc ≤ R.cells ∧ slots + ms ≤ R.slots) (kk : ∀ z : Nat → Nat, Pz z → mV p l e R s m args below meth c nL D cl A (cells + mc) (slots + ms) Q (wr ++ F z) (pc + 3) lv rest) : mV p l e R s m args below meth c nL D cl A cells slots Q ws pc lv st := by
  subst hst
  intro H locs ls hP hD hS hl
  have he' : ws[q0]? = some x0 := by simpa using he
  have hPc : va_P D cl [x0] H := hP.sub [q0] (by simp [he'])
  have hDc : va_D A [x0] := hD.sub [q0] rfl he
  have hFc := va_free (wc := [x0]) hD hS C.2.2.2.2.2.2.2.2 [q0] he
  refine va_callv (va_runI (As := As) (rest := rest) ⟨C.1, C.2.1, C.2.2.1, C.2.2.2.1, C.2.2.2.2.1⟩ (hM H.size) cw ⟨mblind hE, mpre (f := fun _ => [x0]) hE hs C.2.2.2.2.2.2.2.1 C.2.2.2.2.2.2.2.2 hPc hDc hS⟩ rfl hn hl.1 rfl (lv_room hW) hd hf) hS (fun q _ h => hFc q h) hFc (fun z t H1 locs1 ht hvm hw hB hz1 hk1 hS1 => ?_)
  obtain ⟨hP1, hK1, hD1⟩ := hB
  rw [ht] at hP1
  obtain ⟨hP2, hD2⟩ := va_join (wr := wr) (w1 := F z) hP hD [q0] isR he hR hnd hdis hk1 hFc hP1 hD1
  exact kk z hw H1 locs1 ls hP2 hD2 hS1 hl
theorem mv_callIN (C : mC p s m args meth c cc nL Ts own ret D cl tys A) {E : (Nat → Prop) → State → Prop} (hE : mEok E) (hs : E A s) {As rest : List Value} {y : MethodName} {bytes : ByteArray} {maxL index kl n mc ms b : Nat} {wsy : List Cond} {host : String} {Pz : (Nat → Nat) → Prop} {F : (Nat → Nat) → va_W} {x0 : Nat × va_E} {wr : va_W} (q0 : Nat) (isR : List Nat) (he : [q0].map (fun i => ws[i]?) = [x0].map some) (hR : isR.map (fun i => ws[i]?) = wr.map some) (hnd : va_nd isR = true) (hdis : ∀ i ∈ isR, i ∉ [q0]) (hM : mKc l y wsy kl mc ms E D cl tys [x0] (.ref b :: As) Pz F) (cw : va_CN R s args own index y host bytes maxL none wsy (mRc kl mc ms) mc ms n ∧ y.name = "<init>" ∧ (Cond.instanceMethod y).before args s = true) (hst : st = As.reverse ++ .ref b :: rest) (hn : As.length = n) (hW : (rest.map fun v => v.category).sum ≤ 8) (hd : decode cc pc = .ok (.invokespecial index, 3)) (hf : cells + mc ≤ R.cells ∧ slots + ms ≤ R.slots) (kk : ∀ z : Nat → Nat, Pz z → mV p l e R s m args below meth c nL D cl A (cells + mc) (slots + ms) Q (wr ++ F z) (pc + 3) lv rest) : mV p l e R s m args below meth c nL D cl A cells slots Q ws pc lv st := by
  subst hst
  intro H locs ls hP hD hS hl
  have he' : ws[q0]? = some x0 := by simpa using he
  have hPc : va_P D cl [x0] H := hP.sub [q0] (by simp [he'])
  have hDc : va_D A [x0] := hD.sub [q0] rfl he
  have hFc := va_free (wc := [x0]) hD hS C.2.2.2.2.2.2.2.2 [q0] he
  refine va_callv (va_runIN (As := As) (rest := rest) ⟨C.1, C.2.1, C.2.2.1, C.2.2.2.1, C.2.2.2.2.1⟩ (hM H.size) cw ⟨mblind hE, mpre (f := fun _ => [x0]) hE hs C.2.2.2.2.2.2.2.1 C.2.2.2.2.2.2.2.2 hPc hDc hS⟩ rfl hn hl.1 rfl (lv_room hW) hd hf) hS (fun q _ h => hFc q h) hFc (fun z t H1 locs1 ht hvm hw hB hz1 hk1 hS1 => ?_)
  obtain ⟨hP1, hK1, hD1⟩ := hB
  rw [ht] at hP1
  obtain ⟨hP2, hD2⟩ := va_join (wr := wr) (w1 := F z) hP hD [q0] isR he hR hnd hdis hk1 hFc hP1 hD1
  exact kk z hw H1 locs1 ls hP2 hD2 hS1 hl
end MC
theorem mKc_of {l : Launch} {y : MethodName} {ws ws' : List Cond} {cc : ByteArray} {maxL lev mc ms : Nat} {E : (Nat → Prop) → State → Prop} {D : va_G} {cl : List vw_C} {tys : List (ClassId × FieldType)} {w0 : va_W} {av : List Value} {Pz : (Nat → Nat) → Prop} {F : (Nat → Nat) → va_W} {lv : List (Nat × Value)} {own : String} (hy : plainName y.cls = true) (hw : ws = Cond.code y cc maxL none :: ws') (ho : y.cls = own) (hlen : (lg_sl av).length ≤ maxL) (hlv : lv_args 0 av = lv)
    (body : ∀ (p : Program) (e : Env) (s : State) (m : MethodId) (args : Array Value) (below : List Frame) (meth : Method) (c : Code) (A : Nat → Prop), mC p s m args meth c cc maxL ws own none D cl tys A → E A s → meth.name = y.name → mV p l e (mRc lev mc ms) s m args below meth c maxL D cl A 0 0 (mQc below args s D cl tys A mc ms Pz F) w0 0 lv []) : mKc l y ws lev mc ms E D cl tys w0 av Pz F := by
  intro sz
  subst ho
  refine Met.ofW (cc := cc) (maxL := maxL) (ret := none) hy hw ?_
  intro p e s m args below meth c s₁ B hml hv
  obtain ⟨rfl, hsz, hP, hK, hD0, hEs⟩ := hv
  subst hsz
  have hts := atoms_spec (ws := ws) B.pre
  have hown : s.vm.findClass y.cls = some m.cls := findClass_of_methodNamed B.named
  have hl := lv_entry av (n := maxL) hlen
  rw [lg_entry_eq]
  rw [hlv] at hl
  exact body p e s m av.toArray below meth c (va_A w0 s.heap.size) ⟨B.exec, B.bytes, hml, hown, hts, B.returns, B.notSynchronized, hK, fun q h => Or.inr h⟩ hEs (name_of_methodNamed B.named B.method).1 s.heap [] _ hP (hD0.self (sz := s.heap.size)) va_S.rf hl
set_option maxRecDepth 20000 in
theorem ggX0_init_X1_init : GoodIn wsX0_init wsX1_init := goodIn_r _ [14, 15, 2, 3, 16, 17, 18, 19, 20, 21, 22, 23, 24, 25, 26, 27, 28, 44, 45, 46, 47, 38, 39, 40, 41, 42, 43] (by decide +kernel) (by decide +kernel)
set_option maxRecDepth 20000 in
theorem gX0_init_X1_init : GoodIn wsX0_init (wsX1_init) := ggX0_init_X1_init
theorem dX0_init_0 : decode cX0_init 0 = .ok (.aload_n 0, 1) := by decide +kernel
theorem dX0_init_1 : decode cX0_init 1 = .ok (.invokespecial 3, 3) := by decide +kernel
theorem dX0_init_4 : decode cX0_init 4 = .ok (.aload_n 0, 1) := by decide +kernel
theorem dX0_init_5 : decode cX0_init 5 = .ok (.aload_n 1, 1) := by decide +kernel
theorem dX0_init_6 : decode cX0_init 6 = .ok (.putfield 9, 3) := by decide +kernel
theorem dX0_init_9 : decode cX0_init 9 = .ok (.aload_n 0, 1) := by decide +kernel
theorem dX0_init_10 : decode cX0_init 10 = .ok (.aload_n 2, 1) := by decide +kernel
theorem dX0_init_11 : decode cX0_init 11 = .ok (.putfield 15, 3) := by decide +kernel
theorem dX0_init_14 : decode cX0_init 14 = .ok (.aload_n 0, 1) := by decide +kernel
theorem dX0_init_15 : decode cX0_init 15 = .ok (.aload_n 3, 1) := by decide +kernel
theorem dX0_init_16 : decode cX0_init 16 = .ok (.putfield 19, 3) := by decide +kernel
theorem dX0_init_19 : decode cX0_init 19 = .ok (.aload_n 0, 1) := by decide +kernel
theorem dX0_init_20 : decode cX0_init 20 = .ok (.aload 4, 2) := by decide +kernel
theorem dX0_init_22 : decode cX0_init 22 = .ok (.putfield 23, 3) := by decide +kernel
theorem dX0_init_25 : decode cX0_init 25 = .ok (.aload_n 0, 1) := by decide +kernel
theorem dX0_init_26 : decode cX0_init 26 = .ok (.new 27, 3) := by decide +kernel
theorem dX0_init_29 : decode cX0_init 29 = .ok (.dup, 1) := by decide +kernel
theorem dX0_init_30 : decode cX0_init 30 = .ok (.aload_n 1, 1) := by decide +kernel
theorem dX0_init_31 : decode cX0_init 31 = .ok (.aload 4, 2) := by decide +kernel
theorem dX0_init_33 : decode cX0_init 33 = .ok (.invokespecial 29, 3) := by decide +kernel
theorem dX0_init_36 : decode cX0_init 36 = .ok (.putfield 32, 3) := by decide +kernel
theorem dX0_init_39 : decode cX0_init 39 = .ok (.return_, 1) := by decide +kernel
set_option maxRecDepth 20000 in
theorem ggX1_init_X4_init : GoodIn wsX1_init wsX4_init := goodIn_r _ [11, 12, 2, 3, 13, 14, 15, 16, 17, 18, 19, 20] (by decide +kernel) (by decide +kernel)
theorem dX1_init_0 : decode cX1_init 0 = .ok (.aload_n 0, 1) := by decide +kernel
theorem dX1_init_1 : decode cX1_init 1 = .ok (.invokespecial 3, 3) := by decide +kernel
theorem dX1_init_4 : decode cX1_init 4 = .ok (.aload_n 0, 1) := by decide +kernel
theorem dX1_init_5 : decode cX1_init 5 = .ok (.new 9, 3) := by decide +kernel
theorem dX1_init_8 : decode cX1_init 8 = .ok (.dup, 1) := by decide +kernel
theorem dX1_init_9 : decode cX1_init 9 = .ok (.invokespecial 11, 3) := by decide +kernel
theorem dX1_init_12 : decode cX1_init 12 = .ok (.putfield 12, 3) := by decide +kernel
theorem dX1_init_15 : decode cX1_init 15 = .ok (.aload_n 0, 1) := by decide +kernel
theorem dX1_init_16 : decode cX1_init 16 = .ok (.aload_n 1, 1) := by decide +kernel
theorem dX1_init_17 : decode cX1_init 17 = .ok (.putfield 18, 3) := by decide +kernel
theorem dX1_init_20 : decode cX1_init 20 = .ok (.aload_n 0, 1) := by decide +kernel
theorem dX1_init_21 : decode cX1_init 21 = .ok (.aload_n 2, 1) := by decide +kernel
theorem dX1_init_22 : decode cX1_init 22 = .ok (.putfield 22, 3) := by decide +kernel
theorem dX1_init_25 : decode cX1_init 25 = .ok (.return_, 1) := by decide +kernel
theorem dX2_init_0 : decode cX2_init 0 = .ok (.aload_n 0, 1) := by decide +kernel
theorem dX2_init_1 : decode cX2_init 1 = .ok (.invokespecial 3, 3) := by decide +kernel
theorem dX2_init_4 : decode cX2_init 4 = .ok (.aload_n 0, 1) := by decide +kernel
theorem dX2_init_5 : decode cX2_init 5 = .ok (.sipush 200, 3) := by decide +kernel
theorem dX2_init_8 : decode cX2_init 8 = .ok (.newarray .int, 2) := by decide +kernel
theorem dX2_init_10 : decode cX2_init 10 = .ok (.putfield 9, 3) := by decide +kernel
theorem dX2_init_13 : decode cX2_init 13 = .ok (.return_, 1) := by decide +kernel
theorem dX3_init_0 : decode cX3_init 0 = .ok (.aload_n 0, 1) := by decide +kernel
theorem dX3_init_1 : decode cX3_init 1 = .ok (.invokespecial 3, 3) := by decide +kernel
theorem dX3_init_4 : decode cX3_init 4 = .ok (.aload_n 0, 1) := by decide +kernel
theorem dX3_init_5 : decode cX3_init 5 = .ok (.aload_n 1, 1) := by decide +kernel
theorem dX3_init_6 : decode cX3_init 6 = .ok (.putfield 9, 3) := by decide +kernel
theorem dX3_init_9 : decode cX3_init 9 = .ok (.return_, 1) := by decide +kernel
theorem dX4_init_0 : decode cX4_init 0 = .ok (.aload_n 0, 1) := by decide +kernel
theorem dX4_init_1 : decode cX4_init 1 = .ok (.invokespecial 3, 3) := by decide +kernel
theorem dX4_init_4 : decode cX4_init 4 = .ok (.aload_n 0, 1) := by decide +kernel
theorem dX4_init_5 : decode cX4_init 5 = .ok (.iconst 2, 1) := by decide +kernel
theorem dX4_init_6 : decode cX4_init 6 = .ok (.newarray .int, 2) := by decide +kernel
theorem dX4_init_8 : decode cX4_init 8 = .ok (.putfield 9, 3) := by decide +kernel
theorem dX4_init_11 : decode cX4_init 11 = .ok (.aload_n 0, 1) := by decide +kernel
theorem dX4_init_12 : decode cX4_init 12 = .ok (.iconst 2, 1) := by decide +kernel
theorem dX4_init_13 : decode cX4_init 13 = .ok (.newarray .int, 2) := by decide +kernel
theorem dX4_init_15 : decode cX4_init 15 = .ok (.putfield 15, 3) := by decide +kernel
theorem dX4_init_18 : decode cX4_init 18 = .ok (.aload_n 0, 1) := by decide +kernel
theorem dX4_init_19 : decode cX4_init 19 = .ok (.iconst 2, 1) := by decide +kernel
theorem dX4_init_20 : decode cX4_init 20 = .ok (.newarray .int, 2) := by decide +kernel
theorem dX4_init_22 : decode cX4_init 22 = .ok (.putfield 18, 3) := by decide +kernel
theorem dX4_init_25 : decode cX4_init 25 = .ok (.return_, 1) := by decide +kernel
theorem dX5_init_0 : decode cX5_init 0 = .ok (.aload_n 0, 1) := by decide +kernel
theorem dX5_init_1 : decode cX5_init 1 = .ok (.invokespecial 3, 3) := by decide +kernel
theorem dX5_init_4 : decode cX5_init 4 = .ok (.aload_n 0, 1) := by decide +kernel
theorem dX5_init_5 : decode cX5_init 5 = .ok (.sipush 3000, 3) := by decide +kernel
theorem dX5_init_8 : decode cX5_init 8 = .ok (.newarray .int, 2) := by decide +kernel
theorem dX5_init_10 : decode cX5_init 10 = .ok (.putfield 9, 3) := by decide +kernel
theorem dX5_init_13 : decode cX5_init 13 = .ok (.aload_n 0, 1) := by decide +kernel
theorem dX5_init_14 : decode cX5_init 14 = .ok (.sipush 3000, 3) := by decide +kernel
theorem dX5_init_17 : decode cX5_init 17 = .ok (.newarray .int, 2) := by decide +kernel
theorem dX5_init_19 : decode cX5_init 19 = .ok (.putfield 15, 3) := by decide +kernel
theorem dX5_init_22 : decode cX5_init 22 = .ok (.aload_n 0, 1) := by decide +kernel
theorem dX5_init_23 : decode cX5_init 23 = .ok (.sipush 3000, 3) := by decide +kernel
theorem dX5_init_26 : decode cX5_init 26 = .ok (.newarray .int, 2) := by decide +kernel
theorem dX5_init_28 : decode cX5_init 28 = .ok (.putfield 18, 3) := by decide +kernel
theorem dX5_init_31 : decode cX5_init 31 = .ok (.aload_n 0, 1) := by decide +kernel
theorem dX5_init_32 : decode cX5_init 32 = .ok (.sipush 3000, 3) := by decide +kernel
theorem dX5_init_35 : decode cX5_init 35 = .ok (.newarray .int, 2) := by decide +kernel
theorem dX5_init_37 : decode cX5_init 37 = .ok (.putfield 21, 3) := by decide +kernel
theorem dX5_init_40 : decode cX5_init 40 = .ok (.aload_n 0, 1) := by decide +kernel
theorem dX5_init_41 : decode cX5_init 41 = .ok (.sipush 480, 3) := by decide +kernel
theorem dX5_init_44 : decode cX5_init 44 = .ok (.putfield 24, 3) := by decide +kernel
theorem dX5_init_47 : decode cX5_init 47 = .ok (.aload_n 0, 1) := by decide +kernel
theorem dX5_init_48 : decode cX5_init 48 = .ok (.iconst (-1), 1) := by decide +kernel
theorem dX5_init_49 : decode cX5_init 49 = .ok (.putfield 28, 3) := by decide +kernel
theorem dX5_init_52 : decode cX5_init 52 = .ok (.return_, 1) := by decide +kernel
theorem dX6_init_0 : decode cX6_init 0 = .ok (.aload_n 0, 1) := by decide +kernel
theorem dX6_init_1 : decode cX6_init 1 = .ok (.invokespecial 3, 3) := by decide +kernel
theorem dX6_init_4 : decode cX6_init 4 = .ok (.aload_n 0, 1) := by decide +kernel
theorem dX6_init_5 : decode cX6_init 5 = .ok (.aload_n 1, 1) := by decide +kernel
theorem dX6_init_6 : decode cX6_init 6 = .ok (.putfield 9, 3) := by decide +kernel
theorem dX6_init_9 : decode cX6_init 9 = .ok (.return_, 1) := by decide +kernel
theorem dX7_init_0 : decode cX7_init 0 = .ok (.aload_n 0, 1) := by decide +kernel
theorem dX7_init_1 : decode cX7_init 1 = .ok (.invokespecial 3, 3) := by decide +kernel
theorem dX7_init_4 : decode cX7_init 4 = .ok (.aload_n 0, 1) := by decide +kernel
theorem dX7_init_5 : decode cX7_init 5 = .ok (.bipush 40, 2) := by decide +kernel
theorem dX7_init_7 : decode cX7_init 7 = .ok (.newarray .int, 2) := by decide +kernel
theorem dX7_init_9 : decode cX7_init 9 = .ok (.putfield 9, 3) := by decide +kernel
theorem dX7_init_12 : decode cX7_init 12 = .ok (.aload_n 0, 1) := by decide +kernel
theorem dX7_init_13 : decode cX7_init 13 = .ok (.bipush 40, 2) := by decide +kernel
theorem dX7_init_15 : decode cX7_init 15 = .ok (.newarray .int, 2) := by decide +kernel
theorem dX7_init_17 : decode cX7_init 17 = .ok (.putfield 15, 3) := by decide +kernel
theorem dX7_init_20 : decode cX7_init 20 = .ok (.aload_n 0, 1) := by decide +kernel
theorem dX7_init_21 : decode cX7_init 21 = .ok (.bipush 40, 2) := by decide +kernel
theorem dX7_init_23 : decode cX7_init 23 = .ok (.newarray .int, 2) := by decide +kernel
theorem dX7_init_25 : decode cX7_init 25 = .ok (.putfield 18, 3) := by decide +kernel
theorem dX7_init_28 : decode cX7_init 28 = .ok (.aload_n 0, 1) := by decide +kernel
theorem dX7_init_29 : decode cX7_init 29 = .ok (.bipush 40, 2) := by decide +kernel
theorem dX7_init_31 : decode cX7_init 31 = .ok (.newarray .int, 2) := by decide +kernel
theorem dX7_init_33 : decode cX7_init 33 = .ok (.putfield 21, 3) := by decide +kernel
theorem dX7_init_36 : decode cX7_init 36 = .ok (.iconst 0, 1) := by decide +kernel
theorem dX7_init_37 : decode cX7_init 37 = .ok (.istore_n 1, 1) := by decide +kernel
theorem dX7_init_38 : decode cX7_init 38 = .ok (.iload_n 1, 1) := by decide +kernel
theorem dX7_init_39 : decode cX7_init 39 = .ok (.getstatic 24, 3) := by decide +kernel
theorem dX7_init_42 : decode cX7_init 42 = .ok (.arraylength, 1) := by decide +kernel
theorem dX7_init_43 : decode cX7_init 43 = .ok (.if_icmp .ge 37, 3) := by decide +kernel
theorem dX7_init_46 : decode cX7_init 46 = .ok (.iload_n 1, 1) := by decide +kernel
theorem dX7_init_47 : decode cX7_init 47 = .ok (.bipush 40, 2) := by decide +kernel
theorem dX7_init_49 : decode cX7_init 49 = .ok (.if_icmp .ge 31, 3) := by decide +kernel
theorem dX7_init_52 : decode cX7_init 52 = .ok (.aload_n 0, 1) := by decide +kernel
theorem dX7_init_53 : decode cX7_init 53 = .ok (.getfield 9, 3) := by decide +kernel
theorem dX7_init_56 : decode cX7_init 56 = .ok (.iload_n 1, 1) := by decide +kernel
theorem dX7_init_57 : decode cX7_init 57 = .ok (.getstatic 24, 3) := by decide +kernel
theorem dX7_init_60 : decode cX7_init 60 = .ok (.iload_n 1, 1) := by decide +kernel
theorem dX7_init_61 : decode cX7_init 61 = .ok (.iaload, 1) := by decide +kernel
theorem dX7_init_62 : decode cX7_init 62 = .ok (.iastore, 1) := by decide +kernel
theorem dX7_init_63 : decode cX7_init 63 = .ok (.aload_n 0, 1) := by decide +kernel
theorem dX7_init_64 : decode cX7_init 64 = .ok (.getfield 18, 3) := by decide +kernel
theorem dX7_init_67 : decode cX7_init 67 = .ok (.iload_n 1, 1) := by decide +kernel
theorem dX7_init_68 : decode cX7_init 68 = .ok (.iload_n 1, 1) := by decide +kernel
theorem dX7_init_69 : decode cX7_init 69 = .ok (.iconst 4, 1) := by decide +kernel
theorem dX7_init_70 : decode cX7_init 70 = .ok (.invokestatic 27, 3) := by decide +kernel
theorem dX7_init_73 : decode cX7_init 73 = .ok (.iastore, 1) := by decide +kernel
theorem dX7_init_74 : decode cX7_init 74 = .ok (.iinc 1 1, 3) := by decide +kernel
theorem dX7_init_77 : decode cX7_init 77 = .ok (.goto (-39), 3) := by decide +kernel
theorem dX7_init_80 : decode cX7_init 80 = .ok (.aload_n 0, 1) := by decide +kernel
theorem dX7_init_81 : decode cX7_init 81 = .ok (.getstatic 24, 3) := by decide +kernel
theorem dX7_init_84 : decode cX7_init 84 = .ok (.arraylength, 1) := by decide +kernel
theorem dX7_init_85 : decode cX7_init 85 = .ok (.putfield 33, 3) := by decide +kernel
theorem dX7_init_88 : decode cX7_init 88 = .ok (.return_, 1) := by decide +kernel
set_option maxRecDepth 20000 in
theorem ggX8_init_X5_init : GoodIn wsX8_init wsX5_init := goodIn_r _ [31, 32, 2, 3, 4, 33, 34, 35, 36, 37, 38, 102, 103, 104, 105, 106, 107] (by decide +kernel) (by decide +kernel)
set_option maxRecDepth 20000 in
theorem ggX8_init_X3_init : GoodIn wsX8_init wsX3_init := goodIn_r _ [41, 42, 2, 3, 43, 108, 109] (by decide +kernel) (by decide +kernel)
set_option maxRecDepth 20000 in
theorem gX8_init_X3_init : GoodIn wsX8_init (wsX3_init) := ggX8_init_X3_init
set_option maxRecDepth 20000 in
theorem ggX8_init_X6_init : GoodIn wsX8_init wsX6_init := goodIn_r _ [46, 47, 2, 3, 48, 110] (by decide +kernel) (by decide +kernel)
set_option maxRecDepth 20000 in
theorem gX8_init_X6_init : GoodIn wsX8_init (wsX6_init) := ggX8_init_X6_init
set_option maxRecDepth 20000 in
theorem ggX8_init_X7_init : GoodIn wsX8_init wsX7_init := goodIn_r _ [51, 52, 2, 3, 4, 53, 54, 55, 56, 57, 58, 59, 60, 61, 111, 112, 113, 114, 115, 116] (by decide +kernel) (by decide +kernel)
set_option maxRecDepth 20000 in
theorem gX8_init_X7_init : GoodIn wsX8_init (wsX7_init) := ggX8_init_X7_init
set_option maxRecDepth 20000 in
theorem ggX8_init_X2_init : GoodIn wsX8_init wsX2_init := goodIn_r _ [63, 64, 2, 3, 4, 65, 117, 118, 119] (by decide +kernel) (by decide +kernel)
set_option maxRecDepth 20000 in
theorem ggX8_init_X0_init : GoodIn wsX8_init wsX0_init := goodIn_r _ [68, 69, 2, 3, 70, 71, 72, 73, 74, 75, 76, 77, 78, 79, 80, 81, 82, 83, 84, 85, 86, 87, 88, 89, 90, 4, 91, 92, 93, 120, 121, 122, 123, 124, 125, 126, 127, 128, 129, 130, 131, 132, 133, 134, 135, 136, 137, 138] (by decide +kernel) (by decide +kernel)
set_option maxRecDepth 20000 in
theorem gX8_init_X0_init : GoodIn wsX8_init (wsX0_init) := ggX8_init_X0_init
theorem dX8_init_0 : decode cX8_init 0 = .ok (.aload_n 0, 1) := by decide +kernel
theorem dX8_init_1 : decode cX8_init 1 = .ok (.invokespecial 3, 3) := by decide +kernel
theorem dX8_init_4 : decode cX8_init 4 = .ok (.aload_n 0, 1) := by decide +kernel
theorem dX8_init_5 : decode cX8_init 5 = .ok (.bipush 120, 2) := by decide +kernel
theorem dX8_init_7 : decode cX8_init 7 = .ok (.newarray .int, 2) := by decide +kernel
theorem dX8_init_9 : decode cX8_init 9 = .ok (.putfield 9, 3) := by decide +kernel
theorem dX8_init_12 : decode cX8_init 12 = .ok (.aload_n 0, 1) := by decide +kernel
theorem dX8_init_13 : decode cX8_init 13 = .ok (.new 13, 3) := by decide +kernel
theorem dX8_init_16 : decode cX8_init 16 = .ok (.dup, 1) := by decide +kernel
theorem dX8_init_17 : decode cX8_init 17 = .ok (.invokespecial 15, 3) := by decide +kernel
theorem dX8_init_20 : decode cX8_init 20 = .ok (.putfield 16, 3) := by decide +kernel
theorem dX8_init_23 : decode cX8_init 23 = .ok (.aload_n 0, 1) := by decide +kernel
theorem dX8_init_24 : decode cX8_init 24 = .ok (.new 20, 3) := by decide +kernel
theorem dX8_init_27 : decode cX8_init 27 = .ok (.dup, 1) := by decide +kernel
theorem dX8_init_28 : decode cX8_init 28 = .ok (.aload_n 0, 1) := by decide +kernel
theorem dX8_init_29 : decode cX8_init 29 = .ok (.getfield 16, 3) := by decide +kernel
theorem dX8_init_32 : decode cX8_init 32 = .ok (.invokespecial 22, 3) := by decide +kernel
theorem dX8_init_35 : decode cX8_init 35 = .ok (.putfield 25, 3) := by decide +kernel
theorem dX8_init_38 : decode cX8_init 38 = .ok (.aload_n 0, 1) := by decide +kernel
theorem dX8_init_39 : decode cX8_init 39 = .ok (.new 29, 3) := by decide +kernel
theorem dX8_init_42 : decode cX8_init 42 = .ok (.dup, 1) := by decide +kernel
theorem dX8_init_43 : decode cX8_init 43 = .ok (.aload_n 0, 1) := by decide +kernel
theorem dX8_init_44 : decode cX8_init 44 = .ok (.getfield 16, 3) := by decide +kernel
theorem dX8_init_47 : decode cX8_init 47 = .ok (.invokespecial 31, 3) := by decide +kernel
theorem dX8_init_50 : decode cX8_init 50 = .ok (.putfield 32, 3) := by decide +kernel
theorem dX8_init_53 : decode cX8_init 53 = .ok (.aload_n 0, 1) := by decide +kernel
theorem dX8_init_54 : decode cX8_init 54 = .ok (.new 36, 3) := by decide +kernel
theorem dX8_init_57 : decode cX8_init 57 = .ok (.dup, 1) := by decide +kernel
theorem dX8_init_58 : decode cX8_init 58 = .ok (.invokespecial 38, 3) := by decide +kernel
theorem dX8_init_61 : decode cX8_init 61 = .ok (.putfield 39, 3) := by decide +kernel
theorem dX8_init_64 : decode cX8_init 64 = .ok (.aload_n 0, 1) := by decide +kernel
theorem dX8_init_65 : decode cX8_init 65 = .ok (.new 43, 3) := by decide +kernel
theorem dX8_init_68 : decode cX8_init 68 = .ok (.dup, 1) := by decide +kernel
theorem dX8_init_69 : decode cX8_init 69 = .ok (.invokespecial 45, 3) := by decide +kernel
theorem dX8_init_72 : decode cX8_init 72 = .ok (.putfield 46, 3) := by decide +kernel
theorem dX8_init_75 : decode cX8_init 75 = .ok (.aload_n 0, 1) := by decide +kernel
theorem dX8_init_76 : decode cX8_init 76 = .ok (.new 50, 3) := by decide +kernel
theorem dX8_init_79 : decode cX8_init 79 = .ok (.dup, 1) := by decide +kernel
theorem dX8_init_80 : decode cX8_init 80 = .ok (.aload_n 0, 1) := by decide +kernel
theorem dX8_init_81 : decode cX8_init 81 = .ok (.getfield 16, 3) := by decide +kernel
theorem dX8_init_84 : decode cX8_init 84 = .ok (.aload_n 0, 1) := by decide +kernel
theorem dX8_init_85 : decode cX8_init 85 = .ok (.getfield 32, 3) := by decide +kernel
theorem dX8_init_88 : decode cX8_init 88 = .ok (.aload_n 0, 1) := by decide +kernel
theorem dX8_init_89 : decode cX8_init 89 = .ok (.getfield 39, 3) := by decide +kernel
theorem dX8_init_92 : decode cX8_init 92 = .ok (.aload_n 0, 1) := by decide +kernel
theorem dX8_init_93 : decode cX8_init 93 = .ok (.getfield 46, 3) := by decide +kernel
theorem dX8_init_96 : decode cX8_init 96 = .ok (.invokespecial 52, 3) := by decide +kernel
theorem dX8_init_99 : decode cX8_init 99 = .ok (.putfield 55, 3) := by decide +kernel
theorem dX8_init_102 : decode cX8_init 102 = .ok (.return_, 1) := by decide +kernel
theorem dX9_init_0 : decode cX9_init 0 = .ok (.aload_n 0, 1) := by decide +kernel
theorem dX9_init_1 : decode cX9_init 1 = .ok (.invokespecial 1, 3) := by decide +kernel
theorem dX9_init_4 : decode cX9_init 4 = .ok (.aload_n 0, 1) := by decide +kernel
theorem dX9_init_5 : decode cX9_init 5 = .ok (.bipush 120, 2) := by decide +kernel
theorem dX9_init_7 : decode cX9_init 7 = .ok (.newarray .int, 2) := by decide +kernel
theorem dX9_init_9 : decode cX9_init 9 = .ok (.putfield 7, 3) := by decide +kernel
theorem dX9_init_12 : decode cX9_init 12 = .ok (.aload_n 0, 1) := by decide +kernel
theorem dX9_init_13 : decode cX9_init 13 = .ok (.sipush 2600, 3) := by decide +kernel
theorem dX9_init_16 : decode cX9_init 16 = .ok (.newarray .int, 2) := by decide +kernel
theorem dX9_init_18 : decode cX9_init 18 = .ok (.putfield 13, 3) := by decide +kernel
theorem dX9_init_21 : decode cX9_init 21 = .ok (.aload_n 0, 1) := by decide +kernel
theorem dX9_init_22 : decode cX9_init 22 = .ok (.sipush 2600, 3) := by decide +kernel
theorem dX9_init_25 : decode cX9_init 25 = .ok (.newarray .int, 2) := by decide +kernel
theorem dX9_init_27 : decode cX9_init 27 = .ok (.putfield 16, 3) := by decide +kernel
theorem dX9_init_30 : decode cX9_init 30 = .ok (.aload_n 0, 1) := by decide +kernel
theorem dX9_init_31 : decode cX9_init 31 = .ok (.sipush 3200, 3) := by decide +kernel
theorem dX9_init_34 : decode cX9_init 34 = .ok (.newarray .int, 2) := by decide +kernel
theorem dX9_init_36 : decode cX9_init 36 = .ok (.putfield 19, 3) := by decide +kernel
theorem dX9_init_39 : decode cX9_init 39 = .ok (.aload_n 0, 1) := by decide +kernel
theorem dX9_init_40 : decode cX9_init 40 = .ok (.sipush 3200, 3) := by decide +kernel
theorem dX9_init_43 : decode cX9_init 43 = .ok (.newarray .int, 2) := by decide +kernel
theorem dX9_init_45 : decode cX9_init 45 = .ok (.putfield 22, 3) := by decide +kernel
theorem dX9_init_48 : decode cX9_init 48 = .ok (.aload_n 0, 1) := by decide +kernel
theorem dX9_init_49 : decode cX9_init 49 = .ok (.iconst 4, 1) := by decide +kernel
theorem dX9_init_50 : decode cX9_init 50 = .ok (.newarray .int, 2) := by decide +kernel
theorem dX9_init_52 : decode cX9_init 52 = .ok (.putfield 25, 3) := by decide +kernel
theorem dX9_init_55 : decode cX9_init 55 = .ok (.aload_n 0, 1) := by decide +kernel
theorem dX9_init_56 : decode cX9_init 56 = .ok (.iconst 4, 1) := by decide +kernel
theorem dX9_init_57 : decode cX9_init 57 = .ok (.newarray .int, 2) := by decide +kernel
theorem dX9_init_59 : decode cX9_init 59 = .ok (.putfield 28, 3) := by decide +kernel
theorem dX9_init_62 : decode cX9_init 62 = .ok (.aload_n 0, 1) := by decide +kernel
theorem dX9_init_63 : decode cX9_init 63 = .ok (.bipush 40, 2) := by decide +kernel
theorem dX9_init_65 : decode cX9_init 65 = .ok (.newarray .int, 2) := by decide +kernel
theorem dX9_init_67 : decode cX9_init 67 = .ok (.putfield 31, 3) := by decide +kernel
theorem dX9_init_70 : decode cX9_init 70 = .ok (.aload_n 0, 1) := by decide +kernel
theorem dX9_init_71 : decode cX9_init 71 = .ok (.bipush 40, 2) := by decide +kernel
theorem dX9_init_73 : decode cX9_init 73 = .ok (.newarray .int, 2) := by decide +kernel
theorem dX9_init_75 : decode cX9_init 75 = .ok (.putfield 34, 3) := by decide +kernel
theorem dX9_init_78 : decode cX9_init 78 = .ok (.aload_n 0, 1) := by decide +kernel
theorem dX9_init_79 : decode cX9_init 79 = .ok (.bipush 40, 2) := by decide +kernel
theorem dX9_init_81 : decode cX9_init 81 = .ok (.newarray .int, 2) := by decide +kernel
theorem dX9_init_83 : decode cX9_init 83 = .ok (.putfield 37, 3) := by decide +kernel
theorem dX9_init_86 : decode cX9_init 86 = .ok (.aload_n 0, 1) := by decide +kernel
theorem dX9_init_87 : decode cX9_init 87 = .ok (.bipush 40, 2) := by decide +kernel
theorem dX9_init_89 : decode cX9_init 89 = .ok (.newarray .int, 2) := by decide +kernel
theorem dX9_init_91 : decode cX9_init 91 = .ok (.putfield 40, 3) := by decide +kernel
theorem dX9_init_94 : decode cX9_init 94 = .ok (.aload_n 0, 1) := by decide +kernel
theorem dX9_init_95 : decode cX9_init 95 = .ok (.bipush 40, 2) := by decide +kernel
theorem dX9_init_97 : decode cX9_init 97 = .ok (.newarray .int, 2) := by decide +kernel
theorem dX9_init_99 : decode cX9_init 99 = .ok (.putfield 43, 3) := by decide +kernel
theorem dX9_init_102 : decode cX9_init 102 = .ok (.aload_n 0, 1) := by decide +kernel
theorem dX9_init_103 : decode cX9_init 103 = .ok (.sipush 310, 3) := by decide +kernel
theorem dX9_init_106 : decode cX9_init 106 = .ok (.newarray .int, 2) := by decide +kernel
theorem dX9_init_108 : decode cX9_init 108 = .ok (.putfield 46, 3) := by decide +kernel
theorem dX9_init_111 : decode cX9_init 111 = .ok (.aload_n 0, 1) := by decide +kernel
theorem dX9_init_112 : decode cX9_init 112 = .ok (.sipush 310, 3) := by decide +kernel
theorem dX9_init_115 : decode cX9_init 115 = .ok (.newarray .int, 2) := by decide +kernel
theorem dX9_init_117 : decode cX9_init 117 = .ok (.putfield 49, 3) := by decide +kernel
theorem dX9_init_120 : decode cX9_init 120 = .ok (.aload_n 0, 1) := by decide +kernel
theorem dX9_init_121 : decode cX9_init 121 = .ok (.sipush 400, 3) := by decide +kernel
theorem dX9_init_124 : decode cX9_init 124 = .ok (.newarray .int, 2) := by decide +kernel
theorem dX9_init_126 : decode cX9_init 126 = .ok (.putfield 52, 3) := by decide +kernel
theorem dX9_init_129 : decode cX9_init 129 = .ok (.aload_n 0, 1) := by decide +kernel
theorem dX9_init_130 : decode cX9_init 130 = .ok (.sipush 400, 3) := by decide +kernel
theorem dX9_init_133 : decode cX9_init 133 = .ok (.newarray .int, 2) := by decide +kernel
theorem dX9_init_135 : decode cX9_init 135 = .ok (.putfield 55, 3) := by decide +kernel
theorem dX9_init_138 : decode cX9_init 138 = .ok (.aload_n 0, 1) := by decide +kernel
theorem dX9_init_139 : decode cX9_init 139 = .ok (.iconst 3, 1) := by decide +kernel
theorem dX9_init_140 : decode cX9_init 140 = .ok (.newarray .int, 2) := by decide +kernel
theorem dX9_init_142 : decode cX9_init 142 = .ok (.putfield 58, 3) := by decide +kernel
theorem dX9_init_145 : decode cX9_init 145 = .ok (.aload_n 0, 1) := by decide +kernel
theorem dX9_init_146 : decode cX9_init 146 = .ok (.iconst 3, 1) := by decide +kernel
theorem dX9_init_147 : decode cX9_init 147 = .ok (.newarray .int, 2) := by decide +kernel
theorem dX9_init_149 : decode cX9_init 149 = .ok (.putfield 61, 3) := by decide +kernel
theorem dX9_init_152 : decode cX9_init 152 = .ok (.aload_n 0, 1) := by decide +kernel
theorem dX9_init_153 : decode cX9_init 153 = .ok (.iconst 3, 1) := by decide +kernel
theorem dX9_init_154 : decode cX9_init 154 = .ok (.newarray .int, 2) := by decide +kernel
theorem dX9_init_156 : decode cX9_init 156 = .ok (.putfield 64, 3) := by decide +kernel
theorem dX9_init_159 : decode cX9_init 159 = .ok (.aload_n 0, 1) := by decide +kernel
theorem dX9_init_160 : decode cX9_init 160 = .ok (.sipush 200, 3) := by decide +kernel
theorem dX9_init_163 : decode cX9_init 163 = .ok (.newarray .int, 2) := by decide +kernel
theorem dX9_init_165 : decode cX9_init 165 = .ok (.putfield 67, 3) := by decide +kernel
theorem dX9_init_168 : decode cX9_init 168 = .ok (.return_, 1) := by decide +kernel
theorem iw_X4_init_X4 : ∀ w ∈ wsX40, w ∈ wsX4_init := by decide +kernel
theorem lk_X4_init_9 : Cond.fieldLink RX4 9 "MarkedNames$Rounds" "held" "[I" ∈ wsX4_init := by decide +kernel
theorem lk_X4_init_15 : Cond.fieldLink RX4 15 "MarkedNames$Rounds" "round" "[I" ∈ wsX4_init := by decide +kernel
theorem lk_X4_init_18 : Cond.fieldLink RX4 18 "MarkedNames$Rounds" "rounds" "[I" ∈ wsX4_init := by decide +kernel
theorem iw_X1_init_X4 : ∀ w ∈ wsX40, w ∈ wsX1_init := by decide +kernel
theorem iw_X1_init_X1 : ∀ w ∈ wsX10, w ∈ wsX1_init := by decide +kernel
theorem lk_X1_init_12 : Cond.fieldLink RX1 12 "MarkedNames$Filler" "rounds" "LMarkedNames$Rounds;" ∈ wsX1_init := by decide +kernel
theorem lk_X1_init_18 : Cond.fieldLink RX1 18 "MarkedNames$Filler" "row" "LMarkedNames$Row;" ∈ wsX1_init := by decide +kernel
theorem lk_X1_init_22 : Cond.fieldLink RX1 22 "MarkedNames$Filler" "outcome" "LMarkedNames$Outcome;" ∈ wsX1_init := by decide +kernel
theorem iw_X5_init_X5 : ∀ w ∈ wsX50, w ∈ wsX5_init := by decide +kernel
theorem lk_X5_init_9 : Cond.fieldLink RX5 9 "MarkedNames$Row" "word" "[I" ∈ wsX5_init := by decide +kernel
theorem lk_X5_init_15 : Cond.fieldLink RX5 15 "MarkedNames$Row" "marks" "[I" ∈ wsX5_init := by decide +kernel
theorem lk_X5_init_18 : Cond.fieldLink RX5 18 "MarkedNames$Row" "size" "[I" ∈ wsX5_init := by decide +kernel
theorem lk_X5_init_21 : Cond.fieldLink RX5 21 "MarkedNames$Row" "use" "[I" ∈ wsX5_init := by decide +kernel
theorem lk_X5_init_24 : Cond.fieldLink RX5 24 "MarkedNames$Row" "top" "I" ∈ wsX5_init := by decide +kernel
theorem lk_X5_init_28 : Cond.fieldLink RX5 28 "MarkedNames$Row" "open" "I" ∈ wsX5_init := by decide +kernel
theorem iw_X3_init_X3 : ∀ w ∈ wsX30, w ∈ wsX3_init := by decide +kernel
theorem lk_X3_init_9 : Cond.fieldLink RX3 9 "MarkedNames$Reader" "row" "LMarkedNames$Row;" ∈ wsX3_init := by decide +kernel
theorem iw_X6_init_X6 : ∀ w ∈ wsX60, w ∈ wsX6_init := by decide +kernel
theorem lk_X6_init_9 : Cond.fieldLink RX6 9 "MarkedNames$RuleCheck" "row" "LMarkedNames$Row;" ∈ wsX6_init := by decide +kernel
theorem iw_X7_init_X7 : ∀ w ∈ wsX70, w ∈ wsX7_init := by decide +kernel
theorem lk_X7_init_9 : Cond.fieldLink RX7 9 "MarkedNames$Table" "name" "[I" ∈ wsX7_init := by decide +kernel
theorem lk_X7_init_15 : Cond.fieldLink RX7 15 "MarkedNames$Table" "marks" "[I" ∈ wsX7_init := by decide +kernel
theorem lk_X7_init_18 : Cond.fieldLink RX7 18 "MarkedNames$Table" "kind" "[I" ∈ wsX7_init := by decide +kernel
theorem lk_X7_init_21 : Cond.fieldLink RX7 21 "MarkedNames$Table" "value" "[I" ∈ wsX7_init := by decide +kernel
theorem ml_X7_init_27 : Cond.methodLink RX7 27 Lib.Math.min.name ∈ wsX7_init := by decide +kernel
theorem ms_X7_init_min : Cond.static Lib.Math.min.name ∈ wsX7_init := by decide +kernel
theorem mi_X7_init_Math : Cond.initialized "java/lang/Math" ∈ wsX7_init := by decide +kernel
theorem mc_X7_init_min : Cond.code Lib.Math.min.name Lib.Math.min.code 2 (some .int) ∈ wsX7_init := by decide +kernel
theorem lk_X7_init_33 : Cond.fieldLink RX7 33 "MarkedNames$Table" "length" "I" ∈ wsX7_init := by decide +kernel
theorem iw_X2_init_X2 : ∀ w ∈ wsX20, w ∈ wsX2_init := by decide +kernel
theorem lk_X2_init_9 : Cond.fieldLink RX2 9 "MarkedNames$Outcome" "text" "[I" ∈ wsX2_init := by decide +kernel
theorem iw_X0_init_X0 : ∀ w ∈ wsX00, w ∈ wsX0_init := by decide +kernel
theorem lk_X0_init_9 : Cond.fieldLink RX0 9 "MarkedNames$Expander" "row" "LMarkedNames$Row;" ∈ wsX0_init := by decide +kernel
theorem lk_X0_init_15 : Cond.fieldLink RX0 15 "MarkedNames$Expander" "check" "LMarkedNames$RuleCheck;" ∈ wsX0_init := by decide +kernel
theorem lk_X0_init_19 : Cond.fieldLink RX0 19 "MarkedNames$Expander" "table" "LMarkedNames$Table;" ∈ wsX0_init := by decide +kernel
theorem lk_X0_init_23 : Cond.fieldLink RX0 23 "MarkedNames$Expander" "outcome" "LMarkedNames$Outcome;" ∈ wsX0_init := by decide +kernel
theorem iw_X0_init_X1 : ∀ w ∈ wsX10, w ∈ wsX0_init := by decide +kernel
theorem lk_X0_init_32 : Cond.fieldLink RX0 32 "MarkedNames$Expander" "filler" "LMarkedNames$Filler;" ∈ wsX0_init := by decide +kernel
theorem iw_X8_init_X8 : ∀ w ∈ wsX80, w ∈ wsX8_init := by decide +kernel
theorem lk_X8_init_9 : Cond.fieldLink RX8 9 "MarkedNames" "typed" "[I" ∈ wsX8_init := by decide +kernel
theorem iw_X8_init_X5 : ∀ w ∈ wsX50, w ∈ wsX8_init := by decide +kernel
theorem lk_X8_init_16 : Cond.fieldLink RX8 16 "MarkedNames" "row" "LMarkedNames$Row;" ∈ wsX8_init := by decide +kernel
theorem iw_X8_init_X3 : ∀ w ∈ wsX30, w ∈ wsX8_init := by decide +kernel
theorem lk_X8_init_25 : Cond.fieldLink RX8 25 "MarkedNames" "reader" "LMarkedNames$Reader;" ∈ wsX8_init := by decide +kernel
theorem iw_X8_init_X6 : ∀ w ∈ wsX60, w ∈ wsX8_init := by decide +kernel
theorem lk_X8_init_32 : Cond.fieldLink RX8 32 "MarkedNames" "check" "LMarkedNames$RuleCheck;" ∈ wsX8_init := by decide +kernel
theorem iw_X8_init_X7 : ∀ w ∈ wsX70, w ∈ wsX8_init := by decide +kernel
theorem lk_X8_init_39 : Cond.fieldLink RX8 39 "MarkedNames" "table" "LMarkedNames$Table;" ∈ wsX8_init := by decide +kernel
theorem iw_X8_init_X2 : ∀ w ∈ wsX20, w ∈ wsX8_init := by decide +kernel
theorem lk_X8_init_46 : Cond.fieldLink RX8 46 "MarkedNames" "outcome" "LMarkedNames$Outcome;" ∈ wsX8_init := by decide +kernel
theorem iw_X8_init_X0 : ∀ w ∈ wsX00, w ∈ wsX8_init := by decide +kernel
theorem lk_X8_init_55 : Cond.fieldLink RX8 55 "MarkedNames" "expander" "LMarkedNames$Expander;" ∈ wsX8_init := by decide +kernel
theorem iw_X9_init_X9 : ∀ w ∈ wsX90, w ∈ wsX9_init := by decide +kernel
theorem lk_X9_init_7 : Cond.fieldLink RX9 7 "MarkedNamesModel" "typed" "[I" ∈ wsX9_init := by decide +kernel
theorem lk_X9_init_13 : Cond.fieldLink RX9 13 "MarkedNamesModel" "row" "[I" ∈ wsX9_init := by decide +kernel
theorem lk_X9_init_16 : Cond.fieldLink RX9 16 "MarkedNamesModel" "set" "[I" ∈ wsX9_init := by decide +kernel
theorem lk_X9_init_19 : Cond.fieldLink RX9 19 "MarkedNamesModel" "kept" "[I" ∈ wsX9_init := by decide +kernel
theorem lk_X9_init_22 : Cond.fieldLink RX9 22 "MarkedNamesModel" "keptSet" "[I" ∈ wsX9_init := by decide +kernel
theorem lk_X9_init_25 : Cond.fieldLink RX9 25 "MarkedNamesModel" "ownName" "[I" ∈ wsX9_init := by decide +kernel
theorem lk_X9_init_28 : Cond.fieldLink RX9 28 "MarkedNamesModel" "ownEnd" "[I" ∈ wsX9_init := by decide +kernel
theorem lk_X9_init_31 : Cond.fieldLink RX9 31 "MarkedNamesModel" "name" "[I" ∈ wsX9_init := by decide +kernel
theorem lk_X9_init_34 : Cond.fieldLink RX9 34 "MarkedNamesModel" "scopes" "[I" ∈ wsX9_init := by decide +kernel
theorem lk_X9_init_37 : Cond.fieldLink RX9 37 "MarkedNamesModel" "meaning" "[I" ∈ wsX9_init := by decide +kernel
theorem lk_X9_init_40 : Cond.fieldLink RX9 40 "MarkedNamesModel" "from" "[I" ∈ wsX9_init := by decide +kernel
theorem lk_X9_init_43 : Cond.fieldLink RX9 43 "MarkedNamesModel" "to" "[I" ∈ wsX9_init := by decide +kernel
theorem lk_X9_init_46 : Cond.fieldLink RX9 46 "MarkedNamesModel" "made" "[I" ∈ wsX9_init := by decide +kernel
theorem lk_X9_init_49 : Cond.fieldLink RX9 49 "MarkedNamesModel" "madeSet" "[I" ∈ wsX9_init := by decide +kernel
theorem lk_X9_init_52 : Cond.fieldLink RX9 52 "MarkedNamesModel" "left" "[I" ∈ wsX9_init := by decide +kernel
theorem lk_X9_init_55 : Cond.fieldLink RX9 55 "MarkedNamesModel" "right" "[I" ∈ wsX9_init := by decide +kernel
theorem lk_X9_init_58 : Cond.fieldLink RX9 58 "MarkedNamesModel" "begins" "[I" ∈ wsX9_init := by decide +kernel
theorem lk_X9_init_61 : Cond.fieldLink RX9 61 "MarkedNamesModel" "rounds" "[I" ∈ wsX9_init := by decide +kernel
theorem lk_X9_init_64 : Cond.fieldLink RX9 64 "MarkedNamesModel" "round" "[I" ∈ wsX9_init := by decide +kernel
theorem lk_X9_init_67 : Cond.fieldLink RX9 67 "MarkedNamesModel" "text" "[I" ∈ wsX9_init := by decide +kernel
section
variable {l : Launch} {p : Program} {e : Env} {s : State} {m : MethodId} {args : Array Value} {below : List Frame} {meth : Method} {c : Code} {A : Nat → Prop} {dC : Nat → ClassId} {dI : Nat → Nat → Nat} {cA : ClassId} {a b : Nat → Nat} {lev : Nat}
set_option maxHeartbeats 4000000 in
set_option maxRecDepth 100000 in
theorem X4_init_met (hlev : 1 ≤ lev) (h0 : Nat) : mKc l yX4_init wsX4_init lev 3 6 (eA a) (dC, dI) vwCl [(cA, .int)] [(h0, .inr (4, [.null, .null, .null, .int 0]))] [.ref h0] (fun _ => True) (fun z => [(h0, .inr (4, [.ref (z 0), .ref (z 1), .ref (z 2), .int 0])), (z 0, .inl (cA, 2, .inl (fun _ => 0))), (z 1, .inl (cA, 2, .inl (fun _ => 0))), (z 2, .inl (cA, 2, .inl (fun _ => 0)))]) := by
  refine mKc_of (cc := cX4_init) (maxL := 1) (by decide) rfl rfl (Nat.le_of_ble_eq_true rfl) rfl ?_
  intro p e s m args below meth c A C hs hinit
  refine mv_aload_n C dX4_init_0 rfl 0 rfl ?_
  refine mv_objInit C (by decide +kernel) (by decide +kernel) (by decide +kernel) dX4_init_1 (by show 1 ≤ lev; omega) (by show _ ≤ 64 * lev; exact Nat.le_trans (Nat.le_of_ble_eq_true rfl : _ ≤ 64) (by omega)) ?_
  refine mv_aload_n C dX4_init_4 rfl 0 rfl ?_
  refine mv_iconst (v := (2 : Int32)) C dX4_init_5 (by decide) ?_
  refine mv_newa (N := 2) C (by decide +kernel) (by decide) (by decide) (by decide) (by show _ ≤ 3; decide) (by show _ ≤ 6; decide) dX4_init_6 (fun q1 => ?_)
  refine mv_ws (ws1 := [(h0, .inr (4, [.null, .null, .null, .int 0])), (q1, .inl (cA, 2, .inl (fun _ => 0)))]) rfl ?_
  refine mv_putF (ty := (.array .int)) (ws1 := [(h0, .inr (4, [.ref q1, .null, .null, .int 0])), (q1, .inl (cA, 2, .inl (fun _ => 0)))]) C hinit iw_X4_init_X4 tyX4 tyX4_ok nmX4 0 rfl rfl 0 (by decide) lk_X4_init_9 rfl rfl rfl rfl rfl rfl (Nat.le_of_ble_eq_true rfl) rfl dX4_init_8 ?_
  refine mv_aload_n C dX4_init_11 rfl 0 rfl ?_
  refine mv_iconst (v := (2 : Int32)) C dX4_init_12 (by decide) ?_
  refine mv_newa (N := 2) C (by decide +kernel) (by decide) (by decide) (by decide) (by show _ ≤ 3; decide) (by show _ ≤ 6; decide) dX4_init_13 (fun q2 => ?_)
  refine mv_ws (ws1 := [(h0, .inr (4, [.ref q1, .null, .null, .int 0])), (q1, .inl (cA, 2, .inl (fun _ => 0))), (q2, .inl (cA, 2, .inl (fun _ => 0)))]) rfl ?_
  refine mv_putF (ty := (.array .int)) (ws1 := [(h0, .inr (4, [.ref q1, .ref q2, .null, .int 0])), (q1, .inl (cA, 2, .inl (fun _ => 0))), (q2, .inl (cA, 2, .inl (fun _ => 0)))]) C hinit iw_X4_init_X4 tyX4 tyX4_ok nmX4 0 rfl rfl 1 (by decide) lk_X4_init_15 rfl rfl rfl rfl rfl rfl (Nat.le_of_ble_eq_true rfl) rfl dX4_init_15 ?_
  refine mv_aload_n C dX4_init_18 rfl 0 rfl ?_
  refine mv_iconst (v := (2 : Int32)) C dX4_init_19 (by decide) ?_
  refine mv_newa (N := 2) C (by decide +kernel) (by decide) (by decide) (by decide) (by show _ ≤ 3; decide) (by show _ ≤ 6; decide) dX4_init_20 (fun q3 => ?_)
  refine mv_ws (ws1 := [(h0, .inr (4, [.ref q1, .ref q2, .null, .int 0])), (q1, .inl (cA, 2, .inl (fun _ => 0))), (q2, .inl (cA, 2, .inl (fun _ => 0))), (q3, .inl (cA, 2, .inl (fun _ => 0)))]) rfl ?_
  refine mv_putF (ty := (.array .int)) (ws1 := [(h0, .inr (4, [.ref q1, .ref q2, .ref q3, .int 0])), (q1, .inl (cA, 2, .inl (fun _ => 0))), (q2, .inl (cA, 2, .inl (fun _ => 0))), (q3, .inl (cA, 2, .inl (fun _ => 0)))]) C hinit iw_X4_init_X4 tyX4 tyX4_ok nmX4 0 rfl rfl 2 (by decide) lk_X4_init_18 rfl rfl rfl rfl rfl rfl (Nat.le_of_ble_eq_true rfl) rfl dX4_init_22 ?_
  exact mv_cret C (fun k => match k with | 0 => q1 | 1 => q2 | 2 => q3 | _ => 0) trivial rfl dX4_init_25
set_option maxHeartbeats 4000000 in
set_option maxRecDepth 100000 in
theorem X1_init_met (hlev : 2 ≤ lev) (h0 h1 h2 : Nat) : mKc l yX1_init wsX1_init lev 4 10 (eA a) (dC, dI) vwCl [(cA, .int)] [(h0, .inr (1, [.null, .null, .null, .int 0, .int 0, .int 0]))] [.ref h0, .ref h1, .ref h2] (fun _ => True) (fun z => [(h0, .inr (1, [.ref h1, .ref h2, .ref (z 0), .int 0, .int 0, .int 0])), (z 0, .inr (4, [.ref (z 1), .ref (z 2), .ref (z 3), .int 0])), (z 1, .inl (cA, 2, .inl (fun _ => 0))), (z 2, .inl (cA, 2, .inl (fun _ => 0))), (z 3, .inl (cA, 2, .inl (fun _ => 0)))]) := by
  refine mKc_of (cc := cX1_init) (maxL := 3) (by decide) rfl rfl (Nat.le_of_ble_eq_true rfl) rfl ?_
  intro p e s m args below meth c A C hs hinit
  refine mv_aload_n C dX1_init_0 rfl 0 rfl ?_
  refine mv_objInit C (by decide +kernel) (by decide +kernel) (by decide +kernel) dX1_init_1 (by show 1 ≤ lev; omega) (by show _ ≤ 64 * lev; exact Nat.le_trans (Nat.le_of_ble_eq_true rfl : _ ≤ 64) (by omega)) ?_
  refine mv_aload_n C dX1_init_4 rfl 0 rfl ?_
  refine mv_new (C0 := RX4) (T := TX4) (N := 4) (ci := 4) (fs := [.null, .null, .null, .int 0]) C iw_X1_init_X4 tyX4 tyX4_ok (by decide +kernel) (by decide +kernel) (by decide +kernel) rfl (fun j hj => by rcases (show j = 0 ∨ j = 1 ∨ j = 2 ∨ j = 3 by omega) with rfl | rfl | rfl | rfl <;> rfl) (by show _ ≤ 4; decide) (by show _ ≤ 10; decide) dX1_init_5 (fun q1 => ?_)
  refine mv_ws (ws1 := [(h0, .inr (1, [.null, .null, .null, .int 0, .int 0, .int 0])), (q1, .inr (4, [.null, .null, .null, .int 0]))]) rfl ?_
  refine mv_dup C dX1_init_8 rfl ?_
  refine mv_callIN (As := []) (rest := [.ref q1, .ref h0]) (wr := [(h0, .inr (1, [.null, .null, .null, .int 0, .int 0, .int 0]))]) C (eA_ok a) hs 1 [0] rfl rfl (by decide) (by decide) (X4_init_met (l := l) (lev := lev - 1) (by omega) q1) ⟨va_cnB 0 C.2.2.2.2.1 ggX1_init_X4_init rfl rfl rfl (hs.1 _ nw_14) (C.2.2.2.2.1 _ (by decide +kernel)) (by decide +kernel) (mRc_le (by omega) (by decide)), rfl, C.2.2.2.2.1 _ (by decide +kernel)⟩ rfl rfl (Nat.le_of_ble_eq_true rfl) dX1_init_9 ⟨(by show _ ≤ 4; decide), (by show _ ≤ 10; decide)⟩ (fun z2 hz2 => ?_)
  refine mv_ws (ws1 := [(h0, .inr (1, [.null, .null, .null, .int 0, .int 0, .int 0])), (q1, .inr (4, [.ref (z2 0), .ref (z2 1), .ref (z2 2), .int 0])), (z2 0, .inl (cA, 2, .inl (fun _ => 0))), (z2 1, .inl (cA, 2, .inl (fun _ => 0))), (z2 2, .inl (cA, 2, .inl (fun _ => 0)))]) rfl ?_
  refine mv_putF (ty := (.object "MarkedNames$Rounds")) (ws1 := [(h0, .inr (1, [.null, .null, .ref q1, .int 0, .int 0, .int 0])), (q1, .inr (4, [.ref (z2 0), .ref (z2 1), .ref (z2 2), .int 0])), (z2 0, .inl (cA, 2, .inl (fun _ => 0))), (z2 1, .inl (cA, 2, .inl (fun _ => 0))), (z2 2, .inl (cA, 2, .inl (fun _ => 0)))]) C hinit iw_X1_init_X1 tyX1 tyX1_ok nmX1 0 rfl rfl 2 (by decide) lk_X1_init_12 rfl rfl rfl rfl rfl rfl (Nat.le_of_ble_eq_true rfl) rfl dX1_init_12 ?_
  refine mv_aload_n C dX1_init_15 rfl 0 rfl ?_
  refine mv_aload_n C dX1_init_16 rfl 1 rfl ?_
  refine mv_putF (ty := (.object "MarkedNames$Row")) (ws1 := [(h0, .inr (1, [.ref h1, .null, .ref q1, .int 0, .int 0, .int 0])), (q1, .inr (4, [.ref (z2 0), .ref (z2 1), .ref (z2 2), .int 0])), (z2 0, .inl (cA, 2, .inl (fun _ => 0))), (z2 1, .inl (cA, 2, .inl (fun _ => 0))), (z2 2, .inl (cA, 2, .inl (fun _ => 0)))]) C hinit iw_X1_init_X1 tyX1 tyX1_ok nmX1 0 rfl rfl 0 (by decide) lk_X1_init_18 rfl rfl rfl rfl rfl rfl (Nat.le_of_ble_eq_true rfl) rfl dX1_init_17 ?_
  refine mv_aload_n C dX1_init_20 rfl 0 rfl ?_
  refine mv_aload_n C dX1_init_21 rfl 2 rfl ?_
  refine mv_putF (ty := (.object "MarkedNames$Outcome")) (ws1 := [(h0, .inr (1, [.ref h1, .ref h2, .ref q1, .int 0, .int 0, .int 0])), (q1, .inr (4, [.ref (z2 0), .ref (z2 1), .ref (z2 2), .int 0])), (z2 0, .inl (cA, 2, .inl (fun _ => 0))), (z2 1, .inl (cA, 2, .inl (fun _ => 0))), (z2 2, .inl (cA, 2, .inl (fun _ => 0)))]) C hinit iw_X1_init_X1 tyX1 tyX1_ok nmX1 0 rfl rfl 1 (by decide) lk_X1_init_22 rfl rfl rfl rfl rfl rfl (Nat.le_of_ble_eq_true rfl) rfl dX1_init_22 ?_
  exact mv_cret C (fun k => match k with | 0 => q1 | 1 => z2 0 | 2 => z2 1 | 3 => z2 2 | _ => 0) trivial rfl dX1_init_25
set_option maxHeartbeats 4000000 in
set_option maxRecDepth 100000 in
theorem X5_init_met (hlev : 1 ≤ lev) (h0 : Nat) : mKc l yX5_init wsX5_init lev 4 12000 (eA a) (dC, dI) vwCl [(cA, .int)] [(h0, .inr (5, [.null, .null, .null, .null, .int 0, .int 0]))] [.ref h0] (fun _ => True) (fun z => [(h0, .inr (5, [.ref (z 0), .ref (z 1), .ref (z 2), .ref (z 3), .int (480 : Int32), .int (-1 : Int32)])), (z 0, .inl (cA, 3000, .inl (fun _ => 0))), (z 1, .inl (cA, 3000, .inl (fun _ => 0))), (z 2, .inl (cA, 3000, .inl (fun _ => 0))), (z 3, .inl (cA, 3000, .inl (fun _ => 0)))]) := by
  refine mKc_of (cc := cX5_init) (maxL := 1) (by decide) rfl rfl (Nat.le_of_ble_eq_true rfl) rfl ?_
  intro p e s m args below meth c A C hs hinit
  refine mv_aload_n C dX5_init_0 rfl 0 rfl ?_
  refine mv_objInit C (by decide +kernel) (by decide +kernel) (by decide +kernel) dX5_init_1 (by show 1 ≤ lev; omega) (by show _ ≤ 64 * lev; exact Nat.le_trans (Nat.le_of_ble_eq_true rfl : _ ≤ 64) (by omega)) ?_
  refine mv_aload_n C dX5_init_4 rfl 0 rfl ?_
  refine mv_sipush (v := (3000 : Int32)) C dX5_init_5 (by decide) ?_
  refine mv_newa (N := 3000) C (by decide +kernel) (by decide) (by decide) (by decide) (by show _ ≤ 4; decide) (by show _ ≤ 12000; decide) dX5_init_8 (fun q1 => ?_)
  refine mv_ws (ws1 := [(h0, .inr (5, [.null, .null, .null, .null, .int 0, .int 0])), (q1, .inl (cA, 3000, .inl (fun _ => 0)))]) rfl ?_
  refine mv_putF (ty := (.array .int)) (ws1 := [(h0, .inr (5, [.ref q1, .null, .null, .null, .int 0, .int 0])), (q1, .inl (cA, 3000, .inl (fun _ => 0)))]) C hinit iw_X5_init_X5 tyX5 tyX5_ok nmX5 0 rfl rfl 0 (by decide) lk_X5_init_9 rfl rfl rfl rfl rfl rfl (Nat.le_of_ble_eq_true rfl) rfl dX5_init_10 ?_
  refine mv_aload_n C dX5_init_13 rfl 0 rfl ?_
  refine mv_sipush (v := (3000 : Int32)) C dX5_init_14 (by decide) ?_
  refine mv_newa (N := 3000) C (by decide +kernel) (by decide) (by decide) (by decide) (by show _ ≤ 4; decide) (by show _ ≤ 12000; decide) dX5_init_17 (fun q2 => ?_)
  refine mv_ws (ws1 := [(h0, .inr (5, [.ref q1, .null, .null, .null, .int 0, .int 0])), (q1, .inl (cA, 3000, .inl (fun _ => 0))), (q2, .inl (cA, 3000, .inl (fun _ => 0)))]) rfl ?_
  refine mv_putF (ty := (.array .int)) (ws1 := [(h0, .inr (5, [.ref q1, .ref q2, .null, .null, .int 0, .int 0])), (q1, .inl (cA, 3000, .inl (fun _ => 0))), (q2, .inl (cA, 3000, .inl (fun _ => 0)))]) C hinit iw_X5_init_X5 tyX5 tyX5_ok nmX5 0 rfl rfl 1 (by decide) lk_X5_init_15 rfl rfl rfl rfl rfl rfl (Nat.le_of_ble_eq_true rfl) rfl dX5_init_19 ?_
  refine mv_aload_n C dX5_init_22 rfl 0 rfl ?_
  refine mv_sipush (v := (3000 : Int32)) C dX5_init_23 (by decide) ?_
  refine mv_newa (N := 3000) C (by decide +kernel) (by decide) (by decide) (by decide) (by show _ ≤ 4; decide) (by show _ ≤ 12000; decide) dX5_init_26 (fun q3 => ?_)
  refine mv_ws (ws1 := [(h0, .inr (5, [.ref q1, .ref q2, .null, .null, .int 0, .int 0])), (q1, .inl (cA, 3000, .inl (fun _ => 0))), (q2, .inl (cA, 3000, .inl (fun _ => 0))), (q3, .inl (cA, 3000, .inl (fun _ => 0)))]) rfl ?_
  refine mv_putF (ty := (.array .int)) (ws1 := [(h0, .inr (5, [.ref q1, .ref q2, .ref q3, .null, .int 0, .int 0])), (q1, .inl (cA, 3000, .inl (fun _ => 0))), (q2, .inl (cA, 3000, .inl (fun _ => 0))), (q3, .inl (cA, 3000, .inl (fun _ => 0)))]) C hinit iw_X5_init_X5 tyX5 tyX5_ok nmX5 0 rfl rfl 2 (by decide) lk_X5_init_18 rfl rfl rfl rfl rfl rfl (Nat.le_of_ble_eq_true rfl) rfl dX5_init_28 ?_
  refine mv_aload_n C dX5_init_31 rfl 0 rfl ?_
  refine mv_sipush (v := (3000 : Int32)) C dX5_init_32 (by decide) ?_
  refine mv_newa (N := 3000) C (by decide +kernel) (by decide) (by decide) (by decide) (by show _ ≤ 4; decide) (by show _ ≤ 12000; decide) dX5_init_35 (fun q4 => ?_)
  refine mv_ws (ws1 := [(h0, .inr (5, [.ref q1, .ref q2, .ref q3, .null, .int 0, .int 0])), (q1, .inl (cA, 3000, .inl (fun _ => 0))), (q2, .inl (cA, 3000, .inl (fun _ => 0))), (q3, .inl (cA, 3000, .inl (fun _ => 0))), (q4, .inl (cA, 3000, .inl (fun _ => 0)))]) rfl ?_
  refine mv_putF (ty := (.array .int)) (ws1 := [(h0, .inr (5, [.ref q1, .ref q2, .ref q3, .ref q4, .int 0, .int 0])), (q1, .inl (cA, 3000, .inl (fun _ => 0))), (q2, .inl (cA, 3000, .inl (fun _ => 0))), (q3, .inl (cA, 3000, .inl (fun _ => 0))), (q4, .inl (cA, 3000, .inl (fun _ => 0)))]) C hinit iw_X5_init_X5 tyX5 tyX5_ok nmX5 0 rfl rfl 3 (by decide) lk_X5_init_21 rfl rfl rfl rfl rfl rfl (Nat.le_of_ble_eq_true rfl) rfl dX5_init_37 ?_
  refine mv_aload_n C dX5_init_40 rfl 0 rfl ?_
  refine mv_sipush (v := (480 : Int32)) C dX5_init_41 (by decide) ?_
  refine mv_put (ty := .int) (ws1 := [(h0, .inr (5, [.ref q1, .ref q2, .ref q3, .ref q4, .int (480 : Int32), .int 0])), (q1, .inl (cA, 3000, .inl (fun _ => 0))), (q2, .inl (cA, 3000, .inl (fun _ => 0))), (q3, .inl (cA, 3000, .inl (fun _ => 0))), (q4, .inl (cA, 3000, .inl (fun _ => 0)))]) C iw_X5_init_X5 tyX5 tyX5_ok nmX5 0 rfl rfl 4 (by decide) lk_X5_init_24 rfl rfl rfl rfl rfl (Nat.le_of_ble_eq_true rfl) rfl dX5_init_44 ?_
  refine mv_aload_n C dX5_init_47 rfl 0 rfl ?_
  refine mv_iconst (v := (-1 : Int32)) C dX5_init_48 (by decide) ?_
  refine mv_put (ty := .int) (ws1 := [(h0, .inr (5, [.ref q1, .ref q2, .ref q3, .ref q4, .int (480 : Int32), .int (-1 : Int32)])), (q1, .inl (cA, 3000, .inl (fun _ => 0))), (q2, .inl (cA, 3000, .inl (fun _ => 0))), (q3, .inl (cA, 3000, .inl (fun _ => 0))), (q4, .inl (cA, 3000, .inl (fun _ => 0)))]) C iw_X5_init_X5 tyX5 tyX5_ok nmX5 0 rfl rfl 5 (by decide) lk_X5_init_28 rfl rfl rfl rfl rfl (Nat.le_of_ble_eq_true rfl) rfl dX5_init_49 ?_
  exact mv_cret C (fun k => match k with | 0 => q1 | 1 => q2 | 2 => q3 | 3 => q4 | _ => 0) trivial rfl dX5_init_52
set_option maxHeartbeats 4000000 in
set_option maxRecDepth 100000 in
theorem X3_init_met (hlev : 1 ≤ lev) (h0 h1 : Nat) : mKc l yX3_init wsX3_init lev 0 0 (eA a) (dC, dI) vwCl [(cA, .int)] [(h0, .inr (3, [.null, .int 0]))] [.ref h0, .ref h1] (fun _ => True) (fun z => [(h0, .inr (3, [.ref h1, .int 0]))]) := by
  refine mKc_of (cc := cX3_init) (maxL := 2) (by decide) rfl rfl (Nat.le_of_ble_eq_true rfl) rfl ?_
  intro p e s m args below meth c A C hs hinit
  refine mv_aload_n C dX3_init_0 rfl 0 rfl ?_
  refine mv_objInit C (by decide +kernel) (by decide +kernel) (by decide +kernel) dX3_init_1 (by show 1 ≤ lev; omega) (by show _ ≤ 64 * lev; exact Nat.le_trans (Nat.le_of_ble_eq_true rfl : _ ≤ 64) (by omega)) ?_
  refine mv_aload_n C dX3_init_4 rfl 0 rfl ?_
  refine mv_aload_n C dX3_init_5 rfl 1 rfl ?_
  refine mv_putF (ty := (.object "MarkedNames$Row")) (ws1 := [(h0, .inr (3, [.ref h1, .int 0]))]) C hinit iw_X3_init_X3 tyX3 tyX3_ok nmX3 0 rfl rfl 0 (by decide) lk_X3_init_9 rfl rfl rfl rfl rfl rfl (Nat.le_of_ble_eq_true rfl) rfl dX3_init_6 ?_
  exact mv_cret C (fun k => match k with  | _ => 0) trivial rfl dX3_init_9
set_option maxHeartbeats 4000000 in
set_option maxRecDepth 100000 in
theorem X6_init_met (hlev : 1 ≤ lev) (h0 h1 : Nat) : mKc l yX6_init wsX6_init lev 0 0 (eA a) (dC, dI) vwCl [(cA, .int)] [(h0, .inr (6, [.null]))] [.ref h0, .ref h1] (fun _ => True) (fun z => [(h0, .inr (6, [.ref h1]))]) := by
  refine mKc_of (cc := cX6_init) (maxL := 2) (by decide) rfl rfl (Nat.le_of_ble_eq_true rfl) rfl ?_
  intro p e s m args below meth c A C hs hinit
  refine mv_aload_n C dX6_init_0 rfl 0 rfl ?_
  refine mv_objInit C (by decide +kernel) (by decide +kernel) (by decide +kernel) dX6_init_1 (by show 1 ≤ lev; omega) (by show _ ≤ 64 * lev; exact Nat.le_trans (Nat.le_of_ble_eq_true rfl : _ ≤ 64) (by omega)) ?_
  refine mv_aload_n C dX6_init_4 rfl 0 rfl ?_
  refine mv_aload_n C dX6_init_5 rfl 1 rfl ?_
  refine mv_putF (ty := (.object "MarkedNames$Row")) (ws1 := [(h0, .inr (6, [.ref h1]))]) C hinit iw_X6_init_X6 tyX6 tyX6_ok nmX6 0 rfl rfl 0 (by decide) lk_X6_init_9 rfl rfl rfl rfl rfl rfl (Nat.le_of_ble_eq_true rfl) rfl dX6_init_6 ?_
  exact mv_cret C (fun k => match k with  | _ => 0) trivial rfl dX6_init_9
set_option maxHeartbeats 4000000 in
set_option maxRecDepth 100000 in
theorem X7_init_met (hlev : 1 ≤ lev) (h0 : Nat) : mKc l yX7_init wsX7_init lev 4 160 (eA a) (dC, dI) vwCl [(cA, .int)] [(h0, .inr (7, [.null, .null, .null, .null, .int 0, .int 0]))] [.ref h0] (fun _ => True) (fun z => [(h0, .inr (7, [.ref (z 0), .ref (z 1), .ref (z 2), .ref (z 3), .int (8 : Int32), .int 0])), (z 0, .inl (cA, 40, .inl (upd (upd (upd (upd (upd (upd (upd (upd (fun _ => 0) 0 (91758 : Int32)) 1 (92518 : Int32)) 2 (369 : Int32)) 3 (93299 : Int32)) 4 (299 : Int32)) 5 (298 : Int32)) 6 (317 : Int32)) 7 (316 : Int32)))), (z 1, .inl (cA, 40, .inl (fun _ => 0))), (z 2, .inl (cA, 40, .inl (upd (upd (upd (upd (upd (upd (upd (upd (fun _ => 0) 0 (0 : Int32)) 1 (1 : Int32)) 2 (2 : Int32)) 3 (3 : Int32)) 4 (4 : Int32)) 5 (4 : Int32)) 6 (4 : Int32)) 7 (4 : Int32)))), (z 3, .inl (cA, 40, .inl (fun _ => 0)))]) := by
  refine mKc_of (cc := cX7_init) (maxL := 2) (by decide) rfl rfl (Nat.le_of_ble_eq_true rfl) rfl ?_
  intro p e s m args below meth c A C hs hinit
  refine mv_aload_n C dX7_init_0 rfl 0 rfl ?_
  refine mv_objInit C (by decide +kernel) (by decide +kernel) (by decide +kernel) dX7_init_1 (by show 1 ≤ lev; omega) (by show _ ≤ 64 * lev; exact Nat.le_trans (Nat.le_of_ble_eq_true rfl : _ ≤ 64) (by omega)) ?_
  refine mv_aload_n C dX7_init_4 rfl 0 rfl ?_
  refine mv_bipush (v := (40 : Int32)) C dX7_init_5 (by decide) ?_
  refine mv_newa (N := 40) C (by decide +kernel) (by decide) (by decide) (by decide) (by show _ ≤ 4; decide) (by show _ ≤ 160; decide) dX7_init_7 (fun q1 => ?_)
  refine mv_ws (ws1 := [(h0, .inr (7, [.null, .null, .null, .null, .int 0, .int 0])), (q1, .inl (cA, 40, .inl (fun _ => 0)))]) rfl ?_
  refine mv_putF (ty := (.array .int)) (ws1 := [(h0, .inr (7, [.ref q1, .null, .null, .null, .int 0, .int 0])), (q1, .inl (cA, 40, .inl (fun _ => 0)))]) C hinit iw_X7_init_X7 tyX7 tyX7_ok nmX7 0 rfl rfl 0 (by decide) lk_X7_init_9 rfl rfl rfl rfl rfl rfl (Nat.le_of_ble_eq_true rfl) rfl dX7_init_9 ?_
  refine mv_aload_n C dX7_init_12 rfl 0 rfl ?_
  refine mv_bipush (v := (40 : Int32)) C dX7_init_13 (by decide) ?_
  refine mv_newa (N := 40) C (by decide +kernel) (by decide) (by decide) (by decide) (by show _ ≤ 4; decide) (by show _ ≤ 160; decide) dX7_init_15 (fun q2 => ?_)
  refine mv_ws (ws1 := [(h0, .inr (7, [.ref q1, .null, .null, .null, .int 0, .int 0])), (q1, .inl (cA, 40, .inl (fun _ => 0))), (q2, .inl (cA, 40, .inl (fun _ => 0)))]) rfl ?_
  refine mv_putF (ty := (.array .int)) (ws1 := [(h0, .inr (7, [.ref q1, .ref q2, .null, .null, .int 0, .int 0])), (q1, .inl (cA, 40, .inl (fun _ => 0))), (q2, .inl (cA, 40, .inl (fun _ => 0)))]) C hinit iw_X7_init_X7 tyX7 tyX7_ok nmX7 0 rfl rfl 1 (by decide) lk_X7_init_15 rfl rfl rfl rfl rfl rfl (Nat.le_of_ble_eq_true rfl) rfl dX7_init_17 ?_
  refine mv_aload_n C dX7_init_20 rfl 0 rfl ?_
  refine mv_bipush (v := (40 : Int32)) C dX7_init_21 (by decide) ?_
  refine mv_newa (N := 40) C (by decide +kernel) (by decide) (by decide) (by decide) (by show _ ≤ 4; decide) (by show _ ≤ 160; decide) dX7_init_23 (fun q3 => ?_)
  refine mv_ws (ws1 := [(h0, .inr (7, [.ref q1, .ref q2, .null, .null, .int 0, .int 0])), (q1, .inl (cA, 40, .inl (fun _ => 0))), (q2, .inl (cA, 40, .inl (fun _ => 0))), (q3, .inl (cA, 40, .inl (fun _ => 0)))]) rfl ?_
  refine mv_putF (ty := (.array .int)) (ws1 := [(h0, .inr (7, [.ref q1, .ref q2, .ref q3, .null, .int 0, .int 0])), (q1, .inl (cA, 40, .inl (fun _ => 0))), (q2, .inl (cA, 40, .inl (fun _ => 0))), (q3, .inl (cA, 40, .inl (fun _ => 0)))]) C hinit iw_X7_init_X7 tyX7 tyX7_ok nmX7 0 rfl rfl 2 (by decide) lk_X7_init_18 rfl rfl rfl rfl rfl rfl (Nat.le_of_ble_eq_true rfl) rfl dX7_init_25 ?_
  refine mv_aload_n C dX7_init_28 rfl 0 rfl ?_
  refine mv_bipush (v := (40 : Int32)) C dX7_init_29 (by decide) ?_
  refine mv_newa (N := 40) C (by decide +kernel) (by decide) (by decide) (by decide) (by show _ ≤ 4; decide) (by show _ ≤ 160; decide) dX7_init_31 (fun q4 => ?_)
  refine mv_ws (ws1 := [(h0, .inr (7, [.ref q1, .ref q2, .ref q3, .null, .int 0, .int 0])), (q1, .inl (cA, 40, .inl (fun _ => 0))), (q2, .inl (cA, 40, .inl (fun _ => 0))), (q3, .inl (cA, 40, .inl (fun _ => 0))), (q4, .inl (cA, 40, .inl (fun _ => 0)))]) rfl ?_
  refine mv_putF (ty := (.array .int)) (ws1 := [(h0, .inr (7, [.ref q1, .ref q2, .ref q3, .ref q4, .int 0, .int 0])), (q1, .inl (cA, 40, .inl (fun _ => 0))), (q2, .inl (cA, 40, .inl (fun _ => 0))), (q3, .inl (cA, 40, .inl (fun _ => 0))), (q4, .inl (cA, 40, .inl (fun _ => 0)))]) C hinit iw_X7_init_X7 tyX7 tyX7_ok nmX7 0 rfl rfl 3 (by decide) lk_X7_init_21 rfl rfl rfl rfl rfl rfl (Nat.le_of_ble_eq_true rfl) rfl dX7_init_33 ?_
  refine mv_iconst (v := (0 : Int32)) C dX7_init_36 (by decide) ?_
  refine mv_istore_n (lv1 := [(1, .int (0 : Int32)), (0, .ref h0)]) C dX7_init_37 rfl (by decide) rfl ?_
  refine mv_iload_n C dX7_init_38 rfl 0 rfl ?_
  refine mv_getsN C hs.2.1 (hs.1 _ nw_1) dX7_init_39 ?_
  refine mv_tlen (v := (8 : Int32)) C hs.2.2 (by decide) dX7_init_42 ?_
  refine mv_icmp_ge (tgt := 80) C dX7_init_43 (by decide) (fun h => absurd h (by decide)) (fun _ => ?_)
  refine mv_iload_n C dX7_init_46 rfl 0 rfl ?_
  refine mv_bipush (v := (40 : Int32)) C dX7_init_47 (by decide) ?_
  refine mv_icmp_ge (tgt := 80) C dX7_init_49 (by decide) (fun h => absurd h (by decide)) (fun _ => ?_)
  refine mv_aload_n C dX7_init_52 rfl 1 rfl ?_
  refine mv_get (v := .ref q1) C iw_X7_init_X7 0 rfl rfl 0 (by decide) lk_X7_init_9 rfl rfl dX7_init_53 ?_
  refine mv_iload_n C dX7_init_56 rfl 0 rfl ?_
  refine mv_getsN C hs.2.1 (hs.1 _ nw_1) dX7_init_57 ?_
  refine mv_iload_n C dX7_init_60 rfl 0 rfl ?_
  refine mv_ti (v := .int (91758 : Int32)) C hs.2.2 (by unfold vp_in; decide) rfl dX7_init_61 ?_
  refine mv_iast (ws1 := [(h0, .inr (7, [.ref q1, .ref q2, .ref q3, .ref q4, .int 0, .int 0])), (q1, .inl (cA, 40, .inl (upd (fun _ => 0) 0 (91758 : Int32)))), (q2, .inl (cA, 40, .inl (fun _ => 0))), (q3, .inl (cA, 40, .inl (fun _ => 0))), (q4, .inl (cA, 40, .inl (fun _ => 0)))]) C 1 0 rfl rfl (by unfold vp_in; decide) rfl dX7_init_62 ?_
  refine mv_aload_n C dX7_init_63 rfl 1 rfl ?_
  refine mv_get (v := .ref q3) C iw_X7_init_X7 0 rfl rfl 2 (by decide) lk_X7_init_18 rfl rfl dX7_init_64 ?_
  refine mv_iload_n C dX7_init_67 rfl 0 rfl ?_
  refine mv_iload_n C dX7_init_68 rfl 0 rfl ?_
  refine mv_iconst (v := (4 : Int32)) C dX7_init_69 (by decide) ?_
  refine mv_mmin C ml_X7_init_27 ms_X7_init_min mi_X7_init_Math mc_X7_init_min (by show 1 ≤ lev; omega) (by show _ ≤ 64 * lev; exact Nat.le_trans (Nat.le_of_ble_eq_true rfl : _ ≤ 64) (by omega)) (by show _ ≤ 4; decide) (by show _ ≤ 160; decide) dX7_init_70 ?_
  refine mv_topv (v := (0 : Int32)) (by decide) ?_
  refine mv_iast (ws1 := [(h0, .inr (7, [.ref q1, .ref q2, .ref q3, .ref q4, .int 0, .int 0])), (q1, .inl (cA, 40, .inl (upd (fun _ => 0) 0 (91758 : Int32)))), (q2, .inl (cA, 40, .inl (fun _ => 0))), (q3, .inl (cA, 40, .inl (upd (fun _ => 0) 0 (0 : Int32)))), (q4, .inl (cA, 40, .inl (fun _ => 0)))]) C 3 0 rfl rfl (by unfold vp_in; decide) rfl dX7_init_73 ?_
  refine mv_iinc (v := (1 : Int32)) (lv1 := [(1, .int (1 : Int32)), (0, .ref h0)]) C dX7_init_74 0 rfl (by decide) (by decide) rfl ?_
  refine mv_goto (tgt := 38) C dX7_init_77 (by decide) ?_
  refine mv_iload_n C dX7_init_38 rfl 0 rfl ?_
  refine mv_getsN C hs.2.1 (hs.1 _ nw_1) dX7_init_39 ?_
  refine mv_tlen (v := (8 : Int32)) C hs.2.2 (by decide) dX7_init_42 ?_
  refine mv_icmp_ge (tgt := 80) C dX7_init_43 (by decide) (fun h => absurd h (by decide)) (fun _ => ?_)
  refine mv_iload_n C dX7_init_46 rfl 0 rfl ?_
  refine mv_bipush (v := (40 : Int32)) C dX7_init_47 (by decide) ?_
  refine mv_icmp_ge (tgt := 80) C dX7_init_49 (by decide) (fun h => absurd h (by decide)) (fun _ => ?_)
  refine mv_aload_n C dX7_init_52 rfl 1 rfl ?_
  refine mv_get (v := .ref q1) C iw_X7_init_X7 0 rfl rfl 0 (by decide) lk_X7_init_9 rfl rfl dX7_init_53 ?_
  refine mv_iload_n C dX7_init_56 rfl 0 rfl ?_
  refine mv_getsN C hs.2.1 (hs.1 _ nw_1) dX7_init_57 ?_
  refine mv_iload_n C dX7_init_60 rfl 0 rfl ?_
  refine mv_ti (v := .int (92518 : Int32)) C hs.2.2 (by unfold vp_in; decide) rfl dX7_init_61 ?_
  refine mv_iast (ws1 := [(h0, .inr (7, [.ref q1, .ref q2, .ref q3, .ref q4, .int 0, .int 0])), (q1, .inl (cA, 40, .inl (upd (upd (fun _ => 0) 0 (91758 : Int32)) 1 (92518 : Int32)))), (q2, .inl (cA, 40, .inl (fun _ => 0))), (q3, .inl (cA, 40, .inl (upd (fun _ => 0) 0 (0 : Int32)))), (q4, .inl (cA, 40, .inl (fun _ => 0)))]) C 1 0 rfl rfl (by unfold vp_in; decide) rfl dX7_init_62 ?_
  refine mv_aload_n C dX7_init_63 rfl 1 rfl ?_
  refine mv_get (v := .ref q3) C iw_X7_init_X7 0 rfl rfl 2 (by decide) lk_X7_init_18 rfl rfl dX7_init_64 ?_
  refine mv_iload_n C dX7_init_67 rfl 0 rfl ?_
  refine mv_iload_n C dX7_init_68 rfl 0 rfl ?_
  refine mv_iconst (v := (4 : Int32)) C dX7_init_69 (by decide) ?_
  refine mv_mmin C ml_X7_init_27 ms_X7_init_min mi_X7_init_Math mc_X7_init_min (by show 1 ≤ lev; omega) (by show _ ≤ 64 * lev; exact Nat.le_trans (Nat.le_of_ble_eq_true rfl : _ ≤ 64) (by omega)) (by show _ ≤ 4; decide) (by show _ ≤ 160; decide) dX7_init_70 ?_
  refine mv_topv (v := (1 : Int32)) (by decide) ?_
  refine mv_iast (ws1 := [(h0, .inr (7, [.ref q1, .ref q2, .ref q3, .ref q4, .int 0, .int 0])), (q1, .inl (cA, 40, .inl (upd (upd (fun _ => 0) 0 (91758 : Int32)) 1 (92518 : Int32)))), (q2, .inl (cA, 40, .inl (fun _ => 0))), (q3, .inl (cA, 40, .inl (upd (upd (fun _ => 0) 0 (0 : Int32)) 1 (1 : Int32)))), (q4, .inl (cA, 40, .inl (fun _ => 0)))]) C 3 0 rfl rfl (by unfold vp_in; decide) rfl dX7_init_73 ?_
  refine mv_iinc (v := (2 : Int32)) (lv1 := [(1, .int (2 : Int32)), (0, .ref h0)]) C dX7_init_74 0 rfl (by decide) (by decide) rfl ?_
  refine mv_goto (tgt := 38) C dX7_init_77 (by decide) ?_
  refine mv_iload_n C dX7_init_38 rfl 0 rfl ?_
  refine mv_getsN C hs.2.1 (hs.1 _ nw_1) dX7_init_39 ?_
  refine mv_tlen (v := (8 : Int32)) C hs.2.2 (by decide) dX7_init_42 ?_
  refine mv_icmp_ge (tgt := 80) C dX7_init_43 (by decide) (fun h => absurd h (by decide)) (fun _ => ?_)
  refine mv_iload_n C dX7_init_46 rfl 0 rfl ?_
  refine mv_bipush (v := (40 : Int32)) C dX7_init_47 (by decide) ?_
  refine mv_icmp_ge (tgt := 80) C dX7_init_49 (by decide) (fun h => absurd h (by decide)) (fun _ => ?_)
  refine mv_aload_n C dX7_init_52 rfl 1 rfl ?_
  refine mv_get (v := .ref q1) C iw_X7_init_X7 0 rfl rfl 0 (by decide) lk_X7_init_9 rfl rfl dX7_init_53 ?_
  refine mv_iload_n C dX7_init_56 rfl 0 rfl ?_
  refine mv_getsN C hs.2.1 (hs.1 _ nw_1) dX7_init_57 ?_
  refine mv_iload_n C dX7_init_60 rfl 0 rfl ?_
  refine mv_ti (v := .int (369 : Int32)) C hs.2.2 (by unfold vp_in; decide) rfl dX7_init_61 ?_
  refine mv_iast (ws1 := [(h0, .inr (7, [.ref q1, .ref q2, .ref q3, .ref q4, .int 0, .int 0])), (q1, .inl (cA, 40, .inl (upd (upd (upd (fun _ => 0) 0 (91758 : Int32)) 1 (92518 : Int32)) 2 (369 : Int32)))), (q2, .inl (cA, 40, .inl (fun _ => 0))), (q3, .inl (cA, 40, .inl (upd (upd (fun _ => 0) 0 (0 : Int32)) 1 (1 : Int32)))), (q4, .inl (cA, 40, .inl (fun _ => 0)))]) C 1 0 rfl rfl (by unfold vp_in; decide) rfl dX7_init_62 ?_
  refine mv_aload_n C dX7_init_63 rfl 1 rfl ?_
  refine mv_get (v := .ref q3) C iw_X7_init_X7 0 rfl rfl 2 (by decide) lk_X7_init_18 rfl rfl dX7_init_64 ?_
  refine mv_iload_n C dX7_init_67 rfl 0 rfl ?_
  refine mv_iload_n C dX7_init_68 rfl 0 rfl ?_
  refine mv_iconst (v := (4 : Int32)) C dX7_init_69 (by decide) ?_
  refine mv_mmin C ml_X7_init_27 ms_X7_init_min mi_X7_init_Math mc_X7_init_min (by show 1 ≤ lev; omega) (by show _ ≤ 64 * lev; exact Nat.le_trans (Nat.le_of_ble_eq_true rfl : _ ≤ 64) (by omega)) (by show _ ≤ 4; decide) (by show _ ≤ 160; decide) dX7_init_70 ?_
  refine mv_topv (v := (2 : Int32)) (by decide) ?_
  refine mv_iast (ws1 := [(h0, .inr (7, [.ref q1, .ref q2, .ref q3, .ref q4, .int 0, .int 0])), (q1, .inl (cA, 40, .inl (upd (upd (upd (fun _ => 0) 0 (91758 : Int32)) 1 (92518 : Int32)) 2 (369 : Int32)))), (q2, .inl (cA, 40, .inl (fun _ => 0))), (q3, .inl (cA, 40, .inl (upd (upd (upd (fun _ => 0) 0 (0 : Int32)) 1 (1 : Int32)) 2 (2 : Int32)))), (q4, .inl (cA, 40, .inl (fun _ => 0)))]) C 3 0 rfl rfl (by unfold vp_in; decide) rfl dX7_init_73 ?_
  refine mv_iinc (v := (3 : Int32)) (lv1 := [(1, .int (3 : Int32)), (0, .ref h0)]) C dX7_init_74 0 rfl (by decide) (by decide) rfl ?_
  refine mv_goto (tgt := 38) C dX7_init_77 (by decide) ?_
  refine mv_iload_n C dX7_init_38 rfl 0 rfl ?_
  refine mv_getsN C hs.2.1 (hs.1 _ nw_1) dX7_init_39 ?_
  refine mv_tlen (v := (8 : Int32)) C hs.2.2 (by decide) dX7_init_42 ?_
  refine mv_icmp_ge (tgt := 80) C dX7_init_43 (by decide) (fun h => absurd h (by decide)) (fun _ => ?_)
  refine mv_iload_n C dX7_init_46 rfl 0 rfl ?_
  refine mv_bipush (v := (40 : Int32)) C dX7_init_47 (by decide) ?_
  refine mv_icmp_ge (tgt := 80) C dX7_init_49 (by decide) (fun h => absurd h (by decide)) (fun _ => ?_)
  refine mv_aload_n C dX7_init_52 rfl 1 rfl ?_
  refine mv_get (v := .ref q1) C iw_X7_init_X7 0 rfl rfl 0 (by decide) lk_X7_init_9 rfl rfl dX7_init_53 ?_
  refine mv_iload_n C dX7_init_56 rfl 0 rfl ?_
  refine mv_getsN C hs.2.1 (hs.1 _ nw_1) dX7_init_57 ?_
  refine mv_iload_n C dX7_init_60 rfl 0 rfl ?_
  refine mv_ti (v := .int (93299 : Int32)) C hs.2.2 (by unfold vp_in; decide) rfl dX7_init_61 ?_
  refine mv_iast (ws1 := [(h0, .inr (7, [.ref q1, .ref q2, .ref q3, .ref q4, .int 0, .int 0])), (q1, .inl (cA, 40, .inl (upd (upd (upd (upd (fun _ => 0) 0 (91758 : Int32)) 1 (92518 : Int32)) 2 (369 : Int32)) 3 (93299 : Int32)))), (q2, .inl (cA, 40, .inl (fun _ => 0))), (q3, .inl (cA, 40, .inl (upd (upd (upd (fun _ => 0) 0 (0 : Int32)) 1 (1 : Int32)) 2 (2 : Int32)))), (q4, .inl (cA, 40, .inl (fun _ => 0)))]) C 1 0 rfl rfl (by unfold vp_in; decide) rfl dX7_init_62 ?_
  refine mv_aload_n C dX7_init_63 rfl 1 rfl ?_
  refine mv_get (v := .ref q3) C iw_X7_init_X7 0 rfl rfl 2 (by decide) lk_X7_init_18 rfl rfl dX7_init_64 ?_
  refine mv_iload_n C dX7_init_67 rfl 0 rfl ?_
  refine mv_iload_n C dX7_init_68 rfl 0 rfl ?_
  refine mv_iconst (v := (4 : Int32)) C dX7_init_69 (by decide) ?_
  refine mv_mmin C ml_X7_init_27 ms_X7_init_min mi_X7_init_Math mc_X7_init_min (by show 1 ≤ lev; omega) (by show _ ≤ 64 * lev; exact Nat.le_trans (Nat.le_of_ble_eq_true rfl : _ ≤ 64) (by omega)) (by show _ ≤ 4; decide) (by show _ ≤ 160; decide) dX7_init_70 ?_
  refine mv_topv (v := (3 : Int32)) (by decide) ?_
  refine mv_iast (ws1 := [(h0, .inr (7, [.ref q1, .ref q2, .ref q3, .ref q4, .int 0, .int 0])), (q1, .inl (cA, 40, .inl (upd (upd (upd (upd (fun _ => 0) 0 (91758 : Int32)) 1 (92518 : Int32)) 2 (369 : Int32)) 3 (93299 : Int32)))), (q2, .inl (cA, 40, .inl (fun _ => 0))), (q3, .inl (cA, 40, .inl (upd (upd (upd (upd (fun _ => 0) 0 (0 : Int32)) 1 (1 : Int32)) 2 (2 : Int32)) 3 (3 : Int32)))), (q4, .inl (cA, 40, .inl (fun _ => 0)))]) C 3 0 rfl rfl (by unfold vp_in; decide) rfl dX7_init_73 ?_
  refine mv_iinc (v := (4 : Int32)) (lv1 := [(1, .int (4 : Int32)), (0, .ref h0)]) C dX7_init_74 0 rfl (by decide) (by decide) rfl ?_
  refine mv_goto (tgt := 38) C dX7_init_77 (by decide) ?_
  refine mv_iload_n C dX7_init_38 rfl 0 rfl ?_
  refine mv_getsN C hs.2.1 (hs.1 _ nw_1) dX7_init_39 ?_
  refine mv_tlen (v := (8 : Int32)) C hs.2.2 (by decide) dX7_init_42 ?_
  refine mv_icmp_ge (tgt := 80) C dX7_init_43 (by decide) (fun h => absurd h (by decide)) (fun _ => ?_)
  refine mv_iload_n C dX7_init_46 rfl 0 rfl ?_
  refine mv_bipush (v := (40 : Int32)) C dX7_init_47 (by decide) ?_
  refine mv_icmp_ge (tgt := 80) C dX7_init_49 (by decide) (fun h => absurd h (by decide)) (fun _ => ?_)
  refine mv_aload_n C dX7_init_52 rfl 1 rfl ?_
  refine mv_get (v := .ref q1) C iw_X7_init_X7 0 rfl rfl 0 (by decide) lk_X7_init_9 rfl rfl dX7_init_53 ?_
  refine mv_iload_n C dX7_init_56 rfl 0 rfl ?_
  refine mv_getsN C hs.2.1 (hs.1 _ nw_1) dX7_init_57 ?_
  refine mv_iload_n C dX7_init_60 rfl 0 rfl ?_
  refine mv_ti (v := .int (299 : Int32)) C hs.2.2 (by unfold vp_in; decide) rfl dX7_init_61 ?_
  refine mv_iast (ws1 := [(h0, .inr (7, [.ref q1, .ref q2, .ref q3, .ref q4, .int 0, .int 0])), (q1, .inl (cA, 40, .inl (upd (upd (upd (upd (upd (fun _ => 0) 0 (91758 : Int32)) 1 (92518 : Int32)) 2 (369 : Int32)) 3 (93299 : Int32)) 4 (299 : Int32)))), (q2, .inl (cA, 40, .inl (fun _ => 0))), (q3, .inl (cA, 40, .inl (upd (upd (upd (upd (fun _ => 0) 0 (0 : Int32)) 1 (1 : Int32)) 2 (2 : Int32)) 3 (3 : Int32)))), (q4, .inl (cA, 40, .inl (fun _ => 0)))]) C 1 0 rfl rfl (by unfold vp_in; decide) rfl dX7_init_62 ?_
  refine mv_aload_n C dX7_init_63 rfl 1 rfl ?_
  refine mv_get (v := .ref q3) C iw_X7_init_X7 0 rfl rfl 2 (by decide) lk_X7_init_18 rfl rfl dX7_init_64 ?_
  refine mv_iload_n C dX7_init_67 rfl 0 rfl ?_
  refine mv_iload_n C dX7_init_68 rfl 0 rfl ?_
  refine mv_iconst (v := (4 : Int32)) C dX7_init_69 (by decide) ?_
  refine mv_mmin C ml_X7_init_27 ms_X7_init_min mi_X7_init_Math mc_X7_init_min (by show 1 ≤ lev; omega) (by show _ ≤ 64 * lev; exact Nat.le_trans (Nat.le_of_ble_eq_true rfl : _ ≤ 64) (by omega)) (by show _ ≤ 4; decide) (by show _ ≤ 160; decide) dX7_init_70 ?_
  refine mv_topv (v := (4 : Int32)) (by decide) ?_
  refine mv_iast (ws1 := [(h0, .inr (7, [.ref q1, .ref q2, .ref q3, .ref q4, .int 0, .int 0])), (q1, .inl (cA, 40, .inl (upd (upd (upd (upd (upd (fun _ => 0) 0 (91758 : Int32)) 1 (92518 : Int32)) 2 (369 : Int32)) 3 (93299 : Int32)) 4 (299 : Int32)))), (q2, .inl (cA, 40, .inl (fun _ => 0))), (q3, .inl (cA, 40, .inl (upd (upd (upd (upd (upd (fun _ => 0) 0 (0 : Int32)) 1 (1 : Int32)) 2 (2 : Int32)) 3 (3 : Int32)) 4 (4 : Int32)))), (q4, .inl (cA, 40, .inl (fun _ => 0)))]) C 3 0 rfl rfl (by unfold vp_in; decide) rfl dX7_init_73 ?_
  refine mv_iinc (v := (5 : Int32)) (lv1 := [(1, .int (5 : Int32)), (0, .ref h0)]) C dX7_init_74 0 rfl (by decide) (by decide) rfl ?_
  refine mv_goto (tgt := 38) C dX7_init_77 (by decide) ?_
  refine mv_iload_n C dX7_init_38 rfl 0 rfl ?_
  refine mv_getsN C hs.2.1 (hs.1 _ nw_1) dX7_init_39 ?_
  refine mv_tlen (v := (8 : Int32)) C hs.2.2 (by decide) dX7_init_42 ?_
  refine mv_icmp_ge (tgt := 80) C dX7_init_43 (by decide) (fun h => absurd h (by decide)) (fun _ => ?_)
  refine mv_iload_n C dX7_init_46 rfl 0 rfl ?_
  refine mv_bipush (v := (40 : Int32)) C dX7_init_47 (by decide) ?_
  refine mv_icmp_ge (tgt := 80) C dX7_init_49 (by decide) (fun h => absurd h (by decide)) (fun _ => ?_)
  refine mv_aload_n C dX7_init_52 rfl 1 rfl ?_
  refine mv_get (v := .ref q1) C iw_X7_init_X7 0 rfl rfl 0 (by decide) lk_X7_init_9 rfl rfl dX7_init_53 ?_
  refine mv_iload_n C dX7_init_56 rfl 0 rfl ?_
  refine mv_getsN C hs.2.1 (hs.1 _ nw_1) dX7_init_57 ?_
  refine mv_iload_n C dX7_init_60 rfl 0 rfl ?_
  refine mv_ti (v := .int (298 : Int32)) C hs.2.2 (by unfold vp_in; decide) rfl dX7_init_61 ?_
  refine mv_iast (ws1 := [(h0, .inr (7, [.ref q1, .ref q2, .ref q3, .ref q4, .int 0, .int 0])), (q1, .inl (cA, 40, .inl (upd (upd (upd (upd (upd (upd (fun _ => 0) 0 (91758 : Int32)) 1 (92518 : Int32)) 2 (369 : Int32)) 3 (93299 : Int32)) 4 (299 : Int32)) 5 (298 : Int32)))), (q2, .inl (cA, 40, .inl (fun _ => 0))), (q3, .inl (cA, 40, .inl (upd (upd (upd (upd (upd (fun _ => 0) 0 (0 : Int32)) 1 (1 : Int32)) 2 (2 : Int32)) 3 (3 : Int32)) 4 (4 : Int32)))), (q4, .inl (cA, 40, .inl (fun _ => 0)))]) C 1 0 rfl rfl (by unfold vp_in; decide) rfl dX7_init_62 ?_
  refine mv_aload_n C dX7_init_63 rfl 1 rfl ?_
  refine mv_get (v := .ref q3) C iw_X7_init_X7 0 rfl rfl 2 (by decide) lk_X7_init_18 rfl rfl dX7_init_64 ?_
  refine mv_iload_n C dX7_init_67 rfl 0 rfl ?_
  refine mv_iload_n C dX7_init_68 rfl 0 rfl ?_
  refine mv_iconst (v := (4 : Int32)) C dX7_init_69 (by decide) ?_
  refine mv_mmin C ml_X7_init_27 ms_X7_init_min mi_X7_init_Math mc_X7_init_min (by show 1 ≤ lev; omega) (by show _ ≤ 64 * lev; exact Nat.le_trans (Nat.le_of_ble_eq_true rfl : _ ≤ 64) (by omega)) (by show _ ≤ 4; decide) (by show _ ≤ 160; decide) dX7_init_70 ?_
  refine mv_topv (v := (4 : Int32)) (by decide) ?_
  refine mv_iast (ws1 := [(h0, .inr (7, [.ref q1, .ref q2, .ref q3, .ref q4, .int 0, .int 0])), (q1, .inl (cA, 40, .inl (upd (upd (upd (upd (upd (upd (fun _ => 0) 0 (91758 : Int32)) 1 (92518 : Int32)) 2 (369 : Int32)) 3 (93299 : Int32)) 4 (299 : Int32)) 5 (298 : Int32)))), (q2, .inl (cA, 40, .inl (fun _ => 0))), (q3, .inl (cA, 40, .inl (upd (upd (upd (upd (upd (upd (fun _ => 0) 0 (0 : Int32)) 1 (1 : Int32)) 2 (2 : Int32)) 3 (3 : Int32)) 4 (4 : Int32)) 5 (4 : Int32)))), (q4, .inl (cA, 40, .inl (fun _ => 0)))]) C 3 0 rfl rfl (by unfold vp_in; decide) rfl dX7_init_73 ?_
  refine mv_iinc (v := (6 : Int32)) (lv1 := [(1, .int (6 : Int32)), (0, .ref h0)]) C dX7_init_74 0 rfl (by decide) (by decide) rfl ?_
  refine mv_goto (tgt := 38) C dX7_init_77 (by decide) ?_
  refine mv_iload_n C dX7_init_38 rfl 0 rfl ?_
  refine mv_getsN C hs.2.1 (hs.1 _ nw_1) dX7_init_39 ?_
  refine mv_tlen (v := (8 : Int32)) C hs.2.2 (by decide) dX7_init_42 ?_
  refine mv_icmp_ge (tgt := 80) C dX7_init_43 (by decide) (fun h => absurd h (by decide)) (fun _ => ?_)
  refine mv_iload_n C dX7_init_46 rfl 0 rfl ?_
  refine mv_bipush (v := (40 : Int32)) C dX7_init_47 (by decide) ?_
  refine mv_icmp_ge (tgt := 80) C dX7_init_49 (by decide) (fun h => absurd h (by decide)) (fun _ => ?_)
  refine mv_aload_n C dX7_init_52 rfl 1 rfl ?_
  refine mv_get (v := .ref q1) C iw_X7_init_X7 0 rfl rfl 0 (by decide) lk_X7_init_9 rfl rfl dX7_init_53 ?_
  refine mv_iload_n C dX7_init_56 rfl 0 rfl ?_
  refine mv_getsN C hs.2.1 (hs.1 _ nw_1) dX7_init_57 ?_
  refine mv_iload_n C dX7_init_60 rfl 0 rfl ?_
  refine mv_ti (v := .int (317 : Int32)) C hs.2.2 (by unfold vp_in; decide) rfl dX7_init_61 ?_
  refine mv_iast (ws1 := [(h0, .inr (7, [.ref q1, .ref q2, .ref q3, .ref q4, .int 0, .int 0])), (q1, .inl (cA, 40, .inl (upd (upd (upd (upd (upd (upd (upd (fun _ => 0) 0 (91758 : Int32)) 1 (92518 : Int32)) 2 (369 : Int32)) 3 (93299 : Int32)) 4 (299 : Int32)) 5 (298 : Int32)) 6 (317 : Int32)))), (q2, .inl (cA, 40, .inl (fun _ => 0))), (q3, .inl (cA, 40, .inl (upd (upd (upd (upd (upd (upd (fun _ => 0) 0 (0 : Int32)) 1 (1 : Int32)) 2 (2 : Int32)) 3 (3 : Int32)) 4 (4 : Int32)) 5 (4 : Int32)))), (q4, .inl (cA, 40, .inl (fun _ => 0)))]) C 1 0 rfl rfl (by unfold vp_in; decide) rfl dX7_init_62 ?_
  refine mv_aload_n C dX7_init_63 rfl 1 rfl ?_
  refine mv_get (v := .ref q3) C iw_X7_init_X7 0 rfl rfl 2 (by decide) lk_X7_init_18 rfl rfl dX7_init_64 ?_
  refine mv_iload_n C dX7_init_67 rfl 0 rfl ?_
  refine mv_iload_n C dX7_init_68 rfl 0 rfl ?_
  refine mv_iconst (v := (4 : Int32)) C dX7_init_69 (by decide) ?_
  refine mv_mmin C ml_X7_init_27 ms_X7_init_min mi_X7_init_Math mc_X7_init_min (by show 1 ≤ lev; omega) (by show _ ≤ 64 * lev; exact Nat.le_trans (Nat.le_of_ble_eq_true rfl : _ ≤ 64) (by omega)) (by show _ ≤ 4; decide) (by show _ ≤ 160; decide) dX7_init_70 ?_
  refine mv_topv (v := (4 : Int32)) (by decide) ?_
  refine mv_iast (ws1 := [(h0, .inr (7, [.ref q1, .ref q2, .ref q3, .ref q4, .int 0, .int 0])), (q1, .inl (cA, 40, .inl (upd (upd (upd (upd (upd (upd (upd (fun _ => 0) 0 (91758 : Int32)) 1 (92518 : Int32)) 2 (369 : Int32)) 3 (93299 : Int32)) 4 (299 : Int32)) 5 (298 : Int32)) 6 (317 : Int32)))), (q2, .inl (cA, 40, .inl (fun _ => 0))), (q3, .inl (cA, 40, .inl (upd (upd (upd (upd (upd (upd (upd (fun _ => 0) 0 (0 : Int32)) 1 (1 : Int32)) 2 (2 : Int32)) 3 (3 : Int32)) 4 (4 : Int32)) 5 (4 : Int32)) 6 (4 : Int32)))), (q4, .inl (cA, 40, .inl (fun _ => 0)))]) C 3 0 rfl rfl (by unfold vp_in; decide) rfl dX7_init_73 ?_
  refine mv_iinc (v := (7 : Int32)) (lv1 := [(1, .int (7 : Int32)), (0, .ref h0)]) C dX7_init_74 0 rfl (by decide) (by decide) rfl ?_
  refine mv_goto (tgt := 38) C dX7_init_77 (by decide) ?_
  refine mv_iload_n C dX7_init_38 rfl 0 rfl ?_
  refine mv_getsN C hs.2.1 (hs.1 _ nw_1) dX7_init_39 ?_
  refine mv_tlen (v := (8 : Int32)) C hs.2.2 (by decide) dX7_init_42 ?_
  refine mv_icmp_ge (tgt := 80) C dX7_init_43 (by decide) (fun h => absurd h (by decide)) (fun _ => ?_)
  refine mv_iload_n C dX7_init_46 rfl 0 rfl ?_
  refine mv_bipush (v := (40 : Int32)) C dX7_init_47 (by decide) ?_
  refine mv_icmp_ge (tgt := 80) C dX7_init_49 (by decide) (fun h => absurd h (by decide)) (fun _ => ?_)
  refine mv_aload_n C dX7_init_52 rfl 1 rfl ?_
  refine mv_get (v := .ref q1) C iw_X7_init_X7 0 rfl rfl 0 (by decide) lk_X7_init_9 rfl rfl dX7_init_53 ?_
  refine mv_iload_n C dX7_init_56 rfl 0 rfl ?_
  refine mv_getsN C hs.2.1 (hs.1 _ nw_1) dX7_init_57 ?_
  refine mv_iload_n C dX7_init_60 rfl 0 rfl ?_
  refine mv_ti (v := .int (316 : Int32)) C hs.2.2 (by unfold vp_in; decide) rfl dX7_init_61 ?_
  refine mv_iast (ws1 := [(h0, .inr (7, [.ref q1, .ref q2, .ref q3, .ref q4, .int 0, .int 0])), (q1, .inl (cA, 40, .inl (upd (upd (upd (upd (upd (upd (upd (upd (fun _ => 0) 0 (91758 : Int32)) 1 (92518 : Int32)) 2 (369 : Int32)) 3 (93299 : Int32)) 4 (299 : Int32)) 5 (298 : Int32)) 6 (317 : Int32)) 7 (316 : Int32)))), (q2, .inl (cA, 40, .inl (fun _ => 0))), (q3, .inl (cA, 40, .inl (upd (upd (upd (upd (upd (upd (upd (fun _ => 0) 0 (0 : Int32)) 1 (1 : Int32)) 2 (2 : Int32)) 3 (3 : Int32)) 4 (4 : Int32)) 5 (4 : Int32)) 6 (4 : Int32)))), (q4, .inl (cA, 40, .inl (fun _ => 0)))]) C 1 0 rfl rfl (by unfold vp_in; decide) rfl dX7_init_62 ?_
  refine mv_aload_n C dX7_init_63 rfl 1 rfl ?_
  refine mv_get (v := .ref q3) C iw_X7_init_X7 0 rfl rfl 2 (by decide) lk_X7_init_18 rfl rfl dX7_init_64 ?_
  refine mv_iload_n C dX7_init_67 rfl 0 rfl ?_
  refine mv_iload_n C dX7_init_68 rfl 0 rfl ?_
  refine mv_iconst (v := (4 : Int32)) C dX7_init_69 (by decide) ?_
  refine mv_mmin C ml_X7_init_27 ms_X7_init_min mi_X7_init_Math mc_X7_init_min (by show 1 ≤ lev; omega) (by show _ ≤ 64 * lev; exact Nat.le_trans (Nat.le_of_ble_eq_true rfl : _ ≤ 64) (by omega)) (by show _ ≤ 4; decide) (by show _ ≤ 160; decide) dX7_init_70 ?_
  refine mv_topv (v := (4 : Int32)) (by decide) ?_
  refine mv_iast (ws1 := [(h0, .inr (7, [.ref q1, .ref q2, .ref q3, .ref q4, .int 0, .int 0])), (q1, .inl (cA, 40, .inl (upd (upd (upd (upd (upd (upd (upd (upd (fun _ => 0) 0 (91758 : Int32)) 1 (92518 : Int32)) 2 (369 : Int32)) 3 (93299 : Int32)) 4 (299 : Int32)) 5 (298 : Int32)) 6 (317 : Int32)) 7 (316 : Int32)))), (q2, .inl (cA, 40, .inl (fun _ => 0))), (q3, .inl (cA, 40, .inl (upd (upd (upd (upd (upd (upd (upd (upd (fun _ => 0) 0 (0 : Int32)) 1 (1 : Int32)) 2 (2 : Int32)) 3 (3 : Int32)) 4 (4 : Int32)) 5 (4 : Int32)) 6 (4 : Int32)) 7 (4 : Int32)))), (q4, .inl (cA, 40, .inl (fun _ => 0)))]) C 3 0 rfl rfl (by unfold vp_in; decide) rfl dX7_init_73 ?_
  refine mv_iinc (v := (8 : Int32)) (lv1 := [(1, .int (8 : Int32)), (0, .ref h0)]) C dX7_init_74 0 rfl (by decide) (by decide) rfl ?_
  refine mv_goto (tgt := 38) C dX7_init_77 (by decide) ?_
  refine mv_iload_n C dX7_init_38 rfl 0 rfl ?_
  refine mv_getsN C hs.2.1 (hs.1 _ nw_1) dX7_init_39 ?_
  refine mv_tlen (v := (8 : Int32)) C hs.2.2 (by decide) dX7_init_42 ?_
  refine mv_icmp_ge (tgt := 80) C dX7_init_43 (by decide) (fun _ => ?_) (fun h => absurd (by decide) h)
  refine mv_aload_n C dX7_init_80 rfl 1 rfl ?_
  refine mv_getsN C hs.2.1 (hs.1 _ nw_1) dX7_init_81 ?_
  refine mv_tlen (v := (8 : Int32)) C hs.2.2 (by decide) dX7_init_84 ?_
  refine mv_put (ty := .int) (ws1 := [(h0, .inr (7, [.ref q1, .ref q2, .ref q3, .ref q4, .int (8 : Int32), .int 0])), (q1, .inl (cA, 40, .inl (upd (upd (upd (upd (upd (upd (upd (upd (fun _ => 0) 0 (91758 : Int32)) 1 (92518 : Int32)) 2 (369 : Int32)) 3 (93299 : Int32)) 4 (299 : Int32)) 5 (298 : Int32)) 6 (317 : Int32)) 7 (316 : Int32)))), (q2, .inl (cA, 40, .inl (fun _ => 0))), (q3, .inl (cA, 40, .inl (upd (upd (upd (upd (upd (upd (upd (upd (fun _ => 0) 0 (0 : Int32)) 1 (1 : Int32)) 2 (2 : Int32)) 3 (3 : Int32)) 4 (4 : Int32)) 5 (4 : Int32)) 6 (4 : Int32)) 7 (4 : Int32)))), (q4, .inl (cA, 40, .inl (fun _ => 0)))]) C iw_X7_init_X7 tyX7 tyX7_ok nmX7 0 rfl rfl 4 (by decide) lk_X7_init_33 rfl rfl rfl rfl rfl (Nat.le_of_ble_eq_true rfl) rfl dX7_init_85 ?_
  exact mv_cret C (fun k => match k with | 0 => q1 | 1 => q2 | 2 => q3 | 3 => q4 | _ => 0) trivial rfl dX7_init_88
set_option maxHeartbeats 4000000 in
set_option maxRecDepth 100000 in
theorem X2_init_met (hlev : 1 ≤ lev) (h0 : Nat) : mKc l yX2_init wsX2_init lev 1 200 (eA a) (dC, dI) vwCl [(cA, .int)] [(h0, .inr (2, [.null, .int 0, .int 0]))] [.ref h0] (fun _ => True) (fun z => [(h0, .inr (2, [.ref (z 0), .int 0, .int 0])), (z 0, .inl (cA, 200, .inl (fun _ => 0)))]) := by
  refine mKc_of (cc := cX2_init) (maxL := 1) (by decide) rfl rfl (Nat.le_of_ble_eq_true rfl) rfl ?_
  intro p e s m args below meth c A C hs hinit
  refine mv_aload_n C dX2_init_0 rfl 0 rfl ?_
  refine mv_objInit C (by decide +kernel) (by decide +kernel) (by decide +kernel) dX2_init_1 (by show 1 ≤ lev; omega) (by show _ ≤ 64 * lev; exact Nat.le_trans (Nat.le_of_ble_eq_true rfl : _ ≤ 64) (by omega)) ?_
  refine mv_aload_n C dX2_init_4 rfl 0 rfl ?_
  refine mv_sipush (v := (200 : Int32)) C dX2_init_5 (by decide) ?_
  refine mv_newa (N := 200) C (by decide +kernel) (by decide) (by decide) (by decide) (by show _ ≤ 1; decide) (by show _ ≤ 200; decide) dX2_init_8 (fun q1 => ?_)
  refine mv_ws (ws1 := [(h0, .inr (2, [.null, .int 0, .int 0])), (q1, .inl (cA, 200, .inl (fun _ => 0)))]) rfl ?_
  refine mv_putF (ty := (.array .int)) (ws1 := [(h0, .inr (2, [.ref q1, .int 0, .int 0])), (q1, .inl (cA, 200, .inl (fun _ => 0)))]) C hinit iw_X2_init_X2 tyX2 tyX2_ok nmX2 0 rfl rfl 0 (by decide) lk_X2_init_9 rfl rfl rfl rfl rfl rfl (Nat.le_of_ble_eq_true rfl) rfl dX2_init_10 ?_
  exact mv_cret C (fun k => match k with | 0 => q1 | _ => 0) trivial rfl dX2_init_13
set_option maxHeartbeats 4000000 in
set_option maxRecDepth 100000 in
theorem X0_init_met (hlev : 3 ≤ lev) (h0 h1 h2 h3 h4 : Nat) : mKc l yX0_init wsX0_init lev 5 16 (eA a) (dC, dI) vwCl [(cA, .int)] [(h0, .inr (0, [.null, .null, .null, .null, .null, .int 0, .int 0, .int 0, .int 0]))] [.ref h0, .ref h1, .ref h2, .ref h3, .ref h4] (fun _ => True) (fun z => [(h0, .inr (0, [.ref h1, .ref h2, .ref h3, .ref h4, .ref (z 0), .int 0, .int 0, .int 0, .int 0])), (z 0, .inr (1, [.ref h1, .ref h4, .ref (z 1), .int 0, .int 0, .int 0])), (z 1, .inr (4, [.ref (z 2), .ref (z 3), .ref (z 4), .int 0])), (z 2, .inl (cA, 2, .inl (fun _ => 0))), (z 3, .inl (cA, 2, .inl (fun _ => 0))), (z 4, .inl (cA, 2, .inl (fun _ => 0)))]) := by
  refine mKc_of (cc := cX0_init) (maxL := 5) (by decide) rfl rfl (Nat.le_of_ble_eq_true rfl) rfl ?_
  intro p e s m args below meth c A C hs hinit
  refine mv_aload_n C dX0_init_0 rfl 0 rfl ?_
  refine mv_objInit C (by decide +kernel) (by decide +kernel) (by decide +kernel) dX0_init_1 (by show 1 ≤ lev; omega) (by show _ ≤ 64 * lev; exact Nat.le_trans (Nat.le_of_ble_eq_true rfl : _ ≤ 64) (by omega)) ?_
  refine mv_aload_n C dX0_init_4 rfl 0 rfl ?_
  refine mv_aload_n C dX0_init_5 rfl 1 rfl ?_
  refine mv_putF (ty := (.object "MarkedNames$Row")) (ws1 := [(h0, .inr (0, [.ref h1, .null, .null, .null, .null, .int 0, .int 0, .int 0, .int 0]))]) C hinit iw_X0_init_X0 tyX0 tyX0_ok nmX0 0 rfl rfl 0 (by decide) lk_X0_init_9 rfl rfl rfl rfl rfl rfl (Nat.le_of_ble_eq_true rfl) rfl dX0_init_6 ?_
  refine mv_aload_n C dX0_init_9 rfl 0 rfl ?_
  refine mv_aload_n C dX0_init_10 rfl 2 rfl ?_
  refine mv_putF (ty := (.object "MarkedNames$RuleCheck")) (ws1 := [(h0, .inr (0, [.ref h1, .ref h2, .null, .null, .null, .int 0, .int 0, .int 0, .int 0]))]) C hinit iw_X0_init_X0 tyX0 tyX0_ok nmX0 0 rfl rfl 1 (by decide) lk_X0_init_15 rfl rfl rfl rfl rfl rfl (Nat.le_of_ble_eq_true rfl) rfl dX0_init_11 ?_
  refine mv_aload_n C dX0_init_14 rfl 0 rfl ?_
  refine mv_aload_n C dX0_init_15 rfl 3 rfl ?_
  refine mv_putF (ty := (.object "MarkedNames$Table")) (ws1 := [(h0, .inr (0, [.ref h1, .ref h2, .ref h3, .null, .null, .int 0, .int 0, .int 0, .int 0]))]) C hinit iw_X0_init_X0 tyX0 tyX0_ok nmX0 0 rfl rfl 2 (by decide) lk_X0_init_19 rfl rfl rfl rfl rfl rfl (Nat.le_of_ble_eq_true rfl) rfl dX0_init_16 ?_
  refine mv_aload_n C dX0_init_19 rfl 0 rfl ?_
  refine mv_aload C dX0_init_20 4 rfl ?_
  refine mv_putF (ty := (.object "MarkedNames$Outcome")) (ws1 := [(h0, .inr (0, [.ref h1, .ref h2, .ref h3, .ref h4, .null, .int 0, .int 0, .int 0, .int 0]))]) C hinit iw_X0_init_X0 tyX0 tyX0_ok nmX0 0 rfl rfl 3 (by decide) lk_X0_init_23 rfl rfl rfl rfl rfl rfl (Nat.le_of_ble_eq_true rfl) rfl dX0_init_22 ?_
  refine mv_aload_n C dX0_init_25 rfl 0 rfl ?_
  refine mv_new (C0 := RX1) (T := TX1) (N := 6) (ci := 1) (fs := [.null, .null, .null, .int 0, .int 0, .int 0]) C iw_X0_init_X1 tyX1 tyX1_ok (by decide +kernel) (by decide +kernel) (by decide +kernel) rfl (fun j hj => by rcases (show j = 0 ∨ j = 1 ∨ j = 2 ∨ j = 3 ∨ j = 4 ∨ j = 5 by omega) with rfl | rfl | rfl | rfl | rfl | rfl <;> rfl) (by show _ ≤ 5; decide) (by show _ ≤ 16; decide) dX0_init_26 (fun q1 => ?_)
  refine mv_ws (ws1 := [(h0, .inr (0, [.ref h1, .ref h2, .ref h3, .ref h4, .null, .int 0, .int 0, .int 0, .int 0])), (q1, .inr (1, [.null, .null, .null, .int 0, .int 0, .int 0]))]) rfl ?_
  refine mv_dup C dX0_init_29 rfl ?_
  refine mv_aload_n C dX0_init_30 rfl 1 rfl ?_
  refine mv_aload C dX0_init_31 4 rfl ?_
  refine mv_callI (As := [.ref h1, .ref h4]) (rest := [.ref q1, .ref h0]) (wr := [(h0, .inr (0, [.ref h1, .ref h2, .ref h3, .ref h4, .null, .int 0, .int 0, .int 0, .int 0]))]) C (eA_ok a) hs 1 [0] rfl rfl (by decide) (by decide) (X1_init_met (l := l) (lev := lev - 1) (by omega) q1 h1 h4) (cwI 2 C.2.2.2.2.1 gX0_init_X1_init rfl rfl rfl (C.2.2.2.2.1 (.initialized RX1) (by decide +kernel)) (C.2.2.2.2.1 (.methodLink RX0 29 yX1_init) (by decide +kernel)) (C.2.2.2.2.1 (.instanceMethod yX1_init) (by decide +kernel)) rfl (by decide +kernel) (mRc_le (by omega) (by decide))) rfl rfl (Nat.le_of_ble_eq_true rfl) dX0_init_33 ⟨(by show _ ≤ 5; decide), (by show _ ≤ 16; decide)⟩ (fun z2 hz2 => ?_)
  refine mv_ws (ws1 := [(h0, .inr (0, [.ref h1, .ref h2, .ref h3, .ref h4, .null, .int 0, .int 0, .int 0, .int 0])), (q1, .inr (1, [.ref h1, .ref h4, .ref (z2 0), .int 0, .int 0, .int 0])), (z2 0, .inr (4, [.ref (z2 1), .ref (z2 2), .ref (z2 3), .int 0])), (z2 1, .inl (cA, 2, .inl (fun _ => 0))), (z2 2, .inl (cA, 2, .inl (fun _ => 0))), (z2 3, .inl (cA, 2, .inl (fun _ => 0)))]) rfl ?_
  refine mv_putF (ty := (.object "MarkedNames$Filler")) (ws1 := [(h0, .inr (0, [.ref h1, .ref h2, .ref h3, .ref h4, .ref q1, .int 0, .int 0, .int 0, .int 0])), (q1, .inr (1, [.ref h1, .ref h4, .ref (z2 0), .int 0, .int 0, .int 0])), (z2 0, .inr (4, [.ref (z2 1), .ref (z2 2), .ref (z2 3), .int 0])), (z2 1, .inl (cA, 2, .inl (fun _ => 0))), (z2 2, .inl (cA, 2, .inl (fun _ => 0))), (z2 3, .inl (cA, 2, .inl (fun _ => 0)))]) C hinit iw_X0_init_X0 tyX0 tyX0_ok nmX0 0 rfl rfl 4 (by decide) lk_X0_init_32 rfl rfl rfl rfl rfl rfl (Nat.le_of_ble_eq_true rfl) rfl dX0_init_36 ?_
  exact mv_cret C (fun k => match k with | 0 => q1 | 1 => z2 0 | 2 => z2 1 | 3 => z2 2 | 4 => z2 3 | _ => 0) trivial rfl dX0_init_39
set_option maxHeartbeats 4000000 in
set_option maxRecDepth 100000 in
theorem X8_init_met (hlev : 4 ≤ lev) (h0 : Nat) : mKc l yX8_init wsX8_init lev 21 12523 (eA a) (dC, dI) vwCl [(cA, .int)] [(h0, .inr (8, [.null, .int 0, .null, .null, .null, .null, .null, .null]))] [.ref h0] (fun z => z 0 = h0 ∧ z 22 = a 22) (fun z => wA cA z uA0) := by
  refine mKc_of (cc := cX8_init) (maxL := 1) (by decide) rfl rfl (Nat.le_of_ble_eq_true rfl) rfl ?_
  intro p e s m args below meth c A C hs hinit
  refine mv_aload_n C dX8_init_0 rfl 0 rfl ?_
  refine mv_objInit C (by decide +kernel) (by decide +kernel) (by decide +kernel) dX8_init_1 (by show 1 ≤ lev; omega) (by show _ ≤ 64 * lev; exact Nat.le_trans (Nat.le_of_ble_eq_true rfl : _ ≤ 64) (by omega)) ?_
  refine mv_aload_n C dX8_init_4 rfl 0 rfl ?_
  refine mv_bipush (v := (120 : Int32)) C dX8_init_5 (by decide) ?_
  refine mv_newa (N := 120) C (by decide +kernel) (by decide) (by decide) (by decide) (by show _ ≤ 21; decide) (by show _ ≤ 12523; decide) dX8_init_7 (fun q1 => ?_)
  refine mv_ws (ws1 := [(h0, .inr (8, [.null, .int 0, .null, .null, .null, .null, .null, .null])), (q1, .inl (cA, 120, .inl (fun _ => 0)))]) rfl ?_
  refine mv_putF (ty := (.array .int)) (ws1 := [(h0, .inr (8, [.ref q1, .int 0, .null, .null, .null, .null, .null, .null])), (q1, .inl (cA, 120, .inl (fun _ => 0)))]) C hinit iw_X8_init_X8 tyX8 tyX8_ok nmX8 0 rfl rfl 0 (by decide) lk_X8_init_9 rfl rfl rfl rfl rfl rfl (Nat.le_of_ble_eq_true rfl) rfl dX8_init_9 ?_
  refine mv_aload_n C dX8_init_12 rfl 0 rfl ?_
  refine mv_new (C0 := RX5) (T := TX5) (N := 6) (ci := 5) (fs := [.null, .null, .null, .null, .int 0, .int 0]) C iw_X8_init_X5 tyX5 tyX5_ok (by decide +kernel) (by decide +kernel) (by decide +kernel) rfl (fun j hj => by rcases (show j = 0 ∨ j = 1 ∨ j = 2 ∨ j = 3 ∨ j = 4 ∨ j = 5 by omega) with rfl | rfl | rfl | rfl | rfl | rfl <;> rfl) (by show _ ≤ 21; decide) (by show _ ≤ 12523; decide) dX8_init_13 (fun q2 => ?_)
  refine mv_ws (ws1 := [(h0, .inr (8, [.ref q1, .int 0, .null, .null, .null, .null, .null, .null])), (q1, .inl (cA, 120, .inl (fun _ => 0))), (q2, .inr (5, [.null, .null, .null, .null, .int 0, .int 0]))]) rfl ?_
  refine mv_dup C dX8_init_16 rfl ?_
  refine mv_callIN (As := []) (rest := [.ref q2, .ref h0]) (wr := [(h0, .inr (8, [.ref q1, .int 0, .null, .null, .null, .null, .null, .null])), (q1, .inl (cA, 120, .inl (fun _ => 0)))]) C (eA_ok a) hs 2 [0, 1] rfl rfl (by decide) (by decide) (X5_init_met (l := l) (lev := lev - 1) (by omega) q2) ⟨va_cnB 0 C.2.2.2.2.1 ggX8_init_X5_init rfl rfl rfl (hs.1 _ nw_12) (C.2.2.2.2.1 _ (by decide +kernel)) (by decide +kernel) (mRc_le (by omega) (by decide)), rfl, C.2.2.2.2.1 _ (by decide +kernel)⟩ rfl rfl (Nat.le_of_ble_eq_true rfl) dX8_init_17 ⟨(by show _ ≤ 21; decide), (by show _ ≤ 12523; decide)⟩ (fun z3 hz3 => ?_)
  refine mv_ws (ws1 := [(h0, .inr (8, [.ref q1, .int 0, .null, .null, .null, .null, .null, .null])), (q1, .inl (cA, 120, .inl (fun _ => 0))), (q2, .inr (5, [.ref (z3 0), .ref (z3 1), .ref (z3 2), .ref (z3 3), .int (480 : Int32), .int (-1 : Int32)])), (z3 0, .inl (cA, 3000, .inl (fun _ => 0))), (z3 1, .inl (cA, 3000, .inl (fun _ => 0))), (z3 2, .inl (cA, 3000, .inl (fun _ => 0))), (z3 3, .inl (cA, 3000, .inl (fun _ => 0)))]) rfl ?_
  refine mv_putF (ty := (.object "MarkedNames$Row")) (ws1 := [(h0, .inr (8, [.ref q1, .int 0, .ref q2, .null, .null, .null, .null, .null])), (q1, .inl (cA, 120, .inl (fun _ => 0))), (q2, .inr (5, [.ref (z3 0), .ref (z3 1), .ref (z3 2), .ref (z3 3), .int (480 : Int32), .int (-1 : Int32)])), (z3 0, .inl (cA, 3000, .inl (fun _ => 0))), (z3 1, .inl (cA, 3000, .inl (fun _ => 0))), (z3 2, .inl (cA, 3000, .inl (fun _ => 0))), (z3 3, .inl (cA, 3000, .inl (fun _ => 0)))]) C hinit iw_X8_init_X8 tyX8 tyX8_ok nmX8 0 rfl rfl 2 (by decide) lk_X8_init_16 rfl rfl rfl rfl rfl rfl (Nat.le_of_ble_eq_true rfl) rfl dX8_init_20 ?_
  refine mv_aload_n C dX8_init_23 rfl 0 rfl ?_
  refine mv_new (C0 := RX3) (T := TX3) (N := 2) (ci := 3) (fs := [.null, .int 0]) C iw_X8_init_X3 tyX3 tyX3_ok (by decide +kernel) (by decide +kernel) (by decide +kernel) rfl (fun j hj => by rcases (show j = 0 ∨ j = 1 by omega) with rfl | rfl <;> rfl) (by show _ ≤ 21; decide) (by show _ ≤ 12523; decide) dX8_init_24 (fun q4 => ?_)
  refine mv_ws (ws1 := [(h0, .inr (8, [.ref q1, .int 0, .ref q2, .null, .null, .null, .null, .null])), (q1, .inl (cA, 120, .inl (fun _ => 0))), (q2, .inr (5, [.ref (z3 0), .ref (z3 1), .ref (z3 2), .ref (z3 3), .int (480 : Int32), .int (-1 : Int32)])), (z3 0, .inl (cA, 3000, .inl (fun _ => 0))), (z3 1, .inl (cA, 3000, .inl (fun _ => 0))), (z3 2, .inl (cA, 3000, .inl (fun _ => 0))), (z3 3, .inl (cA, 3000, .inl (fun _ => 0))), (q4, .inr (3, [.null, .int 0]))]) rfl ?_
  refine mv_dup C dX8_init_27 rfl ?_
  refine mv_aload_n C dX8_init_28 rfl 0 rfl ?_
  refine mv_get (v := .ref q2) C iw_X8_init_X8 0 rfl rfl 2 (by decide) lk_X8_init_16 rfl rfl dX8_init_29 ?_
  refine mv_callI (As := [.ref q2]) (rest := [.ref q4, .ref h0]) (wr := [(h0, .inr (8, [.ref q1, .int 0, .ref q2, .null, .null, .null, .null, .null])), (q1, .inl (cA, 120, .inl (fun _ => 0))), (q2, .inr (5, [.ref (z3 0), .ref (z3 1), .ref (z3 2), .ref (z3 3), .int (480 : Int32), .int (-1 : Int32)])), (z3 0, .inl (cA, 3000, .inl (fun _ => 0))), (z3 1, .inl (cA, 3000, .inl (fun _ => 0))), (z3 2, .inl (cA, 3000, .inl (fun _ => 0))), (z3 3, .inl (cA, 3000, .inl (fun _ => 0)))]) C (eA_ok a) hs 7 [0, 1, 2, 3, 4, 5, 6] rfl rfl (by decide) (by decide) (X3_init_met (l := l) (lev := lev - 1) (by omega) q4 q2) (cwI 1 C.2.2.2.2.1 gX8_init_X3_init rfl rfl rfl (C.2.2.2.2.1 (.initialized RX3) (by decide +kernel)) (C.2.2.2.2.1 (.methodLink RX8 22 yX3_init) (by decide +kernel)) (C.2.2.2.2.1 (.instanceMethod yX3_init) (by decide +kernel)) rfl (by decide +kernel) (mRc_le (by omega) (by decide))) rfl rfl (Nat.le_of_ble_eq_true rfl) dX8_init_32 ⟨(by show _ ≤ 21; decide), (by show _ ≤ 12523; decide)⟩ (fun z5 hz5 => ?_)
  refine mv_ws (ws1 := [(h0, .inr (8, [.ref q1, .int 0, .ref q2, .null, .null, .null, .null, .null])), (q1, .inl (cA, 120, .inl (fun _ => 0))), (q2, .inr (5, [.ref (z3 0), .ref (z3 1), .ref (z3 2), .ref (z3 3), .int (480 : Int32), .int (-1 : Int32)])), (z3 0, .inl (cA, 3000, .inl (fun _ => 0))), (z3 1, .inl (cA, 3000, .inl (fun _ => 0))), (z3 2, .inl (cA, 3000, .inl (fun _ => 0))), (z3 3, .inl (cA, 3000, .inl (fun _ => 0))), (q4, .inr (3, [.ref q2, .int 0]))]) rfl ?_
  refine mv_putF (ty := (.object "MarkedNames$Reader")) (ws1 := [(h0, .inr (8, [.ref q1, .int 0, .ref q2, .ref q4, .null, .null, .null, .null])), (q1, .inl (cA, 120, .inl (fun _ => 0))), (q2, .inr (5, [.ref (z3 0), .ref (z3 1), .ref (z3 2), .ref (z3 3), .int (480 : Int32), .int (-1 : Int32)])), (z3 0, .inl (cA, 3000, .inl (fun _ => 0))), (z3 1, .inl (cA, 3000, .inl (fun _ => 0))), (z3 2, .inl (cA, 3000, .inl (fun _ => 0))), (z3 3, .inl (cA, 3000, .inl (fun _ => 0))), (q4, .inr (3, [.ref q2, .int 0]))]) C hinit iw_X8_init_X8 tyX8 tyX8_ok nmX8 0 rfl rfl 3 (by decide) lk_X8_init_25 rfl rfl rfl rfl rfl rfl (Nat.le_of_ble_eq_true rfl) rfl dX8_init_35 ?_
  refine mv_aload_n C dX8_init_38 rfl 0 rfl ?_
  refine mv_new (C0 := RX6) (T := TX6) (N := 1) (ci := 6) (fs := [.null]) C iw_X8_init_X6 tyX6 tyX6_ok (by decide +kernel) (by decide +kernel) (by decide +kernel) rfl (fun j hj => by rcases (show j = 0 by omega) with rfl <;> rfl) (by show _ ≤ 21; decide) (by show _ ≤ 12523; decide) dX8_init_39 (fun q6 => ?_)
  refine mv_ws (ws1 := [(h0, .inr (8, [.ref q1, .int 0, .ref q2, .ref q4, .null, .null, .null, .null])), (q1, .inl (cA, 120, .inl (fun _ => 0))), (q2, .inr (5, [.ref (z3 0), .ref (z3 1), .ref (z3 2), .ref (z3 3), .int (480 : Int32), .int (-1 : Int32)])), (z3 0, .inl (cA, 3000, .inl (fun _ => 0))), (z3 1, .inl (cA, 3000, .inl (fun _ => 0))), (z3 2, .inl (cA, 3000, .inl (fun _ => 0))), (z3 3, .inl (cA, 3000, .inl (fun _ => 0))), (q4, .inr (3, [.ref q2, .int 0])), (q6, .inr (6, [.null]))]) rfl ?_
  refine mv_dup C dX8_init_42 rfl ?_
  refine mv_aload_n C dX8_init_43 rfl 0 rfl ?_
  refine mv_get (v := .ref q2) C iw_X8_init_X8 0 rfl rfl 2 (by decide) lk_X8_init_16 rfl rfl dX8_init_44 ?_
  refine mv_callI (As := [.ref q2]) (rest := [.ref q6, .ref h0]) (wr := [(h0, .inr (8, [.ref q1, .int 0, .ref q2, .ref q4, .null, .null, .null, .null])), (q1, .inl (cA, 120, .inl (fun _ => 0))), (q2, .inr (5, [.ref (z3 0), .ref (z3 1), .ref (z3 2), .ref (z3 3), .int (480 : Int32), .int (-1 : Int32)])), (z3 0, .inl (cA, 3000, .inl (fun _ => 0))), (z3 1, .inl (cA, 3000, .inl (fun _ => 0))), (z3 2, .inl (cA, 3000, .inl (fun _ => 0))), (z3 3, .inl (cA, 3000, .inl (fun _ => 0))), (q4, .inr (3, [.ref q2, .int 0]))]) C (eA_ok a) hs 8 [0, 1, 2, 3, 4, 5, 6, 7] rfl rfl (by decide) (by decide) (X6_init_met (l := l) (lev := lev - 1) (by omega) q6 q2) (cwI 1 C.2.2.2.2.1 gX8_init_X6_init rfl rfl rfl (C.2.2.2.2.1 (.initialized RX6) (by decide +kernel)) (C.2.2.2.2.1 (.methodLink RX8 31 yX6_init) (by decide +kernel)) (C.2.2.2.2.1 (.instanceMethod yX6_init) (by decide +kernel)) rfl (by decide +kernel) (mRc_le (by omega) (by decide))) rfl rfl (Nat.le_of_ble_eq_true rfl) dX8_init_47 ⟨(by show _ ≤ 21; decide), (by show _ ≤ 12523; decide)⟩ (fun z7 hz7 => ?_)
  refine mv_ws (ws1 := [(h0, .inr (8, [.ref q1, .int 0, .ref q2, .ref q4, .null, .null, .null, .null])), (q1, .inl (cA, 120, .inl (fun _ => 0))), (q2, .inr (5, [.ref (z3 0), .ref (z3 1), .ref (z3 2), .ref (z3 3), .int (480 : Int32), .int (-1 : Int32)])), (z3 0, .inl (cA, 3000, .inl (fun _ => 0))), (z3 1, .inl (cA, 3000, .inl (fun _ => 0))), (z3 2, .inl (cA, 3000, .inl (fun _ => 0))), (z3 3, .inl (cA, 3000, .inl (fun _ => 0))), (q4, .inr (3, [.ref q2, .int 0])), (q6, .inr (6, [.ref q2]))]) rfl ?_
  refine mv_putF (ty := (.object "MarkedNames$RuleCheck")) (ws1 := [(h0, .inr (8, [.ref q1, .int 0, .ref q2, .ref q4, .ref q6, .null, .null, .null])), (q1, .inl (cA, 120, .inl (fun _ => 0))), (q2, .inr (5, [.ref (z3 0), .ref (z3 1), .ref (z3 2), .ref (z3 3), .int (480 : Int32), .int (-1 : Int32)])), (z3 0, .inl (cA, 3000, .inl (fun _ => 0))), (z3 1, .inl (cA, 3000, .inl (fun _ => 0))), (z3 2, .inl (cA, 3000, .inl (fun _ => 0))), (z3 3, .inl (cA, 3000, .inl (fun _ => 0))), (q4, .inr (3, [.ref q2, .int 0])), (q6, .inr (6, [.ref q2]))]) C hinit iw_X8_init_X8 tyX8 tyX8_ok nmX8 0 rfl rfl 4 (by decide) lk_X8_init_32 rfl rfl rfl rfl rfl rfl (Nat.le_of_ble_eq_true rfl) rfl dX8_init_50 ?_
  refine mv_aload_n C dX8_init_53 rfl 0 rfl ?_
  refine mv_new (C0 := RX7) (T := TX7) (N := 6) (ci := 7) (fs := [.null, .null, .null, .null, .int 0, .int 0]) C iw_X8_init_X7 tyX7 tyX7_ok (by decide +kernel) (by decide +kernel) (by decide +kernel) rfl (fun j hj => by rcases (show j = 0 ∨ j = 1 ∨ j = 2 ∨ j = 3 ∨ j = 4 ∨ j = 5 by omega) with rfl | rfl | rfl | rfl | rfl | rfl <;> rfl) (by show _ ≤ 21; decide) (by show _ ≤ 12523; decide) dX8_init_54 (fun q8 => ?_)
  refine mv_ws (ws1 := [(h0, .inr (8, [.ref q1, .int 0, .ref q2, .ref q4, .ref q6, .null, .null, .null])), (q1, .inl (cA, 120, .inl (fun _ => 0))), (q2, .inr (5, [.ref (z3 0), .ref (z3 1), .ref (z3 2), .ref (z3 3), .int (480 : Int32), .int (-1 : Int32)])), (z3 0, .inl (cA, 3000, .inl (fun _ => 0))), (z3 1, .inl (cA, 3000, .inl (fun _ => 0))), (z3 2, .inl (cA, 3000, .inl (fun _ => 0))), (z3 3, .inl (cA, 3000, .inl (fun _ => 0))), (q4, .inr (3, [.ref q2, .int 0])), (q6, .inr (6, [.ref q2])), (q8, .inr (7, [.null, .null, .null, .null, .int 0, .int 0]))]) rfl ?_
  refine mv_dup C dX8_init_57 rfl ?_
  refine mv_callI (As := []) (rest := [.ref q8, .ref h0]) (wr := [(h0, .inr (8, [.ref q1, .int 0, .ref q2, .ref q4, .ref q6, .null, .null, .null])), (q1, .inl (cA, 120, .inl (fun _ => 0))), (q2, .inr (5, [.ref (z3 0), .ref (z3 1), .ref (z3 2), .ref (z3 3), .int (480 : Int32), .int (-1 : Int32)])), (z3 0, .inl (cA, 3000, .inl (fun _ => 0))), (z3 1, .inl (cA, 3000, .inl (fun _ => 0))), (z3 2, .inl (cA, 3000, .inl (fun _ => 0))), (z3 3, .inl (cA, 3000, .inl (fun _ => 0))), (q4, .inr (3, [.ref q2, .int 0])), (q6, .inr (6, [.ref q2]))]) C (eA_ok a) hs 9 [0, 1, 2, 3, 4, 5, 6, 7, 8] rfl rfl (by decide) (by decide) (X7_init_met (l := l) (lev := lev - 1) (by omega) q8) (cwI 0 C.2.2.2.2.1 gX8_init_X7_init rfl rfl rfl (C.2.2.2.2.1 (.initialized RX7) (by decide +kernel)) (C.2.2.2.2.1 (.methodLink RX8 38 yX7_init) (by decide +kernel)) (C.2.2.2.2.1 (.instanceMethod yX7_init) (by decide +kernel)) rfl (by decide +kernel) (mRc_le (by omega) (by decide))) rfl rfl (Nat.le_of_ble_eq_true rfl) dX8_init_58 ⟨(by show _ ≤ 21; decide), (by show _ ≤ 12523; decide)⟩ (fun z9 hz9 => ?_)
  refine mv_ws (ws1 := [(h0, .inr (8, [.ref q1, .int 0, .ref q2, .ref q4, .ref q6, .null, .null, .null])), (q1, .inl (cA, 120, .inl (fun _ => 0))), (q2, .inr (5, [.ref (z3 0), .ref (z3 1), .ref (z3 2), .ref (z3 3), .int (480 : Int32), .int (-1 : Int32)])), (z3 0, .inl (cA, 3000, .inl (fun _ => 0))), (z3 1, .inl (cA, 3000, .inl (fun _ => 0))), (z3 2, .inl (cA, 3000, .inl (fun _ => 0))), (z3 3, .inl (cA, 3000, .inl (fun _ => 0))), (q4, .inr (3, [.ref q2, .int 0])), (q6, .inr (6, [.ref q2])), (q8, .inr (7, [.ref (z9 0), .ref (z9 1), .ref (z9 2), .ref (z9 3), .int (8 : Int32), .int 0])), (z9 0, .inl (cA, 40, .inl (upd (upd (upd (upd (upd (upd (upd (upd (fun _ => 0) 0 (91758 : Int32)) 1 (92518 : Int32)) 2 (369 : Int32)) 3 (93299 : Int32)) 4 (299 : Int32)) 5 (298 : Int32)) 6 (317 : Int32)) 7 (316 : Int32)))), (z9 1, .inl (cA, 40, .inl (fun _ => 0))), (z9 2, .inl (cA, 40, .inl (upd (upd (upd (upd (upd (upd (upd (upd (fun _ => 0) 0 (0 : Int32)) 1 (1 : Int32)) 2 (2 : Int32)) 3 (3 : Int32)) 4 (4 : Int32)) 5 (4 : Int32)) 6 (4 : Int32)) 7 (4 : Int32)))), (z9 3, .inl (cA, 40, .inl (fun _ => 0)))]) rfl ?_
  refine mv_putF (ty := (.object "MarkedNames$Table")) (ws1 := [(h0, .inr (8, [.ref q1, .int 0, .ref q2, .ref q4, .ref q6, .ref q8, .null, .null])), (q1, .inl (cA, 120, .inl (fun _ => 0))), (q2, .inr (5, [.ref (z3 0), .ref (z3 1), .ref (z3 2), .ref (z3 3), .int (480 : Int32), .int (-1 : Int32)])), (z3 0, .inl (cA, 3000, .inl (fun _ => 0))), (z3 1, .inl (cA, 3000, .inl (fun _ => 0))), (z3 2, .inl (cA, 3000, .inl (fun _ => 0))), (z3 3, .inl (cA, 3000, .inl (fun _ => 0))), (q4, .inr (3, [.ref q2, .int 0])), (q6, .inr (6, [.ref q2])), (q8, .inr (7, [.ref (z9 0), .ref (z9 1), .ref (z9 2), .ref (z9 3), .int (8 : Int32), .int 0])), (z9 0, .inl (cA, 40, .inl (upd (upd (upd (upd (upd (upd (upd (upd (fun _ => 0) 0 (91758 : Int32)) 1 (92518 : Int32)) 2 (369 : Int32)) 3 (93299 : Int32)) 4 (299 : Int32)) 5 (298 : Int32)) 6 (317 : Int32)) 7 (316 : Int32)))), (z9 1, .inl (cA, 40, .inl (fun _ => 0))), (z9 2, .inl (cA, 40, .inl (upd (upd (upd (upd (upd (upd (upd (upd (fun _ => 0) 0 (0 : Int32)) 1 (1 : Int32)) 2 (2 : Int32)) 3 (3 : Int32)) 4 (4 : Int32)) 5 (4 : Int32)) 6 (4 : Int32)) 7 (4 : Int32)))), (z9 3, .inl (cA, 40, .inl (fun _ => 0)))]) C hinit iw_X8_init_X8 tyX8 tyX8_ok nmX8 0 rfl rfl 5 (by decide) lk_X8_init_39 rfl rfl rfl rfl rfl rfl (Nat.le_of_ble_eq_true rfl) rfl dX8_init_61 ?_
  refine mv_aload_n C dX8_init_64 rfl 0 rfl ?_
  refine mv_new (C0 := RX2) (T := TX2) (N := 3) (ci := 2) (fs := [.null, .int 0, .int 0]) C iw_X8_init_X2 tyX2 tyX2_ok (by decide +kernel) (by decide +kernel) (by decide +kernel) rfl (fun j hj => by rcases (show j = 0 ∨ j = 1 ∨ j = 2 by omega) with rfl | rfl | rfl <;> rfl) (by show _ ≤ 21; decide) (by show _ ≤ 12523; decide) dX8_init_65 (fun q10 => ?_)
  refine mv_ws (ws1 := [(h0, .inr (8, [.ref q1, .int 0, .ref q2, .ref q4, .ref q6, .ref q8, .null, .null])), (q1, .inl (cA, 120, .inl (fun _ => 0))), (q2, .inr (5, [.ref (z3 0), .ref (z3 1), .ref (z3 2), .ref (z3 3), .int (480 : Int32), .int (-1 : Int32)])), (z3 0, .inl (cA, 3000, .inl (fun _ => 0))), (z3 1, .inl (cA, 3000, .inl (fun _ => 0))), (z3 2, .inl (cA, 3000, .inl (fun _ => 0))), (z3 3, .inl (cA, 3000, .inl (fun _ => 0))), (q4, .inr (3, [.ref q2, .int 0])), (q6, .inr (6, [.ref q2])), (q8, .inr (7, [.ref (z9 0), .ref (z9 1), .ref (z9 2), .ref (z9 3), .int (8 : Int32), .int 0])), (z9 0, .inl (cA, 40, .inl (upd (upd (upd (upd (upd (upd (upd (upd (fun _ => 0) 0 (91758 : Int32)) 1 (92518 : Int32)) 2 (369 : Int32)) 3 (93299 : Int32)) 4 (299 : Int32)) 5 (298 : Int32)) 6 (317 : Int32)) 7 (316 : Int32)))), (z9 1, .inl (cA, 40, .inl (fun _ => 0))), (z9 2, .inl (cA, 40, .inl (upd (upd (upd (upd (upd (upd (upd (upd (fun _ => 0) 0 (0 : Int32)) 1 (1 : Int32)) 2 (2 : Int32)) 3 (3 : Int32)) 4 (4 : Int32)) 5 (4 : Int32)) 6 (4 : Int32)) 7 (4 : Int32)))), (z9 3, .inl (cA, 40, .inl (fun _ => 0))), (q10, .inr (2, [.null, .int 0, .int 0]))]) rfl ?_
  refine mv_dup C dX8_init_68 rfl ?_
  refine mv_callIN (As := []) (rest := [.ref q10, .ref h0]) (wr := [(h0, .inr (8, [.ref q1, .int 0, .ref q2, .ref q4, .ref q6, .ref q8, .null, .null])), (q1, .inl (cA, 120, .inl (fun _ => 0))), (q2, .inr (5, [.ref (z3 0), .ref (z3 1), .ref (z3 2), .ref (z3 3), .int (480 : Int32), .int (-1 : Int32)])), (z3 0, .inl (cA, 3000, .inl (fun _ => 0))), (z3 1, .inl (cA, 3000, .inl (fun _ => 0))), (z3 2, .inl (cA, 3000, .inl (fun _ => 0))), (z3 3, .inl (cA, 3000, .inl (fun _ => 0))), (q4, .inr (3, [.ref q2, .int 0])), (q6, .inr (6, [.ref q2])), (q8, .inr (7, [.ref (z9 0), .ref (z9 1), .ref (z9 2), .ref (z9 3), .int (8 : Int32), .int 0])), (z9 0, .inl (cA, 40, .inl (upd (upd (upd (upd (upd (upd (upd (upd (fun _ => 0) 0 (91758 : Int32)) 1 (92518 : Int32)) 2 (369 : Int32)) 3 (93299 : Int32)) 4 (299 : Int32)) 5 (298 : Int32)) 6 (317 : Int32)) 7 (316 : Int32)))), (z9 1, .inl (cA, 40, .inl (fun _ => 0))), (z9 2, .inl (cA, 40, .inl (upd (upd (upd (upd (upd (upd (upd (upd (fun _ => 0) 0 (0 : Int32)) 1 (1 : Int32)) 2 (2 : Int32)) 3 (3 : Int32)) 4 (4 : Int32)) 5 (4 : Int32)) 6 (4 : Int32)) 7 (4 : Int32)))), (z9 3, .inl (cA, 40, .inl (fun _ => 0)))]) C (eA_ok a) hs 14 [0, 1, 2, 3, 4, 5, 6, 7, 8, 9, 10, 11, 12, 13] rfl rfl (by decide) (by decide) (X2_init_met (l := l) (lev := lev - 1) (by omega) q10) ⟨va_cnB 0 C.2.2.2.2.1 ggX8_init_X2_init rfl rfl rfl (hs.1 _ nw_13) (C.2.2.2.2.1 _ (by decide +kernel)) (by decide +kernel) (mRc_le (by omega) (by decide)), rfl, C.2.2.2.2.1 _ (by decide +kernel)⟩ rfl rfl (Nat.le_of_ble_eq_true rfl) dX8_init_69 ⟨(by show _ ≤ 21; decide), (by show _ ≤ 12523; decide)⟩ (fun z11 hz11 => ?_)
  refine mv_ws (ws1 := [(h0, .inr (8, [.ref q1, .int 0, .ref q2, .ref q4, .ref q6, .ref q8, .null, .null])), (q1, .inl (cA, 120, .inl (fun _ => 0))), (q2, .inr (5, [.ref (z3 0), .ref (z3 1), .ref (z3 2), .ref (z3 3), .int (480 : Int32), .int (-1 : Int32)])), (z3 0, .inl (cA, 3000, .inl (fun _ => 0))), (z3 1, .inl (cA, 3000, .inl (fun _ => 0))), (z3 2, .inl (cA, 3000, .inl (fun _ => 0))), (z3 3, .inl (cA, 3000, .inl (fun _ => 0))), (q4, .inr (3, [.ref q2, .int 0])), (q6, .inr (6, [.ref q2])), (q8, .inr (7, [.ref (z9 0), .ref (z9 1), .ref (z9 2), .ref (z9 3), .int (8 : Int32), .int 0])), (z9 0, .inl (cA, 40, .inl (upd (upd (upd (upd (upd (upd (upd (upd (fun _ => 0) 0 (91758 : Int32)) 1 (92518 : Int32)) 2 (369 : Int32)) 3 (93299 : Int32)) 4 (299 : Int32)) 5 (298 : Int32)) 6 (317 : Int32)) 7 (316 : Int32)))), (z9 1, .inl (cA, 40, .inl (fun _ => 0))), (z9 2, .inl (cA, 40, .inl (upd (upd (upd (upd (upd (upd (upd (upd (fun _ => 0) 0 (0 : Int32)) 1 (1 : Int32)) 2 (2 : Int32)) 3 (3 : Int32)) 4 (4 : Int32)) 5 (4 : Int32)) 6 (4 : Int32)) 7 (4 : Int32)))), (z9 3, .inl (cA, 40, .inl (fun _ => 0))), (q10, .inr (2, [.ref (z11 0), .int 0, .int 0])), (z11 0, .inl (cA, 200, .inl (fun _ => 0)))]) rfl ?_
  refine mv_putF (ty := (.object "MarkedNames$Outcome")) (ws1 := [(h0, .inr (8, [.ref q1, .int 0, .ref q2, .ref q4, .ref q6, .ref q8, .ref q10, .null])), (q1, .inl (cA, 120, .inl (fun _ => 0))), (q2, .inr (5, [.ref (z3 0), .ref (z3 1), .ref (z3 2), .ref (z3 3), .int (480 : Int32), .int (-1 : Int32)])), (z3 0, .inl (cA, 3000, .inl (fun _ => 0))), (z3 1, .inl (cA, 3000, .inl (fun _ => 0))), (z3 2, .inl (cA, 3000, .inl (fun _ => 0))), (z3 3, .inl (cA, 3000, .inl (fun _ => 0))), (q4, .inr (3, [.ref q2, .int 0])), (q6, .inr (6, [.ref q2])), (q8, .inr (7, [.ref (z9 0), .ref (z9 1), .ref (z9 2), .ref (z9 3), .int (8 : Int32), .int 0])), (z9 0, .inl (cA, 40, .inl (upd (upd (upd (upd (upd (upd (upd (upd (fun _ => 0) 0 (91758 : Int32)) 1 (92518 : Int32)) 2 (369 : Int32)) 3 (93299 : Int32)) 4 (299 : Int32)) 5 (298 : Int32)) 6 (317 : Int32)) 7 (316 : Int32)))), (z9 1, .inl (cA, 40, .inl (fun _ => 0))), (z9 2, .inl (cA, 40, .inl (upd (upd (upd (upd (upd (upd (upd (upd (fun _ => 0) 0 (0 : Int32)) 1 (1 : Int32)) 2 (2 : Int32)) 3 (3 : Int32)) 4 (4 : Int32)) 5 (4 : Int32)) 6 (4 : Int32)) 7 (4 : Int32)))), (z9 3, .inl (cA, 40, .inl (fun _ => 0))), (q10, .inr (2, [.ref (z11 0), .int 0, .int 0])), (z11 0, .inl (cA, 200, .inl (fun _ => 0)))]) C hinit iw_X8_init_X8 tyX8 tyX8_ok nmX8 0 rfl rfl 6 (by decide) lk_X8_init_46 rfl rfl rfl rfl rfl rfl (Nat.le_of_ble_eq_true rfl) rfl dX8_init_72 ?_
  refine mv_aload_n C dX8_init_75 rfl 0 rfl ?_
  refine mv_new (C0 := RX0) (T := TX0) (N := 9) (ci := 0) (fs := [.null, .null, .null, .null, .null, .int 0, .int 0, .int 0, .int 0]) C iw_X8_init_X0 tyX0 tyX0_ok (by decide +kernel) (by decide +kernel) (by decide +kernel) rfl (fun j hj => by rcases (show j = 0 ∨ j = 1 ∨ j = 2 ∨ j = 3 ∨ j = 4 ∨ j = 5 ∨ j = 6 ∨ j = 7 ∨ j = 8 by omega) with rfl | rfl | rfl | rfl | rfl | rfl | rfl | rfl | rfl <;> rfl) (by show _ ≤ 21; decide) (by show _ ≤ 12523; decide) dX8_init_76 (fun q12 => ?_)
  refine mv_ws (ws1 := [(h0, .inr (8, [.ref q1, .int 0, .ref q2, .ref q4, .ref q6, .ref q8, .ref q10, .null])), (q1, .inl (cA, 120, .inl (fun _ => 0))), (q2, .inr (5, [.ref (z3 0), .ref (z3 1), .ref (z3 2), .ref (z3 3), .int (480 : Int32), .int (-1 : Int32)])), (z3 0, .inl (cA, 3000, .inl (fun _ => 0))), (z3 1, .inl (cA, 3000, .inl (fun _ => 0))), (z3 2, .inl (cA, 3000, .inl (fun _ => 0))), (z3 3, .inl (cA, 3000, .inl (fun _ => 0))), (q4, .inr (3, [.ref q2, .int 0])), (q6, .inr (6, [.ref q2])), (q8, .inr (7, [.ref (z9 0), .ref (z9 1), .ref (z9 2), .ref (z9 3), .int (8 : Int32), .int 0])), (z9 0, .inl (cA, 40, .inl (upd (upd (upd (upd (upd (upd (upd (upd (fun _ => 0) 0 (91758 : Int32)) 1 (92518 : Int32)) 2 (369 : Int32)) 3 (93299 : Int32)) 4 (299 : Int32)) 5 (298 : Int32)) 6 (317 : Int32)) 7 (316 : Int32)))), (z9 1, .inl (cA, 40, .inl (fun _ => 0))), (z9 2, .inl (cA, 40, .inl (upd (upd (upd (upd (upd (upd (upd (upd (fun _ => 0) 0 (0 : Int32)) 1 (1 : Int32)) 2 (2 : Int32)) 3 (3 : Int32)) 4 (4 : Int32)) 5 (4 : Int32)) 6 (4 : Int32)) 7 (4 : Int32)))), (z9 3, .inl (cA, 40, .inl (fun _ => 0))), (q10, .inr (2, [.ref (z11 0), .int 0, .int 0])), (z11 0, .inl (cA, 200, .inl (fun _ => 0))), (q12, .inr (0, [.null, .null, .null, .null, .null, .int 0, .int 0, .int 0, .int 0]))]) rfl ?_
  refine mv_dup C dX8_init_79 rfl ?_
  refine mv_aload_n C dX8_init_80 rfl 0 rfl ?_
  refine mv_get (v := .ref q2) C iw_X8_init_X8 0 rfl rfl 2 (by decide) lk_X8_init_16 rfl rfl dX8_init_81 ?_
  refine mv_aload_n C dX8_init_84 rfl 0 rfl ?_
  refine mv_get (v := .ref q6) C iw_X8_init_X8 0 rfl rfl 4 (by decide) lk_X8_init_32 rfl rfl dX8_init_85 ?_
  refine mv_aload_n C dX8_init_88 rfl 0 rfl ?_
  refine mv_get (v := .ref q8) C iw_X8_init_X8 0 rfl rfl 5 (by decide) lk_X8_init_39 rfl rfl dX8_init_89 ?_
  refine mv_aload_n C dX8_init_92 rfl 0 rfl ?_
  refine mv_get (v := .ref q10) C iw_X8_init_X8 0 rfl rfl 6 (by decide) lk_X8_init_46 rfl rfl dX8_init_93 ?_
  refine mv_callI (As := [.ref q2, .ref q6, .ref q8, .ref q10]) (rest := [.ref q12, .ref h0]) (wr := [(h0, .inr (8, [.ref q1, .int 0, .ref q2, .ref q4, .ref q6, .ref q8, .ref q10, .null])), (q1, .inl (cA, 120, .inl (fun _ => 0))), (q2, .inr (5, [.ref (z3 0), .ref (z3 1), .ref (z3 2), .ref (z3 3), .int (480 : Int32), .int (-1 : Int32)])), (z3 0, .inl (cA, 3000, .inl (fun _ => 0))), (z3 1, .inl (cA, 3000, .inl (fun _ => 0))), (z3 2, .inl (cA, 3000, .inl (fun _ => 0))), (z3 3, .inl (cA, 3000, .inl (fun _ => 0))), (q4, .inr (3, [.ref q2, .int 0])), (q6, .inr (6, [.ref q2])), (q8, .inr (7, [.ref (z9 0), .ref (z9 1), .ref (z9 2), .ref (z9 3), .int (8 : Int32), .int 0])), (z9 0, .inl (cA, 40, .inl (upd (upd (upd (upd (upd (upd (upd (upd (fun _ => 0) 0 (91758 : Int32)) 1 (92518 : Int32)) 2 (369 : Int32)) 3 (93299 : Int32)) 4 (299 : Int32)) 5 (298 : Int32)) 6 (317 : Int32)) 7 (316 : Int32)))), (z9 1, .inl (cA, 40, .inl (fun _ => 0))), (z9 2, .inl (cA, 40, .inl (upd (upd (upd (upd (upd (upd (upd (upd (fun _ => 0) 0 (0 : Int32)) 1 (1 : Int32)) 2 (2 : Int32)) 3 (3 : Int32)) 4 (4 : Int32)) 5 (4 : Int32)) 6 (4 : Int32)) 7 (4 : Int32)))), (z9 3, .inl (cA, 40, .inl (fun _ => 0))), (q10, .inr (2, [.ref (z11 0), .int 0, .int 0])), (z11 0, .inl (cA, 200, .inl (fun _ => 0)))]) C (eA_ok a) hs 16 [0, 1, 2, 3, 4, 5, 6, 7, 8, 9, 10, 11, 12, 13, 14, 15] rfl rfl (by decide) (by decide) (X0_init_met (l := l) (lev := lev - 1) (by omega) q12 q2 q6 q8 q10) (cwI 4 C.2.2.2.2.1 gX8_init_X0_init rfl rfl rfl (C.2.2.2.2.1 (.initialized RX0) (by decide +kernel)) (C.2.2.2.2.1 (.methodLink RX8 52 yX0_init) (by decide +kernel)) (C.2.2.2.2.1 (.instanceMethod yX0_init) (by decide +kernel)) rfl (by decide +kernel) (mRc_le (by omega) (by decide))) rfl rfl (Nat.le_of_ble_eq_true rfl) dX8_init_96 ⟨(by show _ ≤ 21; decide), (by show _ ≤ 12523; decide)⟩ (fun z13 hz13 => ?_)
  refine mv_ws (ws1 := [(h0, .inr (8, [.ref q1, .int 0, .ref q2, .ref q4, .ref q6, .ref q8, .ref q10, .null])), (q1, .inl (cA, 120, .inl (fun _ => 0))), (q2, .inr (5, [.ref (z3 0), .ref (z3 1), .ref (z3 2), .ref (z3 3), .int (480 : Int32), .int (-1 : Int32)])), (z3 0, .inl (cA, 3000, .inl (fun _ => 0))), (z3 1, .inl (cA, 3000, .inl (fun _ => 0))), (z3 2, .inl (cA, 3000, .inl (fun _ => 0))), (z3 3, .inl (cA, 3000, .inl (fun _ => 0))), (q4, .inr (3, [.ref q2, .int 0])), (q6, .inr (6, [.ref q2])), (q8, .inr (7, [.ref (z9 0), .ref (z9 1), .ref (z9 2), .ref (z9 3), .int (8 : Int32), .int 0])), (z9 0, .inl (cA, 40, .inl (upd (upd (upd (upd (upd (upd (upd (upd (fun _ => 0) 0 (91758 : Int32)) 1 (92518 : Int32)) 2 (369 : Int32)) 3 (93299 : Int32)) 4 (299 : Int32)) 5 (298 : Int32)) 6 (317 : Int32)) 7 (316 : Int32)))), (z9 1, .inl (cA, 40, .inl (fun _ => 0))), (z9 2, .inl (cA, 40, .inl (upd (upd (upd (upd (upd (upd (upd (upd (fun _ => 0) 0 (0 : Int32)) 1 (1 : Int32)) 2 (2 : Int32)) 3 (3 : Int32)) 4 (4 : Int32)) 5 (4 : Int32)) 6 (4 : Int32)) 7 (4 : Int32)))), (z9 3, .inl (cA, 40, .inl (fun _ => 0))), (q10, .inr (2, [.ref (z11 0), .int 0, .int 0])), (z11 0, .inl (cA, 200, .inl (fun _ => 0))), (q12, .inr (0, [.ref q2, .ref q6, .ref q8, .ref q10, .ref (z13 0), .int 0, .int 0, .int 0, .int 0])), (z13 0, .inr (1, [.ref q2, .ref q10, .ref (z13 1), .int 0, .int 0, .int 0])), (z13 1, .inr (4, [.ref (z13 2), .ref (z13 3), .ref (z13 4), .int 0])), (z13 2, .inl (cA, 2, .inl (fun _ => 0))), (z13 3, .inl (cA, 2, .inl (fun _ => 0))), (z13 4, .inl (cA, 2, .inl (fun _ => 0)))]) rfl ?_
  refine mv_putF (ty := (.object "MarkedNames$Expander")) (ws1 := [(h0, .inr (8, [.ref q1, .int 0, .ref q2, .ref q4, .ref q6, .ref q8, .ref q10, .ref q12])), (q1, .inl (cA, 120, .inl (fun _ => 0))), (q2, .inr (5, [.ref (z3 0), .ref (z3 1), .ref (z3 2), .ref (z3 3), .int (480 : Int32), .int (-1 : Int32)])), (z3 0, .inl (cA, 3000, .inl (fun _ => 0))), (z3 1, .inl (cA, 3000, .inl (fun _ => 0))), (z3 2, .inl (cA, 3000, .inl (fun _ => 0))), (z3 3, .inl (cA, 3000, .inl (fun _ => 0))), (q4, .inr (3, [.ref q2, .int 0])), (q6, .inr (6, [.ref q2])), (q8, .inr (7, [.ref (z9 0), .ref (z9 1), .ref (z9 2), .ref (z9 3), .int (8 : Int32), .int 0])), (z9 0, .inl (cA, 40, .inl (upd (upd (upd (upd (upd (upd (upd (upd (fun _ => 0) 0 (91758 : Int32)) 1 (92518 : Int32)) 2 (369 : Int32)) 3 (93299 : Int32)) 4 (299 : Int32)) 5 (298 : Int32)) 6 (317 : Int32)) 7 (316 : Int32)))), (z9 1, .inl (cA, 40, .inl (fun _ => 0))), (z9 2, .inl (cA, 40, .inl (upd (upd (upd (upd (upd (upd (upd (upd (fun _ => 0) 0 (0 : Int32)) 1 (1 : Int32)) 2 (2 : Int32)) 3 (3 : Int32)) 4 (4 : Int32)) 5 (4 : Int32)) 6 (4 : Int32)) 7 (4 : Int32)))), (z9 3, .inl (cA, 40, .inl (fun _ => 0))), (q10, .inr (2, [.ref (z11 0), .int 0, .int 0])), (z11 0, .inl (cA, 200, .inl (fun _ => 0))), (q12, .inr (0, [.ref q2, .ref q6, .ref q8, .ref q10, .ref (z13 0), .int 0, .int 0, .int 0, .int 0])), (z13 0, .inr (1, [.ref q2, .ref q10, .ref (z13 1), .int 0, .int 0, .int 0])), (z13 1, .inr (4, [.ref (z13 2), .ref (z13 3), .ref (z13 4), .int 0])), (z13 2, .inl (cA, 2, .inl (fun _ => 0))), (z13 3, .inl (cA, 2, .inl (fun _ => 0))), (z13 4, .inl (cA, 2, .inl (fun _ => 0)))]) C hinit iw_X8_init_X8 tyX8 tyX8_ok nmX8 0 rfl rfl 7 (by decide) lk_X8_init_55 rfl rfl rfl rfl rfl rfl (Nat.le_of_ble_eq_true rfl) rfl dX8_init_99 ?_
  exact mv_cret C (fun k => match k with | 0 => h0 | 1 => q1 | 2 => q2 | 3 => z3 0 | 4 => z3 1 | 5 => z3 2 | 6 => z3 3 | 7 => q4 | 8 => q6 | 9 => q8 | 10 => z9 0 | 11 => z9 1 | 12 => z9 2 | 13 => z9 3 | 14 => q10 | 15 => z11 0 | 16 => q12 | 17 => z13 0 | 18 => z13 1 | 19 => z13 2 | 20 => z13 3 | 21 => z13 4 | _ => a 22) ⟨rfl, rfl⟩ rfl dX8_init_102
set_option maxHeartbeats 4000000 in
set_option maxRecDepth 100000 in
theorem X9_init_met (hlev : 1 ≤ lev) (h0 : Nat) : mKc l yX9_init wsX9_init lev 20 13557 (eM) (dC, dI) vwCl [(cA, .int)] [(h0, .inr (9, [.null, .int 0, .null, .null, .int 0, .null, .null, .int 0, .int 0, .null, .null, .int 0, .int 0, .null, .null, .null, .null, .null, .null, .null, .int 0, .int 0, .null, .null, .null, .null, .null, .int 0, .null, .int 0, .int 0, .int 0, .int 0, .int 0, .int 0, .int 0]))] [.ref h0] (fun z => z 0 = h0) (fun z => wM cA z uM0) := by
  refine mKc_of (cc := cX9_init) (maxL := 1) (by decide) rfl rfl (Nat.le_of_ble_eq_true rfl) rfl ?_
  intro p e s m args below meth c A C hs hinit
  refine mv_aload_n C dX9_init_0 rfl 0 rfl ?_
  refine mv_objInit C (by decide +kernel) (by decide +kernel) (by decide +kernel) dX9_init_1 (by show 1 ≤ lev; omega) (by show _ ≤ 64 * lev; exact Nat.le_trans (Nat.le_of_ble_eq_true rfl : _ ≤ 64) (by omega)) ?_
  refine mv_aload_n C dX9_init_4 rfl 0 rfl ?_
  refine mv_bipush (v := (120 : Int32)) C dX9_init_5 (by decide) ?_
  refine mv_newa (N := 120) C (by decide +kernel) (by decide) (by decide) (by decide) (by show _ ≤ 20; decide) (by show _ ≤ 13557; decide) dX9_init_7 (fun q1 => ?_)
  refine mv_ws (ws1 := [(h0, .inr (9, [.null, .int 0, .null, .null, .int 0, .null, .null, .int 0, .int 0, .null, .null, .int 0, .int 0, .null, .null, .null, .null, .null, .null, .null, .int 0, .int 0, .null, .null, .null, .null, .null, .int 0, .null, .int 0, .int 0, .int 0, .int 0, .int 0, .int 0, .int 0])), (q1, .inl (cA, 120, .inl (fun _ => 0)))]) rfl ?_
  refine mv_putF (ty := (.array .int)) (ws1 := [(h0, .inr (9, [.ref q1, .int 0, .null, .null, .int 0, .null, .null, .int 0, .int 0, .null, .null, .int 0, .int 0, .null, .null, .null, .null, .null, .null, .null, .int 0, .int 0, .null, .null, .null, .null, .null, .int 0, .null, .int 0, .int 0, .int 0, .int 0, .int 0, .int 0, .int 0])), (q1, .inl (cA, 120, .inl (fun _ => 0)))]) C hinit iw_X9_init_X9 tyX9 tyX9_ok nmX9 0 rfl rfl 0 (by decide) lk_X9_init_7 rfl rfl rfl rfl rfl rfl (Nat.le_of_ble_eq_true rfl) rfl dX9_init_9 ?_
  refine mv_aload_n C dX9_init_12 rfl 0 rfl ?_
  refine mv_sipush (v := (2600 : Int32)) C dX9_init_13 (by decide) ?_
  refine mv_newa (N := 2600) C (by decide +kernel) (by decide) (by decide) (by decide) (by show _ ≤ 20; decide) (by show _ ≤ 13557; decide) dX9_init_16 (fun q2 => ?_)
  refine mv_ws (ws1 := [(h0, .inr (9, [.ref q1, .int 0, .null, .null, .int 0, .null, .null, .int 0, .int 0, .null, .null, .int 0, .int 0, .null, .null, .null, .null, .null, .null, .null, .int 0, .int 0, .null, .null, .null, .null, .null, .int 0, .null, .int 0, .int 0, .int 0, .int 0, .int 0, .int 0, .int 0])), (q1, .inl (cA, 120, .inl (fun _ => 0))), (q2, .inl (cA, 2600, .inl (fun _ => 0)))]) rfl ?_
  refine mv_putF (ty := (.array .int)) (ws1 := [(h0, .inr (9, [.ref q1, .int 0, .ref q2, .null, .int 0, .null, .null, .int 0, .int 0, .null, .null, .int 0, .int 0, .null, .null, .null, .null, .null, .null, .null, .int 0, .int 0, .null, .null, .null, .null, .null, .int 0, .null, .int 0, .int 0, .int 0, .int 0, .int 0, .int 0, .int 0])), (q1, .inl (cA, 120, .inl (fun _ => 0))), (q2, .inl (cA, 2600, .inl (fun _ => 0)))]) C hinit iw_X9_init_X9 tyX9 tyX9_ok nmX9 0 rfl rfl 2 (by decide) lk_X9_init_13 rfl rfl rfl rfl rfl rfl (Nat.le_of_ble_eq_true rfl) rfl dX9_init_18 ?_
  refine mv_aload_n C dX9_init_21 rfl 0 rfl ?_
  refine mv_sipush (v := (2600 : Int32)) C dX9_init_22 (by decide) ?_
  refine mv_newa (N := 2600) C (by decide +kernel) (by decide) (by decide) (by decide) (by show _ ≤ 20; decide) (by show _ ≤ 13557; decide) dX9_init_25 (fun q3 => ?_)
  refine mv_ws (ws1 := [(h0, .inr (9, [.ref q1, .int 0, .ref q2, .null, .int 0, .null, .null, .int 0, .int 0, .null, .null, .int 0, .int 0, .null, .null, .null, .null, .null, .null, .null, .int 0, .int 0, .null, .null, .null, .null, .null, .int 0, .null, .int 0, .int 0, .int 0, .int 0, .int 0, .int 0, .int 0])), (q1, .inl (cA, 120, .inl (fun _ => 0))), (q2, .inl (cA, 2600, .inl (fun _ => 0))), (q3, .inl (cA, 2600, .inl (fun _ => 0)))]) rfl ?_
  refine mv_putF (ty := (.array .int)) (ws1 := [(h0, .inr (9, [.ref q1, .int 0, .ref q2, .ref q3, .int 0, .null, .null, .int 0, .int 0, .null, .null, .int 0, .int 0, .null, .null, .null, .null, .null, .null, .null, .int 0, .int 0, .null, .null, .null, .null, .null, .int 0, .null, .int 0, .int 0, .int 0, .int 0, .int 0, .int 0, .int 0])), (q1, .inl (cA, 120, .inl (fun _ => 0))), (q2, .inl (cA, 2600, .inl (fun _ => 0))), (q3, .inl (cA, 2600, .inl (fun _ => 0)))]) C hinit iw_X9_init_X9 tyX9 tyX9_ok nmX9 0 rfl rfl 3 (by decide) lk_X9_init_16 rfl rfl rfl rfl rfl rfl (Nat.le_of_ble_eq_true rfl) rfl dX9_init_27 ?_
  refine mv_aload_n C dX9_init_30 rfl 0 rfl ?_
  refine mv_sipush (v := (3200 : Int32)) C dX9_init_31 (by decide) ?_
  refine mv_newa (N := 3200) C (by decide +kernel) (by decide) (by decide) (by decide) (by show _ ≤ 20; decide) (by show _ ≤ 13557; decide) dX9_init_34 (fun q4 => ?_)
  refine mv_ws (ws1 := [(h0, .inr (9, [.ref q1, .int 0, .ref q2, .ref q3, .int 0, .null, .null, .int 0, .int 0, .null, .null, .int 0, .int 0, .null, .null, .null, .null, .null, .null, .null, .int 0, .int 0, .null, .null, .null, .null, .null, .int 0, .null, .int 0, .int 0, .int 0, .int 0, .int 0, .int 0, .int 0])), (q1, .inl (cA, 120, .inl (fun _ => 0))), (q2, .inl (cA, 2600, .inl (fun _ => 0))), (q3, .inl (cA, 2600, .inl (fun _ => 0))), (q4, .inl (cA, 3200, .inl (fun _ => 0)))]) rfl ?_
  refine mv_putF (ty := (.array .int)) (ws1 := [(h0, .inr (9, [.ref q1, .int 0, .ref q2, .ref q3, .int 0, .ref q4, .null, .int 0, .int 0, .null, .null, .int 0, .int 0, .null, .null, .null, .null, .null, .null, .null, .int 0, .int 0, .null, .null, .null, .null, .null, .int 0, .null, .int 0, .int 0, .int 0, .int 0, .int 0, .int 0, .int 0])), (q1, .inl (cA, 120, .inl (fun _ => 0))), (q2, .inl (cA, 2600, .inl (fun _ => 0))), (q3, .inl (cA, 2600, .inl (fun _ => 0))), (q4, .inl (cA, 3200, .inl (fun _ => 0)))]) C hinit iw_X9_init_X9 tyX9 tyX9_ok nmX9 0 rfl rfl 5 (by decide) lk_X9_init_19 rfl rfl rfl rfl rfl rfl (Nat.le_of_ble_eq_true rfl) rfl dX9_init_36 ?_
  refine mv_aload_n C dX9_init_39 rfl 0 rfl ?_
  refine mv_sipush (v := (3200 : Int32)) C dX9_init_40 (by decide) ?_
  refine mv_newa (N := 3200) C (by decide +kernel) (by decide) (by decide) (by decide) (by show _ ≤ 20; decide) (by show _ ≤ 13557; decide) dX9_init_43 (fun q5 => ?_)
  refine mv_ws (ws1 := [(h0, .inr (9, [.ref q1, .int 0, .ref q2, .ref q3, .int 0, .ref q4, .null, .int 0, .int 0, .null, .null, .int 0, .int 0, .null, .null, .null, .null, .null, .null, .null, .int 0, .int 0, .null, .null, .null, .null, .null, .int 0, .null, .int 0, .int 0, .int 0, .int 0, .int 0, .int 0, .int 0])), (q1, .inl (cA, 120, .inl (fun _ => 0))), (q2, .inl (cA, 2600, .inl (fun _ => 0))), (q3, .inl (cA, 2600, .inl (fun _ => 0))), (q4, .inl (cA, 3200, .inl (fun _ => 0))), (q5, .inl (cA, 3200, .inl (fun _ => 0)))]) rfl ?_
  refine mv_putF (ty := (.array .int)) (ws1 := [(h0, .inr (9, [.ref q1, .int 0, .ref q2, .ref q3, .int 0, .ref q4, .ref q5, .int 0, .int 0, .null, .null, .int 0, .int 0, .null, .null, .null, .null, .null, .null, .null, .int 0, .int 0, .null, .null, .null, .null, .null, .int 0, .null, .int 0, .int 0, .int 0, .int 0, .int 0, .int 0, .int 0])), (q1, .inl (cA, 120, .inl (fun _ => 0))), (q2, .inl (cA, 2600, .inl (fun _ => 0))), (q3, .inl (cA, 2600, .inl (fun _ => 0))), (q4, .inl (cA, 3200, .inl (fun _ => 0))), (q5, .inl (cA, 3200, .inl (fun _ => 0)))]) C hinit iw_X9_init_X9 tyX9 tyX9_ok nmX9 0 rfl rfl 6 (by decide) lk_X9_init_22 rfl rfl rfl rfl rfl rfl (Nat.le_of_ble_eq_true rfl) rfl dX9_init_45 ?_
  refine mv_aload_n C dX9_init_48 rfl 0 rfl ?_
  refine mv_iconst (v := (4 : Int32)) C dX9_init_49 (by decide) ?_
  refine mv_newa (N := 4) C (by decide +kernel) (by decide) (by decide) (by decide) (by show _ ≤ 20; decide) (by show _ ≤ 13557; decide) dX9_init_50 (fun q6 => ?_)
  refine mv_ws (ws1 := [(h0, .inr (9, [.ref q1, .int 0, .ref q2, .ref q3, .int 0, .ref q4, .ref q5, .int 0, .int 0, .null, .null, .int 0, .int 0, .null, .null, .null, .null, .null, .null, .null, .int 0, .int 0, .null, .null, .null, .null, .null, .int 0, .null, .int 0, .int 0, .int 0, .int 0, .int 0, .int 0, .int 0])), (q1, .inl (cA, 120, .inl (fun _ => 0))), (q2, .inl (cA, 2600, .inl (fun _ => 0))), (q3, .inl (cA, 2600, .inl (fun _ => 0))), (q4, .inl (cA, 3200, .inl (fun _ => 0))), (q5, .inl (cA, 3200, .inl (fun _ => 0))), (q6, .inl (cA, 4, .inl (fun _ => 0)))]) rfl ?_
  refine mv_putF (ty := (.array .int)) (ws1 := [(h0, .inr (9, [.ref q1, .int 0, .ref q2, .ref q3, .int 0, .ref q4, .ref q5, .int 0, .int 0, .ref q6, .null, .int 0, .int 0, .null, .null, .null, .null, .null, .null, .null, .int 0, .int 0, .null, .null, .null, .null, .null, .int 0, .null, .int 0, .int 0, .int 0, .int 0, .int 0, .int 0, .int 0])), (q1, .inl (cA, 120, .inl (fun _ => 0))), (q2, .inl (cA, 2600, .inl (fun _ => 0))), (q3, .inl (cA, 2600, .inl (fun _ => 0))), (q4, .inl (cA, 3200, .inl (fun _ => 0))), (q5, .inl (cA, 3200, .inl (fun _ => 0))), (q6, .inl (cA, 4, .inl (fun _ => 0)))]) C hinit iw_X9_init_X9 tyX9 tyX9_ok nmX9 0 rfl rfl 9 (by decide) lk_X9_init_25 rfl rfl rfl rfl rfl rfl (Nat.le_of_ble_eq_true rfl) rfl dX9_init_52 ?_
  refine mv_aload_n C dX9_init_55 rfl 0 rfl ?_
  refine mv_iconst (v := (4 : Int32)) C dX9_init_56 (by decide) ?_
  refine mv_newa (N := 4) C (by decide +kernel) (by decide) (by decide) (by decide) (by show _ ≤ 20; decide) (by show _ ≤ 13557; decide) dX9_init_57 (fun q7 => ?_)
  refine mv_ws (ws1 := [(h0, .inr (9, [.ref q1, .int 0, .ref q2, .ref q3, .int 0, .ref q4, .ref q5, .int 0, .int 0, .ref q6, .null, .int 0, .int 0, .null, .null, .null, .null, .null, .null, .null, .int 0, .int 0, .null, .null, .null, .null, .null, .int 0, .null, .int 0, .int 0, .int 0, .int 0, .int 0, .int 0, .int 0])), (q1, .inl (cA, 120, .inl (fun _ => 0))), (q2, .inl (cA, 2600, .inl (fun _ => 0))), (q3, .inl (cA, 2600, .inl (fun _ => 0))), (q4, .inl (cA, 3200, .inl (fun _ => 0))), (q5, .inl (cA, 3200, .inl (fun _ => 0))), (q6, .inl (cA, 4, .inl (fun _ => 0))), (q7, .inl (cA, 4, .inl (fun _ => 0)))]) rfl ?_
  refine mv_putF (ty := (.array .int)) (ws1 := [(h0, .inr (9, [.ref q1, .int 0, .ref q2, .ref q3, .int 0, .ref q4, .ref q5, .int 0, .int 0, .ref q6, .ref q7, .int 0, .int 0, .null, .null, .null, .null, .null, .null, .null, .int 0, .int 0, .null, .null, .null, .null, .null, .int 0, .null, .int 0, .int 0, .int 0, .int 0, .int 0, .int 0, .int 0])), (q1, .inl (cA, 120, .inl (fun _ => 0))), (q2, .inl (cA, 2600, .inl (fun _ => 0))), (q3, .inl (cA, 2600, .inl (fun _ => 0))), (q4, .inl (cA, 3200, .inl (fun _ => 0))), (q5, .inl (cA, 3200, .inl (fun _ => 0))), (q6, .inl (cA, 4, .inl (fun _ => 0))), (q7, .inl (cA, 4, .inl (fun _ => 0)))]) C hinit iw_X9_init_X9 tyX9 tyX9_ok nmX9 0 rfl rfl 10 (by decide) lk_X9_init_28 rfl rfl rfl rfl rfl rfl (Nat.le_of_ble_eq_true rfl) rfl dX9_init_59 ?_
  refine mv_aload_n C dX9_init_62 rfl 0 rfl ?_
  refine mv_bipush (v := (40 : Int32)) C dX9_init_63 (by decide) ?_
  refine mv_newa (N := 40) C (by decide +kernel) (by decide) (by decide) (by decide) (by show _ ≤ 20; decide) (by show _ ≤ 13557; decide) dX9_init_65 (fun q8 => ?_)
  refine mv_ws (ws1 := [(h0, .inr (9, [.ref q1, .int 0, .ref q2, .ref q3, .int 0, .ref q4, .ref q5, .int 0, .int 0, .ref q6, .ref q7, .int 0, .int 0, .null, .null, .null, .null, .null, .null, .null, .int 0, .int 0, .null, .null, .null, .null, .null, .int 0, .null, .int 0, .int 0, .int 0, .int 0, .int 0, .int 0, .int 0])), (q1, .inl (cA, 120, .inl (fun _ => 0))), (q2, .inl (cA, 2600, .inl (fun _ => 0))), (q3, .inl (cA, 2600, .inl (fun _ => 0))), (q4, .inl (cA, 3200, .inl (fun _ => 0))), (q5, .inl (cA, 3200, .inl (fun _ => 0))), (q6, .inl (cA, 4, .inl (fun _ => 0))), (q7, .inl (cA, 4, .inl (fun _ => 0))), (q8, .inl (cA, 40, .inl (fun _ => 0)))]) rfl ?_
  refine mv_putF (ty := (.array .int)) (ws1 := [(h0, .inr (9, [.ref q1, .int 0, .ref q2, .ref q3, .int 0, .ref q4, .ref q5, .int 0, .int 0, .ref q6, .ref q7, .int 0, .int 0, .ref q8, .null, .null, .null, .null, .null, .null, .int 0, .int 0, .null, .null, .null, .null, .null, .int 0, .null, .int 0, .int 0, .int 0, .int 0, .int 0, .int 0, .int 0])), (q1, .inl (cA, 120, .inl (fun _ => 0))), (q2, .inl (cA, 2600, .inl (fun _ => 0))), (q3, .inl (cA, 2600, .inl (fun _ => 0))), (q4, .inl (cA, 3200, .inl (fun _ => 0))), (q5, .inl (cA, 3200, .inl (fun _ => 0))), (q6, .inl (cA, 4, .inl (fun _ => 0))), (q7, .inl (cA, 4, .inl (fun _ => 0))), (q8, .inl (cA, 40, .inl (fun _ => 0)))]) C hinit iw_X9_init_X9 tyX9 tyX9_ok nmX9 0 rfl rfl 13 (by decide) lk_X9_init_31 rfl rfl rfl rfl rfl rfl (Nat.le_of_ble_eq_true rfl) rfl dX9_init_67 ?_
  refine mv_aload_n C dX9_init_70 rfl 0 rfl ?_
  refine mv_bipush (v := (40 : Int32)) C dX9_init_71 (by decide) ?_
  refine mv_newa (N := 40) C (by decide +kernel) (by decide) (by decide) (by decide) (by show _ ≤ 20; decide) (by show _ ≤ 13557; decide) dX9_init_73 (fun q9 => ?_)
  refine mv_ws (ws1 := [(h0, .inr (9, [.ref q1, .int 0, .ref q2, .ref q3, .int 0, .ref q4, .ref q5, .int 0, .int 0, .ref q6, .ref q7, .int 0, .int 0, .ref q8, .null, .null, .null, .null, .null, .null, .int 0, .int 0, .null, .null, .null, .null, .null, .int 0, .null, .int 0, .int 0, .int 0, .int 0, .int 0, .int 0, .int 0])), (q1, .inl (cA, 120, .inl (fun _ => 0))), (q2, .inl (cA, 2600, .inl (fun _ => 0))), (q3, .inl (cA, 2600, .inl (fun _ => 0))), (q4, .inl (cA, 3200, .inl (fun _ => 0))), (q5, .inl (cA, 3200, .inl (fun _ => 0))), (q6, .inl (cA, 4, .inl (fun _ => 0))), (q7, .inl (cA, 4, .inl (fun _ => 0))), (q8, .inl (cA, 40, .inl (fun _ => 0))), (q9, .inl (cA, 40, .inl (fun _ => 0)))]) rfl ?_
  refine mv_putF (ty := (.array .int)) (ws1 := [(h0, .inr (9, [.ref q1, .int 0, .ref q2, .ref q3, .int 0, .ref q4, .ref q5, .int 0, .int 0, .ref q6, .ref q7, .int 0, .int 0, .ref q8, .ref q9, .null, .null, .null, .null, .null, .int 0, .int 0, .null, .null, .null, .null, .null, .int 0, .null, .int 0, .int 0, .int 0, .int 0, .int 0, .int 0, .int 0])), (q1, .inl (cA, 120, .inl (fun _ => 0))), (q2, .inl (cA, 2600, .inl (fun _ => 0))), (q3, .inl (cA, 2600, .inl (fun _ => 0))), (q4, .inl (cA, 3200, .inl (fun _ => 0))), (q5, .inl (cA, 3200, .inl (fun _ => 0))), (q6, .inl (cA, 4, .inl (fun _ => 0))), (q7, .inl (cA, 4, .inl (fun _ => 0))), (q8, .inl (cA, 40, .inl (fun _ => 0))), (q9, .inl (cA, 40, .inl (fun _ => 0)))]) C hinit iw_X9_init_X9 tyX9 tyX9_ok nmX9 0 rfl rfl 14 (by decide) lk_X9_init_34 rfl rfl rfl rfl rfl rfl (Nat.le_of_ble_eq_true rfl) rfl dX9_init_75 ?_
  refine mv_aload_n C dX9_init_78 rfl 0 rfl ?_
  refine mv_bipush (v := (40 : Int32)) C dX9_init_79 (by decide) ?_
  refine mv_newa (N := 40) C (by decide +kernel) (by decide) (by decide) (by decide) (by show _ ≤ 20; decide) (by show _ ≤ 13557; decide) dX9_init_81 (fun q10 => ?_)
  refine mv_ws (ws1 := [(h0, .inr (9, [.ref q1, .int 0, .ref q2, .ref q3, .int 0, .ref q4, .ref q5, .int 0, .int 0, .ref q6, .ref q7, .int 0, .int 0, .ref q8, .ref q9, .null, .null, .null, .null, .null, .int 0, .int 0, .null, .null, .null, .null, .null, .int 0, .null, .int 0, .int 0, .int 0, .int 0, .int 0, .int 0, .int 0])), (q1, .inl (cA, 120, .inl (fun _ => 0))), (q2, .inl (cA, 2600, .inl (fun _ => 0))), (q3, .inl (cA, 2600, .inl (fun _ => 0))), (q4, .inl (cA, 3200, .inl (fun _ => 0))), (q5, .inl (cA, 3200, .inl (fun _ => 0))), (q6, .inl (cA, 4, .inl (fun _ => 0))), (q7, .inl (cA, 4, .inl (fun _ => 0))), (q8, .inl (cA, 40, .inl (fun _ => 0))), (q9, .inl (cA, 40, .inl (fun _ => 0))), (q10, .inl (cA, 40, .inl (fun _ => 0)))]) rfl ?_
  refine mv_putF (ty := (.array .int)) (ws1 := [(h0, .inr (9, [.ref q1, .int 0, .ref q2, .ref q3, .int 0, .ref q4, .ref q5, .int 0, .int 0, .ref q6, .ref q7, .int 0, .int 0, .ref q8, .ref q9, .ref q10, .null, .null, .null, .null, .int 0, .int 0, .null, .null, .null, .null, .null, .int 0, .null, .int 0, .int 0, .int 0, .int 0, .int 0, .int 0, .int 0])), (q1, .inl (cA, 120, .inl (fun _ => 0))), (q2, .inl (cA, 2600, .inl (fun _ => 0))), (q3, .inl (cA, 2600, .inl (fun _ => 0))), (q4, .inl (cA, 3200, .inl (fun _ => 0))), (q5, .inl (cA, 3200, .inl (fun _ => 0))), (q6, .inl (cA, 4, .inl (fun _ => 0))), (q7, .inl (cA, 4, .inl (fun _ => 0))), (q8, .inl (cA, 40, .inl (fun _ => 0))), (q9, .inl (cA, 40, .inl (fun _ => 0))), (q10, .inl (cA, 40, .inl (fun _ => 0)))]) C hinit iw_X9_init_X9 tyX9 tyX9_ok nmX9 0 rfl rfl 15 (by decide) lk_X9_init_37 rfl rfl rfl rfl rfl rfl (Nat.le_of_ble_eq_true rfl) rfl dX9_init_83 ?_
  refine mv_aload_n C dX9_init_86 rfl 0 rfl ?_
  refine mv_bipush (v := (40 : Int32)) C dX9_init_87 (by decide) ?_
  refine mv_newa (N := 40) C (by decide +kernel) (by decide) (by decide) (by decide) (by show _ ≤ 20; decide) (by show _ ≤ 13557; decide) dX9_init_89 (fun q11 => ?_)
  refine mv_ws (ws1 := [(h0, .inr (9, [.ref q1, .int 0, .ref q2, .ref q3, .int 0, .ref q4, .ref q5, .int 0, .int 0, .ref q6, .ref q7, .int 0, .int 0, .ref q8, .ref q9, .ref q10, .null, .null, .null, .null, .int 0, .int 0, .null, .null, .null, .null, .null, .int 0, .null, .int 0, .int 0, .int 0, .int 0, .int 0, .int 0, .int 0])), (q1, .inl (cA, 120, .inl (fun _ => 0))), (q2, .inl (cA, 2600, .inl (fun _ => 0))), (q3, .inl (cA, 2600, .inl (fun _ => 0))), (q4, .inl (cA, 3200, .inl (fun _ => 0))), (q5, .inl (cA, 3200, .inl (fun _ => 0))), (q6, .inl (cA, 4, .inl (fun _ => 0))), (q7, .inl (cA, 4, .inl (fun _ => 0))), (q8, .inl (cA, 40, .inl (fun _ => 0))), (q9, .inl (cA, 40, .inl (fun _ => 0))), (q10, .inl (cA, 40, .inl (fun _ => 0))), (q11, .inl (cA, 40, .inl (fun _ => 0)))]) rfl ?_
  refine mv_putF (ty := (.array .int)) (ws1 := [(h0, .inr (9, [.ref q1, .int 0, .ref q2, .ref q3, .int 0, .ref q4, .ref q5, .int 0, .int 0, .ref q6, .ref q7, .int 0, .int 0, .ref q8, .ref q9, .ref q10, .ref q11, .null, .null, .null, .int 0, .int 0, .null, .null, .null, .null, .null, .int 0, .null, .int 0, .int 0, .int 0, .int 0, .int 0, .int 0, .int 0])), (q1, .inl (cA, 120, .inl (fun _ => 0))), (q2, .inl (cA, 2600, .inl (fun _ => 0))), (q3, .inl (cA, 2600, .inl (fun _ => 0))), (q4, .inl (cA, 3200, .inl (fun _ => 0))), (q5, .inl (cA, 3200, .inl (fun _ => 0))), (q6, .inl (cA, 4, .inl (fun _ => 0))), (q7, .inl (cA, 4, .inl (fun _ => 0))), (q8, .inl (cA, 40, .inl (fun _ => 0))), (q9, .inl (cA, 40, .inl (fun _ => 0))), (q10, .inl (cA, 40, .inl (fun _ => 0))), (q11, .inl (cA, 40, .inl (fun _ => 0)))]) C hinit iw_X9_init_X9 tyX9 tyX9_ok nmX9 0 rfl rfl 16 (by decide) lk_X9_init_40 rfl rfl rfl rfl rfl rfl (Nat.le_of_ble_eq_true rfl) rfl dX9_init_91 ?_
  refine mv_aload_n C dX9_init_94 rfl 0 rfl ?_
  refine mv_bipush (v := (40 : Int32)) C dX9_init_95 (by decide) ?_
  refine mv_newa (N := 40) C (by decide +kernel) (by decide) (by decide) (by decide) (by show _ ≤ 20; decide) (by show _ ≤ 13557; decide) dX9_init_97 (fun q12 => ?_)
  refine mv_ws (ws1 := [(h0, .inr (9, [.ref q1, .int 0, .ref q2, .ref q3, .int 0, .ref q4, .ref q5, .int 0, .int 0, .ref q6, .ref q7, .int 0, .int 0, .ref q8, .ref q9, .ref q10, .ref q11, .null, .null, .null, .int 0, .int 0, .null, .null, .null, .null, .null, .int 0, .null, .int 0, .int 0, .int 0, .int 0, .int 0, .int 0, .int 0])), (q1, .inl (cA, 120, .inl (fun _ => 0))), (q2, .inl (cA, 2600, .inl (fun _ => 0))), (q3, .inl (cA, 2600, .inl (fun _ => 0))), (q4, .inl (cA, 3200, .inl (fun _ => 0))), (q5, .inl (cA, 3200, .inl (fun _ => 0))), (q6, .inl (cA, 4, .inl (fun _ => 0))), (q7, .inl (cA, 4, .inl (fun _ => 0))), (q8, .inl (cA, 40, .inl (fun _ => 0))), (q9, .inl (cA, 40, .inl (fun _ => 0))), (q10, .inl (cA, 40, .inl (fun _ => 0))), (q11, .inl (cA, 40, .inl (fun _ => 0))), (q12, .inl (cA, 40, .inl (fun _ => 0)))]) rfl ?_
  refine mv_putF (ty := (.array .int)) (ws1 := [(h0, .inr (9, [.ref q1, .int 0, .ref q2, .ref q3, .int 0, .ref q4, .ref q5, .int 0, .int 0, .ref q6, .ref q7, .int 0, .int 0, .ref q8, .ref q9, .ref q10, .ref q11, .ref q12, .null, .null, .int 0, .int 0, .null, .null, .null, .null, .null, .int 0, .null, .int 0, .int 0, .int 0, .int 0, .int 0, .int 0, .int 0])), (q1, .inl (cA, 120, .inl (fun _ => 0))), (q2, .inl (cA, 2600, .inl (fun _ => 0))), (q3, .inl (cA, 2600, .inl (fun _ => 0))), (q4, .inl (cA, 3200, .inl (fun _ => 0))), (q5, .inl (cA, 3200, .inl (fun _ => 0))), (q6, .inl (cA, 4, .inl (fun _ => 0))), (q7, .inl (cA, 4, .inl (fun _ => 0))), (q8, .inl (cA, 40, .inl (fun _ => 0))), (q9, .inl (cA, 40, .inl (fun _ => 0))), (q10, .inl (cA, 40, .inl (fun _ => 0))), (q11, .inl (cA, 40, .inl (fun _ => 0))), (q12, .inl (cA, 40, .inl (fun _ => 0)))]) C hinit iw_X9_init_X9 tyX9 tyX9_ok nmX9 0 rfl rfl 17 (by decide) lk_X9_init_43 rfl rfl rfl rfl rfl rfl (Nat.le_of_ble_eq_true rfl) rfl dX9_init_99 ?_
  refine mv_aload_n C dX9_init_102 rfl 0 rfl ?_
  refine mv_sipush (v := (310 : Int32)) C dX9_init_103 (by decide) ?_
  refine mv_newa (N := 310) C (by decide +kernel) (by decide) (by decide) (by decide) (by show _ ≤ 20; decide) (by show _ ≤ 13557; decide) dX9_init_106 (fun q13 => ?_)
  refine mv_ws (ws1 := [(h0, .inr (9, [.ref q1, .int 0, .ref q2, .ref q3, .int 0, .ref q4, .ref q5, .int 0, .int 0, .ref q6, .ref q7, .int 0, .int 0, .ref q8, .ref q9, .ref q10, .ref q11, .ref q12, .null, .null, .int 0, .int 0, .null, .null, .null, .null, .null, .int 0, .null, .int 0, .int 0, .int 0, .int 0, .int 0, .int 0, .int 0])), (q1, .inl (cA, 120, .inl (fun _ => 0))), (q2, .inl (cA, 2600, .inl (fun _ => 0))), (q3, .inl (cA, 2600, .inl (fun _ => 0))), (q4, .inl (cA, 3200, .inl (fun _ => 0))), (q5, .inl (cA, 3200, .inl (fun _ => 0))), (q6, .inl (cA, 4, .inl (fun _ => 0))), (q7, .inl (cA, 4, .inl (fun _ => 0))), (q8, .inl (cA, 40, .inl (fun _ => 0))), (q9, .inl (cA, 40, .inl (fun _ => 0))), (q10, .inl (cA, 40, .inl (fun _ => 0))), (q11, .inl (cA, 40, .inl (fun _ => 0))), (q12, .inl (cA, 40, .inl (fun _ => 0))), (q13, .inl (cA, 310, .inl (fun _ => 0)))]) rfl ?_
  refine mv_putF (ty := (.array .int)) (ws1 := [(h0, .inr (9, [.ref q1, .int 0, .ref q2, .ref q3, .int 0, .ref q4, .ref q5, .int 0, .int 0, .ref q6, .ref q7, .int 0, .int 0, .ref q8, .ref q9, .ref q10, .ref q11, .ref q12, .ref q13, .null, .int 0, .int 0, .null, .null, .null, .null, .null, .int 0, .null, .int 0, .int 0, .int 0, .int 0, .int 0, .int 0, .int 0])), (q1, .inl (cA, 120, .inl (fun _ => 0))), (q2, .inl (cA, 2600, .inl (fun _ => 0))), (q3, .inl (cA, 2600, .inl (fun _ => 0))), (q4, .inl (cA, 3200, .inl (fun _ => 0))), (q5, .inl (cA, 3200, .inl (fun _ => 0))), (q6, .inl (cA, 4, .inl (fun _ => 0))), (q7, .inl (cA, 4, .inl (fun _ => 0))), (q8, .inl (cA, 40, .inl (fun _ => 0))), (q9, .inl (cA, 40, .inl (fun _ => 0))), (q10, .inl (cA, 40, .inl (fun _ => 0))), (q11, .inl (cA, 40, .inl (fun _ => 0))), (q12, .inl (cA, 40, .inl (fun _ => 0))), (q13, .inl (cA, 310, .inl (fun _ => 0)))]) C hinit iw_X9_init_X9 tyX9 tyX9_ok nmX9 0 rfl rfl 18 (by decide) lk_X9_init_46 rfl rfl rfl rfl rfl rfl (Nat.le_of_ble_eq_true rfl) rfl dX9_init_108 ?_
  refine mv_aload_n C dX9_init_111 rfl 0 rfl ?_
  refine mv_sipush (v := (310 : Int32)) C dX9_init_112 (by decide) ?_
  refine mv_newa (N := 310) C (by decide +kernel) (by decide) (by decide) (by decide) (by show _ ≤ 20; decide) (by show _ ≤ 13557; decide) dX9_init_115 (fun q14 => ?_)
  refine mv_ws (ws1 := [(h0, .inr (9, [.ref q1, .int 0, .ref q2, .ref q3, .int 0, .ref q4, .ref q5, .int 0, .int 0, .ref q6, .ref q7, .int 0, .int 0, .ref q8, .ref q9, .ref q10, .ref q11, .ref q12, .ref q13, .null, .int 0, .int 0, .null, .null, .null, .null, .null, .int 0, .null, .int 0, .int 0, .int 0, .int 0, .int 0, .int 0, .int 0])), (q1, .inl (cA, 120, .inl (fun _ => 0))), (q2, .inl (cA, 2600, .inl (fun _ => 0))), (q3, .inl (cA, 2600, .inl (fun _ => 0))), (q4, .inl (cA, 3200, .inl (fun _ => 0))), (q5, .inl (cA, 3200, .inl (fun _ => 0))), (q6, .inl (cA, 4, .inl (fun _ => 0))), (q7, .inl (cA, 4, .inl (fun _ => 0))), (q8, .inl (cA, 40, .inl (fun _ => 0))), (q9, .inl (cA, 40, .inl (fun _ => 0))), (q10, .inl (cA, 40, .inl (fun _ => 0))), (q11, .inl (cA, 40, .inl (fun _ => 0))), (q12, .inl (cA, 40, .inl (fun _ => 0))), (q13, .inl (cA, 310, .inl (fun _ => 0))), (q14, .inl (cA, 310, .inl (fun _ => 0)))]) rfl ?_
  refine mv_putF (ty := (.array .int)) (ws1 := [(h0, .inr (9, [.ref q1, .int 0, .ref q2, .ref q3, .int 0, .ref q4, .ref q5, .int 0, .int 0, .ref q6, .ref q7, .int 0, .int 0, .ref q8, .ref q9, .ref q10, .ref q11, .ref q12, .ref q13, .ref q14, .int 0, .int 0, .null, .null, .null, .null, .null, .int 0, .null, .int 0, .int 0, .int 0, .int 0, .int 0, .int 0, .int 0])), (q1, .inl (cA, 120, .inl (fun _ => 0))), (q2, .inl (cA, 2600, .inl (fun _ => 0))), (q3, .inl (cA, 2600, .inl (fun _ => 0))), (q4, .inl (cA, 3200, .inl (fun _ => 0))), (q5, .inl (cA, 3200, .inl (fun _ => 0))), (q6, .inl (cA, 4, .inl (fun _ => 0))), (q7, .inl (cA, 4, .inl (fun _ => 0))), (q8, .inl (cA, 40, .inl (fun _ => 0))), (q9, .inl (cA, 40, .inl (fun _ => 0))), (q10, .inl (cA, 40, .inl (fun _ => 0))), (q11, .inl (cA, 40, .inl (fun _ => 0))), (q12, .inl (cA, 40, .inl (fun _ => 0))), (q13, .inl (cA, 310, .inl (fun _ => 0))), (q14, .inl (cA, 310, .inl (fun _ => 0)))]) C hinit iw_X9_init_X9 tyX9 tyX9_ok nmX9 0 rfl rfl 19 (by decide) lk_X9_init_49 rfl rfl rfl rfl rfl rfl (Nat.le_of_ble_eq_true rfl) rfl dX9_init_117 ?_
  refine mv_aload_n C dX9_init_120 rfl 0 rfl ?_
  refine mv_sipush (v := (400 : Int32)) C dX9_init_121 (by decide) ?_
  refine mv_newa (N := 400) C (by decide +kernel) (by decide) (by decide) (by decide) (by show _ ≤ 20; decide) (by show _ ≤ 13557; decide) dX9_init_124 (fun q15 => ?_)
  refine mv_ws (ws1 := [(h0, .inr (9, [.ref q1, .int 0, .ref q2, .ref q3, .int 0, .ref q4, .ref q5, .int 0, .int 0, .ref q6, .ref q7, .int 0, .int 0, .ref q8, .ref q9, .ref q10, .ref q11, .ref q12, .ref q13, .ref q14, .int 0, .int 0, .null, .null, .null, .null, .null, .int 0, .null, .int 0, .int 0, .int 0, .int 0, .int 0, .int 0, .int 0])), (q1, .inl (cA, 120, .inl (fun _ => 0))), (q2, .inl (cA, 2600, .inl (fun _ => 0))), (q3, .inl (cA, 2600, .inl (fun _ => 0))), (q4, .inl (cA, 3200, .inl (fun _ => 0))), (q5, .inl (cA, 3200, .inl (fun _ => 0))), (q6, .inl (cA, 4, .inl (fun _ => 0))), (q7, .inl (cA, 4, .inl (fun _ => 0))), (q8, .inl (cA, 40, .inl (fun _ => 0))), (q9, .inl (cA, 40, .inl (fun _ => 0))), (q10, .inl (cA, 40, .inl (fun _ => 0))), (q11, .inl (cA, 40, .inl (fun _ => 0))), (q12, .inl (cA, 40, .inl (fun _ => 0))), (q13, .inl (cA, 310, .inl (fun _ => 0))), (q14, .inl (cA, 310, .inl (fun _ => 0))), (q15, .inl (cA, 400, .inl (fun _ => 0)))]) rfl ?_
  refine mv_putF (ty := (.array .int)) (ws1 := [(h0, .inr (9, [.ref q1, .int 0, .ref q2, .ref q3, .int 0, .ref q4, .ref q5, .int 0, .int 0, .ref q6, .ref q7, .int 0, .int 0, .ref q8, .ref q9, .ref q10, .ref q11, .ref q12, .ref q13, .ref q14, .int 0, .int 0, .ref q15, .null, .null, .null, .null, .int 0, .null, .int 0, .int 0, .int 0, .int 0, .int 0, .int 0, .int 0])), (q1, .inl (cA, 120, .inl (fun _ => 0))), (q2, .inl (cA, 2600, .inl (fun _ => 0))), (q3, .inl (cA, 2600, .inl (fun _ => 0))), (q4, .inl (cA, 3200, .inl (fun _ => 0))), (q5, .inl (cA, 3200, .inl (fun _ => 0))), (q6, .inl (cA, 4, .inl (fun _ => 0))), (q7, .inl (cA, 4, .inl (fun _ => 0))), (q8, .inl (cA, 40, .inl (fun _ => 0))), (q9, .inl (cA, 40, .inl (fun _ => 0))), (q10, .inl (cA, 40, .inl (fun _ => 0))), (q11, .inl (cA, 40, .inl (fun _ => 0))), (q12, .inl (cA, 40, .inl (fun _ => 0))), (q13, .inl (cA, 310, .inl (fun _ => 0))), (q14, .inl (cA, 310, .inl (fun _ => 0))), (q15, .inl (cA, 400, .inl (fun _ => 0)))]) C hinit iw_X9_init_X9 tyX9 tyX9_ok nmX9 0 rfl rfl 22 (by decide) lk_X9_init_52 rfl rfl rfl rfl rfl rfl (Nat.le_of_ble_eq_true rfl) rfl dX9_init_126 ?_
  refine mv_aload_n C dX9_init_129 rfl 0 rfl ?_
  refine mv_sipush (v := (400 : Int32)) C dX9_init_130 (by decide) ?_
  refine mv_newa (N := 400) C (by decide +kernel) (by decide) (by decide) (by decide) (by show _ ≤ 20; decide) (by show _ ≤ 13557; decide) dX9_init_133 (fun q16 => ?_)
  refine mv_ws (ws1 := [(h0, .inr (9, [.ref q1, .int 0, .ref q2, .ref q3, .int 0, .ref q4, .ref q5, .int 0, .int 0, .ref q6, .ref q7, .int 0, .int 0, .ref q8, .ref q9, .ref q10, .ref q11, .ref q12, .ref q13, .ref q14, .int 0, .int 0, .ref q15, .null, .null, .null, .null, .int 0, .null, .int 0, .int 0, .int 0, .int 0, .int 0, .int 0, .int 0])), (q1, .inl (cA, 120, .inl (fun _ => 0))), (q2, .inl (cA, 2600, .inl (fun _ => 0))), (q3, .inl (cA, 2600, .inl (fun _ => 0))), (q4, .inl (cA, 3200, .inl (fun _ => 0))), (q5, .inl (cA, 3200, .inl (fun _ => 0))), (q6, .inl (cA, 4, .inl (fun _ => 0))), (q7, .inl (cA, 4, .inl (fun _ => 0))), (q8, .inl (cA, 40, .inl (fun _ => 0))), (q9, .inl (cA, 40, .inl (fun _ => 0))), (q10, .inl (cA, 40, .inl (fun _ => 0))), (q11, .inl (cA, 40, .inl (fun _ => 0))), (q12, .inl (cA, 40, .inl (fun _ => 0))), (q13, .inl (cA, 310, .inl (fun _ => 0))), (q14, .inl (cA, 310, .inl (fun _ => 0))), (q15, .inl (cA, 400, .inl (fun _ => 0))), (q16, .inl (cA, 400, .inl (fun _ => 0)))]) rfl ?_
  refine mv_putF (ty := (.array .int)) (ws1 := [(h0, .inr (9, [.ref q1, .int 0, .ref q2, .ref q3, .int 0, .ref q4, .ref q5, .int 0, .int 0, .ref q6, .ref q7, .int 0, .int 0, .ref q8, .ref q9, .ref q10, .ref q11, .ref q12, .ref q13, .ref q14, .int 0, .int 0, .ref q15, .ref q16, .null, .null, .null, .int 0, .null, .int 0, .int 0, .int 0, .int 0, .int 0, .int 0, .int 0])), (q1, .inl (cA, 120, .inl (fun _ => 0))), (q2, .inl (cA, 2600, .inl (fun _ => 0))), (q3, .inl (cA, 2600, .inl (fun _ => 0))), (q4, .inl (cA, 3200, .inl (fun _ => 0))), (q5, .inl (cA, 3200, .inl (fun _ => 0))), (q6, .inl (cA, 4, .inl (fun _ => 0))), (q7, .inl (cA, 4, .inl (fun _ => 0))), (q8, .inl (cA, 40, .inl (fun _ => 0))), (q9, .inl (cA, 40, .inl (fun _ => 0))), (q10, .inl (cA, 40, .inl (fun _ => 0))), (q11, .inl (cA, 40, .inl (fun _ => 0))), (q12, .inl (cA, 40, .inl (fun _ => 0))), (q13, .inl (cA, 310, .inl (fun _ => 0))), (q14, .inl (cA, 310, .inl (fun _ => 0))), (q15, .inl (cA, 400, .inl (fun _ => 0))), (q16, .inl (cA, 400, .inl (fun _ => 0)))]) C hinit iw_X9_init_X9 tyX9 tyX9_ok nmX9 0 rfl rfl 23 (by decide) lk_X9_init_55 rfl rfl rfl rfl rfl rfl (Nat.le_of_ble_eq_true rfl) rfl dX9_init_135 ?_
  refine mv_aload_n C dX9_init_138 rfl 0 rfl ?_
  refine mv_iconst (v := (3 : Int32)) C dX9_init_139 (by decide) ?_
  refine mv_newa (N := 3) C (by decide +kernel) (by decide) (by decide) (by decide) (by show _ ≤ 20; decide) (by show _ ≤ 13557; decide) dX9_init_140 (fun q17 => ?_)
  refine mv_ws (ws1 := [(h0, .inr (9, [.ref q1, .int 0, .ref q2, .ref q3, .int 0, .ref q4, .ref q5, .int 0, .int 0, .ref q6, .ref q7, .int 0, .int 0, .ref q8, .ref q9, .ref q10, .ref q11, .ref q12, .ref q13, .ref q14, .int 0, .int 0, .ref q15, .ref q16, .null, .null, .null, .int 0, .null, .int 0, .int 0, .int 0, .int 0, .int 0, .int 0, .int 0])), (q1, .inl (cA, 120, .inl (fun _ => 0))), (q2, .inl (cA, 2600, .inl (fun _ => 0))), (q3, .inl (cA, 2600, .inl (fun _ => 0))), (q4, .inl (cA, 3200, .inl (fun _ => 0))), (q5, .inl (cA, 3200, .inl (fun _ => 0))), (q6, .inl (cA, 4, .inl (fun _ => 0))), (q7, .inl (cA, 4, .inl (fun _ => 0))), (q8, .inl (cA, 40, .inl (fun _ => 0))), (q9, .inl (cA, 40, .inl (fun _ => 0))), (q10, .inl (cA, 40, .inl (fun _ => 0))), (q11, .inl (cA, 40, .inl (fun _ => 0))), (q12, .inl (cA, 40, .inl (fun _ => 0))), (q13, .inl (cA, 310, .inl (fun _ => 0))), (q14, .inl (cA, 310, .inl (fun _ => 0))), (q15, .inl (cA, 400, .inl (fun _ => 0))), (q16, .inl (cA, 400, .inl (fun _ => 0))), (q17, .inl (cA, 3, .inl (fun _ => 0)))]) rfl ?_
  refine mv_putF (ty := (.array .int)) (ws1 := [(h0, .inr (9, [.ref q1, .int 0, .ref q2, .ref q3, .int 0, .ref q4, .ref q5, .int 0, .int 0, .ref q6, .ref q7, .int 0, .int 0, .ref q8, .ref q9, .ref q10, .ref q11, .ref q12, .ref q13, .ref q14, .int 0, .int 0, .ref q15, .ref q16, .ref q17, .null, .null, .int 0, .null, .int 0, .int 0, .int 0, .int 0, .int 0, .int 0, .int 0])), (q1, .inl (cA, 120, .inl (fun _ => 0))), (q2, .inl (cA, 2600, .inl (fun _ => 0))), (q3, .inl (cA, 2600, .inl (fun _ => 0))), (q4, .inl (cA, 3200, .inl (fun _ => 0))), (q5, .inl (cA, 3200, .inl (fun _ => 0))), (q6, .inl (cA, 4, .inl (fun _ => 0))), (q7, .inl (cA, 4, .inl (fun _ => 0))), (q8, .inl (cA, 40, .inl (fun _ => 0))), (q9, .inl (cA, 40, .inl (fun _ => 0))), (q10, .inl (cA, 40, .inl (fun _ => 0))), (q11, .inl (cA, 40, .inl (fun _ => 0))), (q12, .inl (cA, 40, .inl (fun _ => 0))), (q13, .inl (cA, 310, .inl (fun _ => 0))), (q14, .inl (cA, 310, .inl (fun _ => 0))), (q15, .inl (cA, 400, .inl (fun _ => 0))), (q16, .inl (cA, 400, .inl (fun _ => 0))), (q17, .inl (cA, 3, .inl (fun _ => 0)))]) C hinit iw_X9_init_X9 tyX9 tyX9_ok nmX9 0 rfl rfl 24 (by decide) lk_X9_init_58 rfl rfl rfl rfl rfl rfl (Nat.le_of_ble_eq_true rfl) rfl dX9_init_142 ?_
  refine mv_aload_n C dX9_init_145 rfl 0 rfl ?_
  refine mv_iconst (v := (3 : Int32)) C dX9_init_146 (by decide) ?_
  refine mv_newa (N := 3) C (by decide +kernel) (by decide) (by decide) (by decide) (by show _ ≤ 20; decide) (by show _ ≤ 13557; decide) dX9_init_147 (fun q18 => ?_)
  refine mv_ws (ws1 := [(h0, .inr (9, [.ref q1, .int 0, .ref q2, .ref q3, .int 0, .ref q4, .ref q5, .int 0, .int 0, .ref q6, .ref q7, .int 0, .int 0, .ref q8, .ref q9, .ref q10, .ref q11, .ref q12, .ref q13, .ref q14, .int 0, .int 0, .ref q15, .ref q16, .ref q17, .null, .null, .int 0, .null, .int 0, .int 0, .int 0, .int 0, .int 0, .int 0, .int 0])), (q1, .inl (cA, 120, .inl (fun _ => 0))), (q2, .inl (cA, 2600, .inl (fun _ => 0))), (q3, .inl (cA, 2600, .inl (fun _ => 0))), (q4, .inl (cA, 3200, .inl (fun _ => 0))), (q5, .inl (cA, 3200, .inl (fun _ => 0))), (q6, .inl (cA, 4, .inl (fun _ => 0))), (q7, .inl (cA, 4, .inl (fun _ => 0))), (q8, .inl (cA, 40, .inl (fun _ => 0))), (q9, .inl (cA, 40, .inl (fun _ => 0))), (q10, .inl (cA, 40, .inl (fun _ => 0))), (q11, .inl (cA, 40, .inl (fun _ => 0))), (q12, .inl (cA, 40, .inl (fun _ => 0))), (q13, .inl (cA, 310, .inl (fun _ => 0))), (q14, .inl (cA, 310, .inl (fun _ => 0))), (q15, .inl (cA, 400, .inl (fun _ => 0))), (q16, .inl (cA, 400, .inl (fun _ => 0))), (q17, .inl (cA, 3, .inl (fun _ => 0))), (q18, .inl (cA, 3, .inl (fun _ => 0)))]) rfl ?_
  refine mv_putF (ty := (.array .int)) (ws1 := [(h0, .inr (9, [.ref q1, .int 0, .ref q2, .ref q3, .int 0, .ref q4, .ref q5, .int 0, .int 0, .ref q6, .ref q7, .int 0, .int 0, .ref q8, .ref q9, .ref q10, .ref q11, .ref q12, .ref q13, .ref q14, .int 0, .int 0, .ref q15, .ref q16, .ref q17, .ref q18, .null, .int 0, .null, .int 0, .int 0, .int 0, .int 0, .int 0, .int 0, .int 0])), (q1, .inl (cA, 120, .inl (fun _ => 0))), (q2, .inl (cA, 2600, .inl (fun _ => 0))), (q3, .inl (cA, 2600, .inl (fun _ => 0))), (q4, .inl (cA, 3200, .inl (fun _ => 0))), (q5, .inl (cA, 3200, .inl (fun _ => 0))), (q6, .inl (cA, 4, .inl (fun _ => 0))), (q7, .inl (cA, 4, .inl (fun _ => 0))), (q8, .inl (cA, 40, .inl (fun _ => 0))), (q9, .inl (cA, 40, .inl (fun _ => 0))), (q10, .inl (cA, 40, .inl (fun _ => 0))), (q11, .inl (cA, 40, .inl (fun _ => 0))), (q12, .inl (cA, 40, .inl (fun _ => 0))), (q13, .inl (cA, 310, .inl (fun _ => 0))), (q14, .inl (cA, 310, .inl (fun _ => 0))), (q15, .inl (cA, 400, .inl (fun _ => 0))), (q16, .inl (cA, 400, .inl (fun _ => 0))), (q17, .inl (cA, 3, .inl (fun _ => 0))), (q18, .inl (cA, 3, .inl (fun _ => 0)))]) C hinit iw_X9_init_X9 tyX9 tyX9_ok nmX9 0 rfl rfl 25 (by decide) lk_X9_init_61 rfl rfl rfl rfl rfl rfl (Nat.le_of_ble_eq_true rfl) rfl dX9_init_149 ?_
  refine mv_aload_n C dX9_init_152 rfl 0 rfl ?_
  refine mv_iconst (v := (3 : Int32)) C dX9_init_153 (by decide) ?_
  refine mv_newa (N := 3) C (by decide +kernel) (by decide) (by decide) (by decide) (by show _ ≤ 20; decide) (by show _ ≤ 13557; decide) dX9_init_154 (fun q19 => ?_)
  refine mv_ws (ws1 := [(h0, .inr (9, [.ref q1, .int 0, .ref q2, .ref q3, .int 0, .ref q4, .ref q5, .int 0, .int 0, .ref q6, .ref q7, .int 0, .int 0, .ref q8, .ref q9, .ref q10, .ref q11, .ref q12, .ref q13, .ref q14, .int 0, .int 0, .ref q15, .ref q16, .ref q17, .ref q18, .null, .int 0, .null, .int 0, .int 0, .int 0, .int 0, .int 0, .int 0, .int 0])), (q1, .inl (cA, 120, .inl (fun _ => 0))), (q2, .inl (cA, 2600, .inl (fun _ => 0))), (q3, .inl (cA, 2600, .inl (fun _ => 0))), (q4, .inl (cA, 3200, .inl (fun _ => 0))), (q5, .inl (cA, 3200, .inl (fun _ => 0))), (q6, .inl (cA, 4, .inl (fun _ => 0))), (q7, .inl (cA, 4, .inl (fun _ => 0))), (q8, .inl (cA, 40, .inl (fun _ => 0))), (q9, .inl (cA, 40, .inl (fun _ => 0))), (q10, .inl (cA, 40, .inl (fun _ => 0))), (q11, .inl (cA, 40, .inl (fun _ => 0))), (q12, .inl (cA, 40, .inl (fun _ => 0))), (q13, .inl (cA, 310, .inl (fun _ => 0))), (q14, .inl (cA, 310, .inl (fun _ => 0))), (q15, .inl (cA, 400, .inl (fun _ => 0))), (q16, .inl (cA, 400, .inl (fun _ => 0))), (q17, .inl (cA, 3, .inl (fun _ => 0))), (q18, .inl (cA, 3, .inl (fun _ => 0))), (q19, .inl (cA, 3, .inl (fun _ => 0)))]) rfl ?_
  refine mv_putF (ty := (.array .int)) (ws1 := [(h0, .inr (9, [.ref q1, .int 0, .ref q2, .ref q3, .int 0, .ref q4, .ref q5, .int 0, .int 0, .ref q6, .ref q7, .int 0, .int 0, .ref q8, .ref q9, .ref q10, .ref q11, .ref q12, .ref q13, .ref q14, .int 0, .int 0, .ref q15, .ref q16, .ref q17, .ref q18, .ref q19, .int 0, .null, .int 0, .int 0, .int 0, .int 0, .int 0, .int 0, .int 0])), (q1, .inl (cA, 120, .inl (fun _ => 0))), (q2, .inl (cA, 2600, .inl (fun _ => 0))), (q3, .inl (cA, 2600, .inl (fun _ => 0))), (q4, .inl (cA, 3200, .inl (fun _ => 0))), (q5, .inl (cA, 3200, .inl (fun _ => 0))), (q6, .inl (cA, 4, .inl (fun _ => 0))), (q7, .inl (cA, 4, .inl (fun _ => 0))), (q8, .inl (cA, 40, .inl (fun _ => 0))), (q9, .inl (cA, 40, .inl (fun _ => 0))), (q10, .inl (cA, 40, .inl (fun _ => 0))), (q11, .inl (cA, 40, .inl (fun _ => 0))), (q12, .inl (cA, 40, .inl (fun _ => 0))), (q13, .inl (cA, 310, .inl (fun _ => 0))), (q14, .inl (cA, 310, .inl (fun _ => 0))), (q15, .inl (cA, 400, .inl (fun _ => 0))), (q16, .inl (cA, 400, .inl (fun _ => 0))), (q17, .inl (cA, 3, .inl (fun _ => 0))), (q18, .inl (cA, 3, .inl (fun _ => 0))), (q19, .inl (cA, 3, .inl (fun _ => 0)))]) C hinit iw_X9_init_X9 tyX9 tyX9_ok nmX9 0 rfl rfl 26 (by decide) lk_X9_init_64 rfl rfl rfl rfl rfl rfl (Nat.le_of_ble_eq_true rfl) rfl dX9_init_156 ?_
  refine mv_aload_n C dX9_init_159 rfl 0 rfl ?_
  refine mv_sipush (v := (200 : Int32)) C dX9_init_160 (by decide) ?_
  refine mv_newa (N := 200) C (by decide +kernel) (by decide) (by decide) (by decide) (by show _ ≤ 20; decide) (by show _ ≤ 13557; decide) dX9_init_163 (fun q20 => ?_)
  refine mv_ws (ws1 := [(h0, .inr (9, [.ref q1, .int 0, .ref q2, .ref q3, .int 0, .ref q4, .ref q5, .int 0, .int 0, .ref q6, .ref q7, .int 0, .int 0, .ref q8, .ref q9, .ref q10, .ref q11, .ref q12, .ref q13, .ref q14, .int 0, .int 0, .ref q15, .ref q16, .ref q17, .ref q18, .ref q19, .int 0, .null, .int 0, .int 0, .int 0, .int 0, .int 0, .int 0, .int 0])), (q1, .inl (cA, 120, .inl (fun _ => 0))), (q2, .inl (cA, 2600, .inl (fun _ => 0))), (q3, .inl (cA, 2600, .inl (fun _ => 0))), (q4, .inl (cA, 3200, .inl (fun _ => 0))), (q5, .inl (cA, 3200, .inl (fun _ => 0))), (q6, .inl (cA, 4, .inl (fun _ => 0))), (q7, .inl (cA, 4, .inl (fun _ => 0))), (q8, .inl (cA, 40, .inl (fun _ => 0))), (q9, .inl (cA, 40, .inl (fun _ => 0))), (q10, .inl (cA, 40, .inl (fun _ => 0))), (q11, .inl (cA, 40, .inl (fun _ => 0))), (q12, .inl (cA, 40, .inl (fun _ => 0))), (q13, .inl (cA, 310, .inl (fun _ => 0))), (q14, .inl (cA, 310, .inl (fun _ => 0))), (q15, .inl (cA, 400, .inl (fun _ => 0))), (q16, .inl (cA, 400, .inl (fun _ => 0))), (q17, .inl (cA, 3, .inl (fun _ => 0))), (q18, .inl (cA, 3, .inl (fun _ => 0))), (q19, .inl (cA, 3, .inl (fun _ => 0))), (q20, .inl (cA, 200, .inl (fun _ => 0)))]) rfl ?_
  refine mv_putF (ty := (.array .int)) (ws1 := [(h0, .inr (9, [.ref q1, .int 0, .ref q2, .ref q3, .int 0, .ref q4, .ref q5, .int 0, .int 0, .ref q6, .ref q7, .int 0, .int 0, .ref q8, .ref q9, .ref q10, .ref q11, .ref q12, .ref q13, .ref q14, .int 0, .int 0, .ref q15, .ref q16, .ref q17, .ref q18, .ref q19, .int 0, .ref q20, .int 0, .int 0, .int 0, .int 0, .int 0, .int 0, .int 0])), (q1, .inl (cA, 120, .inl (fun _ => 0))), (q2, .inl (cA, 2600, .inl (fun _ => 0))), (q3, .inl (cA, 2600, .inl (fun _ => 0))), (q4, .inl (cA, 3200, .inl (fun _ => 0))), (q5, .inl (cA, 3200, .inl (fun _ => 0))), (q6, .inl (cA, 4, .inl (fun _ => 0))), (q7, .inl (cA, 4, .inl (fun _ => 0))), (q8, .inl (cA, 40, .inl (fun _ => 0))), (q9, .inl (cA, 40, .inl (fun _ => 0))), (q10, .inl (cA, 40, .inl (fun _ => 0))), (q11, .inl (cA, 40, .inl (fun _ => 0))), (q12, .inl (cA, 40, .inl (fun _ => 0))), (q13, .inl (cA, 310, .inl (fun _ => 0))), (q14, .inl (cA, 310, .inl (fun _ => 0))), (q15, .inl (cA, 400, .inl (fun _ => 0))), (q16, .inl (cA, 400, .inl (fun _ => 0))), (q17, .inl (cA, 3, .inl (fun _ => 0))), (q18, .inl (cA, 3, .inl (fun _ => 0))), (q19, .inl (cA, 3, .inl (fun _ => 0))), (q20, .inl (cA, 200, .inl (fun _ => 0)))]) C hinit iw_X9_init_X9 tyX9 tyX9_ok nmX9 0 rfl rfl 28 (by decide) lk_X9_init_67 rfl rfl rfl rfl rfl rfl (Nat.le_of_ble_eq_true rfl) rfl dX9_init_165 ?_
  exact mv_cret C (fun k => match k with | 0 => h0 | 1 => q1 | 2 => q2 | 3 => q3 | 4 => q4 | 5 => q5 | 6 => q6 | 7 => q7 | 8 => q8 | 9 => q9 | 10 => q10 | 11 => q11 | 12 => q12 | 13 => q13 | 14 => q14 | 15 => q15 | 16 => q16 | 17 => q17 | 18 => q18 | 19 => q19 | 20 => q20 | _ => 0) rfl rfl dX9_init_168
end
end
section
theorem mem_r {big : List Cond} (ws : List Cond) (ps : List Nat) (hp : ws = ps.filterMap (fun i => big[i]?)) : ∀ w ∈ ws, w ∈ big := by
  intro w hw
  rw [hp] at hw
  obtain ⟨i, -, hi⟩ := List.mem_filterMap.mp hw
  exact List.mem_of_getElem? hi
theorem app_in {a b big : List Cond} (ha : ∀ w ∈ a, w ∈ big) (hb : ∀ w ∈ b, w ∈ big) : ∀ w ∈ a ++ b, w ∈ big := fun w h => (List.mem_append.mp h).elim (ha w) (hb w)
set_option maxRecDepth 100000 in
theorem li_wsL_law_r1 : ∀ w ∈ wsL_law_r1, w ∈ lw_tbl := mem_r _ [94, 95, 81, 711, 712, 91, 96, 97, 98, 99, 100, 101, 128, 286, 102, 103, 82, 288, 129, 130, 83, 289, 142, 143] (by decide +kernel)
set_option maxRecDepth 100000 in
theorem li_wsL_law_r2 : ∀ w ∈ wsL_law_r2, w ∈ lw_tbl := mem_r _ [84, 290, 152, 153, 85, 291, 183, 184, 87, 292, 203, 204, 88, 293, 105, 106, 107, 108, 109, 110, 111, 112, 114, 131] (by decide +kernel)
set_option maxRecDepth 100000 in
theorem li_wsL_law_r3 : ∀ w ∈ wsL_law_r3, w ∈ lw_tbl := mem_r _ [132, 133, 134, 135, 144, 145, 146, 147, 148, 154, 155, 156, 157, 163, 164, 165, 166, 160, 161, 86, 162, 167, 186, 187] (by decide +kernel)
set_option maxRecDepth 100000 in
theorem li_wsL_law_r4 : ∀ w ∈ wsL_law_r4, w ∈ lw_tbl := mem_r _ [188, 189, 205, 206, 207, 208, 254, 255, 256, 257, 209, 210, 89, 258, 211, 212, 213, 214, 215, 216, 90, 237, 235, 236] (by decide +kernel)
set_option maxRecDepth 100000 in
theorem li_wsL_law_r5 : ∀ w ∈ wsL_law_r5, w ∈ lw_tbl := mem_r _ [218, 219, 220, 221, 222, 223, 713, 714, 715, 716, 717, 719, 720, 722, 723, 726, 727, 730, 731, 732, 733, 734, 735, 736] (by decide +kernel)
set_option maxRecDepth 100000 in
theorem li_wsL_law_r6 : ∀ w ∈ wsL_law_r6, w ∈ lw_tbl := mem_r _ [739, 740, 741, 742, 743, 745, 311, 312, 313, 314, 287, 315, 317, 0, 318, 826, 827, 828, 829, 718, 319, 320, 321, 322] (by decide +kernel)
set_option maxRecDepth 100000 in
theorem li_wsL_law_r7 : ∀ w ∈ wsL_law_r7, w ∈ lw_tbl := mem_r _ [323, 325, 1, 326, 327, 328, 329, 330, 136, 335, 336, 331, 332, 333, 334, 337, 339, 2, 340, 341, 343, 3, 344, 345] (by decide +kernel)
set_option maxRecDepth 100000 in
theorem li_wsL_law_r8 : ∀ w ∈ wsL_law_r8, w ∈ lw_tbl := mem_r _ [346, 347, 348, 350, 4, 351, 352, 353, 354, 355, 356, 358, 5, 359, 360, 362, 6, 363, 364, 366, 7, 367, 368, 370] (by decide +kernel)
set_option maxRecDepth 100000 in
theorem li_wsL_law_r9 : ∀ w ∈ wsL_law_r9, w ∈ lw_tbl := mem_r _ [8, 371, 372, 374, 9, 375, 376, 377, 378, 379, 380, 381, 382, 383, 384, 385, 386, 387, 388, 389, 390, 391, 392, 393] (by decide +kernel)
set_option maxRecDepth 100000 in
theorem li_wsL_law_r10 : ∀ w ∈ wsL_law_r10, w ∈ lw_tbl := mem_r _ [394, 395, 396, 397, 399, 400, 401, 403, 10, 404, 405, 406, 407, 408, 409, 411, 11, 412, 413, 414, 415, 416, 418, 419] (by decide +kernel)
set_option maxRecDepth 100000 in
theorem li_wsL_law_r11 : ∀ w ∈ wsL_law_r11, w ∈ lw_tbl := mem_r _ [420, 421, 422, 423, 424, 425, 426, 427, 428, 430, 12, 431, 432, 433, 434, 435, 436, 438, 13, 439, 440, 441, 442, 443] (by decide +kernel)
set_option maxRecDepth 100000 in
theorem li_wsL_law_r12 : ∀ w ∈ wsL_law_r12, w ∈ lw_tbl := mem_r _ [444, 445, 446, 447, 448, 449, 450, 451, 452, 168, 453, 454, 455, 456, 458, 460, 459, 92, 457, 461, 462, 463, 464, 465] (by decide +kernel)
set_option maxRecDepth 100000 in
theorem li_wsL_law_r13 : ∀ w ∈ wsL_law_r13, w ∈ lw_tbl := mem_r _ [466, 467, 468, 469, 470, 471, 472, 473, 474, 475, 830, 831, 832, 833, 721, 864, 725, 834, 836, 36, 837, 860, 838, 840] (by decide +kernel)
set_option maxRecDepth 100000 in
theorem li_wsL_law_r14 : ∀ w ∈ wsL_law_r14, w ∈ lw_tbl := mem_r _ [37, 841, 842, 844, 38, 845, 846, 847, 848, 849, 851, 39, 852, 853, 854, 855, 856, 858, 40, 859, 861, 862, 863, 865] (by decide +kernel)
set_option maxRecDepth 100000 in
theorem li_wsL_law_r15 : ∀ w ∈ wsL_law_r15, w ∈ lw_tbl := mem_r _ [866, 867, 868, 869, 870, 871, 872, 873, 874, 875, 876, 877, 879, 41, 880, 881, 883, 42, 884, 885, 886, 887, 888, 889] (by decide +kernel)
set_option maxRecDepth 100000 in
theorem li_wsL_law_r16 : ∀ w ∈ wsL_law_r16, w ∈ lw_tbl := mem_r _ [890, 891, 893, 43, 894, 895, 897, 44, 898, 899, 901, 45, 902, 903, 905, 46, 906, 907, 909, 47, 910, 911, 912, 913] (by decide +kernel)
set_option maxRecDepth 100000 in
theorem li_wsL_law_r17 : ∀ w ∈ wsL_law_r17, w ∈ lw_tbl := mem_r _ [914, 915, 916, 476, 477, 478, 479, 480, 481, 482, 483, 190, 192, 484, 485, 486, 487, 259, 261, 263, 265, 488, 489, 490] (by decide +kernel)
set_option maxRecDepth 100000 in
theorem li_wsL_law_r18 : ∀ w ∈ wsL_law_r18, w ∈ lw_tbl := mem_r _ [491, 492, 493, 494, 496, 14, 693, 695, 35, 696, 503, 505, 15, 506, 507, 508, 509, 510, 511, 512, 513, 514, 515, 516] (by decide +kernel)
set_option maxRecDepth 100000 in
theorem li_wsL_law_r19 : ∀ w ∈ wsL_law_r19, w ∈ lw_tbl := mem_r _ [93, 517, 518, 519, 520, 521, 523, 16, 524, 498, 499, 500, 501, 525, 526, 527, 528, 568, 569, 570, 571, 572, 564, 565] (by decide +kernel)
set_option maxRecDepth 100000 in
theorem li_wsL_law_r20 : ∀ w ∈ wsL_law_r20, w ∈ lw_tbl := mem_r _ [566, 611, 612, 613, 614, 573, 574, 575, 576, 577, 578, 579, 580, 604, 605, 698, 618, 539, 541, 19, 542, 543, 544, 545] (by decide +kernel)
set_option maxRecDepth 100000 in
theorem li_wsL_law_r21 : ∀ w ∈ wsL_law_r21, w ∈ lw_tbl := mem_r _ [546, 619, 620, 621, 622, 623, 624, 626, 28, 627, 639, 628, 630, 29, 631, 632, 633, 634, 635, 636, 637, 224, 638, 640] (by decide +kernel)
set_option maxRecDepth 100000 in
theorem li_wsL_law_r22 : ∀ w ∈ wsL_law_r22, w ∈ lw_tbl := mem_r _ [641, 642, 643, 644, 645, 647, 30, 648, 649, 650, 651, 652, 653, 654, 655, 656, 657, 659, 660, 661, 662, 238, 239, 240] (by decide +kernel)
set_option maxRecDepth 100000 in
theorem li_wsL_law_r23 : ∀ w ∈ wsL_law_r23, w ∈ lw_tbl := mem_r _ [663, 664, 665, 666, 667, 669, 31, 670, 681, 671, 672, 674, 32, 675, 676, 677, 678, 679, 680, 682, 684, 33, 685, 687] (by decide +kernel)
set_option maxRecDepth 100000 in
theorem li_wsL_law_r24 : ∀ w ∈ wsL_law_r24, w ∈ lw_tbl := mem_r _ [688, 581, 692, 548, 563, 533, 532, 534, 535, 537, 18, 538, 549, 551, 20, 552, 553, 554, 556, 21, 557, 558, 559, 561] (by decide +kernel)
set_option maxRecDepth 100000 in
theorem li_wsL_law_r25 : ∀ w ∈ wsL_law_r25, w ∈ lw_tbl := mem_r _ [22, 562, 567, 585, 586, 497, 529, 531, 17, 582, 584, 23, 587, 589, 24, 590, 591, 592, 593, 594, 595, 596, 597, 599] (by decide +kernel)
set_option maxRecDepth 100000 in
theorem li_wsL_law_r26 : ∀ w ∈ wsL_law_r26, w ∈ lw_tbl := mem_r _ [25, 600, 602, 606, 608, 26, 615, 617, 27, 689, 691, 34, 609, 610, 917, 918, 919, 920, 746, 747, 748, 749, 750, 751] (by decide +kernel)
set_option maxRecDepth 100000 in
theorem li_wsL_law_r27 : ∀ w ∈ wsL_law_r27, w ∈ lw_tbl := mem_r _ [752, 724, 921, 923, 48, 924, 728, 933, 934, 935, 936, 729, 925, 927, 49, 928, 929, 931, 50, 932, 937, 939, 51, 940] (by decide +kernel)
set_option maxRecDepth 100000 in
theorem li_wsL_law_r28 : ∀ w ∈ wsL_law_r28, w ∈ lw_tbl := mem_r _ [941, 943, 52, 944, 945, 947, 53, 948, 949, 951, 54, 952, 953, 955, 55, 956, 957, 959, 56, 960, 961, 963, 57, 964] (by decide +kernel)
set_option maxRecDepth 100000 in
theorem li_wsL_law_r29 : ∀ w ∈ wsL_law_r29, w ∈ lw_tbl := mem_r _ [965, 967, 58, 968, 969, 971, 59, 972, 973, 975, 60, 976, 977, 979, 61, 980, 981, 983, 62, 984, 985, 987, 63, 988] (by decide +kernel)
set_option maxRecDepth 100000 in
theorem li_wsL_law_r30 : ∀ w ∈ wsL_law_r30, w ∈ lw_tbl := mem_r _ [989, 991, 64, 992, 993, 995, 65, 996, 997, 998, 1000, 66, 1001, 1002, 1004, 67, 1005, 737, 1006, 1008, 68, 1009, 1010, 1012] (by decide +kernel)
set_option maxRecDepth 100000 in
theorem li_wsL_law_r31 : ∀ w ∈ wsL_law_r31, w ∈ lw_tbl := mem_r _ [69, 1013, 1014, 1016, 70, 1017, 1018, 1020, 71, 1021, 738, 744, 1022, 1024, 72, 1025, 1026, 1028, 73, 1029, 1030, 1032, 74, 1033] (by decide +kernel)
set_option maxRecDepth 100000 in
theorem li_wsL_law_r32 : ∀ w ∈ wsL_law_r32, w ∈ lw_tbl := mem_r _ [1034, 1036, 75, 1037, 1038, 1040, 76, 1041, 1042, 1044, 77, 1045, 1046, 1048, 78, 1049, 1050, 1052, 79, 1053, 699, 700, 701, 702] (by decide +kernel)
set_option maxRecDepth 100000 in
theorem li_wsL_law_r33 : ∀ w ∈ wsL_law_r33, w ∈ lw_tbl := mem_r _ [703, 704, 705, 706, 1054, 1055, 1056, 1057, 707, 708, 709, 710, 1058, 1059, 1060, 1061] (by decide +kernel)
set_option maxRecDepth 100000 in
theorem li_wsX80 : ∀ w ∈ wsX80, w ∈ lw_tbl := mem_r _ [294, 296, 298, 300, 302, 304, 306, 308] (by decide +kernel)
set_option maxRecDepth 100000 in
theorem li_wsX90 : ∀ w ∈ wsX90, w ∈ lw_tbl := mem_r _ [753, 755, 757, 759, 761, 763, 765, 767, 769, 771, 773, 775, 777, 779, 781, 783, 785, 787, 789, 791, 793, 795, 797, 799, 801, 803, 805, 807, 809, 811, 813, 815, 817, 819, 821, 823] (by decide +kernel)
set_option maxRecDepth 100000 in
theorem li_wsX50 : ∀ w ∈ wsX50, w ∈ lw_tbl := mem_r _ [115, 117, 119, 121, 123, 125] (by decide +kernel)
set_option maxRecDepth 100000 in
theorem li_wsX30 : ∀ w ∈ wsX30, w ∈ lw_tbl := mem_r _ [137, 139] (by decide +kernel)
set_option maxRecDepth 100000 in
theorem li_wsX60 : ∀ w ∈ wsX60, w ∈ lw_tbl := mem_r _ [149] (by decide +kernel)
set_option maxRecDepth 100000 in
theorem li_wsX70 : ∀ w ∈ wsX70, w ∈ lw_tbl := mem_r _ [170, 172, 174, 176, 178, 180] (by decide +kernel)
set_option maxRecDepth 100000 in
theorem li_wsX20 : ∀ w ∈ wsX20, w ∈ lw_tbl := mem_r _ [196, 198, 200] (by decide +kernel)
set_option maxRecDepth 100000 in
theorem li_wsX00 : ∀ w ∈ wsX00, w ∈ lw_tbl := mem_r _ [267, 269, 271, 273, 275, 277, 279, 281, 283] (by decide +kernel)
set_option maxRecDepth 100000 in
theorem li_wsX10 : ∀ w ∈ wsX10, w ∈ lw_tbl := mem_r _ [241, 243, 245, 247, 249, 251] (by decide +kernel)
set_option maxRecDepth 100000 in
theorem li_wsX40 : ∀ w ∈ wsX40, w ∈ lw_tbl := mem_r _ [226, 228, 230, 232] (by decide +kernel)
theorem wsL_law_in : ∀ w ∈ wsL_law, w ∈ lw_tbl := (app_in (app_in (app_in (app_in (app_in (app_in (app_in (app_in (app_in (app_in (app_in (app_in li_wsL_law_r1 (app_in li_wsL_law_r2 (app_in li_wsL_law_r3 (app_in li_wsL_law_r4 (app_in li_wsL_law_r5 (app_in li_wsL_law_r6 (app_in li_wsL_law_r7 (app_in li_wsL_law_r8 (app_in li_wsL_law_r9 (app_in li_wsL_law_r10 (app_in li_wsL_law_r11 (app_in li_wsL_law_r12 (app_in li_wsL_law_r13 (app_in li_wsL_law_r14 (app_in li_wsL_law_r15 (app_in li_wsL_law_r16 (app_in li_wsL_law_r17 (app_in li_wsL_law_r18 (app_in li_wsL_law_r19 (app_in li_wsL_law_r20 (app_in li_wsL_law_r21 (app_in li_wsL_law_r22 (app_in li_wsL_law_r23 (app_in li_wsL_law_r24 (app_in li_wsL_law_r25 (app_in li_wsL_law_r26 (app_in li_wsL_law_r27 (app_in li_wsL_law_r28 (app_in li_wsL_law_r29 (app_in li_wsL_law_r30 (app_in li_wsL_law_r31 (app_in li_wsL_law_r32 li_wsL_law_r33)))))))))))))))))))))))))))))))) li_wsX80) li_wsX90) li_wsX50) li_wsX30) li_wsX60) li_wsX70) li_wsX20) li_wsX00) li_wsX10) li_wsX40) (fun _ h => absurd h List.not_mem_nil))
end
section
-- rows of the law
section ML
variable {p : Program} {l : Launch} {e : Env} {R : Room} {s : State} {m : MethodId} {args : Array Value} {below : List Frame} {meth : Method} {c : Code} {cells slots : Nat} {Q : State → Prop}
variable {cc : ByteArray} {nL : Nat} {Ts : List Cond} {own : String} {ret0 : Option FieldType} {D : va_G} {cl : List vw_C} {tys : List (ClassId × FieldType)} {A : Nat → Prop} {ws : va_W} {pc : Nat} {lv : List (Nat × Value)} {st : List Value}
theorem mv_sld (C : mC p s m args meth c cc nL Ts own ret0 D cl tys A) {b L : Nat} {xs : Nat → Int32} (hX : va_X b L xs s s.heap) (hbl : b < s.heap.size) (hbA : ¬ A b) {i : Int32} (hin : vp_in i L) (hd : decode cc pc = .ok (.iaload, 1)) (kk : mV p l e R s m args below meth c nL D cl A cells slots Q ws (pc + 1) lv (.int (xs i.toNatClampNeg) :: st)) : mV p l e R s m args below meth c nL D cl A cells slots Q ws pc lv (.int i :: .ref b :: st) := fun H locs ls hP hD hS hl => va_sld C.1 C.2.1 hX hbl hbA hS hin hd (kk H locs ls hP hD hS hl)
theorem mv_slen (C : mC p s m args meth c cc nL Ts own ret0 D cl tys A) {b L : Nat} {xs : Nat → Int32} (hX : va_X b L xs s s.heap) (hbl : b < s.heap.size) (hbA : ¬ A b) (hd : decode cc pc = .ok (.arraylength, 1)) (kk : mV p l e R s m args below meth c nL D cl A cells slots Q ws (pc + 1) lv (.int (nI L) :: st)) : mV p l e R s m args below meth c nL D cl A cells slots Q ws pc lv (.ref b :: st) := fun H locs ls hP hD hS hl => va_slen C.1 C.2.1 hX hbl hbA hS hd (kk H locs ls hP hD hS hl)
theorem mv_callVs (C : mC p s m args meth c cc nL Ts own ret0 D cl tys A) {E : (Nat → Prop) → State → Prop} (hE : mEok E) (hs : E A s) {f : mS → va_W} {u : mS} {As rest : List Value} {y : MethodName} {bytes : ByteArray} {maxL index kl n : Nat} {rt : Option FieldType} {wsy : List Cond} {post : Int32 → mS → Prop} {C0 : String} {T : u_T} {N ci b : Nat} {fs : List Value} {wr : va_W} (isC isR : List Nat) (h1 : isC.filterMap (fun i => ws[i]?) = f u) (h2 : isC.map (fun i => ws[i]?) = (f u).map some) (h3 : va_nd isC = true) (hR : isR.map (fun i => ws[i]?) = wr.map some) (hnd : va_nd isR = true) (hdis : ∀ i ∈ isR, i ∉ isC) (q0 : Nat) (he : (f u)[q0]? = some (b, .inr (ci, fs))) (hc : cl[ci]? = some (C0, T, N)) (hM : mKi l y wsy kl E D cl tys f (.ref b :: As) u post) (cw : CallW R s args own C0 index y bytes maxL rt wsy (mRm kl) 0 0 n) (hst : st = As.reverse ++ .ref b :: rest) (hn : As.length = n) (hW : (rest.map fun v => v.category).sum ≤ 8) (hd : decode cc pc = .ok (.invokevirtual index, 3)) (hf : cells ≤ R.cells ∧ slots ≤ R.slots) (kk : ∀ (r : Int32) (w : mS), post r w → mV p l e R s m args below meth c nL D cl A cells slots Q (wr ++ f w) (pc + 3) lv (.int r :: rest)) : mV p l e R s m args below meth c nL D cl A cells slots Q ws pc lv st := by
  subst hst
  intro H locs ls hP hD hS hl
  have hPc : va_P D cl (f u) H := hP.sub isC h1
  have hDc : va_D A (f u) := hD.sub isC h3 h2
  have hFc := va_free (wc := f u) hD hS C.2.2.2.2.2.2.2.2 isC h2
  refine va_calli (va_runV (As := As) (rest := rest) ⟨C.1, C.2.1, C.2.2.1, C.2.2.2.1, C.2.2.2.2.1⟩ (hM H.size) cw ⟨mblind hE, va_recv (ci := ci) (q0 := q0) C.2.2.2.2.2.2.2.1 hPc hc he, mpre hE hs C.2.2.2.2.2.2.2.1 C.2.2.2.2.2.2.2.2 hPc hDc hS⟩ rfl hn hl.1 rfl (lv_room hW) hd hf) hS (fun q _ h => hFc q h) hFc (fun r w t H1 locs1 ht hvm hw hB hz1 hk1 hS1 => ?_)
  obtain ⟨hP1, hK1, hD1⟩ := hB
  rw [ht] at hP1
  obtain ⟨hP2, hD2⟩ := va_join (wr := wr) (w1 := f w) hP hD isC isR h2 hR hnd hdis hk1 hFc hP1 hD1
  exact kk r w hw H1 locs1 ls hP2 hD2 hS1 hl
end ML
theorem goodIn_cons {big b : List Cond} {c : Cond} (ha : GoodIn big [c]) (hb : GoodIn big b) : GoodIn big (c :: b) := fun w h => (List.mem_cons.mp h).elim (fun e => ha w (by rw [e]; exact List.mem_cons_self)) (hb w)
set_option maxRecDepth 20000 in
theorem ggL_law_X8_init : GoodIn wsL_law wsX8_init := goodIn_r _ [8, 9, 10, 11, 12, 13, 14, 15, 16, 17, 18, 19, 20, 21, 22, 23, 24, 25, 26, 27, 28, 29, 30, 31, 32, 33, 34, 35, 36, 37, 38, 39, 40, 41, 42, 43, 44, 45, 46, 47, 48, 49, 50, 51, 52, 53, 54, 55, 56, 57, 58, 59, 60, 61, 62, 63, 64, 65, 66, 67, 68, 69, 70, 71, 72, 73, 74, 75, 76, 77, 78, 79, 80, 81, 82, 83, 84, 85, 86, 87, 88, 89, 90, 91, 92, 93, 94, 95, 96, 97, 98, 99, 100, 101, 784, 785, 786, 787, 788, 789, 790, 791, 828, 829, 830, 831, 832, 833, 834, 835, 836, 837, 838, 839, 840, 841, 842, 843, 844, 845, 846, 847, 848, 849, 850, 851, 852, 853, 854, 855, 856, 857, 858, 859, 860, 861, 862, 863, 864] (by decide +kernel) (by decide +kernel)
set_option maxRecDepth 20000 in
theorem gL_law_X8_init : GoodIn wsL_law (wsX8_init) := ggL_law_X8_init
set_option maxRecDepth 20000 in
theorem ggL_law_X9_init : GoodIn wsL_law wsX9_init := goodIn_r _ [104, 105, 10, 11, 12, 106, 107, 108, 109, 110, 111, 112, 113, 114, 115, 116, 117, 118, 119, 120, 121, 122, 123, 124, 125, 792, 793, 794, 795, 796, 797, 798, 799, 800, 801, 802, 803, 804, 805, 806, 807, 808, 809, 810, 811, 812, 813, 814, 815, 816, 817, 818, 819, 820, 821, 822, 823, 824, 825, 826, 827] (by decide +kernel) (by decide +kernel)
set_option maxRecDepth 20000 in
theorem gL_law_X9_init : GoodIn wsL_law (wsX9_init) := ggL_law_X9_init
set_option maxRecDepth 20000 in
theorem ggL_law_X8_type : GoodIn wsL_law wsX8_type := goodIn_r _ [129, 130, 131, 132, 133, 2, 134, 13, 784, 785, 786, 787, 788, 789, 790, 791] (by decide +kernel) (by decide +kernel)
set_option maxRecDepth 20000 in
theorem gL_law_X8_type : GoodIn wsL_law (wsV RL 13 RX8 yX8_type wsX8_type) := goodIn_app (goodIn_of _ (by decide +kernel)) ggL_law_X8_type
set_option maxRecDepth 20000 in
theorem ggL_law_X9_type : GoodIn wsL_law wsX9_type := goodIn_r _ [138, 139, 106, 792, 793, 794, 795, 796, 797, 798, 799, 800, 801, 802, 803, 804, 805, 806, 807, 808, 809, 810, 811, 812, 813, 814, 815, 816, 817, 818, 819, 820, 821, 822, 823, 824, 825, 826, 827] (by decide +kernel) (by decide +kernel)
set_option maxRecDepth 20000 in
theorem gL_law_X9_type : GoodIn wsL_law (wsV RL 17 RX9 yX9_type wsX9_type) := goodIn_app (goodIn_of _ (by decide +kernel)) ggL_law_X9_type
set_option maxRecDepth 100000 in
theorem gk_X8_rules_0 : GoodIn wsL_law wsX8_rules_r1 := goodIn_r _ [25, 17, 29, 144, 145, 146, 2, 147, 21, 13, 130, 148, 149, 150, 20, 151, 51, 152, 153, 66, 67, 68, 154, 155] (by decide +kernel) (by decide +kernel)
set_option maxRecDepth 100000 in
theorem gk_X8_rules_1 : GoodIn wsL_law wsX8_rules_r2 := goodIn_r _ [156, 157, 16, 158, 45, 46, 159, 160, 161, 162, 163, 164, 165, 166, 167, 168, 169, 170, 171, 172, 173, 174, 175, 176] (by decide +kernel) (by decide +kernel)
set_option maxRecDepth 100000 in
theorem gk_X8_rules_2 : GoodIn wsL_law wsX8_rules_r3 := goodIn_r _ [177, 41, 42, 43, 44, 178, 179, 180, 181, 182, 183, 184, 185, 186, 187, 188, 189, 190, 191, 192, 193, 194, 195, 196] (by decide +kernel) (by decide +kernel)
set_option maxRecDepth 100000 in
theorem gk_X8_rules_3 : GoodIn wsL_law wsX8_rules_r4 := goodIn_r _ [197, 198, 199, 200, 201, 202, 203, 204, 24, 205, 56, 206, 207, 208, 209, 210, 211, 212, 213, 214, 215, 216, 217, 218] (by decide +kernel) (by decide +kernel)
set_option maxRecDepth 100000 in
theorem gk_X8_rules_4 : GoodIn wsL_law wsX8_rules_r5 := goodIn_r _ [219, 220, 221, 222, 223, 224, 225, 226, 227, 228, 229, 230, 231, 232, 233, 234, 235, 236, 237, 238, 239, 240, 241, 242] (by decide +kernel) (by decide +kernel)
set_option maxRecDepth 100000 in
theorem gk_X8_rules_5 : GoodIn wsL_law wsX8_rules_r6 := goodIn_r _ [243, 244, 245, 246, 247, 248, 249, 250, 251, 252, 253, 254, 255, 256, 257, 258, 259, 260, 261, 262, 263, 264, 265, 266] (by decide +kernel) (by decide +kernel)
set_option maxRecDepth 100000 in
theorem gk_X8_rules_6 : GoodIn wsL_law wsX8_rules_r7 := goodIn_r _ [267, 268, 269, 270, 271, 28, 272, 273, 61, 274, 275, 276, 277, 278, 279, 280, 281, 282, 283, 284, 285, 286, 287, 288] (by decide +kernel) (by decide +kernel)
set_option maxRecDepth 100000 in
theorem gk_X8_rules_7 : GoodIn wsL_law wsX8_rules_r8 := goodIn_r _ [289, 69, 290, 291, 292, 293, 62, 63, 64, 294, 295, 296, 297] (by decide +kernel) (by decide +kernel)
set_option maxRecDepth 100000 in
theorem gk_X8_rules_8 : GoodIn wsL_law wsX80 := goodIn_r _ [784, 785, 786, 787, 788, 789, 790, 791] (by decide +kernel) (by decide +kernel)
set_option maxRecDepth 100000 in
theorem gk_X8_rules_9 : GoodIn wsL_law wsX70 := goodIn_r _ [837, 838, 839, 840, 841, 842] (by decide +kernel) (by decide +kernel)
set_option maxRecDepth 100000 in
theorem gk_X8_rules_10 : GoodIn wsL_law wsX30 := goodIn_r _ [834, 835] (by decide +kernel) (by decide +kernel)
set_option maxRecDepth 100000 in
theorem gk_X8_rules_11 : GoodIn wsL_law wsX50 := goodIn_r _ [828, 829, 830, 831, 832, 833] (by decide +kernel) (by decide +kernel)
set_option maxRecDepth 100000 in
theorem gk_X8_rules_12 : GoodIn wsL_law wsX60 := goodIn_r _ [836] (by decide +kernel) (by decide +kernel)
set_option maxRecDepth 100000 in
theorem gk_X8_rules_c : GoodIn wsL_law [Cond.code yX8_rules cX8_rules 4 (some .int)] := goodIn_r _ [143] (by decide +kernel) (by decide +kernel)
theorem ggL_law_X8_rules : GoodIn wsL_law wsX8_rules := goodIn_cons gk_X8_rules_c (goodIn_app (goodIn_app (goodIn_app (goodIn_app (goodIn_app (goodIn_app gk_X8_rules_0 (goodIn_app gk_X8_rules_1 (goodIn_app gk_X8_rules_2 (goodIn_app gk_X8_rules_3 (goodIn_app gk_X8_rules_4 (goodIn_app gk_X8_rules_5 (goodIn_app gk_X8_rules_6 gk_X8_rules_7))))))) gk_X8_rules_8) gk_X8_rules_9) gk_X8_rules_10) gk_X8_rules_11) gk_X8_rules_12)
set_option maxRecDepth 20000 in
theorem gL_law_X8_rules : GoodIn wsL_law (wsV RL 18 RX8 yX8_rules wsX8_rules) := goodIn_app (goodIn_of _ (by decide +kernel)) ggL_law_X8_rules
set_option maxRecDepth 100000 in
theorem gk_X9_rules_0 : GoodIn wsL_law wsX9_rules_r1 := goodIn_r _ [139, 107, 302, 303, 304, 111, 112, 305, 306, 307, 5, 308, 309, 108, 310, 311, 312, 313, 106, 314, 315, 316, 317, 318] (by decide +kernel) (by decide +kernel)
set_option maxRecDepth 100000 in
theorem gk_X9_rules_1 : GoodIn wsL_law wsX9_rules_r2 := goodIn_r _ [319, 320, 321, 322, 323, 324, 325, 326, 327, 328, 329, 330, 331, 332, 333, 334, 335, 336, 337, 338, 339, 340, 341, 342] (by decide +kernel) (by decide +kernel)
set_option maxRecDepth 100000 in
theorem gk_X9_rules_2 : GoodIn wsL_law wsX9_rules_r3 := goodIn_r _ [343, 344, 345, 346, 347, 348, 349, 350, 109, 110, 351, 352, 353, 354, 355, 356, 357, 358, 359, 360, 361, 362, 363, 364] (by decide +kernel) (by decide +kernel)
set_option maxRecDepth 100000 in
theorem gk_X9_rules_3 : GoodIn wsL_law wsX9_rules_r4 := goodIn_r _ [365, 366, 367, 368, 369, 370, 371, 372, 373, 374, 375, 376, 377, 378, 379, 380, 381, 382, 383, 384, 385, 386] (by decide +kernel) (by decide +kernel)
set_option maxRecDepth 100000 in
theorem gk_X9_rules_4 : GoodIn wsL_law wsX90 := goodIn_r _ [792, 793, 794, 795, 796, 797, 798, 799, 800, 801, 802, 803, 804, 805, 806, 807, 808, 809, 810, 811, 812, 813, 814, 815, 816, 817, 818, 819, 820, 821, 822, 823, 824, 825, 826, 827] (by decide +kernel) (by decide +kernel)
set_option maxRecDepth 100000 in
theorem gk_X9_rules_c : GoodIn wsL_law [Cond.code yX9_rules cX9_rules 5 (some .int)] := goodIn_r _ [301] (by decide +kernel) (by decide +kernel)
theorem ggL_law_X9_rules : GoodIn wsL_law wsX9_rules := goodIn_cons gk_X9_rules_c (goodIn_app (goodIn_app gk_X9_rules_0 (goodIn_app gk_X9_rules_1 (goodIn_app gk_X9_rules_2 gk_X9_rules_3))) gk_X9_rules_4)
set_option maxRecDepth 20000 in
theorem gL_law_X9_rules : GoodIn wsL_law (wsV RL 22 RX9 yX9_rules wsX9_rules) := goodIn_app (goodIn_of _ (by decide +kernel)) ggL_law_X9_rules
set_option maxRecDepth 100000 in
theorem gk_X8_expand_0 : GoodIn wsL_law wsX8_expand_r1 := goodIn_r _ [33, 37, 144, 145, 146, 2, 147, 21, 13, 130, 148, 149, 150, 20, 151, 51, 152, 153, 66, 67, 68, 154, 155, 156] (by decide +kernel) (by decide +kernel)
set_option maxRecDepth 100000 in
theorem gk_X8_expand_1 : GoodIn wsL_law wsX8_expand_r2 := goodIn_r _ [157, 16, 158, 45, 46, 159, 160, 161, 162, 163, 164, 165, 166, 167, 168, 169, 170, 171, 172, 173, 174, 175, 176, 177] (by decide +kernel) (by decide +kernel)
set_option maxRecDepth 100000 in
theorem gk_X8_expand_2 : GoodIn wsL_law wsX8_expand_r3 := goodIn_r _ [41, 42, 43, 44, 178, 179, 180, 181, 182, 183, 184, 185, 186, 187, 188, 189, 190, 191, 192, 193, 194, 195, 196, 197] (by decide +kernel) (by decide +kernel)
set_option maxRecDepth 100000 in
theorem gk_X8_expand_3 : GoodIn wsL_law wsX8_expand_r4 := goodIn_r _ [198, 199, 200, 201, 391, 392, 393, 32, 394, 395, 396, 397, 398, 399, 36, 400, 401, 402, 403, 404, 80, 405, 295, 296] (by decide +kernel) (by decide +kernel)
set_option maxRecDepth 100000 in
theorem gk_X8_expand_4 : GoodIn wsL_law wsX8_expand_r5 := goodIn_r _ [28, 297, 273, 69, 406, 407, 408, 409, 81, 78, 410, 411, 412, 413, 220, 221, 414, 415, 416, 417, 418, 419, 420, 421] (by decide +kernel) (by decide +kernel)
set_option maxRecDepth 100000 in
theorem gk_X8_expand_5 : GoodIn wsL_law wsX8_expand_r6 := goodIn_r _ [422, 423, 424, 425, 426, 427, 428, 429, 61, 62, 430, 431, 432, 433, 434, 435, 436, 437, 438, 439, 440, 441, 442, 443] (by decide +kernel) (by decide +kernel)
set_option maxRecDepth 100000 in
theorem gk_X8_expand_6 : GoodIn wsL_law wsX8_expand_r7 := goodIn_r _ [444, 445, 446, 447, 448, 63, 449, 450, 451, 452, 453, 454, 455, 456, 73, 457, 458, 459, 460, 64, 461, 462, 463, 464] (by decide +kernel) (by decide +kernel)
set_option maxRecDepth 100000 in
theorem gk_X8_expand_7 : GoodIn wsL_law wsX8_expand_r8 := goodIn_r _ [465, 466, 467, 468, 469, 470, 471, 472, 85, 473, 474, 475, 476, 477, 478, 479, 480, 282, 227, 228, 229, 481, 482, 483] (by decide +kernel) (by decide +kernel)
set_option maxRecDepth 100000 in
theorem gk_X8_expand_8 : GoodIn wsL_law wsX8_expand_r9 := goodIn_r _ [84, 484, 94, 485, 207, 208, 209, 210, 211, 212, 213, 214, 215, 216, 217, 218, 486, 487, 488, 489, 93, 490, 491, 492] (by decide +kernel) (by decide +kernel)
set_option maxRecDepth 100000 in
theorem gk_X8_expand_9 : GoodIn wsL_law wsX8_expand_r10 := goodIn_r _ [493, 494, 495, 496, 497, 498, 499, 92, 500, 501, 502, 503, 235, 236, 237, 504, 505, 506, 507, 99, 508, 509, 510, 511] (by decide +kernel) (by decide +kernel)
set_option maxRecDepth 100000 in
theorem gk_X8_expand_10 : GoodIn wsL_law wsX8_expand_r11 := goodIn_r _ [512, 513, 514, 515, 100, 101, 516, 517, 518, 519, 520, 521, 522, 523, 524, 525, 526, 527, 95, 528, 529, 530, 531, 532] (by decide +kernel) (by decide +kernel)
set_option maxRecDepth 100000 in
theorem gk_X8_expand_11 : GoodIn wsL_law wsX8_expand_r12 := goodIn_r _ [533, 534, 535, 536, 288, 289, 537, 261, 262, 263, 538, 539, 540, 541, 542, 543, 544, 545, 546, 547, 548, 549, 550, 238] (by decide +kernel) (by decide +kernel)
set_option maxRecDepth 100000 in
theorem gk_X8_expand_12 : GoodIn wsL_law wsX8_expand_r13 := goodIn_r _ [239, 551, 552, 553, 554, 555, 556, 557, 558, 559, 560, 561, 562, 563, 564, 565, 566, 567, 568, 245, 246, 247, 569, 570] (by decide +kernel) (by decide +kernel)
set_option maxRecDepth 100000 in
theorem gk_X8_expand_13 : GoodIn wsL_law wsX8_expand_r14 := goodIn_r _ [571, 572, 573, 291, 292, 293, 574, 575, 576, 577, 578, 579, 580, 581, 582, 583, 584, 585, 586, 587, 588, 589, 590, 591] (by decide +kernel) (by decide +kernel)
set_option maxRecDepth 100000 in
theorem gk_X8_expand_14 : GoodIn wsL_law wsX8_expand_r15 := goodIn_r _ [592, 593, 594, 595, 596, 597, 598, 599, 600, 601, 602, 603, 604, 605, 606, 607, 608, 609, 610, 611, 612, 79, 613, 203] (by decide +kernel) (by decide +kernel)
set_option maxRecDepth 100000 in
theorem gk_X8_expand_15 : GoodIn wsL_law wsX8_expand_r16 := goodIn_r _ [204, 24, 205, 56, 206, 219, 222, 223, 224, 225, 226, 230, 231, 232, 233, 234, 240, 241, 242, 243, 244, 248, 249, 250] (by decide +kernel) (by decide +kernel)
set_option maxRecDepth 100000 in
theorem gk_X8_expand_16 : GoodIn wsL_law wsX8_expand_r17 := goodIn_r _ [251, 252, 253, 254, 255, 256, 257, 258, 259, 260, 264, 265, 266, 267] (by decide +kernel) (by decide +kernel)
set_option maxRecDepth 100000 in
theorem gk_X8_expand_17 : GoodIn wsL_law wsX80 := goodIn_r _ [784, 785, 786, 787, 788, 789, 790, 791] (by decide +kernel) (by decide +kernel)
set_option maxRecDepth 100000 in
theorem gk_X8_expand_18 : GoodIn wsL_law wsX20 := goodIn_r _ [843, 844, 845] (by decide +kernel) (by decide +kernel)
set_option maxRecDepth 100000 in
theorem gk_X8_expand_19 : GoodIn wsL_law wsX30 := goodIn_r _ [834, 835] (by decide +kernel) (by decide +kernel)
set_option maxRecDepth 100000 in
theorem gk_X8_expand_20 : GoodIn wsL_law wsX50 := goodIn_r _ [828, 829, 830, 831, 832, 833] (by decide +kernel) (by decide +kernel)
set_option maxRecDepth 100000 in
theorem gk_X8_expand_21 : GoodIn wsL_law wsX00 := goodIn_r _ [846, 847, 848, 849, 850, 851, 852, 853, 854] (by decide +kernel) (by decide +kernel)
set_option maxRecDepth 100000 in
theorem gk_X8_expand_22 : GoodIn wsL_law wsX70 := goodIn_r _ [837, 838, 839, 840, 841, 842] (by decide +kernel) (by decide +kernel)
set_option maxRecDepth 100000 in
theorem gk_X8_expand_23 : GoodIn wsL_law wsX10 := goodIn_r _ [855, 856, 857, 858, 859, 860] (by decide +kernel) (by decide +kernel)
set_option maxRecDepth 100000 in
theorem gk_X8_expand_24 : GoodIn wsL_law wsX40 := goodIn_r _ [861, 862, 863, 864] (by decide +kernel) (by decide +kernel)
set_option maxRecDepth 100000 in
theorem gk_X8_expand_25 : GoodIn wsL_law wsX60 := goodIn_r _ [836] (by decide +kernel) (by decide +kernel)
set_option maxRecDepth 100000 in
theorem gk_X8_expand_c : GoodIn wsL_law [Cond.code yX8_expand cX8_expand 3 (some .int)] := goodIn_r _ [390] (by decide +kernel) (by decide +kernel)
theorem ggL_law_X8_expand : GoodIn wsL_law wsX8_expand := goodIn_cons gk_X8_expand_c (goodIn_app (goodIn_app (goodIn_app (goodIn_app (goodIn_app (goodIn_app (goodIn_app (goodIn_app (goodIn_app (goodIn_app gk_X8_expand_0 (goodIn_app gk_X8_expand_1 (goodIn_app gk_X8_expand_2 (goodIn_app gk_X8_expand_3 (goodIn_app gk_X8_expand_4 (goodIn_app gk_X8_expand_5 (goodIn_app gk_X8_expand_6 (goodIn_app gk_X8_expand_7 (goodIn_app gk_X8_expand_8 (goodIn_app gk_X8_expand_9 (goodIn_app gk_X8_expand_10 (goodIn_app gk_X8_expand_11 (goodIn_app gk_X8_expand_12 (goodIn_app gk_X8_expand_13 (goodIn_app gk_X8_expand_14 (goodIn_app gk_X8_expand_15 gk_X8_expand_16)))))))))))))))) gk_X8_expand_17) gk_X8_expand_18) gk_X8_expand_19) gk_X8_expand_20) gk_X8_expand_21) gk_X8_expand_22) gk_X8_expand_23) gk_X8_expand_24) gk_X8_expand_25)
set_option maxRecDepth 20000 in
theorem gL_law_X8_expand : GoodIn wsL_law (wsV RL 23 RX8 yX8_expand wsX8_expand) := goodIn_app (goodIn_of _ (by decide +kernel)) ggL_law_X8_expand
set_option maxRecDepth 100000 in
theorem gk_X9_expand_0 : GoodIn wsL_law wsX9_expand_r1 := goodIn_r _ [139, 618, 619, 620, 621, 622, 623, 624, 625, 302, 305, 306, 307, 5, 308, 309, 107, 108, 310, 311, 312, 313, 106, 314] (by decide +kernel) (by decide +kernel)
set_option maxRecDepth 100000 in
theorem gk_X9_expand_1 : GoodIn wsL_law wsX9_expand_r2 := goodIn_r _ [315, 316, 317, 318, 319, 320, 321, 322, 323, 324, 325, 326, 327, 328, 329, 330, 331, 332, 333, 334, 303, 335, 336, 337] (by decide +kernel) (by decide +kernel)
set_option maxRecDepth 100000 in
theorem gk_X9_expand_2 : GoodIn wsL_law wsX9_expand_r3 := goodIn_r _ [626, 627, 628, 629, 630, 631, 632, 633, 634, 304, 111, 112, 635, 636, 637, 638, 639, 113, 114, 115, 116, 117, 640, 641] (by decide +kernel) (by decide +kernel)
set_option maxRecDepth 100000 in
theorem gk_X9_expand_3 : GoodIn wsL_law wsX9_expand_r4 := goodIn_r _ [642, 643, 644, 645, 646, 647, 338, 339, 340, 648, 649, 650, 651, 125, 652, 653, 654, 655, 381, 382, 383, 656, 657, 658] (by decide +kernel) (by decide +kernel)
set_option maxRecDepth 100000 in
theorem gk_X9_expand_4 : GoodIn wsL_law wsX9_expand_r5 := goodIn_r _ [659, 660, 661, 662, 663, 664, 665, 666, 667, 344, 345, 346, 355, 356, 357, 358, 359, 360, 341, 342, 343, 668, 669, 670] (by decide +kernel) (by decide +kernel)
set_option maxRecDepth 100000 in
theorem gk_X9_expand_5 : GoodIn wsL_law wsX9_expand_r6 := goodIn_r _ [671, 672, 673, 674, 675, 676, 677, 678, 679, 680, 681, 682, 683, 684, 685, 686, 687, 688, 689, 690, 691, 692, 693, 694] (by decide +kernel) (by decide +kernel)
set_option maxRecDepth 100000 in
theorem gk_X9_expand_6 : GoodIn wsL_law wsX9_expand_r7 := goodIn_r _ [695, 696, 697, 698, 699, 700, 701, 702, 703, 704, 347, 348, 349, 350, 109, 110, 351, 352, 353, 354, 361, 362, 363, 364] (by decide +kernel) (by decide +kernel)
set_option maxRecDepth 100000 in
theorem gk_X9_expand_7 : GoodIn wsL_law wsX9_expand_r8 := goodIn_r _ [365, 366, 367, 368, 369, 370, 371, 372, 373, 374, 375, 376, 377, 378, 379, 380, 705, 706, 707, 708, 709, 710, 711, 712] (by decide +kernel) (by decide +kernel)
set_option maxRecDepth 100000 in
theorem gk_X9_expand_8 : GoodIn wsL_law wsX9_expand_r9 := goodIn_r _ [118, 119, 713, 714, 715, 716, 717, 718, 719, 720, 721, 120, 121, 722, 723, 724, 725, 726, 727, 728, 729, 730, 731, 732] (by decide +kernel) (by decide +kernel)
set_option maxRecDepth 100000 in
theorem gk_X9_expand_9 : GoodIn wsL_law wsX9_expand_r10 := goodIn_r _ [733, 734, 735, 124, 123, 122, 736, 737, 738, 739, 740, 741, 742, 743, 744, 745, 746, 747, 748, 749, 750, 751, 752, 753] (by decide +kernel) (by decide +kernel)
set_option maxRecDepth 100000 in
theorem gk_X9_expand_10 : GoodIn wsL_law wsX9_expand_r11 := goodIn_r _ [754, 755, 756, 757, 758, 759, 760, 761, 762, 763] (by decide +kernel) (by decide +kernel)
set_option maxRecDepth 100000 in
theorem gk_X9_expand_11 : GoodIn wsL_law wsX90 := goodIn_r _ [792, 793, 794, 795, 796, 797, 798, 799, 800, 801, 802, 803, 804, 805, 806, 807, 808, 809, 810, 811, 812, 813, 814, 815, 816, 817, 818, 819, 820, 821, 822, 823, 824, 825, 826, 827] (by decide +kernel) (by decide +kernel)
set_option maxRecDepth 100000 in
theorem gk_X9_expand_c : GoodIn wsL_law [Cond.code yX9_expand cX9_expand 3 (some .int)] := goodIn_r _ [617] (by decide +kernel) (by decide +kernel)
theorem ggL_law_X9_expand : GoodIn wsL_law wsX9_expand := goodIn_cons gk_X9_expand_c (goodIn_app (goodIn_app gk_X9_expand_0 (goodIn_app gk_X9_expand_1 (goodIn_app gk_X9_expand_2 (goodIn_app gk_X9_expand_3 (goodIn_app gk_X9_expand_4 (goodIn_app gk_X9_expand_5 (goodIn_app gk_X9_expand_6 (goodIn_app gk_X9_expand_7 (goodIn_app gk_X9_expand_8 (goodIn_app gk_X9_expand_9 gk_X9_expand_10)))))))))) gk_X9_expand_11)
set_option maxRecDepth 20000 in
theorem gL_law_X9_expand : GoodIn wsL_law (wsV RL 27 RX9 yX9_expand wsX9_expand) := goodIn_app (goodIn_of _ (by decide +kernel)) ggL_law_X9_expand
set_option maxRecDepth 20000 in
theorem ggL_law_X8_at : GoodIn wsL_law wsX8_at := goodIn_r _ [767, 33, 768, 769, 770, 32, 771, 395, 73, 784, 785, 786, 787, 788, 789, 790, 791, 843, 844, 845] (by decide +kernel) (by decide +kernel)
set_option maxRecDepth 20000 in
theorem gL_law_X8_at : GoodIn wsL_law (wsV RL 28 RX8 yX8_at wsX8_at) := goodIn_app (goodIn_of _ (by decide +kernel)) ggL_law_X8_at
set_option maxRecDepth 20000 in
theorem ggL_law_X9_at : GoodIn wsL_law wsX9_at := goodIn_r _ [775, 618, 125, 792, 793, 794, 795, 796, 797, 798, 799, 800, 801, 802, 803, 804, 805, 806, 807, 808, 809, 810, 811, 812, 813, 814, 815, 816, 817, 818, 819, 820, 821, 822, 823, 824, 825, 826, 827] (by decide +kernel) (by decide +kernel)
set_option maxRecDepth 20000 in
theorem gL_law_X9_at : GoodIn wsL_law (wsV RL 31 RX9 yX9_at wsX9_at) := goodIn_app (goodIn_of _ (by decide +kernel)) ggL_law_X9_at
set_option maxRecDepth 20000 in
theorem ggL_law_X8_count : GoodIn wsL_law wsX8_count := goodIn_r _ [779, 37, 784, 785, 786, 787, 788, 789, 790, 791, 846, 847, 848, 849, 850, 851, 852, 853, 854] (by decide +kernel) (by decide +kernel)
set_option maxRecDepth 20000 in
theorem gL_law_X8_count : GoodIn wsL_law (wsV RL 32 RX8 yX8_count wsX8_count) := goodIn_app (goodIn_of _ (by decide +kernel)) ggL_law_X8_count
set_option maxRecDepth 20000 in
theorem ggL_law_X9_count_ : GoodIn wsL_law wsX9_count_ := goodIn_r _ [783, 622, 630, 635, 623, 624, 792, 793, 794, 795, 796, 797, 798, 799, 800, 801, 802, 803, 804, 805, 806, 807, 808, 809, 810, 811, 812, 813, 814, 815, 816, 817, 818, 819, 820, 821, 822, 823, 824, 825, 826, 827] (by decide +kernel) (by decide +kernel)
set_option maxRecDepth 20000 in
theorem gL_law_X9_count_ : GoodIn wsL_law (wsV RL 35 RX9 yX9_count_ wsX9_count_) := goodIn_app (goodIn_of _ (by decide +kernel)) ggL_law_X9_count_
theorem dL_law_0 : decode cL_law 0 = .ok (.new 7, 3) := by decide +kernel
theorem dL_law_3 : decode cL_law 3 = .ok (.dup, 1) := by decide +kernel
theorem dL_law_4 : decode cL_law 4 = .ok (.invokespecial 9, 3) := by decide +kernel
theorem dL_law_7 : decode cL_law 7 = .ok (.astore_n 1, 1) := by decide +kernel
theorem dL_law_8 : decode cL_law 8 = .ok (.new 10, 3) := by decide +kernel
theorem dL_law_11 : decode cL_law 11 = .ok (.dup, 1) := by decide +kernel
theorem dL_law_12 : decode cL_law 12 = .ok (.invokespecial 12, 3) := by decide +kernel
theorem dL_law_15 : decode cL_law 15 = .ok (.astore_n 2, 1) := by decide +kernel
theorem dL_law_16 : decode cL_law 16 = .ok (.iconst 0, 1) := by decide +kernel
theorem dL_law_17 : decode cL_law 17 = .ok (.istore_n 3, 1) := by decide +kernel
theorem dL_law_18 : decode cL_law 18 = .ok (.iload_n 3, 1) := by decide +kernel
theorem dL_law_19 : decode cL_law 19 = .ok (.aload_n 0, 1) := by decide +kernel
theorem dL_law_20 : decode cL_law 20 = .ok (.arraylength, 1) := by decide +kernel
theorem dL_law_21 : decode cL_law 21 = .ok (.iconst 3, 1) := by decide +kernel
theorem dL_law_22 : decode cL_law 22 = .ok (.isub, 1) := by decide +kernel
theorem dL_law_23 : decode cL_law 23 = .ok (.if_icmp .gt 166, 3) := by decide +kernel
theorem dL_law_26 : decode cL_law 26 = .ok (.aload_n 0, 1) := by decide +kernel
theorem dL_law_27 : decode cL_law 27 = .ok (.iload_n 3, 1) := by decide +kernel
theorem dL_law_28 : decode cL_law 28 = .ok (.iaload, 1) := by decide +kernel
theorem dL_law_29 : decode cL_law 29 = .ok (.bipush 7, 2) := by decide +kernel
theorem dL_law_31 : decode cL_law 31 = .ok (.iand, 1) := by decide +kernel
theorem dL_law_32 : decode cL_law 32 = .ok (.tableswitch 151 0 4 #[36, 69, 82, 105, 128], 36) := by decide +kernel
theorem dL_law_68 : decode cL_law 68 = .ok (.aload_n 1, 1) := by decide +kernel
theorem dL_law_69 : decode cL_law 69 = .ok (.aload_n 0, 1) := by decide +kernel
theorem dL_law_70 : decode cL_law 70 = .ok (.iload_n 3, 1) := by decide +kernel
theorem dL_law_71 : decode cL_law 71 = .ok (.iconst 1, 1) := by decide +kernel
theorem dL_law_72 : decode cL_law 72 = .ok (.iadd, 1) := by decide +kernel
theorem dL_law_73 : decode cL_law 73 = .ok (.iaload, 1) := by decide +kernel
theorem dL_law_74 : decode cL_law 74 = .ok (.aload_n 0, 1) := by decide +kernel
theorem dL_law_75 : decode cL_law 75 = .ok (.iload_n 3, 1) := by decide +kernel
theorem dL_law_76 : decode cL_law 76 = .ok (.iconst 2, 1) := by decide +kernel
theorem dL_law_77 : decode cL_law 77 = .ok (.iadd, 1) := by decide +kernel
theorem dL_law_78 : decode cL_law 78 = .ok (.iaload, 1) := by decide +kernel
theorem dL_law_79 : decode cL_law 79 = .ok (.invokevirtual 13, 3) := by decide +kernel
theorem dL_law_82 : decode cL_law 82 = .ok (.aload_n 2, 1) := by decide +kernel
theorem dL_law_83 : decode cL_law 83 = .ok (.aload_n 0, 1) := by decide +kernel
theorem dL_law_84 : decode cL_law 84 = .ok (.iload_n 3, 1) := by decide +kernel
theorem dL_law_85 : decode cL_law 85 = .ok (.iconst 1, 1) := by decide +kernel
theorem dL_law_86 : decode cL_law 86 = .ok (.iadd, 1) := by decide +kernel
theorem dL_law_87 : decode cL_law 87 = .ok (.iaload, 1) := by decide +kernel
theorem dL_law_88 : decode cL_law 88 = .ok (.aload_n 0, 1) := by decide +kernel
theorem dL_law_89 : decode cL_law 89 = .ok (.iload_n 3, 1) := by decide +kernel
theorem dL_law_90 : decode cL_law 90 = .ok (.iconst 2, 1) := by decide +kernel
theorem dL_law_91 : decode cL_law 91 = .ok (.iadd, 1) := by decide +kernel
theorem dL_law_92 : decode cL_law 92 = .ok (.iaload, 1) := by decide +kernel
theorem dL_law_93 : decode cL_law 93 = .ok (.invokevirtual 17, 3) := by decide +kernel
theorem dL_law_96 : decode cL_law 96 = .ok (.if_icmp .eq 87, 3) := by decide +kernel
theorem dL_law_101 : decode cL_law 101 = .ok (.aload_n 1, 1) := by decide +kernel
theorem dL_law_102 : decode cL_law 102 = .ok (.invokevirtual 18, 3) := by decide +kernel
theorem dL_law_105 : decode cL_law 105 = .ok (.aload_n 2, 1) := by decide +kernel
theorem dL_law_106 : decode cL_law 106 = .ok (.invokevirtual 22, 3) := by decide +kernel
theorem dL_law_109 : decode cL_law 109 = .ok (.if_icmp .eq 74, 3) := by decide +kernel
theorem dL_law_114 : decode cL_law 114 = .ok (.aload_n 1, 1) := by decide +kernel
theorem dL_law_115 : decode cL_law 115 = .ok (.aload_n 0, 1) := by decide +kernel
theorem dL_law_116 : decode cL_law 116 = .ok (.iload_n 3, 1) := by decide +kernel
theorem dL_law_117 : decode cL_law 117 = .ok (.iconst 1, 1) := by decide +kernel
theorem dL_law_118 : decode cL_law 118 = .ok (.iadd, 1) := by decide +kernel
theorem dL_law_119 : decode cL_law 119 = .ok (.iaload, 1) := by decide +kernel
theorem dL_law_120 : decode cL_law 120 = .ok (.invokevirtual 23, 3) := by decide +kernel
theorem dL_law_123 : decode cL_law 123 = .ok (.aload_n 2, 1) := by decide +kernel
theorem dL_law_124 : decode cL_law 124 = .ok (.aload_n 0, 1) := by decide +kernel
theorem dL_law_125 : decode cL_law 125 = .ok (.iload_n 3, 1) := by decide +kernel
theorem dL_law_126 : decode cL_law 126 = .ok (.iconst 1, 1) := by decide +kernel
theorem dL_law_127 : decode cL_law 127 = .ok (.iadd, 1) := by decide +kernel
theorem dL_law_128 : decode cL_law 128 = .ok (.iaload, 1) := by decide +kernel
theorem dL_law_129 : decode cL_law 129 = .ok (.invokevirtual 27, 3) := by decide +kernel
theorem dL_law_132 : decode cL_law 132 = .ok (.if_icmp .eq 51, 3) := by decide +kernel
theorem dL_law_137 : decode cL_law 137 = .ok (.aload_n 1, 1) := by decide +kernel
theorem dL_law_138 : decode cL_law 138 = .ok (.aload_n 0, 1) := by decide +kernel
theorem dL_law_139 : decode cL_law 139 = .ok (.iload_n 3, 1) := by decide +kernel
theorem dL_law_140 : decode cL_law 140 = .ok (.iconst 1, 1) := by decide +kernel
theorem dL_law_141 : decode cL_law 141 = .ok (.iadd, 1) := by decide +kernel
theorem dL_law_142 : decode cL_law 142 = .ok (.iaload, 1) := by decide +kernel
theorem dL_law_143 : decode cL_law 143 = .ok (.invokevirtual 28, 3) := by decide +kernel
theorem dL_law_146 : decode cL_law 146 = .ok (.aload_n 2, 1) := by decide +kernel
theorem dL_law_147 : decode cL_law 147 = .ok (.aload_n 0, 1) := by decide +kernel
theorem dL_law_148 : decode cL_law 148 = .ok (.iload_n 3, 1) := by decide +kernel
theorem dL_law_149 : decode cL_law 149 = .ok (.iconst 1, 1) := by decide +kernel
theorem dL_law_150 : decode cL_law 150 = .ok (.iadd, 1) := by decide +kernel
theorem dL_law_151 : decode cL_law 151 = .ok (.iaload, 1) := by decide +kernel
theorem dL_law_152 : decode cL_law 152 = .ok (.invokevirtual 31, 3) := by decide +kernel
theorem dL_law_155 : decode cL_law 155 = .ok (.if_icmp .eq 28, 3) := by decide +kernel
theorem dL_law_160 : decode cL_law 160 = .ok (.aload_n 1, 1) := by decide +kernel
theorem dL_law_161 : decode cL_law 161 = .ok (.aload_n 0, 1) := by decide +kernel
theorem dL_law_162 : decode cL_law 162 = .ok (.iload_n 3, 1) := by decide +kernel
theorem dL_law_163 : decode cL_law 163 = .ok (.iconst 1, 1) := by decide +kernel
theorem dL_law_164 : decode cL_law 164 = .ok (.iadd, 1) := by decide +kernel
theorem dL_law_165 : decode cL_law 165 = .ok (.iaload, 1) := by decide +kernel
theorem dL_law_166 : decode cL_law 166 = .ok (.invokevirtual 32, 3) := by decide +kernel
theorem dL_law_169 : decode cL_law 169 = .ok (.aload_n 2, 1) := by decide +kernel
theorem dL_law_170 : decode cL_law 170 = .ok (.aload_n 0, 1) := by decide +kernel
theorem dL_law_171 : decode cL_law 171 = .ok (.iload_n 3, 1) := by decide +kernel
theorem dL_law_172 : decode cL_law 172 = .ok (.iconst 1, 1) := by decide +kernel
theorem dL_law_173 : decode cL_law 173 = .ok (.iadd, 1) := by decide +kernel
theorem dL_law_174 : decode cL_law 174 = .ok (.iaload, 1) := by decide +kernel
theorem dL_law_175 : decode cL_law 175 = .ok (.invokevirtual 35, 3) := by decide +kernel
theorem dL_law_178 : decode cL_law 178 = .ok (.if_icmp .eq 5, 3) := by decide +kernel
theorem dL_law_183 : decode cL_law 183 = .ok (.iinc 3 3, 3) := by decide +kernel
theorem dL_law_186 : decode cL_law 186 = .ok (.goto (-168), 3) := by decide +kernel
theorem dL_law_189 : decode cL_law 189 = .ok (.iconst 1, 1) := by decide +kernel
theorem dL_law_190 : decode cL_law 190 = .ok (.ireturn, 1) := by decide +kernel
end
section
-- ===== end of PART A; then your names; then what follows =====
/-! THE CLAIM OUT OF ONE WALK OF THE LAW'S BODY. Your part is whole_start (and what it stands on); all else here is the same for every law, but numbers. -/
def R_law : String := "MarkedNamesLaw"
def lw_P (b : Addr) (xs : List Int32) (args : Array Value) (s : State) : Prop := args = #[.ref b] ∧ s.IntsAt b xs ∧ xs.length ≤ 3 ∧ (Jvm.Cond.and given_1 narrow_1).before args s = true
def lw_Q (_ : Array Value) (s : State) (o : Outcome) (t : State) : Prop := o = .returned (some (.int 1)) ∧ Framed s o t [] 600000 7302250
def lw_Z (below : List Frame) (a : Array Value) (s : State) : State → Prop := fun t => ∃ o, t.status = .running ∧ Ended t below o ∧ lw_Q a s o t
/-- the law's own end, with 1 on the stack, nothing written that was there before, its room as the claim has it -/
theorem lw_ret {p : Program} {l : Launch} {e : Env} {s : State} {m : MethodId} {below : List Frame} {meth : Method} {c : Code} {b : Nat} (hx : p.tables.exec = Jvm.exec) (hb : c.code = code) (hr : meth.sig.returnType = ret) (hlocks : meth.locks = false) {pc : Nat} {H : Heap} {ls : Array Slot} (hdg : decode code pc = .ok (.ireturn, 1)) : W p l e room_1 s m #[Value.ref b] below meth c H [] 600000 7302250 (lw_Z below #[Value.ref b] s) (F0 m pc ls [.int 1]) := by
  intro T hT X
  obtain ⟨fs, hret, hrun, hended, hW, hframe⟩ := X.leave (v := some (.int 1)) (hlocks := hlocks) (fun h => by rw [hr] at h; cases h)
  have hmeth' : T.vm.method? m = some meth := X.method'
  refine ⟨T.setFrames fs, ?_, .returned (some (.int 1)), hrun, hended, rfl, ⟨_, rfl⟩, hW, hframe⟩
  jvm_step X.here [X.here.top, hx, hb, hdg, hmeth', hr, ret, narrow_b1]
  (try refine ⟨rfl, ?_⟩); (try refine ⟨rfl, ?_⟩)
  first | (intro acts; rw [hret _ acts rfl rfl rfl]) | rw [hret _ _ rfl rfl rfl]
  exact Steps.refl _
/-- what holds at the law's entry: the machine, the code, the tables' words (any of lw_tbl by 'hts w (by decide +kernel)'), the script of L ints xs at the cell b, what the Statement gives of the start (any of its parts by flat_of_before) -/
def lw_At (p : Program) (s : State) (m : MethodId) (meth : Method) (c : Code) (b L : Nat) (xs : Nat → Int32) : Prop :=
  p.tables.exec = Jvm.exec ∧ c.code = code ∧ meth.sig.returnType = ret ∧ c.maxLocals = 4 ∧ s.vm.findClass R_law = some m.cls ∧ (∀ w ∈ lw_tbl, w.before #[Value.ref b] s = true) ∧ va_X b L xs s s.heap ∧ b < s.heap.size ∧ meth.locks = false ∧ (Jvm.Cond.and given_1 narrow_1).before #[Value.ref b] s = true
set_option maxHeartbeats 4000000 in
set_option maxRecDepth 100000 in
theorem law_loop {p : Program} {l : Launch} {e : Env} {s : State} {m : MethodId} {below : List Frame} {meth : Method} {c : Code} {dC : Nat → ClassId} {dI : Nat → Nat → Nat} {cA : ClassId} {a b : Nat → Nat} {sb L : Nat} {xs : Nat → Int32} (hL : L ≤ 3) (C : mC p s m #[Value.ref sb] meth c cL_law 4 wsL_law RL ret (dC, dI) vwCl [(cA, .int)] (fun q : Nat => s.heap.size ≤ q)) (hX : va_X sb L xs s s.heap) (hbl : sb < s.heap.size) (hs : eA a (fun q : Nat => s.heap.size ≤ q) s) (Inv : Nat → mS → mS → Prop) (h_type : ∀ (k : Nat) (u v : mS) (x y : Int32), 3 * k + 3 ≤ L → Inv k u v → wp_X8_type x y u (fun r w => wp_X9_type x y v (fun q t => r = q ∧ Inv (k + 1) w t))) (h_rules : ∀ (k : Nat) (u v : mS), 3 * k + 3 ≤ L → Inv k u v → wp_X8_rules  u (fun r w => wp_X9_rules  v (fun q t => r = q ∧ Inv (k + 1) w t))) (h_expand : ∀ (k : Nat) (u v : mS) (x : Int32), 3 * k + 3 ≤ L → Inv k u v → wp_X8_expand x u (fun r w => wp_X9_expand x v (fun q t => r = q ∧ Inv (k + 1) w t))) (h_at : ∀ (k : Nat) (u v : mS) (x : Int32), 3 * k + 3 ≤ L → Inv k u v → wp_X8_at x u (fun r w => wp_X9_at x v (fun q t => r = q ∧ Inv (k + 1) w t))) (h_count : ∀ (k : Nat) (u v : mS) (x : Int32), 3 * k + 3 ≤ L → Inv k u v → wp_X8_count x u (fun r w => wp_X9_count_ x v (fun q t => r = q ∧ Inv (k + 1) w t))) (h_skip : ∀ (k : Nat) (u v : mS), 3 * k + 3 ≤ L → Inv k u v → Inv (k + 1) u v) : ∀ (n k : Nat) (u v : mS), L < 3 * k + n → 3 * k ≤ L → Inv k u v → mV p l e room_1 s m #[Value.ref sb] below meth c 4 (dC, dI) vwCl (fun q : Nat => s.heap.size ≤ q) 43 26124 (lw_Z below #[Value.ref sb] s) (wA cA a u ++ wM cA b v) 18 [(0, .ref sb), (1, .ref (a 0)), (2, .ref (b 0)), (3, .int (nI (3 * k)))] [] := by
  have hbA : ¬ (fun q : Nat => s.heap.size ≤ q) sb := Nat.not_le.mpr hbl
  have hx := C.1
  have hb := C.2.1
  have hr := C.2.2.2.2.2.1
  have hlocks := C.2.2.2.2.2.2.1
  intro n
  induction n using Nat.strongRecOn with
  | _ n ih =>
  intro k u v hn hkL hI
  refine mv_iload_n C dL_law_18 rfl 3 rfl ?_
  refine mv_aload_n C dL_law_19 rfl 0 rfl ?_
  refine mv_slen C hX hbl hbA dL_law_20 ?_
  refine mv_iconst (v := (3 : Int32)) C dL_law_21 (by decide) ?_
  refine mv_isub C dL_law_22 ?_
  refine mv_icmp_gt (tgt := 189) C dL_law_23 (by decide) (fun hc => ?_) (fun hc => ?_)
  · refine mv_iconst (v := (1 : Int32)) C dL_law_189 (by decide) ?_
    intro H locs ls hP hD hS hl
    refine va_forget (fun q hq => hS.2.2 q hq) ?_
    refine W.widen (k := 600000) (n := 7302250) (by decide) (by decide) ?_
    exact lw_ret hx hb hr hlocks dL_law_190
  · have hk : 3 * k + 3 ≤ L := by
      rcases Nat.lt_or_ge L (3 * k + 3) with h | h
      · exfalso
        apply hc
        rw [Int32.lt_iff_toInt_lt, show (3 : Int32) = nI 3 from by decide, pk_sub_toInt (by omega) (by omega), nI_toInt (by omega)]
        omega
      · exact h
    have hin0 : vp_in (nI (3 * k)) L := vp_in_nI (by omega) (by omega)
    have hin1 : vp_in (nI (3 * k) + 1) L := by rw [nI_1]; exact vp_in_nI (by omega) (by omega)
    have hin2 : vp_in (nI (3 * k) + 2) L := by rw [show (2 : Int32) = nI 2 from by decide, nI_add]; exact vp_in_nI (by omega) (by omega)
    have next : ∀ (w t : mS), Inv (k + 1) w t → mV p l e room_1 s m #[Value.ref sb] below meth c 4 (dC, dI) vwCl (fun q : Nat => s.heap.size ≤ q) 43 26124 (lw_Z below #[Value.ref sb] s) (wA cA a w ++ wM cA b t) 183 [(0, .ref sb), (1, .ref (a 0)), (2, .ref (b 0)), (3, .int (nI (3 * k)))] [] := by
      intro w t hI2
      refine mv_iinc (v := nI (3 * (k + 1))) (lv1 := [(3, .int (nI (3 * (k + 1)))), (0, .ref sb), (1, .ref (a 0)), (2, .ref (b 0))]) C dL_law_183 3 rfl (by rw [show Int32.ofInt 3 = nI 3 from by decide, nI_add]; rfl) (by decide) rfl ?_
      refine mv_goto (tgt := 18) C dL_law_186 (by decide) ?_
      refine mv_sub [1, 2, 3, 0] rfl ?_
      exact ih (n - 3) (by omega) (k + 1) w t (by omega) (by omega) hI2
    refine mv_aload_n C dL_law_26 rfl 0 rfl ?_
    refine mv_iload_n C dL_law_27 rfl 3 rfl ?_
    refine mv_sld C hX hbl hbA hin0 dL_law_28 ?_
    refine mv_bipush (v := (7 : Int32)) C dL_law_29 (by decide) ?_
    refine mv_iand C dL_law_31 ?_
    refine mv_topi (fun o eo => ?_)
    by_cases hc0 : o = 0
    · have hw := h_type k u v (xs (nI (3 * k) + 1).toNatClampNeg) (xs (nI (3 * k) + 2).toNatClampNeg) hk hI
      refine mv_tableIn (tgt := 68) C dL_law_32 (by rw [hc0]; decide) (by rw [hc0]; decide) (by rw [hc0]; rfl) (by decide) ?_
      refine mv_aload_n C dL_law_68 rfl 1 rfl ?_
      refine mv_aload_n C dL_law_69 rfl 0 rfl ?_
      refine mv_iload_n C dL_law_70 rfl 3 rfl ?_
      refine mv_iconst (v := (1 : Int32)) C dL_law_71 (by decide) ?_
      refine mv_iadd C dL_law_72 ?_
      refine mv_sld C hX hbl hbA hin1 dL_law_73 ?_
      refine mv_aload_n C dL_law_74 rfl 0 rfl ?_
      refine mv_iload_n C dL_law_75 rfl 3 rfl ?_
      refine mv_iconst (v := (2 : Int32)) C dL_law_76 (by decide) ?_
      refine mv_iadd C dL_law_77 ?_
      refine mv_sld C hX hbl hbA hin2 dL_law_78 ?_
      refine mv_callVs (f := wA cA a) (As := [.int (xs (nI (3 * k) + 1).toNatClampNeg), .int (xs (nI (3 * k) + 2).toNatClampNeg)]) (rest := []) (wr := wM cA b v) C (eA_ok a) hs [0, 1, 2, 3, 4, 5, 6, 7, 8, 9, 10, 11, 12, 13, 14, 15, 16, 17, 18, 19, 20, 21] [22, 23, 24, 25, 26, 27, 28, 29, 30, 31, 32, 33, 34, 35, 36, 37, 38, 39, 40, 41, 42] rfl rfl (by decide) rfl (by decide) (by decide) 0 rfl rfl (X8_type_met (l := l) (lev := 1) (Nat.le_refl _) hw) (cwV 2 C.2.2.2.2.1 gL_law_X8_type rfl rfl rfl (by decide +kernel) (by decide)) rfl rfl (Nat.le_of_ble_eq_true rfl) dL_law_79 (by decide) (fun r w hw => ?_)
      have hw := hw.2
      refine mv_aload_n C dL_law_82 rfl 2 rfl ?_
      refine mv_aload_n C dL_law_83 rfl 0 rfl ?_
      refine mv_iload_n C dL_law_84 rfl 3 rfl ?_
      refine mv_iconst (v := (1 : Int32)) C dL_law_85 (by decide) ?_
      refine mv_iadd C dL_law_86 ?_
      refine mv_sld C hX hbl hbA hin1 dL_law_87 ?_
      refine mv_aload_n C dL_law_88 rfl 0 rfl ?_
      refine mv_iload_n C dL_law_89 rfl 3 rfl ?_
      refine mv_iconst (v := (2 : Int32)) C dL_law_90 (by decide) ?_
      refine mv_iadd C dL_law_91 ?_
      refine mv_sld C hX hbl hbA hin2 dL_law_92 ?_
      refine mv_callVs (f := wM cA b) (As := [.int (xs (nI (3 * k) + 1).toNatClampNeg), .int (xs (nI (3 * k) + 2).toNatClampNeg)]) (rest := [.int r]) (wr := wA cA a w) C eM_ok trivial [0, 1, 2, 3, 4, 5, 6, 7, 8, 9, 10, 11, 12, 13, 14, 15, 16, 17, 18, 19, 20] [21, 22, 23, 24, 25, 26, 27, 28, 29, 30, 31, 32, 33, 34, 35, 36, 37, 38, 39, 40, 41, 42] rfl rfl (by decide) rfl (by decide) (by decide) 0 rfl rfl (X9_type_met (l := l) (lev := 0) (Nat.le_refl _) hw) (cwV 2 C.2.2.2.2.1 gL_law_X9_type rfl rfl rfl (by decide +kernel) (by decide)) rfl rfl (Nat.le_of_ble_eq_true rfl) dL_law_93 (by decide) (fun q t hw => ?_)
      have hw := hw.2
      refine mv_icmp_eq (tgt := 183) C dL_law_96 (by decide) (fun _ => ?_) (fun hc => absurd hw.1 hc)
      have hw := hw.2
      exact next w t hw
    by_cases hc1 : o = 1
    · have hw := h_rules k u v  hk hI
      refine mv_tableIn (tgt := 101) C dL_law_32 (by rw [hc1]; decide) (by rw [hc1]; decide) (by rw [hc1]; rfl) (by decide) ?_
      refine mv_aload_n C dL_law_101 rfl 1 rfl ?_
      refine mv_callVs (f := wA cA a) (As := []) (rest := []) (wr := wM cA b v) C (eA_ok a) hs [0, 1, 2, 3, 4, 5, 6, 7, 8, 9, 10, 11, 12, 13, 14, 15, 16, 17, 18, 19, 20, 21] [22, 23, 24, 25, 26, 27, 28, 29, 30, 31, 32, 33, 34, 35, 36, 37, 38, 39, 40, 41, 42] rfl rfl (by decide) rfl (by decide) (by decide) 0 rfl rfl (X8_rules_met (l := l) (lev := 3) (Nat.le_refl _) hw) (cwV 0 C.2.2.2.2.1 gL_law_X8_rules rfl rfl rfl (by decide +kernel) (by decide)) rfl rfl (Nat.le_of_ble_eq_true rfl) dL_law_102 (by decide) (fun r w hw => ?_)
      refine mv_aload_n C dL_law_105 rfl 2 rfl ?_
      refine mv_callVs (f := wM cA b) (As := []) (rest := [.int r]) (wr := wA cA a w) C eM_ok trivial [0, 1, 2, 3, 4, 5, 6, 7, 8, 9, 10, 11, 12, 13, 14, 15, 16, 17, 18, 19, 20] [21, 22, 23, 24, 25, 26, 27, 28, 29, 30, 31, 32, 33, 34, 35, 36, 37, 38, 39, 40, 41, 42] rfl rfl (by decide) rfl (by decide) (by decide) 0 rfl rfl (X9_rules_met (l := l) (lev := 1) (Nat.le_refl _) hw) (cwV 0 C.2.2.2.2.1 gL_law_X9_rules rfl rfl rfl (by decide +kernel) (by decide)) rfl rfl (Nat.le_of_ble_eq_true rfl) dL_law_106 (by decide) (fun q t hw => ?_)
      refine mv_icmp_eq (tgt := 183) C dL_law_109 (by decide) (fun _ => ?_) (fun hc => absurd hw.1 hc)
      have hw := hw.2
      exact next w t hw
    by_cases hc2 : o = 2
    · have hw := h_expand k u v (xs (nI (3 * k) + 1).toNatClampNeg) hk hI
      refine mv_tableIn (tgt := 114) C dL_law_32 (by rw [hc2]; decide) (by rw [hc2]; decide) (by rw [hc2]; rfl) (by decide) ?_
      refine mv_aload_n C dL_law_114 rfl 1 rfl ?_
      refine mv_aload_n C dL_law_115 rfl 0 rfl ?_
      refine mv_iload_n C dL_law_116 rfl 3 rfl ?_
      refine mv_iconst (v := (1 : Int32)) C dL_law_117 (by decide) ?_
      refine mv_iadd C dL_law_118 ?_
      refine mv_sld C hX hbl hbA hin1 dL_law_119 ?_
      refine mv_callVs (f := wA cA a) (As := [.int (xs (nI (3 * k) + 1).toNatClampNeg)]) (rest := []) (wr := wM cA b v) C (eA_ok a) hs [0, 1, 2, 3, 4, 5, 6, 7, 8, 9, 10, 11, 12, 13, 14, 15, 16, 17, 18, 19, 20, 21] [22, 23, 24, 25, 26, 27, 28, 29, 30, 31, 32, 33, 34, 35, 36, 37, 38, 39, 40, 41, 42] rfl rfl (by decide) rfl (by decide) (by decide) 0 rfl rfl (X8_expand_met (l := l) (lev := 3) (Nat.le_refl _) hw) (cwV 1 C.2.2.2.2.1 gL_law_X8_expand rfl rfl rfl (by decide +kernel) (by decide)) rfl rfl (Nat.le_of_ble_eq_true rfl) dL_law_120 (by decide) (fun r w hw => ?_)
      refine mv_aload_n C dL_law_123 rfl 2 rfl ?_
      refine mv_aload_n C dL_law_124 rfl 0 rfl ?_
      refine mv_iload_n C dL_law_125 rfl 3 rfl ?_
      refine mv_iconst (v := (1 : Int32)) C dL_law_126 (by decide) ?_
      refine mv_iadd C dL_law_127 ?_
      refine mv_sld C hX hbl hbA hin1 dL_law_128 ?_
      refine mv_callVs (f := wM cA b) (As := [.int (xs (nI (3 * k) + 1).toNatClampNeg)]) (rest := [.int r]) (wr := wA cA a w) C eM_ok trivial [0, 1, 2, 3, 4, 5, 6, 7, 8, 9, 10, 11, 12, 13, 14, 15, 16, 17, 18, 19, 20] [21, 22, 23, 24, 25, 26, 27, 28, 29, 30, 31, 32, 33, 34, 35, 36, 37, 38, 39, 40, 41, 42] rfl rfl (by decide) rfl (by decide) (by decide) 0 rfl rfl (X9_expand_met (l := l) (lev := 2) (Nat.le_refl _) hw) (cwV 1 C.2.2.2.2.1 gL_law_X9_expand rfl rfl rfl (by decide +kernel) (by decide)) rfl rfl (Nat.le_of_ble_eq_true rfl) dL_law_129 (by decide) (fun q t hw => ?_)
      refine mv_icmp_eq (tgt := 183) C dL_law_132 (by decide) (fun _ => ?_) (fun hc => absurd hw.1 hc)
      have hw := hw.2
      exact next w t hw
    by_cases hc3 : o = 3
    · have hw := h_at k u v (xs (nI (3 * k) + 1).toNatClampNeg) hk hI
      refine mv_tableIn (tgt := 137) C dL_law_32 (by rw [hc3]; decide) (by rw [hc3]; decide) (by rw [hc3]; rfl) (by decide) ?_
      refine mv_aload_n C dL_law_137 rfl 1 rfl ?_
      refine mv_aload_n C dL_law_138 rfl 0 rfl ?_
      refine mv_iload_n C dL_law_139 rfl 3 rfl ?_
      refine mv_iconst (v := (1 : Int32)) C dL_law_140 (by decide) ?_
      refine mv_iadd C dL_law_141 ?_
      refine mv_sld C hX hbl hbA hin1 dL_law_142 ?_
      refine mv_callVs (f := wA cA a) (As := [.int (xs (nI (3 * k) + 1).toNatClampNeg)]) (rest := []) (wr := wM cA b v) C (eA_ok a) hs [0, 1, 2, 3, 4, 5, 6, 7, 8, 9, 10, 11, 12, 13, 14, 15, 16, 17, 18, 19, 20, 21] [22, 23, 24, 25, 26, 27, 28, 29, 30, 31, 32, 33, 34, 35, 36, 37, 38, 39, 40, 41, 42] rfl rfl (by decide) rfl (by decide) (by decide) 0 rfl rfl (X8_at_met (l := l) (lev := 1) (Nat.le_refl _) hw) (cwV 1 C.2.2.2.2.1 gL_law_X8_at rfl rfl rfl (by decide +kernel) (by decide)) rfl rfl (Nat.le_of_ble_eq_true rfl) dL_law_143 (by decide) (fun r w hw => ?_)
      refine mv_aload_n C dL_law_146 rfl 2 rfl ?_
      refine mv_aload_n C dL_law_147 rfl 0 rfl ?_
      refine mv_iload_n C dL_law_148 rfl 3 rfl ?_
      refine mv_iconst (v := (1 : Int32)) C dL_law_149 (by decide) ?_
      refine mv_iadd C dL_law_150 ?_
      refine mv_sld C hX hbl hbA hin1 dL_law_151 ?_
      refine mv_callVs (f := wM cA b) (As := [.int (xs (nI (3 * k) + 1).toNatClampNeg)]) (rest := [.int r]) (wr := wA cA a w) C eM_ok trivial [0, 1, 2, 3, 4, 5, 6, 7, 8, 9, 10, 11, 12, 13, 14, 15, 16, 17, 18, 19, 20] [21, 22, 23, 24, 25, 26, 27, 28, 29, 30, 31, 32, 33, 34, 35, 36, 37, 38, 39, 40, 41, 42] rfl rfl (by decide) rfl (by decide) (by decide) 0 rfl rfl (X9_at_met (l := l) (lev := 0) (Nat.le_refl _) hw) (cwV 1 C.2.2.2.2.1 gL_law_X9_at rfl rfl rfl (by decide +kernel) (by decide)) rfl rfl (Nat.le_of_ble_eq_true rfl) dL_law_152 (by decide) (fun q t hw => ?_)
      refine mv_icmp_eq (tgt := 183) C dL_law_155 (by decide) (fun _ => ?_) (fun hc => absurd hw.1 hc)
      have hw := hw.2
      exact next w t hw
    by_cases hc4 : o = 4
    · have hw := h_count k u v (xs (nI (3 * k) + 1).toNatClampNeg) hk hI
      refine mv_tableIn (tgt := 160) C dL_law_32 (by rw [hc4]; decide) (by rw [hc4]; decide) (by rw [hc4]; rfl) (by decide) ?_
      refine mv_aload_n C dL_law_160 rfl 1 rfl ?_
      refine mv_aload_n C dL_law_161 rfl 0 rfl ?_
      refine mv_iload_n C dL_law_162 rfl 3 rfl ?_
      refine mv_iconst (v := (1 : Int32)) C dL_law_163 (by decide) ?_
      refine mv_iadd C dL_law_164 ?_
      refine mv_sld C hX hbl hbA hin1 dL_law_165 ?_
      refine mv_callVs (f := wA cA a) (As := [.int (xs (nI (3 * k) + 1).toNatClampNeg)]) (rest := []) (wr := wM cA b v) C (eA_ok a) hs [0, 1, 2, 3, 4, 5, 6, 7, 8, 9, 10, 11, 12, 13, 14, 15, 16, 17, 18, 19, 20, 21] [22, 23, 24, 25, 26, 27, 28, 29, 30, 31, 32, 33, 34, 35, 36, 37, 38, 39, 40, 41, 42] rfl rfl (by decide) rfl (by decide) (by decide) 0 rfl rfl (X8_count_met (l := l) (lev := 0) (Nat.le_refl _) hw) (cwV 1 C.2.2.2.2.1 gL_law_X8_count rfl rfl rfl (by decide +kernel) (by decide)) rfl rfl (Nat.le_of_ble_eq_true rfl) dL_law_166 (by decide) (fun r w hw => ?_)
      refine mv_aload_n C dL_law_169 rfl 2 rfl ?_
      refine mv_aload_n C dL_law_170 rfl 0 rfl ?_
      refine mv_iload_n C dL_law_171 rfl 3 rfl ?_
      refine mv_iconst (v := (1 : Int32)) C dL_law_172 (by decide) ?_
      refine mv_iadd C dL_law_173 ?_
      refine mv_sld C hX hbl hbA hin1 dL_law_174 ?_
      refine mv_callVs (f := wM cA b) (As := [.int (xs (nI (3 * k) + 1).toNatClampNeg)]) (rest := [.int r]) (wr := wA cA a w) C eM_ok trivial [0, 1, 2, 3, 4, 5, 6, 7, 8, 9, 10, 11, 12, 13, 14, 15, 16, 17, 18, 19, 20] [21, 22, 23, 24, 25, 26, 27, 28, 29, 30, 31, 32, 33, 34, 35, 36, 37, 38, 39, 40, 41, 42] rfl rfl (by decide) rfl (by decide) (by decide) 0 rfl rfl (X9_count__met (l := l) (lev := 0) (Nat.le_refl _) hw) (cwV 1 C.2.2.2.2.1 gL_law_X9_count_ rfl rfl rfl (by decide +kernel) (by decide)) rfl rfl (Nat.le_of_ble_eq_true rfl) dL_law_175 (by decide) (fun q t hw => ?_)
      refine mv_icmp_eq (tgt := 183) C dL_law_178 (by decide) (fun _ => ?_) (fun hc => absurd hw.1 hc)
      have hw := hw.2
      exact next w t hw
    have q0 : ¬ o.toInt = 0 := mne hc0
    have q1 : ¬ o.toInt = 1 := mne hc1
    have q2 : ¬ o.toInt = 2 := mne hc2
    have q3 : ¬ o.toInt = 3 := mne hc3
    have q4 : ¬ o.toInt = 4 := mne hc4
    refine mv_tableOut (tgt := 183) C dL_law_32 (by omega) (by decide) ?_
    exact next u v (h_skip k u v hk hI)
theorem nest_in : ∀ w ∈ nestW, w ∈ lw_tbl := mem_r _ [113, 158, 169, 191, 193, 194, 195, 225, 260, 262, 264, 266, 104, 185, 217, 398, 417, 502, 547, 601, 603, 658, 686, 697] (by decide +kernel)
def invP : Nat → mS → mS → Prop := fun k u v => k = 0 → u = uA0 ∧ v = uM0
set_option maxHeartbeats 4000000 in
set_option maxRecDepth 100000 in
/-- YOUR PART: from the entry, for every script of at most 3 ints, the law comes to its end with true -/
theorem whole_start {p : Program} {e : Env} {s : State} {m : MethodId} {below : List Frame} {meth : Method} {c : Code} (l : Launch) {b L : Nat} {xs : Nat → Int32} (hL : L ≤ 3) (C0 : lw_At p s m meth c b L xs) : W p l e room_1 s m #[Value.ref b] below meth c s.heap [] 0 0 (lw_Z below #[Value.ref b] s) (entryFrame m ([Value.ref b] : List Value).toArray 4) := by
  obtain ⟨hx, hb, hr, hml, hown, hts, hX, hbl, hlocks, hgv⟩ := id C0
  have hts2 : ∀ w ∈ wsL_law, w.before #[Value.ref b] s = true := fun w h => hts w (wsL_law_in w h)
  have hg := flat_of_before _ hgv
  have hnA : ∀ q : Nat, q < s.heap.size → ¬ (fun q : Nat => s.heap.size ≤ q) q := fun q h => Nat.not_le.mpr h
  obtain ⟨c0, i0, k0⟩ := u_known (C := RX0) (T := TX0) (N := 9) (n := 9) hts li_wsX00 (hts (.instantiable RX0 9) (by decide +kernel))
  obtain ⟨c1, i1, k1⟩ := u_known (C := RX1) (T := TX1) (N := 6) (n := 6) hts li_wsX10 (hts (.instantiable RX1 6) (by decide +kernel))
  obtain ⟨c2, i2, k2⟩ := u_known (C := RX2) (T := TX2) (N := 3) (n := 3) hts li_wsX20 (hts (.instantiable RX2 3) (by decide +kernel))
  obtain ⟨c3, i3, k3⟩ := u_known (C := RX3) (T := TX3) (N := 2) (n := 2) hts li_wsX30 (hts (.instantiable RX3 2) (by decide +kernel))
  obtain ⟨c4, i4, k4⟩ := u_known (C := RX4) (T := TX4) (N := 4) (n := 4) hts li_wsX40 (hts (.instantiable RX4 4) (by decide +kernel))
  obtain ⟨c5, i5, k5⟩ := u_known (C := RX5) (T := TX5) (N := 6) (n := 6) hts li_wsX50 (hts (.instantiable RX5 6) (by decide +kernel))
  obtain ⟨c6, i6, k6⟩ := u_known (C := RX6) (T := TX6) (N := 1) (n := 1) hts li_wsX60 (hts (.instantiable RX6 1) (by decide +kernel))
  obtain ⟨c7, i7, k7⟩ := u_known (C := RX7) (T := TX7) (N := 6) (n := 6) hts li_wsX70 (hts (.instantiable RX7 6) (by decide +kernel))
  obtain ⟨c8, i8, k8⟩ := u_known (C := RX8) (T := TX8) (N := 8) (n := 8) hts li_wsX80 (hts (.instantiable RX8 8) (by decide +kernel))
  obtain ⟨c9, i9, k9⟩ := u_known (C := RX9) (T := TX9) (N := 36) (n := 36) hts li_wsX90 (hts (.instantiable RX9 36) (by decide +kernel))
  obtain ⟨dC, dI, hKc⟩ : ∃ (dC : Nat → ClassId) (dI : Nat → Nat → Nat), ∀ (k : Nat) (q : vw_C), vwCl[k]? = some q → u_Kn s q.1 q.2.1 q.2.2 (dC k) (dI k) := by
    refine ⟨fun k => match k with | 0 => c0 | 1 => c1 | 2 => c2 | 3 => c3 | 4 => c4 | 5 => c5 | 6 => c6 | 7 => c7 | 8 => c8 | _ => c9, fun k => match k with | 0 => i0 | 1 => i1 | 2 => i2 | 3 => i3 | 4 => i4 | 5 => i5 | 6 => i6 | 7 => i7 | 8 => i8 | _ => i9, ?_⟩
    intro k q hq
    match k, hq with
    | 0, hq => cases hq; exact k0
    | 1, hq => cases hq; exact k1
    | 2, hq => cases hq; exact k2
    | 3, hq => cases hq; exact k3
    | 4, hq => cases hq; exact k4
    | 5, hq => cases hq; exact k5
    | 6, hq => cases hq; exact k6
    | 7, hq => cases hq; exact k7
    | 8, hq => cases hq; exact k8
    | 9, hq => cases hq; exact k9
    | k + 10, hq => simp [vwCl] at hq
  obtain ⟨cA, kA, comp, hfc, hkA, hkind⟩ := Cond.arrayClass_spec (hts (.arrayClass .int) (by decide +kernel))
  have hK : va_K (dC, dI) vwCl [(cA, .int)] s := by
    refine ⟨hKc, fun k q h => ?_⟩
    match k, h with
    | 0, h => cases h; exact ⟨fun n z => ⟨fun k h => (by cases h), kA, hkA, comp, hkind⟩, hfc⟩
    | k + 1, h => simp at h
  have hel : ∀ j : Nat, j < 8 → (Term.elem (.static "MarkedNames" "FIRST_NAMES" "[I") (.int (Int32.ofNat j))).eval #[Value.ref b] s none [] s = some (.int (tabF j)) := by
    intro j hj
    match j, hj with
    | 0, _ => exact va_eqt (hg (.eq (.elem (.static "MarkedNames" "FIRST_NAMES" "[I") (.int 0)) (.int 91758)) (by decide +kernel))
    | 1, _ => exact va_eqt (hg (.eq (.elem (.static "MarkedNames" "FIRST_NAMES" "[I") (.int 1)) (.int 92518)) (by decide +kernel))
    | 2, _ => exact va_eqt (hg (.eq (.elem (.static "MarkedNames" "FIRST_NAMES" "[I") (.int 2)) (.int 369)) (by decide +kernel))
    | 3, _ => exact va_eqt (hg (.eq (.elem (.static "MarkedNames" "FIRST_NAMES" "[I") (.int 3)) (.int 93299)) (by decide +kernel))
    | 4, _ => exact va_eqt (hg (.eq (.elem (.static "MarkedNames" "FIRST_NAMES" "[I") (.int 4)) (.int 299)) (by decide +kernel))
    | 5, _ => exact va_eqt (hg (.eq (.elem (.static "MarkedNames" "FIRST_NAMES" "[I") (.int 5)) (.int 298)) (by decide +kernel))
    | 6, _ => exact va_eqt (hg (.eq (.elem (.static "MarkedNames" "FIRST_NAMES" "[I") (.int 6)) (.int 317)) (by decide +kernel))
    | 7, _ => exact va_eqt (hg (.eq (.elem (.static "MarkedNames" "FIRST_NAMES" "[I") (.int 7)) (.int 316)) (by decide +kernel))
    | j + 8, hj => exact absurd hj (by omega)
  obtain ⟨t, htv, hT⟩ := va_Tof (tm := .static "MarkedNames" "FIRST_NAMES" "[I") (ty := .int) (N := 8) (f := fun j => .int (tabF j)) (A := fun q : Nat => s.heap.size ≤ q) (by decide) (hg (.arrayOf (.static "MarkedNames" "FIRST_NAMES" "[I") .int) (by decide +kernel)) (va_eqt (hg (.eq (.length (.static "MarkedNames" "FIRST_NAMES" "[I")) (.int 8)) (by decide +kernel))) hel hnA
  have hZ := va_Zof (A := fun q : Nat => s.heap.size ≤ q) (hts (.laysStatic "MarkedNames" "FIRST_NAMES" "[I") (by decide +kernel)) (hts (.initialized "MarkedNames") (by decide +kernel)) htv hnA
  have hs0 : eA (fun _ => t) (fun q : Nat => s.heap.size ≤ q) s := ⟨fun w hw => va_Nw.of (nest_tab w hw) (hts w (nest_in w hw)), hZ, hT⟩
  have C : mC p s m #[Value.ref b] meth c cL_law 4 wsL_law RL ret (dC, dI) vwCl [(cA, .int)] (fun q : Nat => s.heap.size ≤ q) := ⟨hx, hb, hml, hown, hts2, hr, hlocks, hK, fun _ h => h⟩
  have hS : va_S (fun q : Nat => s.heap.size ≤ q) s.heap s.heap [] := va_S.rf
  have hP : va_P (dC, dI) vwCl [] s.heap := fun k q h => by simp at h
  have hD : va_D (fun q : Nat => s.heap.size ≤ q) [] := ⟨fun i j p q h => by simp at h, fun k q h => by simp at h⟩
  have hl := lv_entry ([.ref b]) (n := 4) (Nat.le_of_ble_eq_true rfl)
  rw [lg_entry_eq]
  refine (?_ : mV p l e room_1 s m #[Value.ref b] below meth c 4 (dC, dI) vwCl (fun q : Nat => s.heap.size ≤ q) 0 0 (lw_Z below #[Value.ref b] s) [] 0 [(0, .ref b)] []) s.heap [] _ hP hD hS hl
  refine mv_new (C0 := RX8) (T := TX8) (N := 8) (ci := 8) (fs := [.null, .int 0, .null, .null, .null, .null, .null, .null]) C (by decide +kernel) tyX8 tyX8_ok (by decide +kernel) (by decide +kernel) (by decide +kernel) rfl (fun j hj => by rcases (show j = 0 ∨ j = 1 ∨ j = 2 ∨ j = 3 ∨ j = 4 ∨ j = 5 ∨ j = 6 ∨ j = 7 by omega) with rfl | rfl | rfl | rfl | rfl | rfl | rfl | rfl <;> rfl) (by decide) (by decide) dL_law_0 (fun q1 => ?_)
  refine mv_dup C dL_law_3 rfl ?_
  refine mv_callI (As := []) (rest := [.ref q1]) (wr := []) C (eA_ok (fun _ => t)) hs0 0 [] rfl rfl (by decide) (by decide) (X8_init_met (l := l) (a := fun _ => t) (lev := 4) (by decide) q1) (cwI 0 C.2.2.2.2.1 gL_law_X8_init rfl rfl rfl (C.2.2.2.2.1 (.initialized RX8) (by decide +kernel)) (C.2.2.2.2.1 (.methodLink RL 9 yX8_init) (by decide +kernel)) (C.2.2.2.2.1 (.instanceMethod yX8_init) (by decide +kernel)) rfl (by decide +kernel) (by decide)) rfl rfl (Nat.le_of_ble_eq_true rfl) dL_law_4 (by decide) (fun a hz => ?_)
  obtain ⟨rfl, hz2⟩ := hz
  have hs : eA a (fun q : Nat => s.heap.size ≤ q) s := by
    unfold eA
    rw [hz2]
    exact hs0
  refine mv_ws (ws1 := wA cA a uA0) rfl ?_
  refine mv_astore_n (lv1 := [(1, .ref (a 0)), (0, .ref b)]) C dL_law_7 rfl (by decide) rfl ?_
  refine mv_new (C0 := RX9) (T := TX9) (N := 36) (ci := 9) (fs := [.null, .int 0, .null, .null, .int 0, .null, .null, .int 0, .int 0, .null, .null, .int 0, .int 0, .null, .null, .null, .null, .null, .null, .null, .int 0, .int 0, .null, .null, .null, .null, .null, .int 0, .null, .int 0, .int 0, .int 0, .int 0, .int 0, .int 0, .int 0]) C (by decide +kernel) tyX9 tyX9_ok (by decide +kernel) (by decide +kernel) (by decide +kernel) rfl (fun j hj => by rcases (show j = 0 ∨ j = 1 ∨ j = 2 ∨ j = 3 ∨ j = 4 ∨ j = 5 ∨ j = 6 ∨ j = 7 ∨ j = 8 ∨ j = 9 ∨ j = 10 ∨ j = 11 ∨ j = 12 ∨ j = 13 ∨ j = 14 ∨ j = 15 ∨ j = 16 ∨ j = 17 ∨ j = 18 ∨ j = 19 ∨ j = 20 ∨ j = 21 ∨ j = 22 ∨ j = 23 ∨ j = 24 ∨ j = 25 ∨ j = 26 ∨ j = 27 ∨ j = 28 ∨ j = 29 ∨ j = 30 ∨ j = 31 ∨ j = 32 ∨ j = 33 ∨ j = 34 ∨ j = 35 by omega) with rfl | rfl | rfl | rfl | rfl | rfl | rfl | rfl | rfl | rfl | rfl | rfl | rfl | rfl | rfl | rfl | rfl | rfl | rfl | rfl | rfl | rfl | rfl | rfl | rfl | rfl | rfl | rfl | rfl | rfl | rfl | rfl | rfl | rfl | rfl | rfl <;> rfl) (by decide) (by decide) dL_law_8 (fun q2 => ?_)
  refine mv_dup C dL_law_11 rfl ?_
  refine mv_callI (As := []) (rest := [.ref q2]) (wr := wA cA a uA0) C eM_ok trivial 22 [0, 1, 2, 3, 4, 5, 6, 7, 8, 9, 10, 11, 12, 13, 14, 15, 16, 17, 18, 19, 20, 21] rfl rfl (by decide) (by decide) (X9_init_met (l := l) (lev := 1) (by decide) q2) (cwI 0 C.2.2.2.2.1 gL_law_X9_init rfl rfl rfl (C.2.2.2.2.1 (.initialized RX9) (by decide +kernel)) (C.2.2.2.2.1 (.methodLink RL 12 yX9_init) (by decide +kernel)) (C.2.2.2.2.1 (.instanceMethod yX9_init) (by decide +kernel)) rfl (by decide +kernel) (by decide)) rfl rfl (Nat.le_of_ble_eq_true rfl) dL_law_12 (by decide) (fun d hz => ?_)
  obtain rfl := hz
  refine mv_astore_n (lv1 := [(2, .ref (d 0)), (1, .ref (a 0)), (0, .ref b)]) C dL_law_15 rfl (by decide) rfl ?_
  refine mv_iconst (v := (0 : Int32)) C dL_law_16 (by decide) ?_
  refine mv_istore_n (lv1 := [(3, .int 0), (2, .ref (d 0)), (1, .ref (a 0)), (0, .ref b)]) C dL_law_17 rfl (by decide) rfl ?_
  refine mv_sub [3, 2, 1, 0] rfl ?_
  have h0 : ∀ k : Nat, 3 * k + 3 ≤ L → k = 0 := fun k h => by omega
  refine law_loop (L := L) (b := d) (Nat.le_trans hL (by decide)) C hX hbl hs invP ?_ ?_ ?_ ?_ ?_ ?_ (L + 1) 0 uA0 uM0 (by omega) (by omega) (fun _ => ⟨rfl, rfl⟩)
  · intro k u v x y hk hI
    obtain ⟨rfl, rfl⟩ := hI (h0 k hk)
    refine typeA (t := 0) rfl (by omega) (fun N hN hc => ?_) (fun hc => ?_)
    · exact typeM (t := 0) rfl (by omega) (fun M hM _ => ⟨rfl, fun h => absurd h (by omega)⟩) (fun hn => absurd hc hn)
    · exact typeM (t := 0) rfl (by omega) (fun M hM hc2 => absurd hc2 hc) (fun _ => ⟨rfl, fun h => absurd h (by omega)⟩)
  · intro k u v hk hI
    obtain ⟨rfl, rfl⟩ := hI (h0 k hk)
    exact rulesA rfl (fun w => rulesM rfl (fun t => ⟨rfl, fun h => absurd h (by omega)⟩))
  · intro k u v x hk hI
    obtain ⟨rfl, rfl⟩ := hI (h0 k hk)
    refine expA rfl (fun h w => ?_) (fun h1 h2 w => ?_)
    · exact expM rfl rfl (fun _ t => ⟨rfl, fun h => absurd h (by omega)⟩) (fun a1 a2 => by
        rcases h with h | h
        · exact absurd h a1
        · exact absurd a2 h)
    · exact expM rfl rfl (fun h => by
        rcases h with h | h
        · exact absurd h h1
        · exact absurd h2 h) (fun _ _ t => ⟨rfl, fun h => absurd h (by omega)⟩)
  · intro k u v x hk hI
    obtain ⟨rfl, rfl⟩ := hI (h0 k hk)
    exact atA rfl (fun w => atM rfl (fun t => ⟨rfl, fun h => absurd h (by omega)⟩))
  · intro k u v x hk hI
    obtain ⟨rfl, rfl⟩ := hI (h0 k hk)
    exact countA rfl rfl rfl rfl (countM rfl rfl rfl rfl rfl ⟨rfl, fun h => absurd h (by omega)⟩)
  · intro k u v hk hI h
    exact absurd h (by omega)
-- ===== YOUR PART ENDS =====
set_option maxHeartbeats 4000000 in
theorem lw_walk (l : Launch) (b : Addr) (xs : List Int32) : MetFree l x (headSpec (Jvm.Cond.code x code maxLocals ret :: tables_1) room_1) (lw_P b xs) (fun _ _ _ _ _ => True) lw_Q := by
  refine MetFree.of_bodyS (code := code) (maxLocals := maxLocals) (ret := ret) (by decide) ?_ ?_
  · intro args s m h hn
    obtain ⟨meth, c, h1, h2, h3, h4, h5, h6, -, -⟩ := Cond.code_spec hn (atoms_spec (ws := Jvm.Cond.code x code maxLocals ret :: tables_1) h _ List.mem_cons_self)
    exact ⟨meth, c, h1, h2, h3, h4, h5, h6⟩
  · intro p e s m args below meth c s₁ B hml0 hP _
    obtain ⟨rfl, hx, hbd, hgv⟩ := hP
    obtain ⟨scr, harrAt, hlist, hof, hsmall⟩ := hx
    obtain ⟨hcb, hkn, -, -⟩ := State.arrayAt?_spec harrAt
    have hown : s.vm.findClass R_law = some m.cls := findClass_of_methodNamed B.named
    have hts0 : ∀ c ∈ (Jvm.Cond.code x code maxLocals ret :: tables_1), c.before #[Value.ref b] s = true := atoms_spec (ws := Jvm.Cond.code x code maxLocals ret :: tables_1) B.pre
    have hts : ∀ w ∈ lw_tbl, w.before #[Value.ref b] s = true := k2_hts_sels lw_privs (fun w hw => hts0 w (List.mem_cons_of_mem _ hw)) lw_privs_ok
    have hml : c.maxLocals = 4 := B.maxLocals_eq (hts0 _ List.mem_cons_self)
    have X₀ : Stand p l e room_1 s m #[Value.ref b] below meth c s₁ [] 0 0 := Stand.of_body B
    have hh0 : s₁.heap = s.heap := by rw [B.state]; rfl
    have hsz : scr.slots.size = xs.length := by rw [← Array.length_toList, hlist, List.length_map]
    have hval : ∀ j : Nat, j < xs.length → scr.slots[j]? = some (.int (xs.getD j 0)) := fun j hj => by
      rw [← Array.getElem?_toList, hlist]
      simp [hj]
    have hbl : b < s.heap.size := (Array.getElem?_eq_some_iff.mp hcb).1
    have hX : va_X b xs.length (fun j => xs.getD j 0) s s.heap := ⟨scr, hcb, hof, hkn, hsz, hval⟩
    have K : W p l e room_1 s m #[Value.ref b] below meth c s₁.heap [] 0 0 (lw_Z below #[Value.ref b] s) (entryFrame m ([Value.ref b] : List Value).toArray 4) := by
      rw [hh0]
      exact whole_start l hbd ⟨B.exec, B.bytes, B.returns, hml, hown, hts, hX, hbl, B.notSynchronized, hgv⟩
    obtain ⟨t, a1, o, b1, b2, b3⟩ := K s₁ rfl X₀
    exact ⟨t, o, a1, b1, b2, b3⟩
theorem lw_pre_spec {args : Array Value} {s : State} (h : (Jvm.Cond.and given_1 narrow_1).before args s = true) (hr : rest_1_c.before args s = true) : ∃ (b : Addr) (xs : List Int32), lw_P b xs args s := by
  have hs := flat_of_before _ h
  have hq := flat_of_before _ hr
  have hc : (Cond.count 1).before args s = true := hs _ (by decide +kernel)
  have harr : (Cond.arrayOf (.arg 0) .int).before args s = true := hs _ (by decide +kernel)
  have hle : (Cond.le (.length (.arg 0)) (.int 3)).before args s = true := hs _ (by decide +kernel)
  have hlen : (Cond.isInt (.length (.arg 0))).before args s = true := hq _ (by decide +kernel)
  have hall : (Cond.all (.arg 0) (.isInt (.elem (.arg 0) (.index 0)))).before args s = true := hq _ (by decide +kernel)
  obtain ⟨b, xs, hb, hx⟩ := State.ints_of_pre rfl harr hlen hall
  have hsm : xs.length < 2 ^ 31 := hx.choose_spec.2.2.2
  have hev : (Term.length (.arg 0)).eval args s none [] s = some (.int xs.length.toInt32) := hx.length_eval hb
  have hv := Cond.le_ints hev (show (Term.int 3).eval args s none [] s = some (.int 3) from rfl)
  have hd : xs.length.toInt32 ≤ 3 := by
    simpa [Cond.before, Cond.holds, hv] using hle
  have hN : xs.length ≤ 3 := (Int32.ofNat_le_ofNat hsm (by decide)).mp (show Int32.ofNat xs.length ≤ Int32.ofNat 3 from hd)
  exact ⟨b, xs, Cond.one_arg hc (show args[0]? = some (.ref b) from hb), hx, hN, h⟩
theorem lw_comes (l : Launch) : Comes l x (Jvm.Cond.code x code maxLocals ret :: tables_1) room_1 (fun tb e args s => Calls_1 tb e args s ∧ rest_1 tb e args s ∧ Pre_1 tb e args s)
    (fun _ _ args s o t => lw_Q args s o t) := by
  intro p e ha hc hk s m args below hf hfit hheap happ hpre
  obtain ⟨b, xs, hP⟩ := lw_pre_spec hpre.2.2 hpre.2.1
  obtain ⟨k, o, h1, h2, h3, hQ⟩ := lw_walk l b xs p e ha hc hk s m args below hf ((Spec.applies_iff_loose hf).mp happ).1 hP trivial
  exact ⟨k, o, h1, h2, h3, hQ⟩
theorem lw_frame {s t : State} {o : Outcome} {args : Array Value} (h : Framed s o t [] 600000 7302250) :
    Framed s o t (fieldLocs frame_1_writes args s ++ arrayLocs frame_1_arrays args s ++ staticLocs frame_1_statics s) 600000 7302250 := h
theorem lw_limb (L : Cond) (hL : ∀ (args : Array Value) (s t : State), L.after args s (.returned (some (.int 1))) t = true) :
    ArmFor flags0 classFile x code maxLocals ret World_1 tables_1 room_1 Calls_1 rest_1 Pre_1
      (fun tb e a s o t => postC L tb e a s o t ∧ Framed s o t (fieldLocs frame_1_writes a s ++ arrayLocs frame_1_arrays a s ++ staticLocs frame_1_statics s) 600000 7302250) := by
  intro l _ _ _ p e ha hc hk s m args below hf hfit hheap happ hpre
  obtain ⟨k, o, h1, h2, h3, rfl, hF⟩ := lw_comes l p e ha hc hk s m args below hf hfit hheap happ hpre
  exact ⟨k, _, h1, h2, h3, hL args s _, lw_frame hF⟩
theorem i_vc : Claimed_1_1 ∧ Claimed_1_2 := ⟨lw_limb limb_1_1 (fun args s t => by simp [limb_1_1, Cond.after, Cond.holds, Cond.value]), lw_limb limb_1_2 (fun args s t => Cond.after_iff.mpr (by
  first | (rw [show limb_1_2 = Cond.eq .result (.int 1) from rfl, Cond.eq_ints (x := 1) (y := 1) rfl rfl]; simp; done) | (simp [limb_1_2, Cond.value, Term.eval]; done)))⟩
end
