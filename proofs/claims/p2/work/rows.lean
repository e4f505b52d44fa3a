section
-- ===== PART A: goes FIRST, ahead of the names: the tables' words, and 'selects' of the private methods out of them =====
/-- a private method of a class that the tables say can be made, by its rows of tables_1 -/
def lw_okq (q : MethodName × Nat) : Prop := (q.1.cls ≠ "java/lang/invoke/MethodHandle" ∧ q.1.cls ≠ "java/lang/invoke/VarHandle") ∧ Cond.instantiable q.1.cls q.2 ∈ tables_1 ∧ Cond.privateMethod q.1 ∈ tables_1 ∧ Cond.instanceMethod q.1 ∈ tables_1
theorem lw_p0 : lw_okq (⟨"MarkedNames", "appendTyped", "(I)V"⟩, 8) := ⟨⟨by decide +kernel, by decide +kernel⟩, List.mem_of_getElem? (i := 15) (by decide +kernel), List.mem_of_getElem? (i := 236) (by decide +kernel), List.mem_of_getElem? (i := 237) (by decide +kernel)⟩
theorem lw_p1 : lw_okq (⟨"MarkedNames", "takeTyped", "()I"⟩, 8) := ⟨⟨by decide +kernel, by decide +kernel⟩, List.mem_of_getElem? (i := 15) (by decide +kernel), List.mem_of_getElem? (i := 244) (by decide +kernel), List.mem_of_getElem? (i := 245) (by decide +kernel)⟩
theorem lw_p2 : lw_okq (⟨"MarkedNames$Reader", "readToken", "([III)I"⟩, 2) := ⟨⟨by decide +kernel, by decide +kernel⟩, List.mem_of_getElem? (i := 50) (by decide +kernel), List.mem_of_getElem? (i := 258) (by decide +kernel), List.mem_of_getElem? (i := 259) (by decide +kernel)⟩
theorem lw_p3 : lw_okq (⟨"MarkedNames$Reader", "isWhole", "()Z"⟩, 2) := ⟨⟨by decide +kernel, by decide +kernel⟩, List.mem_of_getElem? (i := 50) (by decide +kernel), List.mem_of_getElem? (i := 262) (by decide +kernel), List.mem_of_getElem? (i := 263) (by decide +kernel)⟩
theorem lw_p4 : lw_okq (⟨"MarkedNames$Reader", "readName", "([III)I"⟩, 2) := ⟨⟨by decide +kernel, by decide +kernel⟩, List.mem_of_getElem? (i := 50) (by decide +kernel), List.mem_of_getElem? (i := 269) (by decide +kernel), List.mem_of_getElem? (i := 270) (by decide +kernel)⟩
theorem lw_p5 : lw_okq (⟨"MarkedNames$Row", "closeBracket", "()V"⟩, 6) := ⟨⟨by decide +kernel, by decide +kernel⟩, List.mem_of_getElem? (i := 23) (by decide +kernel), List.mem_of_getElem? (i := 277) (by decide +kernel), List.mem_of_getElem? (i := 278) (by decide +kernel)⟩
theorem lw_p6 : lw_okq (⟨"MarkedNames$Reader", "readNumber", "([III)I"⟩, 2) := ⟨⟨by decide +kernel, by decide +kernel⟩, List.mem_of_getElem? (i := 50) (by decide +kernel), List.mem_of_getElem? (i := 281) (by decide +kernel), List.mem_of_getElem? (i := 282) (by decide +kernel)⟩
theorem lw_p7 : lw_okq (⟨"MarkedNames$Reader", "readOpen", "()I"⟩, 2) := ⟨⟨by decide +kernel, by decide +kernel⟩, List.mem_of_getElem? (i := 50) (by decide +kernel), List.mem_of_getElem? (i := 285) (by decide +kernel), List.mem_of_getElem? (i := 286) (by decide +kernel)⟩
theorem lw_p8 : lw_okq (⟨"MarkedNames$Reader", "readClose", "()I"⟩, 2) := ⟨⟨by decide +kernel, by decide +kernel⟩, List.mem_of_getElem? (i := 50) (by decide +kernel), List.mem_of_getElem? (i := 289) (by decide +kernel), List.mem_of_getElem? (i := 290) (by decide +kernel)⟩
theorem lw_p9 : lw_okq (⟨"MarkedNames$Reader", "readDots", "(I)I"⟩, 2) := ⟨⟨by decide +kernel, by decide +kernel⟩, List.mem_of_getElem? (i := 50) (by decide +kernel), List.mem_of_getElem? (i := 293) (by decide +kernel), List.mem_of_getElem? (i := 294) (by decide +kernel)⟩
theorem lw_p10 : lw_okq (⟨"MarkedNames$RuleCheck", "isRule", "(I)Z"⟩, 1) := ⟨⟨by decide +kernel, by decide +kernel⟩, List.mem_of_getElem? (i := 63) (by decide +kernel), List.mem_of_getElem? (i := 322) (by decide +kernel), List.mem_of_getElem? (i := 323) (by decide +kernel)⟩
theorem lw_p11 : lw_okq (⟨"MarkedNames$RuleCheck", "isPattern", "(I)Z"⟩, 1) := ⟨⟨by decide +kernel, by decide +kernel⟩, List.mem_of_getElem? (i := 63) (by decide +kernel), List.mem_of_getElem? (i := 330) (by decide +kernel), List.mem_of_getElem? (i := 331) (by decide +kernel)⟩
theorem lw_p12 : lw_okq (⟨"MarkedNames$RuleCheck", "linkUses", "(II)V"⟩, 1) := ⟨⟨by decide +kernel, by decide +kernel⟩, List.mem_of_getElem? (i := 63) (by decide +kernel), List.mem_of_getElem? (i := 349) (by decide +kernel), List.mem_of_getElem? (i := 350) (by decide +kernel)⟩
theorem lw_p13 : lw_okq (⟨"MarkedNames$RuleCheck", "isTemplate", "(II)Z"⟩, 1) := ⟨⟨by decide +kernel, by decide +kernel⟩, List.mem_of_getElem? (i := 63) (by decide +kernel), List.mem_of_getElem? (i := 357) (by decide +kernel), List.mem_of_getElem? (i := 358) (by decide +kernel)⟩
theorem lw_p14 : lw_okq (⟨"MarkedNames$Expander", "expandList", "(II)V"⟩, 9) := ⟨⟨by decide +kernel, by decide +kernel⟩, List.mem_of_getElem? (i := 124) (by decide +kernel), List.mem_of_getElem? (i := 415) (by decide +kernel), List.mem_of_getElem? (i := 416) (by decide +kernel)⟩
theorem lw_p15 : lw_okq (⟨"MarkedNames$Expander", "meaningOf", "(I)I"⟩, 9) := ⟨⟨by decide +kernel, by decide +kernel⟩, List.mem_of_getElem? (i := 124) (by decide +kernel), List.mem_of_getElem? (i := 424) (by decide +kernel), List.mem_of_getElem? (i := 425) (by decide +kernel)⟩
def lw_privs_1 : List (MethodName × Nat) := [(⟨"MarkedNames", "appendTyped", "(I)V"⟩, 8), (⟨"MarkedNames", "takeTyped", "()I"⟩, 8), (⟨"MarkedNames$Reader", "readToken", "([III)I"⟩, 2), (⟨"MarkedNames$Reader", "isWhole", "()Z"⟩, 2), (⟨"MarkedNames$Reader", "readName", "([III)I"⟩, 2), (⟨"MarkedNames$Row", "closeBracket", "()V"⟩, 6), (⟨"MarkedNames$Reader", "readNumber", "([III)I"⟩, 2), (⟨"MarkedNames$Reader", "readOpen", "()I"⟩, 2), (⟨"MarkedNames$Reader", "readClose", "()I"⟩, 2), (⟨"MarkedNames$Reader", "readDots", "(I)I"⟩, 2), (⟨"MarkedNames$RuleCheck", "isRule", "(I)Z"⟩, 1), (⟨"MarkedNames$RuleCheck", "isPattern", "(I)Z"⟩, 1), (⟨"MarkedNames$RuleCheck", "linkUses", "(II)V"⟩, 1), (⟨"MarkedNames$RuleCheck", "isTemplate", "(II)Z"⟩, 1), (⟨"MarkedNames$Expander", "expandList", "(II)V"⟩, 9), (⟨"MarkedNames$Expander", "meaningOf", "(I)I"⟩, 9)]
theorem lw_r1 : ∀ q ∈ lw_privs_1, lw_okq q := List.forall_mem_cons.mpr ⟨lw_p0, List.forall_mem_cons.mpr ⟨lw_p1, List.forall_mem_cons.mpr ⟨lw_p2, List.forall_mem_cons.mpr ⟨lw_p3, List.forall_mem_cons.mpr ⟨lw_p4, List.forall_mem_cons.mpr ⟨lw_p5, List.forall_mem_cons.mpr ⟨lw_p6, List.forall_mem_cons.mpr ⟨lw_p7, List.forall_mem_cons.mpr ⟨lw_p8, List.forall_mem_cons.mpr ⟨lw_p9, List.forall_mem_cons.mpr ⟨lw_p10, List.forall_mem_cons.mpr ⟨lw_p11, List.forall_mem_cons.mpr ⟨lw_p12, List.forall_mem_cons.mpr ⟨lw_p13, List.forall_mem_cons.mpr ⟨lw_p14, List.forall_mem_cons.mpr ⟨lw_p15, fun _ h => absurd h List.not_mem_nil⟩⟩⟩⟩⟩⟩⟩⟩⟩⟩⟩⟩⟩⟩⟩⟩
theorem lw_p16 : lw_okq (⟨"MarkedNames$Table", "holdsAllOthers", "(II)Z"⟩, 6) := ⟨⟨by decide +kernel, by decide +kernel⟩, List.mem_of_getElem? (i := 73) (by decide +kernel), List.mem_of_getElem? (i := 442) (by decide +kernel), List.mem_of_getElem? (i := 443) (by decide +kernel)⟩
theorem lw_p17 : lw_okq (⟨"MarkedNames$Expander", "expandFn", "(II)V"⟩, 9) := ⟨⟨by decide +kernel, by decide +kernel⟩, List.mem_of_getElem? (i := 124) (by decide +kernel), List.mem_of_getElem? (i := 450) (by decide +kernel), List.mem_of_getElem? (i := 451) (by decide +kernel)⟩
theorem lw_p18 : lw_okq (⟨"MarkedNames$Expander", "areNames", "(I)Z"⟩, 9) := ⟨⟨by decide +kernel, by decide +kernel⟩, List.mem_of_getElem? (i := 124) (by decide +kernel), List.mem_of_getElem? (i := 456) (by decide +kernel), List.mem_of_getElem? (i := 457) (by decide +kernel)⟩
theorem lw_p19 : lw_okq (⟨"MarkedNames$Expander", "newScope", "()I"⟩, 9) := ⟨⟨by decide +kernel, by decide +kernel⟩, List.mem_of_getElem? (i := 124) (by decide +kernel), List.mem_of_getElem? (i := 460) (by decide +kernel), List.mem_of_getElem? (i := 461) (by decide +kernel)⟩
theorem lw_p20 : lw_okq (⟨"MarkedNames$Expander", "bindVariable", "(II)V"⟩, 9) := ⟨⟨by decide +kernel, by decide +kernel⟩, List.mem_of_getElem? (i := 124) (by decide +kernel), List.mem_of_getElem? (i := 470) (by decide +kernel), List.mem_of_getElem? (i := 471) (by decide +kernel)⟩
theorem lw_p21 : lw_okq (⟨"MarkedNames$Expander", "bind", "(III)Z"⟩, 9) := ⟨⟨by decide +kernel, by decide +kernel⟩, List.mem_of_getElem? (i := 124) (by decide +kernel), List.mem_of_getElem? (i := 475) (by decide +kernel), List.mem_of_getElem? (i := 476) (by decide +kernel)⟩
theorem lw_p22 : lw_okq (⟨"MarkedNames$Expander", "putVariables", "(II)V"⟩, 9) := ⟨⟨by decide +kernel, by decide +kernel⟩, List.mem_of_getElem? (i := 124) (by decide +kernel), List.mem_of_getElem? (i := 480) (by decide +kernel), List.mem_of_getElem? (i := 481) (by decide +kernel)⟩
theorem lw_p23 : lw_okq (⟨"MarkedNames$Expander", "expandIf", "(II)V"⟩, 9) := ⟨⟨by decide +kernel, by decide +kernel⟩, List.mem_of_getElem? (i := 124) (by decide +kernel), List.mem_of_getElem? (i := 503) (by decide +kernel), List.mem_of_getElem? (i := 504) (by decide +kernel)⟩
theorem lw_p24 : lw_okq (⟨"MarkedNames$Expander", "expandQ", "(I)V"⟩, 9) := ⟨⟨by decide +kernel, by decide +kernel⟩, List.mem_of_getElem? (i := 124) (by decide +kernel), List.mem_of_getElem? (i := 508) (by decide +kernel), List.mem_of_getElem? (i := 509) (by decide +kernel)⟩
theorem lw_p25 : lw_okq (⟨"MarkedNames$Outcome", "putWord", "(I)V"⟩, 3) := ⟨⟨by decide +kernel, by decide +kernel⟩, List.mem_of_getElem? (i := 104) (by decide +kernel), List.mem_of_getElem? (i := 518) (by decide +kernel), List.mem_of_getElem? (i := 519) (by decide +kernel)⟩
theorem lw_p26 : lw_okq (⟨"MarkedNames$Expander", "expandLs", "(II)V"⟩, 9) := ⟨⟨by decide +kernel, by decide +kernel⟩, List.mem_of_getElem? (i := 124) (by decide +kernel), List.mem_of_getElem? (i := 527) (by decide +kernel), List.mem_of_getElem? (i := 528) (by decide +kernel)⟩
theorem lw_p27 : lw_okq (⟨"MarkedNames$Expander", "expandByRules", "(III)V"⟩, 9) := ⟨⟨by decide +kernel, by decide +kernel⟩, List.mem_of_getElem? (i := 124) (by decide +kernel), List.mem_of_getElem? (i := 536) (by decide +kernel), List.mem_of_getElem? (i := 537) (by decide +kernel)⟩
theorem lw_p28 : lw_okq (⟨"MarkedNames$Filler", "matches", "(II)Z"⟩, 6) := ⟨⟨by decide +kernel, by decide +kernel⟩, List.mem_of_getElem? (i := 130) (by decide +kernel), List.mem_of_getElem? (i := 545) (by decide +kernel), List.mem_of_getElem? (i := 546) (by decide +kernel)⟩
theorem lw_p29 : lw_okq (⟨"MarkedNames$Filler", "hasRoomFor", "(II)Z"⟩, 6) := ⟨⟨by decide +kernel, by decide +kernel⟩, List.mem_of_getElem? (i := 130) (by decide +kernel), List.mem_of_getElem? (i := 549) (by decide +kernel), List.mem_of_getElem? (i := 550) (by decide +kernel)⟩
theorem lw_p30 : lw_okq (⟨"MarkedNames$Rounds", "hasInner", "()Z"⟩, 4) := ⟨⟨by decide +kernel, by decide +kernel⟩, List.mem_of_getElem? (i := 136) (by decide +kernel), List.mem_of_getElem? (i := 566) (by decide +kernel), List.mem_of_getElem? (i := 567) (by decide +kernel)⟩
theorem lw_p31 : lw_okq (⟨"MarkedNames$Filler", "roundsFor", "(I)I"⟩, 6) := ⟨⟨by decide +kernel, by decide +kernel⟩, List.mem_of_getElem? (i := 130) (by decide +kernel), List.mem_of_getElem? (i := 588) (by decide +kernel), List.mem_of_getElem? (i := 589) (by decide +kernel)⟩
def lw_privs_2 : List (MethodName × Nat) := [(⟨"MarkedNames$Table", "holdsAllOthers", "(II)Z"⟩, 6), (⟨"MarkedNames$Expander", "expandFn", "(II)V"⟩, 9), (⟨"MarkedNames$Expander", "areNames", "(I)Z"⟩, 9), (⟨"MarkedNames$Expander", "newScope", "()I"⟩, 9), (⟨"MarkedNames$Expander", "bindVariable", "(II)V"⟩, 9), (⟨"MarkedNames$Expander", "bind", "(III)Z"⟩, 9), (⟨"MarkedNames$Expander", "putVariables", "(II)V"⟩, 9), (⟨"MarkedNames$Expander", "expandIf", "(II)V"⟩, 9), (⟨"MarkedNames$Expander", "expandQ", "(I)V"⟩, 9), (⟨"MarkedNames$Outcome", "putWord", "(I)V"⟩, 3), (⟨"MarkedNames$Expander", "expandLs", "(II)V"⟩, 9), (⟨"MarkedNames$Expander", "expandByRules", "(III)V"⟩, 9), (⟨"MarkedNames$Filler", "matches", "(II)Z"⟩, 6), (⟨"MarkedNames$Filler", "hasRoomFor", "(II)Z"⟩, 6), (⟨"MarkedNames$Rounds", "hasInner", "()Z"⟩, 4), (⟨"MarkedNames$Filler", "roundsFor", "(I)I"⟩, 6)]
theorem lw_r2 : ∀ q ∈ lw_privs_2, lw_okq q := List.forall_mem_cons.mpr ⟨lw_p16, List.forall_mem_cons.mpr ⟨lw_p17, List.forall_mem_cons.mpr ⟨lw_p18, List.forall_mem_cons.mpr ⟨lw_p19, List.forall_mem_cons.mpr ⟨lw_p20, List.forall_mem_cons.mpr ⟨lw_p21, List.forall_mem_cons.mpr ⟨lw_p22, List.forall_mem_cons.mpr ⟨lw_p23, List.forall_mem_cons.mpr ⟨lw_p24, List.forall_mem_cons.mpr ⟨lw_p25, List.forall_mem_cons.mpr ⟨lw_p26, List.forall_mem_cons.mpr ⟨lw_p27, List.forall_mem_cons.mpr ⟨lw_p28, List.forall_mem_cons.mpr ⟨lw_p29, List.forall_mem_cons.mpr ⟨lw_p30, List.forall_mem_cons.mpr ⟨lw_p31, fun _ h => absurd h List.not_mem_nil⟩⟩⟩⟩⟩⟩⟩⟩⟩⟩⟩⟩⟩⟩⟩⟩
theorem lw_p32 : lw_okq (⟨"MarkedNames$Filler", "matchOf", "(II)I"⟩, 6) := ⟨⟨by decide +kernel, by decide +kernel⟩, List.mem_of_getElem? (i := 130) (by decide +kernel), List.mem_of_getElem? (i := 593) (by decide +kernel), List.mem_of_getElem? (i := 594) (by decide +kernel)⟩
theorem lw_p33 : lw_okq (⟨"MarkedNames$Filler", "fillToken", "(I)V"⟩, 6) := ⟨⟨by decide +kernel, by decide +kernel⟩, List.mem_of_getElem? (i := 130) (by decide +kernel), List.mem_of_getElem? (i := 603) (by decide +kernel), List.mem_of_getElem? (i := 604) (by decide +kernel)⟩
theorem lw_p34 : lw_okq (⟨"MarkedNames$Expander", "expandEach", "(II)V"⟩, 9) := ⟨⟨by decide +kernel, by decide +kernel⟩, List.mem_of_getElem? (i := 124) (by decide +kernel), List.mem_of_getElem? (i := 610) (by decide +kernel), List.mem_of_getElem? (i := 611) (by decide +kernel)⟩
theorem lw_p35 : lw_okq (⟨"MarkedNames$Expander", "expandName", "(I)V"⟩, 9) := ⟨⟨by decide +kernel, by decide +kernel⟩, List.mem_of_getElem? (i := 124) (by decide +kernel), List.mem_of_getElem? (i := 614) (by decide +kernel), List.mem_of_getElem? (i := 615) (by decide +kernel)⟩
theorem lw_p36 : lw_okq (⟨"MarkedNamesModel", "read", "()I"⟩, 36) := ⟨⟨by decide +kernel, by decide +kernel⟩, List.mem_of_getElem? (i := 632) (by decide +kernel), List.mem_of_getElem? (i := 755) (by decide +kernel), List.mem_of_getElem? (i := 756) (by decide +kernel)⟩
theorem lw_p37 : lw_okq (⟨"MarkedNamesModel", "look", "(I)I"⟩, 36) := ⟨⟨by decide +kernel, by decide +kernel⟩, List.mem_of_getElem? (i := 632) (by decide +kernel), List.mem_of_getElem? (i := 759) (by decide +kernel), List.mem_of_getElem? (i := 760) (by decide +kernel)⟩
theorem lw_p38 : lw_okq (⟨"MarkedNamesModel", "token", "(I)I"⟩, 36) := ⟨⟨by decide +kernel, by decide +kernel⟩, List.mem_of_getElem? (i := 632) (by decide +kernel), List.mem_of_getElem? (i := 763) (by decide +kernel), List.mem_of_getElem? (i := 764) (by decide +kernel)⟩
theorem lw_p39 : lw_okq (⟨"MarkedNamesModel", "run", "(I)I"⟩, 36) := ⟨⟨by decide +kernel, by decide +kernel⟩, List.mem_of_getElem? (i := 632) (by decide +kernel), List.mem_of_getElem? (i := 770) (by decide +kernel), List.mem_of_getElem? (i := 771) (by decide +kernel)⟩
theorem lw_p40 : lw_okq (⟨"MarkedNamesModel", "code", "(II)I"⟩, 36) := ⟨⟨by decide +kernel, by decide +kernel⟩, List.mem_of_getElem? (i := 632) (by decide +kernel), List.mem_of_getElem? (i := 777) (by decide +kernel), List.mem_of_getElem? (i := 778) (by decide +kernel)⟩
theorem lw_p41 : lw_okq (⟨"MarkedNamesModel", "keep", "(III)I"⟩, 36) := ⟨⟨by decide +kernel, by decide +kernel⟩, List.mem_of_getElem? (i := 632) (by decide +kernel), List.mem_of_getElem? (i := 798) (by decide +kernel), List.mem_of_getElem? (i := 799) (by decide +kernel)⟩
theorem lw_p42 : lw_okq (⟨"MarkedNamesModel", "areRules", "(II)Z"⟩, 36) := ⟨⟨by decide +kernel, by decide +kernel⟩, List.mem_of_getElem? (i := 632) (by decide +kernel), List.mem_of_getElem? (i := 802) (by decide +kernel), List.mem_of_getElem? (i := 803) (by decide +kernel)⟩
theorem lw_p43 : lw_okq (⟨"MarkedNamesModel", "isPattern", "(I)Z"⟩, 36) := ⟨⟨by decide +kernel, by decide +kernel⟩, List.mem_of_getElem? (i := 632) (by decide +kernel), List.mem_of_getElem? (i := 812) (by decide +kernel), List.mem_of_getElem? (i := 813) (by decide +kernel)⟩
theorem lw_p44 : lw_okq (⟨"MarkedNamesModel", "heldBy", "(III)I"⟩, 36) := ⟨⟨by decide +kernel, by decide +kernel⟩, List.mem_of_getElem? (i := 632) (by decide +kernel), List.mem_of_getElem? (i := 816) (by decide +kernel), List.mem_of_getElem? (i := 817) (by decide +kernel)⟩
theorem lw_p45 : lw_okq (⟨"MarkedNamesModel", "variable", "(III)I"⟩, 36) := ⟨⟨by decide +kernel, by decide +kernel⟩, List.mem_of_getElem? (i := 632) (by decide +kernel), List.mem_of_getElem? (i := 820) (by decide +kernel), List.mem_of_getElem? (i := 821) (by decide +kernel)⟩
theorem lw_p46 : lw_okq (⟨"MarkedNamesModel", "isTemplate", "(II)Z"⟩, 36) := ⟨⟨by decide +kernel, by decide +kernel⟩, List.mem_of_getElem? (i := 632) (by decide +kernel), List.mem_of_getElem? (i := 824) (by decide +kernel), List.mem_of_getElem? (i := 825) (by decide +kernel)⟩
theorem lw_p47 : lw_okq (⟨"MarkedNamesModel", "uses", "(III)I"⟩, 36) := ⟨⟨by decide +kernel, by decide +kernel⟩, List.mem_of_getElem? (i := 632) (by decide +kernel), List.mem_of_getElem? (i := 828) (by decide +kernel), List.mem_of_getElem? (i := 829) (by decide +kernel)⟩
def lw_privs_3 : List (MethodName × Nat) := [(⟨"MarkedNames$Filler", "matchOf", "(II)I"⟩, 6), (⟨"MarkedNames$Filler", "fillToken", "(I)V"⟩, 6), (⟨"MarkedNames$Expander", "expandEach", "(II)V"⟩, 9), (⟨"MarkedNames$Expander", "expandName", "(I)V"⟩, 9), (⟨"MarkedNamesModel", "read", "()I"⟩, 36), (⟨"MarkedNamesModel", "look", "(I)I"⟩, 36), (⟨"MarkedNamesModel", "token", "(I)I"⟩, 36), (⟨"MarkedNamesModel", "run", "(I)I"⟩, 36), (⟨"MarkedNamesModel", "code", "(II)I"⟩, 36), (⟨"MarkedNamesModel", "keep", "(III)I"⟩, 36), (⟨"MarkedNamesModel", "areRules", "(II)Z"⟩, 36), (⟨"MarkedNamesModel", "isPattern", "(I)Z"⟩, 36), (⟨"MarkedNamesModel", "heldBy", "(III)I"⟩, 36), (⟨"MarkedNamesModel", "variable", "(III)I"⟩, 36), (⟨"MarkedNamesModel", "isTemplate", "(II)Z"⟩, 36), (⟨"MarkedNamesModel", "uses", "(III)I"⟩, 36)]
theorem lw_r3 : ∀ q ∈ lw_privs_3, lw_okq q := List.forall_mem_cons.mpr ⟨lw_p32, List.forall_mem_cons.mpr ⟨lw_p33, List.forall_mem_cons.mpr ⟨lw_p34, List.forall_mem_cons.mpr ⟨lw_p35, List.forall_mem_cons.mpr ⟨lw_p36, List.forall_mem_cons.mpr ⟨lw_p37, List.forall_mem_cons.mpr ⟨lw_p38, List.forall_mem_cons.mpr ⟨lw_p39, List.forall_mem_cons.mpr ⟨lw_p40, List.forall_mem_cons.mpr ⟨lw_p41, List.forall_mem_cons.mpr ⟨lw_p42, List.forall_mem_cons.mpr ⟨lw_p43, List.forall_mem_cons.mpr ⟨lw_p44, List.forall_mem_cons.mpr ⟨lw_p45, List.forall_mem_cons.mpr ⟨lw_p46, List.forall_mem_cons.mpr ⟨lw_p47, fun _ h => absurd h List.not_mem_nil⟩⟩⟩⟩⟩⟩⟩⟩⟩⟩⟩⟩⟩⟩⟩⟩
theorem lw_p48 : lw_okq (⟨"MarkedNamesModel", "beginning", "()V"⟩, 36) := ⟨⟨by decide +kernel, by decide +kernel⟩, List.mem_of_getElem? (i := 632) (by decide +kernel), List.mem_of_getElem? (i := 842) (by decide +kernel), List.mem_of_getElem? (i := 843) (by decide +kernel)⟩
theorem lw_p49 : lw_okq (⟨"MarkedNamesModel", "bind", "(IIIII)V"⟩, 36) := ⟨⟨by decide +kernel, by decide +kernel⟩, List.mem_of_getElem? (i := 632) (by decide +kernel), List.mem_of_getElem? (i := 846) (by decide +kernel), List.mem_of_getElem? (i := 847) (by decide +kernel)⟩
theorem lw_p50 : lw_okq (⟨"MarkedNamesModel", "fails", "(I)V"⟩, 36) := ⟨⟨by decide +kernel, by decide +kernel⟩, List.mem_of_getElem? (i := 632) (by decide +kernel), List.mem_of_getElem? (i := 850) (by decide +kernel), List.mem_of_getElem? (i := 851) (by decide +kernel)⟩
theorem lw_p51 : lw_okq (⟨"MarkedNamesModel", "step", "()V"⟩, 36) := ⟨⟨by decide +kernel, by decide +kernel⟩, List.mem_of_getElem? (i := 632) (by decide +kernel), List.mem_of_getElem? (i := 858) (by decide +kernel), List.mem_of_getElem? (i := 859) (by decide +kernel)⟩
theorem lw_p52 : lw_okq (⟨"MarkedNamesModel", "put", "(I)V"⟩, 36) := ⟨⟨by decide +kernel, by decide +kernel⟩, List.mem_of_getElem? (i := 632) (by decide +kernel), List.mem_of_getElem? (i := 862) (by decide +kernel), List.mem_of_getElem? (i := 863) (by decide +kernel)⟩
theorem lw_p53 : lw_okq (⟨"MarkedNamesModel", "list", "()V"⟩, 36) := ⟨⟨by decide +kernel, by decide +kernel⟩, List.mem_of_getElem? (i := 632) (by decide +kernel), List.mem_of_getElem? (i := 866) (by decide +kernel), List.mem_of_getElem? (i := 867) (by decide +kernel)⟩
theorem lw_p54 : lw_okq (⟨"MarkedNamesModel", "means", "(II)I"⟩, 36) := ⟨⟨by decide +kernel, by decide +kernel⟩, List.mem_of_getElem? (i := 632) (by decide +kernel), List.mem_of_getElem? (i := 870) (by decide +kernel), List.mem_of_getElem? (i := 871) (by decide +kernel)⟩
theorem lw_p55 : lw_okq (⟨"MarkedNamesModel", "form", "(I)V"⟩, 36) := ⟨⟨by decide +kernel, by decide +kernel⟩, List.mem_of_getElem? (i := 632) (by decide +kernel), List.mem_of_getElem? (i := 874) (by decide +kernel), List.mem_of_getElem? (i := 875) (by decide +kernel)⟩
theorem lw_p56 : lw_okq (⟨"MarkedNamesModel", "function", "()V"⟩, 36) := ⟨⟨by decide +kernel, by decide +kernel⟩, List.mem_of_getElem? (i := 632) (by decide +kernel), List.mem_of_getElem? (i := 878) (by decide +kernel), List.mem_of_getElem? (i := 879) (by decide +kernel)⟩
theorem lw_p57 : lw_okq (⟨"MarkedNamesModel", "scope", "()I"⟩, 36) := ⟨⟨by decide +kernel, by decide +kernel⟩, List.mem_of_getElem? (i := 632) (by decide +kernel), List.mem_of_getElem? (i := 882) (by decide +kernel), List.mem_of_getElem? (i := 883) (by decide +kernel)⟩
theorem lw_p58 : lw_okq (⟨"MarkedNamesModel", "give", "(III)V"⟩, 36) := ⟨⟨by decide +kernel, by decide +kernel⟩, List.mem_of_getElem? (i := 632) (by decide +kernel), List.mem_of_getElem? (i := 886) (by decide +kernel), List.mem_of_getElem? (i := 887) (by decide +kernel)⟩
theorem lw_p59 : lw_okq (⟨"MarkedNamesModel", "putOpen", "()V"⟩, 36) := ⟨⟨by decide +kernel, by decide +kernel⟩, List.mem_of_getElem? (i := 632) (by decide +kernel), List.mem_of_getElem? (i := 890) (by decide +kernel), List.mem_of_getElem? (i := 891) (by decide +kernel)⟩
theorem lw_p60 : lw_okq (⟨"MarkedNamesModel", "space", "()V"⟩, 36) := ⟨⟨by decide +kernel, by decide +kernel⟩, List.mem_of_getElem? (i := 632) (by decide +kernel), List.mem_of_getElem? (i := 894) (by decide +kernel), List.mem_of_getElem? (i := 895) (by decide +kernel)⟩
theorem lw_p61 : lw_okq (⟨"MarkedNamesModel", "putName", "(I)V"⟩, 36) := ⟨⟨by decide +kernel, by decide +kernel⟩, List.mem_of_getElem? (i := 632) (by decide +kernel), List.mem_of_getElem? (i := 898) (by decide +kernel), List.mem_of_getElem? (i := 899) (by decide +kernel)⟩
theorem lw_p62 : lw_okq (⟨"MarkedNamesModel", "putVariable", "(I)V"⟩, 36) := ⟨⟨by decide +kernel, by decide +kernel⟩, List.mem_of_getElem? (i := 632) (by decide +kernel), List.mem_of_getElem? (i := 902) (by decide +kernel), List.mem_of_getElem? (i := 903) (by decide +kernel)⟩
theorem lw_p63 : lw_okq (⟨"MarkedNamesModel", "putNumber", "(I)V"⟩, 36) := ⟨⟨by decide +kernel, by decide +kernel⟩, List.mem_of_getElem? (i := 632) (by decide +kernel), List.mem_of_getElem? (i := 906) (by decide +kernel), List.mem_of_getElem? (i := 907) (by decide +kernel)⟩
def lw_privs_4 : List (MethodName × Nat) := [(⟨"MarkedNamesModel", "beginning", "()V"⟩, 36), (⟨"MarkedNamesModel", "bind", "(IIIII)V"⟩, 36), (⟨"MarkedNamesModel", "fails", "(I)V"⟩, 36), (⟨"MarkedNamesModel", "step", "()V"⟩, 36), (⟨"MarkedNamesModel", "put", "(I)V"⟩, 36), (⟨"MarkedNamesModel", "list", "()V"⟩, 36), (⟨"MarkedNamesModel", "means", "(II)I"⟩, 36), (⟨"MarkedNamesModel", "form", "(I)V"⟩, 36), (⟨"MarkedNamesModel", "function", "()V"⟩, 36), (⟨"MarkedNamesModel", "scope", "()I"⟩, 36), (⟨"MarkedNamesModel", "give", "(III)V"⟩, 36), (⟨"MarkedNamesModel", "putOpen", "()V"⟩, 36), (⟨"MarkedNamesModel", "space", "()V"⟩, 36), (⟨"MarkedNamesModel", "putName", "(I)V"⟩, 36), (⟨"MarkedNamesModel", "putVariable", "(I)V"⟩, 36), (⟨"MarkedNamesModel", "putNumber", "(I)V"⟩, 36)]
theorem lw_r4 : ∀ q ∈ lw_privs_4, lw_okq q := List.forall_mem_cons.mpr ⟨lw_p48, List.forall_mem_cons.mpr ⟨lw_p49, List.forall_mem_cons.mpr ⟨lw_p50, List.forall_mem_cons.mpr ⟨lw_p51, List.forall_mem_cons.mpr ⟨lw_p52, List.forall_mem_cons.mpr ⟨lw_p53, List.forall_mem_cons.mpr ⟨lw_p54, List.forall_mem_cons.mpr ⟨lw_p55, List.forall_mem_cons.mpr ⟨lw_p56, List.forall_mem_cons.mpr ⟨lw_p57, List.forall_mem_cons.mpr ⟨lw_p58, List.forall_mem_cons.mpr ⟨lw_p59, List.forall_mem_cons.mpr ⟨lw_p60, List.forall_mem_cons.mpr ⟨lw_p61, List.forall_mem_cons.mpr ⟨lw_p62, List.forall_mem_cons.mpr ⟨lw_p63, fun _ h => absurd h List.not_mem_nil⟩⟩⟩⟩⟩⟩⟩⟩⟩⟩⟩⟩⟩⟩⟩⟩
theorem lw_p64 : lw_okq (⟨"MarkedNamesModel", "putClose", "()V"⟩, 36) := ⟨⟨by decide +kernel, by decide +kernel⟩, List.mem_of_getElem? (i := 632) (by decide +kernel), List.mem_of_getElem? (i := 910) (by decide +kernel), List.mem_of_getElem? (i := 911) (by decide +kernel)⟩
theorem lw_p65 : lw_okq (⟨"MarkedNamesModel", "local", "()V"⟩, 36) := ⟨⟨by decide +kernel, by decide +kernel⟩, List.mem_of_getElem? (i := 632) (by decide +kernel), List.mem_of_getElem? (i := 914) (by decide +kernel), List.mem_of_getElem? (i := 915) (by decide +kernel)⟩
theorem lw_p66 : lw_okq (⟨"MarkedNamesModel", "putToken", "(I)V"⟩, 36) := ⟨⟨by decide +kernel, by decide +kernel⟩, List.mem_of_getElem? (i := 632) (by decide +kernel), List.mem_of_getElem? (i := 919) (by decide +kernel), List.mem_of_getElem? (i := 920) (by decide +kernel)⟩
theorem lw_p67 : lw_okq (⟨"MarkedNamesModel", "use", "(I)V"⟩, 36) := ⟨⟨by decide +kernel, by decide +kernel⟩, List.mem_of_getElem? (i := 632) (by decide +kernel), List.mem_of_getElem? (i := 923) (by decide +kernel), List.mem_of_getElem? (i := 924) (by decide +kernel)⟩
theorem lw_p68 : lw_okq (⟨"MarkedNamesModel", "turn", "([I[IIII)V"⟩, 36) := ⟨⟨by decide +kernel, by decide +kernel⟩, List.mem_of_getElem? (i := 632) (by decide +kernel), List.mem_of_getElem? (i := 927) (by decide +kernel), List.mem_of_getElem? (i := 928) (by decide +kernel)⟩
theorem lw_p69 : lw_okq (⟨"MarkedNamesModel", "matches", "(II)Z"⟩, 36) := ⟨⟨by decide +kernel, by decide +kernel⟩, List.mem_of_getElem? (i := 632) (by decide +kernel), List.mem_of_getElem? (i := 931) (by decide +kernel), List.mem_of_getElem? (i := 932) (by decide +kernel)⟩
theorem lw_p70 : lw_okq (⟨"MarkedNamesModel", "pairs", "(IIIZ)I"⟩, 36) := ⟨⟨by decide +kernel, by decide +kernel⟩, List.mem_of_getElem? (i := 632) (by decide +kernel), List.mem_of_getElem? (i := 935) (by decide +kernel), List.mem_of_getElem? (i := 936) (by decide +kernel)⟩
theorem lw_p71 : lw_okq (⟨"MarkedNamesModel", "fill", "(II)V"⟩, 36) := ⟨⟨by decide +kernel, by decide +kernel⟩, List.mem_of_getElem? (i := 632) (by decide +kernel), List.mem_of_getElem? (i := 939) (by decide +kernel), List.mem_of_getElem? (i := 940) (by decide +kernel)⟩
theorem lw_p72 : lw_okq (⟨"MarkedNamesModel", "again", "(I)I"⟩, 36) := ⟨⟨by decide +kernel, by decide +kernel⟩, List.mem_of_getElem? (i := 632) (by decide +kernel), List.mem_of_getElem? (i := 943) (by decide +kernel), List.mem_of_getElem? (i := 944) (by decide +kernel)⟩
theorem lw_p73 : lw_okq (⟨"MarkedNamesModel", "isHeld", "(I)Z"⟩, 36) := ⟨⟨by decide +kernel, by decide +kernel⟩, List.mem_of_getElem? (i := 632) (by decide +kernel), List.mem_of_getElem? (i := 947) (by decide +kernel), List.mem_of_getElem? (i := 948) (by decide +kernel)⟩
theorem lw_p74 : lw_okq (⟨"MarkedNamesModel", "hold", "(III)I"⟩, 36) := ⟨⟨by decide +kernel, by decide +kernel⟩, List.mem_of_getElem? (i := 632) (by decide +kernel), List.mem_of_getElem? (i := 951) (by decide +kernel), List.mem_of_getElem? (i := 952) (by decide +kernel)⟩
theorem lw_p75 : lw_okq (⟨"MarkedNamesModel", "roundsOf", "(IIII)I"⟩, 36) := ⟨⟨by decide +kernel, by decide +kernel⟩, List.mem_of_getElem? (i := 632) (by decide +kernel), List.mem_of_getElem? (i := 955) (by decide +kernel), List.mem_of_getElem? (i := 956) (by decide +kernel)⟩
theorem lw_p76 : lw_okq (⟨"MarkedNamesModel", "walk", "(IIII)I"⟩, 36) := ⟨⟨by decide +kernel, by decide +kernel⟩, List.mem_of_getElem? (i := 632) (by decide +kernel), List.mem_of_getElem? (i := 959) (by decide +kernel), List.mem_of_getElem? (i := 960) (by decide +kernel)⟩
theorem lw_p77 : lw_okq (⟨"MarkedNamesModel", "add", "(II)V"⟩, 36) := ⟨⟨by decide +kernel, by decide +kernel⟩, List.mem_of_getElem? (i := 632) (by decide +kernel), List.mem_of_getElem? (i := 963) (by decide +kernel), List.mem_of_getElem? (i := 964) (by decide +kernel)⟩
theorem lw_p78 : lw_okq (⟨"MarkedNamesModel", "bring", "(I)V"⟩, 36) := ⟨⟨by decide +kernel, by decide +kernel⟩, List.mem_of_getElem? (i := 632) (by decide +kernel), List.mem_of_getElem? (i := 967) (by decide +kernel), List.mem_of_getElem? (i := 968) (by decide +kernel)⟩
theorem lw_p79 : lw_okq (⟨"MarkedNamesModel", "word", "()V"⟩, 36) := ⟨⟨by decide +kernel, by decide +kernel⟩, List.mem_of_getElem? (i := 632) (by decide +kernel), List.mem_of_getElem? (i := 971) (by decide +kernel), List.mem_of_getElem? (i := 972) (by decide +kernel)⟩
def lw_privs_5 : List (MethodName × Nat) := [(⟨"MarkedNamesModel", "putClose", "()V"⟩, 36), (⟨"MarkedNamesModel", "local", "()V"⟩, 36), (⟨"MarkedNamesModel", "putToken", "(I)V"⟩, 36), (⟨"MarkedNamesModel", "use", "(I)V"⟩, 36), (⟨"MarkedNamesModel", "turn", "([I[IIII)V"⟩, 36), (⟨"MarkedNamesModel", "matches", "(II)Z"⟩, 36), (⟨"MarkedNamesModel", "pairs", "(IIIZ)I"⟩, 36), (⟨"MarkedNamesModel", "fill", "(II)V"⟩, 36), (⟨"MarkedNamesModel", "again", "(I)I"⟩, 36), (⟨"MarkedNamesModel", "isHeld", "(I)Z"⟩, 36), (⟨"MarkedNamesModel", "hold", "(III)I"⟩, 36), (⟨"MarkedNamesModel", "roundsOf", "(IIII)I"⟩, 36), (⟨"MarkedNamesModel", "walk", "(IIII)I"⟩, 36), (⟨"MarkedNamesModel", "add", "(II)V"⟩, 36), (⟨"MarkedNamesModel", "bring", "(I)V"⟩, 36), (⟨"MarkedNamesModel", "word", "()V"⟩, 36)]
theorem lw_r5 : ∀ q ∈ lw_privs_5, lw_okq q := List.forall_mem_cons.mpr ⟨lw_p64, List.forall_mem_cons.mpr ⟨lw_p65, List.forall_mem_cons.mpr ⟨lw_p66, List.forall_mem_cons.mpr ⟨lw_p67, List.forall_mem_cons.mpr ⟨lw_p68, List.forall_mem_cons.mpr ⟨lw_p69, List.forall_mem_cons.mpr ⟨lw_p70, List.forall_mem_cons.mpr ⟨lw_p71, List.forall_mem_cons.mpr ⟨lw_p72, List.forall_mem_cons.mpr ⟨lw_p73, List.forall_mem_cons.mpr ⟨lw_p74, List.forall_mem_cons.mpr ⟨lw_p75, List.forall_mem_cons.mpr ⟨lw_p76, List.forall_mem_cons.mpr ⟨lw_p77, List.forall_mem_cons.mpr ⟨lw_p78, List.forall_mem_cons.mpr ⟨lw_p79, fun _ h => absurd h List.not_mem_nil⟩⟩⟩⟩⟩⟩⟩⟩⟩⟩⟩⟩⟩⟩⟩⟩
def lw_privs : List (MethodName × Nat) := lw_privs_1 ++ (lw_privs_2 ++ (lw_privs_3 ++ (lw_privs_4 ++ (lw_privs_5))))
def lw_tbl : List Cond := k2_sels lw_privs ++ tables_1
theorem lw_privs_ok : ∀ q ∈ lw_privs, lw_okq q := by
  show ∀ q ∈ lw_privs_1 ++ (lw_privs_2 ++ (lw_privs_3 ++ (lw_privs_4 ++ (lw_privs_5)))), lw_okq q
  exact List.forall_mem_append.mpr ⟨lw_r1, List.forall_mem_append.mpr ⟨lw_r2, List.forall_mem_append.mpr ⟨lw_r3, List.forall_mem_append.mpr ⟨lw_r4, lw_r5⟩⟩⟩⟩
end
section
/-! ===== BEGIN words of one list among another's, by their places ===== -/
theorem goodIn_r {big : List Cond} (ws : List Cond) (ps : List Nat) (hp : ws = ps.filterMap (fun i => big[i]?)) (h : ws.all goodWord = true) : GoodIn big ws := by
  intro w hw
  have h1 := List.all_eq_true.mp h w hw
  rw [hp] at hw
  obtain ⟨i, -, hi⟩ := List.mem_filterMap.mp hw
  have hm : w ∈ big := by first | exact List.mem_of_getElem? hi | exact List.getElem?_mem hi
  exact ⟨hm, good_of_word h1⟩
theorem goodIn_app {big a b : List Cond} (ha : GoodIn big a) (hb : GoodIn big b) : GoodIn big (a ++ b) := fun w h => (List.mem_append.mp h).elim (ha w) (hb w)
theorem goodIn_ca {big a b : List Cond} {c : Cond} (ha : GoodIn big (c :: a)) (hb : GoodIn big b) : GoodIn big (c :: (a ++ b)) := fun w h => (List.mem_cons.mp h).elim (fun e => ha w (List.mem_cons.mpr (Or.inl e))) (fun h => (List.mem_append.mp h).elim (fun h => ha w (List.mem_cons.mpr (Or.inr h))) (hb w))
theorem goodIn_sub {big ws : List Cond} (hm : ∀ w ∈ ws, w ∈ big) (h : ws.all goodWord = true) : GoodIn big ws := fun w hw => ⟨hm w hw, good_of_word (List.all_eq_true.mp h w hw)⟩
/-! ===== END ===== -/

/-! ===== BEGIN printed: names, fields, word lists, decode rows ===== -/
def RX0 : String := "MarkedNames$Expander"
def TX0 : u_T := fun k => match k with
  | 0 => ("MarkedNames$Expander", "row", "LMarkedNames$Row;", true)
  | 1 => ("MarkedNames$Expander", "check", "LMarkedNames$RuleCheck;", true)
  | 2 => ("MarkedNames$Expander", "table", "LMarkedNames$Table;", true)
  | 3 => ("MarkedNames$Expander", "outcome", "LMarkedNames$Outcome;", true)
  | 4 => ("MarkedNames$Expander", "filler", "LMarkedNames$Filler;", true)
  | 5 => ("MarkedNames$Expander", "scopes", "I", false)
  | 6 => ("MarkedNames$Expander", "bindings", "I", false)
  | 7 => ("MarkedNames$Expander", "variables", "I", false)
  | _ => ("MarkedNames$Expander", "fuel", "I", false)
def tyX0 : Nat → FieldType := fun k => match k with
  | 0 => .object "MarkedNames$Row"
  | 1 => .object "MarkedNames$RuleCheck"
  | 2 => .object "MarkedNames$Table"
  | 3 => .object "MarkedNames$Outcome"
  | 4 => .object "MarkedNames$Filler"
  | 5 => .int
  | 6 => .int
  | 7 => .int
  | _ => .int
abbrev wsX00 : List Cond := u_ws RX0 TX0 9
theorem nmX0 : ∀ a, a < 9 → ∀ b, b < 9 → a ≠ b → (TX0 a).2.1 ≠ (TX0 b).2.1 := by decide +kernel
theorem tyX0_ok : ∀ k, k < 9 → parseFieldDescriptor (TX0 k).2.2.1 = some (tyX0 k) := by decide +kernel
abbrev cX0_init : ByteArray := prog_2_method_1_code
def yX0_init : MethodName := ⟨RX0, "<init>", "(LMarkedNames$Row;LMarkedNames$RuleCheck;LMarkedNames$Table;LMarkedNames$Outcome;)V"⟩
abbrev cX0_start : ByteArray := prog_2_method_2_code
def yX0_start : MethodName := ⟨RX0, "start", "(I)V"⟩
abbrev cX0_expandTree : ByteArray := prog_2_method_3_code
def yX0_expandTree : MethodName := ⟨RX0, "expandTree", "(II)V"⟩
abbrev cX0_meaningOf : ByteArray := prog_2_method_4_code
def yX0_meaningOf : MethodName := ⟨RX0, "meaningOf", "(I)I"⟩
abbrev cX0_expandName : ByteArray := prog_2_method_5_code
def yX0_expandName : MethodName := ⟨RX0, "expandName", "(I)V"⟩
abbrev cX0_expandList : ByteArray := prog_2_method_6_code
def yX0_expandList : MethodName := ⟨RX0, "expandList", "(II)V"⟩
abbrev cX0_expandEach : ByteArray := prog_2_method_7_code
def yX0_expandEach : MethodName := ⟨RX0, "expandEach", "(II)V"⟩
abbrev cX0_areNames : ByteArray := prog_2_method_8_code
def yX0_areNames : MethodName := ⟨RX0, "areNames", "(I)Z"⟩
abbrev cX0_expandFn : ByteArray := prog_2_method_9_code
def yX0_expandFn : MethodName := ⟨RX0, "expandFn", "(II)V"⟩
abbrev cX0_putVariables : ByteArray := prog_2_method_10_code
def yX0_putVariables : MethodName := ⟨RX0, "putVariables", "(II)V"⟩
abbrev cX0_bindVariable : ByteArray := prog_2_method_11_code
def yX0_bindVariable : MethodName := ⟨RX0, "bindVariable", "(II)V"⟩
abbrev cX0_expandIf : ByteArray := prog_2_method_12_code
def yX0_expandIf : MethodName := ⟨RX0, "expandIf", "(II)V"⟩
abbrev cX0_expandQ : ByteArray := prog_2_method_13_code
def yX0_expandQ : MethodName := ⟨RX0, "expandQ", "(I)V"⟩
abbrev cX0_expandLs : ByteArray := prog_2_method_14_code
def yX0_expandLs : MethodName := ⟨RX0, "expandLs", "(II)V"⟩
abbrev cX0_expandByRules : ByteArray := prog_2_method_15_code
def yX0_expandByRules : MethodName := ⟨RX0, "expandByRules", "(III)V"⟩
abbrev cX0_newScope : ByteArray := prog_2_method_16_code
def yX0_newScope : MethodName := ⟨RX0, "newScope", "()I"⟩
abbrev cX0_bind : ByteArray := prog_2_method_17_code
def yX0_bind : MethodName := ⟨RX0, "bind", "(III)Z"⟩
def RX1 : String := "MarkedNames$Filler"
def TX1 : u_T := fun k => match k with
  | 0 => ("MarkedNames$Filler", "row", "LMarkedNames$Row;", true)
  | 1 => ("MarkedNames$Filler", "outcome", "LMarkedNames$Outcome;", true)
  | 2 => ("MarkedNames$Filler", "rounds", "LMarkedNames$Rounds;", true)
  | 3 => ("MarkedNames$Filler", "pattern", "I", false)
  | 4 => ("MarkedNames$Filler", "matched", "I", false)
  | _ => ("MarkedNames$Filler", "filled", "I", false)
def tyX1 : Nat → FieldType := fun k => match k with
  | 0 => .object "MarkedNames$Row"
  | 1 => .object "MarkedNames$Outcome"
  | 2 => .object "MarkedNames$Rounds"
  | 3 => .int
  | 4 => .int
  | _ => .int
abbrev wsX10 : List Cond := u_ws RX1 TX1 6
theorem nmX1 : ∀ a, a < 6 → ∀ b, b < 6 → a ≠ b → (TX1 a).2.1 ≠ (TX1 b).2.1 := by decide +kernel
theorem tyX1_ok : ∀ k, k < 6 → parseFieldDescriptor (TX1 k).2.2.1 = some (tyX1 k) := by decide +kernel
abbrev cX1_init : ByteArray := prog_3_method_1_code
def yX1_init : MethodName := ⟨RX1, "<init>", "(LMarkedNames$Row;LMarkedNames$Outcome;)V"⟩
abbrev cX1_firstRule : ByteArray := prog_3_method_2_code
def yX1_firstRule : MethodName := ⟨RX1, "firstRule", "(II)I"⟩
abbrev cX1_matches : ByteArray := prog_3_method_3_code
def yX1_matches : MethodName := ⟨RX1, "matches", "(II)Z"⟩
abbrev cX1_hasRoomFor : ByteArray := prog_3_method_4_code
def yX1_hasRoomFor : MethodName := ⟨RX1, "hasRoomFor", "(II)Z"⟩
abbrev cX1_fill : ByteArray := prog_3_method_5_code
def yX1_fill : MethodName := ⟨RX1, "fill", "(II)I"⟩
abbrev cX1_roundsFor : ByteArray := prog_3_method_6_code
def yX1_roundsFor : MethodName := ⟨RX1, "roundsFor", "(I)I"⟩
abbrev cX1_fillToken : ByteArray := prog_3_method_7_code
def yX1_fillToken : MethodName := ⟨RX1, "fillToken", "(I)V"⟩
abbrev cX1_matchOf : ByteArray := prog_3_method_8_code
def yX1_matchOf : MethodName := ⟨RX1, "matchOf", "(II)I"⟩
def RX2 : String := "MarkedNames$Outcome"
def TX2 : u_T := fun k => match k with
  | 0 => ("MarkedNames$Outcome", "text", "[I", true)
  | 1 => ("MarkedNames$Outcome", "length", "I", false)
  | _ => ("MarkedNames$Outcome", "error", "I", false)
def tyX2 : Nat → FieldType := fun k => match k with
  | 0 => .array .int
  | 1 => .int
  | _ => .int
abbrev wsX20 : List Cond := u_ws RX2 TX2 3
theorem nmX2 : ∀ a, a < 3 → ∀ b, b < 3 → a ≠ b → (TX2 a).2.1 ≠ (TX2 b).2.1 := by decide +kernel
theorem tyX2_ok : ∀ k, k < 3 → parseFieldDescriptor (TX2 k).2.2.1 = some (tyX2 k) := by decide +kernel
abbrev cX2_init : ByteArray := prog_4_method_1_code
def yX2_init : MethodName := ⟨RX2, "<init>", "()V"⟩
abbrev cX2_clear : ByteArray := prog_4_method_2_code
def yX2_clear : MethodName := ⟨RX2, "clear", "()V"⟩
abbrev cX2_fail : ByteArray := prog_4_method_3_code
def yX2_fail : MethodName := ⟨RX2, "fail", "(I)V"⟩
abbrev cX2_charAt : ByteArray := prog_4_method_4_code
def yX2_charAt : MethodName := ⟨RX2, "charAt", "(I)I"⟩
abbrev cX2_put : ByteArray := prog_4_method_5_code
def yX2_put : MethodName := ⟨RX2, "put", "(I)V"⟩
abbrev cX2_putName : ByteArray := prog_4_method_6_code
def yX2_putName : MethodName := ⟨RX2, "putName", "(I)V"⟩
abbrev cX2_putNumber : ByteArray := prog_4_method_7_code
def yX2_putNumber : MethodName := ⟨RX2, "putNumber", "(I)V"⟩
abbrev cX2_putVariable : ByteArray := prog_4_method_8_code
def yX2_putVariable : MethodName := ⟨RX2, "putVariable", "(I)V"⟩
abbrev cX2_putWord : ByteArray := prog_4_method_9_code
def yX2_putWord : MethodName := ⟨RX2, "putWord", "(I)V"⟩
abbrev cX2_putTree : ByteArray := prog_4_method_10_code
def yX2_putTree : MethodName := ⟨RX2, "putTree", "(LMarkedNames$Row;I)V"⟩
def RX3 : String := "MarkedNames$Reader"
def TX3 : u_T := fun k => match k with
  | 0 => ("MarkedNames$Reader", "row", "LMarkedNames$Row;", true)
  | _ => ("MarkedNames$Reader", "depth", "I", false)
def tyX3 : Nat → FieldType := fun k => match k with
  | 0 => .object "MarkedNames$Row"
  | _ => .int
abbrev wsX30 : List Cond := u_ws RX3 TX3 2
theorem nmX3 : ∀ a, a < 2 → ∀ b, b < 2 → a ≠ b → (TX3 a).2.1 ≠ (TX3 b).2.1 := by decide +kernel
theorem tyX3_ok : ∀ k, k < 2 → parseFieldDescriptor (TX3 k).2.2.1 = some (tyX3 k) := by decide +kernel
abbrev cX3_init : ByteArray := prog_5_method_1_code
def yX3_init : MethodName := ⟨RX3, "<init>", "(LMarkedNames$Row;)V"⟩
abbrev cX3_read : ByteArray := prog_5_method_2_code
def yX3_read : MethodName := ⟨RX3, "read", "([II)I"⟩
abbrev cX3_isWhole : ByteArray := prog_5_method_3_code
def yX3_isWhole : MethodName := ⟨RX3, "isWhole", "()Z"⟩
abbrev cX3_readToken : ByteArray := prog_5_method_4_code
def yX3_readToken : MethodName := ⟨RX3, "readToken", "([III)I"⟩
abbrev cX3_runLength : ByteArray := prog_5_method_5_code
def yX3_runLength : MethodName := ⟨RX3, "runLength", "([IIIII)I"⟩
abbrev cX3_readName : ByteArray := prog_5_method_6_code
def yX3_readName : MethodName := ⟨RX3, "readName", "([III)I"⟩
abbrev cX3_readNumber : ByteArray := prog_5_method_7_code
def yX3_readNumber : MethodName := ⟨RX3, "readNumber", "([III)I"⟩
abbrev cX3_readOpen : ByteArray := prog_5_method_8_code
def yX3_readOpen : MethodName := ⟨RX3, "readOpen", "()I"⟩
abbrev cX3_readClose : ByteArray := prog_5_method_9_code
def yX3_readClose : MethodName := ⟨RX3, "readClose", "()I"⟩
abbrev cX3_readDots : ByteArray := prog_5_method_10_code
def yX3_readDots : MethodName := ⟨RX3, "readDots", "(I)I"⟩
def RX4 : String := "MarkedNames$Rounds"
def TX4 : u_T := fun k => match k with
  | 0 => ("MarkedNames$Rounds", "held", "[I", true)
  | 1 => ("MarkedNames$Rounds", "round", "[I", true)
  | 2 => ("MarkedNames$Rounds", "rounds", "[I", true)
  | _ => ("MarkedNames$Rounds", "depth", "I", false)
def tyX4 : Nat → FieldType := fun k => match k with
  | 0 => .array .int
  | 1 => .array .int
  | 2 => .array .int
  | _ => .int
abbrev wsX40 : List Cond := u_ws RX4 TX4 4
theorem nmX4 : ∀ a, a < 4 → ∀ b, b < 4 → a ≠ b → (TX4 a).2.1 ≠ (TX4 b).2.1 := by decide +kernel
theorem tyX4_ok : ∀ k, k < 4 → parseFieldDescriptor (TX4 k).2.2.1 = some (tyX4 k) := by decide +kernel
abbrev cX4_init : ByteArray := prog_6_method_1_code
def yX4_init : MethodName := ⟨RX4, "<init>", "()V"⟩
abbrev cX4_clear : ByteArray := prog_6_method_2_code
def yX4_clear : MethodName := ⟨RX4, "clear", "()V"⟩
abbrev cX4_hasInner : ByteArray := prog_6_method_3_code
def yX4_hasInner : MethodName := ⟨RX4, "hasInner", "()Z"⟩
abbrev cX4_isIn : ByteArray := prog_6_method_4_code
def yX4_isIn : MethodName := ⟨RX4, "isIn", "(I)Z"⟩
abbrev cX4_enter : ByteArray := prog_6_method_5_code
def yX4_enter : MethodName := ⟨RX4, "enter", "(II)V"⟩
abbrev cX4_leave : ByteArray := prog_6_method_6_code
def yX4_leave : MethodName := ⟨RX4, "leave", "(I)I"⟩
abbrev cX4_roundOf : ByteArray := prog_6_method_7_code
def yX4_roundOf : MethodName := ⟨RX4, "roundOf", "(I)I"⟩
def RX5 : String := "MarkedNames$Row"
def TX5 : u_T := fun k => match k with
  | 0 => ("MarkedNames$Row", "word", "[I", true)
  | 1 => ("MarkedNames$Row", "marks", "[I", true)
  | 2 => ("MarkedNames$Row", "size", "[I", true)
  | 3 => ("MarkedNames$Row", "use", "[I", true)
  | 4 => ("MarkedNames$Row", "top", "I", false)
  | _ => ("MarkedNames$Row", "open", "I", false)
def tyX5 : Nat → FieldType := fun k => match k with
  | 0 => .array .int
  | 1 => .array .int
  | 2 => .array .int
  | 3 => .array .int
  | 4 => .int
  | _ => .int
abbrev wsX50 : List Cond := u_ws RX5 TX5 6
theorem nmX5 : ∀ a, a < 6 → ∀ b, b < 6 → a ≠ b → (TX5 a).2.1 ≠ (TX5 b).2.1 := by decide +kernel
theorem tyX5_ok : ∀ k, k < 6 → parseFieldDescriptor (TX5 k).2.2.1 = some (tyX5 k) := by decide +kernel
abbrev cX5_init : ByteArray := prog_7_method_1_code
def yX5_init : MethodName := ⟨RX5, "<init>", "()V"⟩
abbrev cX5_restart : ByteArray := prog_7_method_2_code
def yX5_restart : MethodName := ⟨RX5, "restart", "()V"⟩
abbrev cX5_startTree : ByteArray := prog_7_method_3_code
def yX5_startTree : MethodName := ⟨RX5, "startTree", "()I"⟩
abbrev cX5_add : ByteArray := prog_7_method_4_code
def yX5_add : MethodName := ⟨RX5, "add", "(II)V"⟩
abbrev cX5_closeBracket : ByteArray := prog_7_method_5_code
def yX5_closeBracket : MethodName := ⟨RX5, "closeBracket", "()V"⟩
abbrev cX5_wordAt : ByteArray := prog_7_method_6_code
def yX5_wordAt : MethodName := ⟨RX5, "wordAt", "(I)I"⟩
abbrev cX5_marksAt : ByteArray := prog_7_method_7_code
def yX5_marksAt : MethodName := ⟨RX5, "marksAt", "(I)I"⟩
abbrev cX5_variableAt : ByteArray := prog_7_method_8_code
def yX5_variableAt : MethodName := ⟨RX5, "variableAt", "(I)I"⟩
abbrev cX5_setVariable : ByteArray := prog_7_method_9_code
def yX5_setVariable : MethodName := ⟨RX5, "setVariable", "(II)V"⟩
abbrev cX5_hasUse : ByteArray := prog_7_method_10_code
def yX5_hasUse : MethodName := ⟨RX5, "hasUse", "(I)Z"⟩
abbrev cX5_after : ByteArray := prog_7_method_11_code
def yX5_after : MethodName := ⟨RX5, "after", "(I)I"⟩
abbrev cX5_isHeld : ByteArray := prog_7_method_12_code
def yX5_isHeld : MethodName := ⟨RX5, "isHeld", "(I)Z"⟩
abbrev cX5_itemsFrom : ByteArray := prog_7_method_13_code
def yX5_itemsFrom : MethodName := ⟨RX5, "itemsFrom", "(I)I"⟩
abbrev cX5_hasDots : ByteArray := prog_7_method_14_code
def yX5_hasDots : MethodName := ⟨RX5, "hasDots", "(I)Z"⟩
abbrev cX5_plainLength : ByteArray := prog_7_method_15_code
def yX5_plainLength : MethodName := ⟨RX5, "plainLength", "(I)I"⟩
abbrev cX5_holders : ByteArray := prog_7_method_16_code
def yX5_holders : MethodName := ⟨RX5, "holders", "(II)I"⟩
abbrev cX5_findName : ByteArray := prog_7_method_17_code
def yX5_findName : MethodName := ⟨RX5, "findName", "(III)I"⟩
abbrev cX5_turnScope : ByteArray := prog_7_method_18_code
def yX5_turnScope : MethodName := ⟨RX5, "turnScope", "(II)V"⟩
abbrev cX5_keep : ByteArray := prog_7_method_19_code
def yX5_keep : MethodName := ⟨RX5, "keep", "(II)I"⟩
def RX6 : String := "MarkedNames$RuleCheck"
def TX6 : u_T := fun k => match k with
  | _ => ("MarkedNames$RuleCheck", "row", "LMarkedNames$Row;", true)
def tyX6 : Nat → FieldType := fun k => match k with
  | _ => .object "MarkedNames$Row"
abbrev wsX60 : List Cond := u_ws RX6 TX6 1
theorem nmX6 : ∀ a, a < 1 → ∀ b, b < 1 → a ≠ b → (TX6 a).2.1 ≠ (TX6 b).2.1 := by decide +kernel
theorem tyX6_ok : ∀ k, k < 1 → parseFieldDescriptor (TX6 k).2.2.1 = some (tyX6 k) := by decide +kernel
abbrev cX6_init : ByteArray := prog_8_method_1_code
def yX6_init : MethodName := ⟨RX6, "<init>", "(LMarkedNames$Row;)V"⟩
abbrev cX6_isNameWithRules : ByteArray := prog_8_method_2_code
def yX6_isNameWithRules : MethodName := ⟨RX6, "isNameWithRules", "(I)Z"⟩
abbrev cX6_isRule : ByteArray := prog_8_method_3_code
def yX6_isRule : MethodName := ⟨RX6, "isRule", "(I)Z"⟩
abbrev cX6_isPattern : ByteArray := prog_8_method_4_code
def yX6_isPattern : MethodName := ⟨RX6, "isPattern", "(I)Z"⟩
abbrev cX6_linkUses : ByteArray := prog_8_method_5_code
def yX6_linkUses : MethodName := ⟨RX6, "linkUses", "(II)V"⟩
abbrev cX6_isTemplate : ByteArray := prog_8_method_6_code
def yX6_isTemplate : MethodName := ⟨RX6, "isTemplate", "(II)Z"⟩
def RX7 : String := "MarkedNames$Table"
def TX7 : u_T := fun k => match k with
  | 0 => ("MarkedNames$Table", "name", "[I", true)
  | 1 => ("MarkedNames$Table", "marks", "[I", true)
  | 2 => ("MarkedNames$Table", "kind", "[I", true)
  | 3 => ("MarkedNames$Table", "value", "[I", true)
  | 4 => ("MarkedNames$Table", "length", "I", false)
  | _ => ("MarkedNames$Table", "ownNames", "I", false)
def tyX7 : Nat → FieldType := fun k => match k with
  | 0 => .array .int
  | 1 => .array .int
  | 2 => .array .int
  | 3 => .array .int
  | 4 => .int
  | _ => .int
abbrev wsX70 : List Cond := u_ws RX7 TX7 6
theorem nmX7 : ∀ a, a < 6 → ∀ b, b < 6 → a ≠ b → (TX7 a).2.1 ≠ (TX7 b).2.1 := by decide +kernel
theorem tyX7_ok : ∀ k, k < 6 → parseFieldDescriptor (TX7 k).2.2.1 = some (tyX7 k) := by decide +kernel
abbrev cX7_init : ByteArray := prog_9_method_1_code
def yX7_init : MethodName := ⟨RX7, "<init>", "()V"⟩
abbrev cX7_forgetExpansion : ByteArray := prog_9_method_2_code
def yX7_forgetExpansion : MethodName := ⟨RX7, "forgetExpansion", "()V"⟩
abbrev cX7_bind : ByteArray := prog_9_method_3_code
def yX7_bind : MethodName := ⟨RX7, "bind", "(IIII)Z"⟩
abbrev cX7_ownSlot : ByteArray := prog_9_method_4_code
def yX7_ownSlot : MethodName := ⟨RX7, "ownSlot", "(I)I"⟩
abbrev cX7_bindOwn : ByteArray := prog_9_method_5_code
def yX7_bindOwn : MethodName := ⟨RX7, "bindOwn", "(III)V"⟩
abbrev cX7_meaning : ByteArray := prog_9_method_6_code
def yX7_meaning : MethodName := ⟨RX7, "meaning", "(II)I"⟩
abbrev cX7_holdsAllOthers : ByteArray := prog_9_method_7_code
def yX7_holdsAllOthers : MethodName := ⟨RX7, "holdsAllOthers", "(II)Z"⟩
abbrev cX7_kindOf : ByteArray := prog_9_method_8_code
def yX7_kindOf : MethodName := ⟨RX7, "kindOf", "(I)I"⟩
abbrev cX7_valueOf : ByteArray := prog_9_method_9_code
def yX7_valueOf : MethodName := ⟨RX7, "valueOf", "(I)I"⟩
def RX8 : String := "MarkedNames"
def TX8 : u_T := fun k => match k with
  | 0 => ("MarkedNames", "typed", "[I", true)
  | 1 => ("MarkedNames", "typedLength", "I", false)
  | 2 => ("MarkedNames", "row", "LMarkedNames$Row;", true)
  | 3 => ("MarkedNames", "reader", "LMarkedNames$Reader;", true)
  | 4 => ("MarkedNames", "check", "LMarkedNames$RuleCheck;", true)
  | 5 => ("MarkedNames", "table", "LMarkedNames$Table;", true)
  | 6 => ("MarkedNames", "outcome", "LMarkedNames$Outcome;", true)
  | _ => ("MarkedNames", "expander", "LMarkedNames$Expander;", true)
def tyX8 : Nat → FieldType := fun k => match k with
  | 0 => .array .int
  | 1 => .int
  | 2 => .object "MarkedNames$Row"
  | 3 => .object "MarkedNames$Reader"
  | 4 => .object "MarkedNames$RuleCheck"
  | 5 => .object "MarkedNames$Table"
  | 6 => .object "MarkedNames$Outcome"
  | _ => .object "MarkedNames$Expander"
abbrev wsX80 : List Cond := u_ws RX8 TX8 8
theorem nmX8 : ∀ a, a < 8 → ∀ b, b < 8 → a ≠ b → (TX8 a).2.1 ≠ (TX8 b).2.1 := by decide +kernel
theorem tyX8_ok : ∀ k, k < 8 → parseFieldDescriptor (TX8 k).2.2.1 = some (tyX8 k) := by decide +kernel
abbrev cX8_init : ByteArray := prog_1_method_1_code
def yX8_init : MethodName := ⟨RX8, "<init>", "()V"⟩
abbrev cX8_type : ByteArray := prog_1_method_2_code
def yX8_type : MethodName := ⟨RX8, "type", "(II)Z"⟩
abbrev cX8_rules : ByteArray := prog_1_method_3_code
def yX8_rules : MethodName := ⟨RX8, "rules", "()I"⟩
abbrev cX8_expand : ByteArray := prog_1_method_4_code
def yX8_expand : MethodName := ⟨RX8, "expand", "(I)I"⟩
abbrev cX8_at : ByteArray := prog_1_method_5_code
def yX8_at : MethodName := ⟨RX8, "at", "(I)I"⟩
abbrev cX8_count : ByteArray := prog_1_method_6_code
def yX8_count : MethodName := ⟨RX8, "count", "(I)I"⟩
abbrev cX8_appendTyped : ByteArray := prog_1_method_7_code
def yX8_appendTyped : MethodName := ⟨RX8, "appendTyped", "(I)V"⟩
abbrev cX8_takeTyped : ByteArray := prog_1_method_8_code
def yX8_takeTyped : MethodName := ⟨RX8, "takeTyped", "()I"⟩
abbrev cX8_isName : ByteArray := prog_1_method_9_code
def yX8_isName : MethodName := ⟨RX8, "isName", "(I)Z"⟩
abbrev cX8_isNumber : ByteArray := prog_1_method_10_code
def yX8_isNumber : MethodName := ⟨RX8, "isNumber", "(I)Z"⟩
abbrev cX8_isTree : ByteArray := prog_1_method_11_code
def yX8_isTree : MethodName := ⟨RX8, "isTree", "(I)Z"⟩
def RX9 : String := "MarkedNamesModel"
def TX9 : u_T := fun k => match k with
  | 0 => ("MarkedNamesModel", "typed", "[I", true)
  | 1 => ("MarkedNamesModel", "length", "I", false)
  | 2 => ("MarkedNamesModel", "row", "[I", true)
  | 3 => ("MarkedNamesModel", "set", "[I", true)
  | 4 => ("MarkedNamesModel", "head", "I", false)
  | 5 => ("MarkedNamesModel", "kept", "[I", true)
  | 6 => ("MarkedNamesModel", "keptSet", "[I", true)
  | 7 => ("MarkedNamesModel", "keptEnd", "I", false)
  | 8 => ("MarkedNamesModel", "own", "I", false)
  | 9 => ("MarkedNamesModel", "ownName", "[I", true)
  | 10 => ("MarkedNamesModel", "ownEnd", "[I", true)
  | 11 => ("MarkedNamesModel", "bindings", "I", false)
  | 12 => ("MarkedNamesModel", "atFirst", "I", false)
  | 13 => ("MarkedNamesModel", "name", "[I", true)
  | 14 => ("MarkedNamesModel", "scopes", "[I", true)
  | 15 => ("MarkedNamesModel", "meaning", "[I", true)
  | 16 => ("MarkedNamesModel", "from", "[I", true)
  | 17 => ("MarkedNamesModel", "to", "[I", true)
  | 18 => ("MarkedNamesModel", "made", "[I", true)
  | 19 => ("MarkedNamesModel", "madeSet", "[I", true)
  | 20 => ("MarkedNamesModel", "many", "I", false)
  | 21 => ("MarkedNamesModel", "trees", "I", false)
  | 22 => ("MarkedNamesModel", "left", "[I", true)
  | 23 => ("MarkedNamesModel", "right", "[I", true)
  | 24 => ("MarkedNamesModel", "begins", "[I", true)
  | 25 => ("MarkedNamesModel", "rounds", "[I", true)
  | 26 => ("MarkedNamesModel", "round", "[I", true)
  | 27 => ("MarkedNamesModel", "held", "I", false)
  | 28 => ("MarkedNamesModel", "text", "[I", true)
  | 29 => ("MarkedNamesModel", "size", "I", false)
  | 30 => ("MarkedNamesModel", "gap", "Z", false)
  | 31 => ("MarkedNamesModel", "deep", "I", false)
  | 32 => ("MarkedNamesModel", "error", "I", false)
  | 33 => ("MarkedNamesModel", "scopesMade", "I", false)
  | 34 => ("MarkedNamesModel", "variables", "I", false)
  | _ => ("MarkedNamesModel", "fuelLeft", "I", false)
def tyX9 : Nat → FieldType := fun k => match k with
  | 0 => .array .int
  | 1 => .int
  | 2 => .array .int
  | 3 => .array .int
  | 4 => .int
  | 5 => .array .int
  | 6 => .array .int
  | 7 => .int
  | 8 => .int
  | 9 => .array .int
  | 10 => .array .int
  | 11 => .int
  | 12 => .int
  | 13 => .array .int
  | 14 => .array .int
  | 15 => .array .int
  | 16 => .array .int
  | 17 => .array .int
  | 18 => .array .int
  | 19 => .array .int
  | 20 => .int
  | 21 => .int
  | 22 => .array .int
  | 23 => .array .int
  | 24 => .array .int
  | 25 => .array .int
  | 26 => .array .int
  | 27 => .int
  | 28 => .array .int
  | 29 => .int
  | 30 => .boolean
  | 31 => .int
  | 32 => .int
  | 33 => .int
  | 34 => .int
  | _ => .int
abbrev wsX90 : List Cond := u_ws RX9 TX9 36
theorem nmX9 : ∀ a, a < 36 → ∀ b, b < 36 → a ≠ b → (TX9 a).2.1 ≠ (TX9 b).2.1 := by decide +kernel
theorem tyX9_ok : ∀ k, k < 36 → parseFieldDescriptor (TX9 k).2.2.1 = some (tyX9 k) := by decide +kernel
abbrev cX9_init : ByteArray := prog_11_method_1_code
def yX9_init : MethodName := ⟨RX9, "<init>", "()V"⟩
abbrev cX9_type : ByteArray := prog_11_method_2_code
def yX9_type : MethodName := ⟨RX9, "type", "(II)Z"⟩
abbrev cX9_look : ByteArray := prog_11_method_3_code
def yX9_look : MethodName := ⟨RX9, "look", "(I)I"⟩
abbrev cX9_isLetter : ByteArray := prog_11_method_4_code
def yX9_isLetter : MethodName := ⟨RX9, "isLetter", "(I)Z"⟩
abbrev cX9_isDigit : ByteArray := prog_11_method_5_code
def yX9_isDigit : MethodName := ⟨RX9, "isDigit", "(I)Z"⟩
abbrev cX9_run : ByteArray := prog_11_method_6_code
def yX9_run : MethodName := ⟨RX9, "run", "(I)I"⟩
abbrev cX9_token : ByteArray := prog_11_method_7_code
def yX9_token : MethodName := ⟨RX9, "token", "(I)I"⟩
abbrev cX9_code : ByteArray := prog_11_method_8_code
def yX9_code : MethodName := ⟨RX9, "code", "(II)I"⟩
abbrev cX9_fits : ByteArray := prog_11_method_9_code
def yX9_fits : MethodName := ⟨RX9, "fits", "(III)Z"⟩
abbrev cX9_read : ByteArray := prog_11_method_10_code
def yX9_read : MethodName := ⟨RX9, "read", "()I"⟩
abbrev cX9_kind : ByteArray := prog_11_method_11_code
def yX9_kind : MethodName := ⟨RX9, "kind", "([II)I"⟩
abbrev cX9_what : ByteArray := prog_11_method_12_code
def yX9_what : MethodName := ⟨RX9, "what", "([II)I"⟩
abbrev cX9_end : ByteArray := prog_11_method_13_code
def yX9_end : MethodName := ⟨RX9, "end", "([II)I"⟩
abbrev cX9_count : ByteArray := prog_11_method_14_code
def yX9_count : MethodName := ⟨RX9, "count", "([II)I"⟩
abbrev cX9_dots : ByteArray := prog_11_method_15_code
def yX9_dots : MethodName := ⟨RX9, "dots", "([II)I"⟩
abbrev cX9_isPlain : ByteArray := prog_11_method_16_code
def yX9_isPlain : MethodName := ⟨RX9, "isPlain", "([III)Z"⟩
abbrev cX9_heldBy : ByteArray := prog_11_method_17_code
def yX9_heldBy : MethodName := ⟨RX9, "heldBy", "(III)I"⟩
abbrev cX9_variable : ByteArray := prog_11_method_18_code
def yX9_variable : MethodName := ⟨RX9, "variable", "(III)I"⟩
abbrev cX9_isPattern : ByteArray := prog_11_method_19_code
def yX9_isPattern : MethodName := ⟨RX9, "isPattern", "(I)Z"⟩
abbrev cX9_isTemplate : ByteArray := prog_11_method_20_code
def yX9_isTemplate : MethodName := ⟨RX9, "isTemplate", "(II)Z"⟩
abbrev cX9_uses : ByteArray := prog_11_method_21_code
def yX9_uses : MethodName := ⟨RX9, "uses", "(III)I"⟩
abbrev cX9_areRules : ByteArray := prog_11_method_22_code
def yX9_areRules : MethodName := ⟨RX9, "areRules", "(II)Z"⟩
abbrev cX9_keep : ByteArray := prog_11_method_23_code
def yX9_keep : MethodName := ⟨RX9, "keep", "(III)I"⟩
abbrev cX9_core : ByteArray := prog_11_method_24_code
def yX9_core : MethodName := ⟨RX9, "core", "(I)I"⟩
abbrev cX9_rules : ByteArray := prog_11_method_25_code
def yX9_rules : MethodName := ⟨RX9, "rules", "()I"⟩
abbrev cX9_bind : ByteArray := prog_11_method_26_code
def yX9_bind : MethodName := ⟨RX9, "bind", "(IIIII)V"⟩
abbrev cX9_beginning : ByteArray := prog_11_method_27_code
def yX9_beginning : MethodName := ⟨RX9, "beginning", "()V"⟩
abbrev cX9_means : ByteArray := prog_11_method_28_code
def yX9_means : MethodName := ⟨RX9, "means", "(II)I"⟩
abbrev cX9_fails : ByteArray := prog_11_method_29_code
def yX9_fails : MethodName := ⟨RX9, "fails", "(I)V"⟩
abbrev cX9_scope : ByteArray := prog_11_method_30_code
def yX9_scope : MethodName := ⟨RX9, "scope", "()I"⟩
abbrev cX9_put : ByteArray := prog_11_method_31_code
def yX9_put : MethodName := ⟨RX9, "put", "(I)V"⟩
abbrev cX9_space : ByteArray := prog_11_method_32_code
def yX9_space : MethodName := ⟨RX9, "space", "()V"⟩
abbrev cX9_putNumber : ByteArray := prog_11_method_33_code
def yX9_putNumber : MethodName := ⟨RX9, "putNumber", "(I)V"⟩
abbrev cX9_putName : ByteArray := prog_11_method_34_code
def yX9_putName : MethodName := ⟨RX9, "putName", "(I)V"⟩
abbrev cX9_putOpen : ByteArray := prog_11_method_35_code
def yX9_putOpen : MethodName := ⟨RX9, "putOpen", "()V"⟩
abbrev cX9_putClose : ByteArray := prog_11_method_36_code
def yX9_putClose : MethodName := ⟨RX9, "putClose", "()V"⟩
abbrev cX9_putVariable : ByteArray := prog_11_method_37_code
def yX9_putVariable : MethodName := ⟨RX9, "putVariable", "(I)V"⟩
abbrev cX9_putToken : ByteArray := prog_11_method_38_code
def yX9_putToken : MethodName := ⟨RX9, "putToken", "(I)V"⟩
abbrev cX9_matches : ByteArray := prog_11_method_39_code
def yX9_matches : MethodName := ⟨RX9, "matches", "(II)Z"⟩
abbrev cX9_pairs : ByteArray := prog_11_method_40_code
def yX9_pairs : MethodName := ⟨RX9, "pairs", "(IIIZ)I"⟩
abbrev cX9_walk : ByteArray := prog_11_method_41_code
def yX9_walk : MethodName := ⟨RX9, "walk", "(IIII)I"⟩
abbrev cX9_add : ByteArray := prog_11_method_42_code
def yX9_add : MethodName := ⟨RX9, "add", "(II)V"⟩
abbrev cX9_roundsOf : ByteArray := prog_11_method_43_code
def yX9_roundsOf : MethodName := ⟨RX9, "roundsOf", "(IIII)I"⟩
abbrev cX9_hold : ByteArray := prog_11_method_44_code
def yX9_hold : MethodName := ⟨RX9, "hold", "(III)I"⟩
abbrev cX9_isHeld : ByteArray := prog_11_method_45_code
def yX9_isHeld : MethodName := ⟨RX9, "isHeld", "(I)Z"⟩
abbrev cX9_fill : ByteArray := prog_11_method_46_code
def yX9_fill : MethodName := ⟨RX9, "fill", "(II)V"⟩
abbrev cX9_again : ByteArray := prog_11_method_47_code
def yX9_again : MethodName := ⟨RX9, "again", "(I)I"⟩
abbrev cX9_bring : ByteArray := prog_11_method_48_code
def yX9_bring : MethodName := ⟨RX9, "bring", "(I)V"⟩
abbrev cX9_turn : ByteArray := prog_11_method_49_code
def yX9_turn : MethodName := ⟨RX9, "turn", "([I[IIII)V"⟩
abbrev cX9_give : ByteArray := prog_11_method_50_code
def yX9_give : MethodName := ⟨RX9, "give", "(III)V"⟩
abbrev cX9_use : ByteArray := prog_11_method_51_code
def yX9_use : MethodName := ⟨RX9, "use", "(I)V"⟩
abbrev cX9_function : ByteArray := prog_11_method_52_code
def yX9_function : MethodName := ⟨RX9, "function", "()V"⟩
abbrev cX9_local : ByteArray := prog_11_method_53_code
def yX9_local : MethodName := ⟨RX9, "local", "()V"⟩
abbrev cX9_form : ByteArray := prog_11_method_54_code
def yX9_form : MethodName := ⟨RX9, "form", "(I)V"⟩
abbrev cX9_list : ByteArray := prog_11_method_55_code
def yX9_list : MethodName := ⟨RX9, "list", "()V"⟩
abbrev cX9_word : ByteArray := prog_11_method_56_code
def yX9_word : MethodName := ⟨RX9, "word", "()V"⟩
abbrev cX9_step : ByteArray := prog_11_method_57_code
def yX9_step : MethodName := ⟨RX9, "step", "()V"⟩
abbrev cX9_expand : ByteArray := prog_11_method_58_code
def yX9_expand : MethodName := ⟨RX9, "expand", "(I)I"⟩
abbrev cX9_at : ByteArray := prog_11_method_59_code
def yX9_at : MethodName := ⟨RX9, "at", "(I)I"⟩
abbrev cX9_count_ : ByteArray := prog_11_method_60_code
def yX9_count_ : MethodName := ⟨RX9, "count", "(I)I"⟩
def RJ6 : String := "java/lang/Integer"
def TJ6 : u_T := fun k => match k with
  | _ => ("", "", "", false)
def tyJ6 : Nat → FieldType := fun k => match k with
  | _ => .int
abbrev wsJ60 : List Cond := u_ws RJ6 TJ6 0
theorem nmJ6 : ∀ a, a < 0 → ∀ b, b < 0 → a ≠ b → (TJ6 a).2.1 ≠ (TJ6 b).2.1 := by decide +kernel
theorem tyJ6_ok : ∀ k, k < 0 → parseFieldDescriptor (TJ6 k).2.2.1 = some (tyJ6 k) := by decide +kernel
abbrev cJ6_bitCount_0f7a4 : ByteArray := prog_12_method_49_code
def yJ6_bitCount_0f7a4 : MethodName := ⟨RJ6, "bitCount", "(I)I"⟩
def RJ9 : String := "java/lang/Math"
def TJ9 : u_T := fun k => match k with
  | _ => ("", "", "", false)
def tyJ9 : Nat → FieldType := fun k => match k with
  | _ => .int
abbrev wsJ90 : List Cond := u_ws RJ9 TJ9 0
theorem nmJ9 : ∀ a, a < 0 → ∀ b, b < 0 → a ≠ b → (TJ9 a).2.1 ≠ (TJ9 b).2.1 := by decide +kernel
theorem tyJ9_ok : ∀ k, k < 0 → parseFieldDescriptor (TJ9 k).2.2.1 = some (tyJ9 k) := by decide +kernel
abbrev cJ9_max_7cf53 : ByteArray := prog_13_method_65_code
def yJ9_max_7cf53 : MethodName := ⟨RJ9, "max", "(II)I"⟩
abbrev cJ9_min_7cf53 : ByteArray := prog_13_method_69_code
def yJ9_min_7cf53 : MethodName := ⟨RJ9, "min", "(II)I"⟩
def RJ10 : String := "java/lang/System"
def TJ10 : u_T := fun k => match k with
  | _ => ("", "", "", false)
def tyJ10 : Nat → FieldType := fun k => match k with
  | _ => .int
abbrev wsJ100 : List Cond := u_ws RJ10 TJ10 0
theorem nmJ10 : ∀ a, a < 0 → ∀ b, b < 0 → a ≠ b → (TJ10 a).2.1 ≠ (TJ10 b).2.1 := by decide +kernel
theorem tyJ10_ok : ∀ k, k < 0 → parseFieldDescriptor (TJ10 k).2.2.1 = some (tyJ10 k) := by decide +kernel
def RL : String := "MarkedNamesLaw"
abbrev cL_law : ByteArray := code
def yL_law : MethodName := ⟨RL, "law", "([I)Z"⟩
def wsX4_init : List Cond := .code yX4_init cX4_init 1 none :: ([.methodLink RX4 3 objectInit, .instanceMethod objectInit, .code objectInit ⟨#[0xb1]⟩ 1 none, .arrayClass .int, .fieldLink RX4 9 "MarkedNames$Rounds" "held" "[I", .fieldLink RX4 15 "MarkedNames$Rounds" "round" "[I", .fieldLink RX4 18 "MarkedNames$Rounds" "rounds" "[I"] ++ wsX40)
def wsX1_init : List Cond := .code yX1_init cX1_init 3 none :: ([.methodLink RX1 3 objectInit, .instanceMethod objectInit, .code objectInit ⟨#[0xb1]⟩ 1 none, .classLink RX1 9 RX4, .instantiable RX4 4, .initialized RX4, .fieldLink RX1 12 "MarkedNames$Filler" "rounds" "LMarkedNames$Rounds;", .fieldLink RX1 18 "MarkedNames$Filler" "row" "LMarkedNames$Row;", .fieldLink RX1 22 "MarkedNames$Filler" "outcome" "LMarkedNames$Outcome;", .instanceMethod yX4_init, .code yX4_init cX4_init 1 none, .methodLink RX4 3 objectInit, .arrayClass .int, .fieldLink RX4 9 "MarkedNames$Rounds" "held" "[I", .fieldLink RX4 15 "MarkedNames$Rounds" "round" "[I", .fieldLink RX4 18 "MarkedNames$Rounds" "rounds" "[I"] ++ wsX40 ++ wsX10)
def wsX0_init_r1 : List Cond := [Cond.methodLink RX0 3 objectInit, Cond.instanceMethod objectInit, Cond.code objectInit ⟨#[0xb1]⟩ 1 none, Cond.fieldLink RX0 9 "MarkedNames$Expander" "row" "LMarkedNames$Row;", Cond.fieldLink RX0 15 "MarkedNames$Expander" "check" "LMarkedNames$RuleCheck;", Cond.fieldLink RX0 19 "MarkedNames$Expander" "table" "LMarkedNames$Table;", Cond.fieldLink RX0 23 "MarkedNames$Expander" "outcome" "LMarkedNames$Outcome;", Cond.classLink RX0 27 RX1, Cond.instantiable RX1 6, Cond.initialized RX1, Cond.fieldLink RX0 32 "MarkedNames$Expander" "filler" "LMarkedNames$Filler;", Cond.methodLink RX0 29 yX1_init, Cond.instanceMethod yX1_init, Cond.code yX1_init cX1_init 3 none, Cond.methodLink RX1 3 objectInit, Cond.classLink RX1 9 RX4, Cond.instantiable RX4 4, Cond.initialized RX4, Cond.fieldLink RX1 12 "MarkedNames$Filler" "rounds" "LMarkedNames$Rounds;", Cond.fieldLink RX1 18 "MarkedNames$Filler" "row" "LMarkedNames$Row;", Cond.fieldLink RX1 22 "MarkedNames$Filler" "outcome" "LMarkedNames$Outcome;", Cond.instanceMethod yX4_init, Cond.code yX4_init cX4_init 1 none, Cond.methodLink RX4 3 objectInit]
def wsX0_init_r2 : List Cond := [Cond.arrayClass .int, Cond.fieldLink RX4 9 "MarkedNames$Rounds" "held" "[I", Cond.fieldLink RX4 15 "MarkedNames$Rounds" "round" "[I", Cond.fieldLink RX4 18 "MarkedNames$Rounds" "rounds" "[I"]
def wsX0_init : List Cond := .code yX0_init cX0_init 5 none :: ((wsX0_init_r1 ++ wsX0_init_r2) ++ wsX00 ++ wsX10 ++ wsX40)
def wsX7_forgetExpansion : List Cond := .code yX7_forgetExpansion cX7_forgetExpansion 1 none :: ([.fieldLink RX7 37 "MarkedNames$Table" "ownNames" "I", .fieldLink RX7 33 "MarkedNames$Table" "length" "I"] ++ wsX70)
def wsX0_start : List Cond := .code yX0_start cX0_start 2 none :: ([.fieldLink RX0 36 "MarkedNames$Expander" "scopes" "I", .fieldLink RX0 40 "MarkedNames$Expander" "bindings" "I", .fieldLink RX0 43 "MarkedNames$Expander" "variables" "I", .fieldLink RX0 46 "MarkedNames$Expander" "fuel" "I", .fieldLink RX0 19 "MarkedNames$Expander" "table" "LMarkedNames$Table;", .methodLink RX0 49 yX7_forgetExpansion, .instanceMethod yX7_forgetExpansion, .selects RX7 yX7_forgetExpansion yX7_forgetExpansion, .initialized RX7, .code yX7_forgetExpansion cX7_forgetExpansion 1 none, .fieldLink RX7 37 "MarkedNames$Table" "ownNames" "I", .fieldLink RX7 33 "MarkedNames$Table" "length" "I"] ++ wsX00 ++ wsX70)
def wsX2_fail : List Cond := .code yX2_fail cX2_fail 2 none :: ([.fieldLink RX2 19 "MarkedNames$Outcome" "error" "I"] ++ wsX20)
def wsX0_newScope : List Cond := .code yX0_newScope cX0_newScope 1 (some .int) :: ([.fieldLink RX0 36 "MarkedNames$Expander" "scopes" "I", .fieldLink RX0 23 "MarkedNames$Expander" "outcome" "LMarkedNames$Outcome;", .methodLink RX0 83 yX2_fail, .instanceMethod yX2_fail, .selects RX2 yX2_fail yX2_fail, .initialized RX2, .code yX2_fail cX2_fail 2 none, .fieldLink RX2 19 "MarkedNames$Outcome" "error" "I"] ++ wsX00 ++ wsX20)
def wsX5_after : List Cond := .code yX5_after cX5_after 2 (some .int) :: ([.fieldLink RX5 24 "MarkedNames$Row" "top" "I", .fieldLink RX5 18 "MarkedNames$Row" "size" "[I"] ++ wsX50)
def wsX8_isName : List Cond := .code yX8_isName cX8_isName 1 (some .boolean) :: ([])
def wsX5_turnScope : List Cond := .code yX5_turnScope cX5_turnScope 5 none :: ([.fieldLink RX5 24 "MarkedNames$Row" "top" "I", .fieldLink RX5 9 "MarkedNames$Row" "word" "[I", .fieldLink RX5 15 "MarkedNames$Row" "marks" "[I", .methodLink RX5 45 yX5_after, .instanceMethod yX5_after, .selects RX5 yX5_after yX5_after, .initialized RX5, .code yX5_after cX5_after 2 (some .int), .fieldLink RX5 18 "MarkedNames$Row" "size" "[I", .static yX8_isName, .initialized RX8, .code yX8_isName cX8_isName 1 (some .boolean)] ++ wsX50)
def wsX5_wordAt : List Cond := .code yX5_wordAt cX5_wordAt 2 (some .int) :: ([.fieldLink RX5 24 "MarkedNames$Row" "top" "I", .fieldLink RX5 9 "MarkedNames$Row" "word" "[I"] ++ wsX50)
def wsX5_hasDots : List Cond := .code yX5_hasDots cX5_hasDots 4 (some .boolean) :: ([.fieldLink RX5 24 "MarkedNames$Row" "top" "I", .fieldLink RX5 9 "MarkedNames$Row" "word" "[I"] ++ wsX50)
def wsX5_itemsFrom : List Cond := .code yX5_itemsFrom cX5_itemsFrom 5 (some .int) :: ([.fieldLink RX5 24 "MarkedNames$Row" "top" "I", .fieldLink RX5 9 "MarkedNames$Row" "word" "[I"] ++ wsX50)
def wsX5_plainLength : List Cond := .code yX5_plainLength cX5_plainLength 2 (some .int) :: ([.methodLink RX5 34 yX5_wordAt, .instanceMethod yX5_wordAt, .selects RX5 yX5_wordAt yX5_wordAt, .initialized RX5, .code yX5_wordAt cX5_wordAt 2 (some .int), .fieldLink RX5 24 "MarkedNames$Row" "top" "I", .fieldLink RX5 9 "MarkedNames$Row" "word" "[I", .methodLink RX5 38 yX5_hasDots, .instanceMethod yX5_hasDots, .selects RX5 yX5_hasDots yX5_hasDots, .code yX5_hasDots cX5_hasDots 4 (some .boolean), .methodLink RX5 42 yX5_itemsFrom, .instanceMethod yX5_itemsFrom, .selects RX5 yX5_itemsFrom yX5_itemsFrom, .code yX5_itemsFrom cX5_itemsFrom 5 (some .int)] ++ wsX50)
def wsX1_hasRoomFor : List Cond := .code yX1_hasRoomFor cX1_hasRoomFor 5 (some .boolean) :: ([.fieldLink RX1 18 "MarkedNames$Filler" "row" "LMarkedNames$Row;", .methodLink RX1 26 yX5_plainLength, .instanceMethod yX5_plainLength, .selects RX5 yX5_plainLength yX5_plainLength, .initialized RX5, .code yX5_plainLength cX5_plainLength 2 (some .int), .methodLink RX5 34 yX5_wordAt, .instanceMethod yX5_wordAt, .selects RX5 yX5_wordAt yX5_wordAt, .code yX5_wordAt cX5_wordAt 2 (some .int), .fieldLink RX5 24 "MarkedNames$Row" "top" "I", .fieldLink RX5 9 "MarkedNames$Row" "word" "[I", .methodLink RX5 38 yX5_hasDots, .instanceMethod yX5_hasDots, .selects RX5 yX5_hasDots yX5_hasDots, .code yX5_hasDots cX5_hasDots 4 (some .boolean), .methodLink RX5 42 yX5_itemsFrom, .instanceMethod yX5_itemsFrom, .selects RX5 yX5_itemsFrom yX5_itemsFrom, .code yX5_itemsFrom cX5_itemsFrom 5 (some .int), .methodLink RX1 53 yX5_itemsFrom, .methodLink RX1 69 yX5_hasDots] ++ wsX10 ++ wsX50)
def wsX4_clear : List Cond := .code yX4_clear cX4_clear 1 none :: ([.fieldLink RX4 21 "MarkedNames$Rounds" "depth" "I"] ++ wsX40)
def wsX5_isHeld : List Cond := .code yX5_isHeld cX5_isHeld 3 (some .boolean) :: ([.fieldLink RX5 24 "MarkedNames$Row" "top" "I", .fieldLink RX5 9 "MarkedNames$Row" "word" "[I", .fieldLink RX5 18 "MarkedNames$Row" "size" "[I"] ++ wsX50)
def wsX4_hasInner : List Cond := .code yX4_hasInner cX4_hasInner 1 (some .boolean) :: ([.fieldLink RX4 21 "MarkedNames$Rounds" "depth" "I"] ++ wsX40)
def wsX4_isIn : List Cond := .code yX4_isIn cX4_isIn 2 (some .boolean) :: ([.fieldLink RX4 9 "MarkedNames$Rounds" "held" "[I", .fieldLink RX4 21 "MarkedNames$Rounds" "depth" "I", .methodLink RX4 25 yX4_hasInner, .instanceMethod yX4_hasInner, .selects RX4 yX4_hasInner yX4_hasInner, .initialized RX4, .code yX4_hasInner cX4_hasInner 1 (some .boolean)] ++ wsX40)
def wsX4_enter : List Cond := .code yX4_enter cX4_enter 3 none :: ([.fieldLink RX4 21 "MarkedNames$Rounds" "depth" "I", .fieldLink RX4 9 "MarkedNames$Rounds" "held" "[I", .fieldLink RX4 15 "MarkedNames$Rounds" "round" "[I", .fieldLink RX4 18 "MarkedNames$Rounds" "rounds" "[I"] ++ wsX40)
def wsX4_leave : List Cond := .code yX4_leave cX4_leave 2 (some .int) :: ([.fieldLink RX4 15 "MarkedNames$Rounds" "round" "[I", .fieldLink RX4 21 "MarkedNames$Rounds" "depth" "I", .fieldLink RX4 18 "MarkedNames$Rounds" "rounds" "[I", .fieldLink RX4 9 "MarkedNames$Rounds" "held" "[I", .methodLink RX4 25 yX4_hasInner, .instanceMethod yX4_hasInner, .selects RX4 yX4_hasInner yX4_hasInner, .initialized RX4, .code yX4_hasInner cX4_hasInner 1 (some .boolean)] ++ wsX40)
def wsX1_matches_r1 : List Cond := [Cond.fieldLink RX1 12 "MarkedNames$Filler" "rounds" "LMarkedNames$Rounds;", Cond.fieldLink RX1 18 "MarkedNames$Filler" "row" "LMarkedNames$Row;", Cond.constant RX1 45 (1000000), Cond.methodLink RX1 39 yX1_hasRoomFor, Cond.instanceMethod yX1_hasRoomFor, Cond.selects RX1 yX1_hasRoomFor yX1_hasRoomFor, Cond.initialized RX1, Cond.code yX1_hasRoomFor cX1_hasRoomFor 5 (some .boolean), Cond.methodLink RX1 26 yX5_plainLength, Cond.instanceMethod yX5_plainLength, Cond.selects RX5 yX5_plainLength yX5_plainLength, Cond.initialized RX5, Cond.code yX5_plainLength cX5_plainLength 2 (some .int), Cond.methodLink RX5 34 yX5_wordAt, Cond.instanceMethod yX5_wordAt, Cond.selects RX5 yX5_wordAt yX5_wordAt, Cond.code yX5_wordAt cX5_wordAt 2 (some .int), Cond.fieldLink RX5 24 "MarkedNames$Row" "top" "I", Cond.fieldLink RX5 9 "MarkedNames$Row" "word" "[I", Cond.methodLink RX5 38 yX5_hasDots, Cond.instanceMethod yX5_hasDots, Cond.selects RX5 yX5_hasDots yX5_hasDots, Cond.code yX5_hasDots cX5_hasDots 4 (some .boolean), Cond.methodLink RX5 42 yX5_itemsFrom]
def wsX1_matches_r2 : List Cond := [Cond.instanceMethod yX5_itemsFrom, Cond.selects RX5 yX5_itemsFrom yX5_itemsFrom, Cond.code yX5_itemsFrom cX5_itemsFrom 5 (some .int), Cond.methodLink RX1 53 yX5_itemsFrom, Cond.methodLink RX1 69 yX5_hasDots, Cond.methodLink RX1 42 yX4_clear, Cond.instanceMethod yX4_clear, Cond.selects RX4 yX4_clear yX4_clear, Cond.initialized RX4, Cond.code yX4_clear cX4_clear 1 none, Cond.fieldLink RX4 21 "MarkedNames$Rounds" "depth" "I", Cond.methodLink RX1 36 yX5_after, Cond.instanceMethod yX5_after, Cond.selects RX5 yX5_after yX5_after, Cond.code yX5_after cX5_after 2 (some .int), Cond.fieldLink RX5 18 "MarkedNames$Row" "size" "[I", Cond.methodLink RX1 46 yX5_isHeld, Cond.instanceMethod yX5_isHeld, Cond.selects RX5 yX5_isHeld yX5_isHeld, Cond.code yX5_isHeld cX5_isHeld 3 (some .boolean), Cond.methodLink RX1 50 yX4_isIn, Cond.instanceMethod yX4_isIn, Cond.selects RX4 yX4_isIn yX4_isIn, Cond.code yX4_isIn cX4_isIn 2 (some .boolean)]
def wsX1_matches_r3 : List Cond := [Cond.fieldLink RX4 9 "MarkedNames$Rounds" "held" "[I", Cond.methodLink RX4 25 yX4_hasInner, Cond.instanceMethod yX4_hasInner, Cond.selects RX4 yX4_hasInner yX4_hasInner, Cond.code yX4_hasInner cX4_hasInner 1 (some .boolean), Cond.methodLink RX1 56 yX4_enter, Cond.instanceMethod yX4_enter, Cond.selects RX4 yX4_enter yX4_enter, Cond.code yX4_enter cX4_enter 3 none, Cond.fieldLink RX4 15 "MarkedNames$Rounds" "round" "[I", Cond.fieldLink RX4 18 "MarkedNames$Rounds" "rounds" "[I", Cond.methodLink RX1 60 yX5_wordAt, Cond.methodLink RX1 63 yX4_leave, Cond.instanceMethod yX4_leave, Cond.selects RX4 yX4_leave yX4_leave, Cond.code yX4_leave cX4_leave 2 (some .int), Cond.static yX8_isName, Cond.initialized RX8, Cond.code yX8_isName cX8_isName 1 (some .boolean)]
def wsX1_matches : List Cond := .code yX1_matches cX1_matches 8 (some .boolean) :: ((wsX1_matches_r1 ++ (wsX1_matches_r2 ++ wsX1_matches_r3)) ++ wsX10 ++ wsX50 ++ wsX40)
def wsX1_firstRule_r1 : List Cond := [Cond.fieldLink RX1 18 "MarkedNames$Filler" "row" "LMarkedNames$Row;", Cond.methodLink RX1 26 yX5_plainLength, Cond.instanceMethod yX5_plainLength, Cond.selects RX5 yX5_plainLength yX5_plainLength, Cond.initialized RX5, Cond.code yX5_plainLength cX5_plainLength 2 (some .int), Cond.methodLink RX5 34 yX5_wordAt, Cond.instanceMethod yX5_wordAt, Cond.selects RX5 yX5_wordAt yX5_wordAt, Cond.code yX5_wordAt cX5_wordAt 2 (some .int), Cond.fieldLink RX5 24 "MarkedNames$Row" "top" "I", Cond.fieldLink RX5 9 "MarkedNames$Row" "word" "[I", Cond.methodLink RX5 38 yX5_hasDots, Cond.instanceMethod yX5_hasDots, Cond.selects RX5 yX5_hasDots yX5_hasDots, Cond.code yX5_hasDots cX5_hasDots 4 (some .boolean), Cond.methodLink RX5 42 yX5_itemsFrom, Cond.instanceMethod yX5_itemsFrom, Cond.selects RX5 yX5_itemsFrom yX5_itemsFrom, Cond.code yX5_itemsFrom cX5_itemsFrom 5 (some .int), Cond.methodLink RX1 32 yX1_matches, Cond.instanceMethod yX1_matches, Cond.selects RX1 yX1_matches yX1_matches, Cond.initialized RX1]
def wsX1_firstRule_r2 : List Cond := [Cond.code yX1_matches cX1_matches 8 (some .boolean), Cond.fieldLink RX1 12 "MarkedNames$Filler" "rounds" "LMarkedNames$Rounds;", Cond.constant RX1 45 (1000000), Cond.methodLink RX1 39 yX1_hasRoomFor, Cond.instanceMethod yX1_hasRoomFor, Cond.selects RX1 yX1_hasRoomFor yX1_hasRoomFor, Cond.code yX1_hasRoomFor cX1_hasRoomFor 5 (some .boolean), Cond.methodLink RX1 53 yX5_itemsFrom, Cond.methodLink RX1 69 yX5_hasDots, Cond.methodLink RX1 42 yX4_clear, Cond.instanceMethod yX4_clear, Cond.selects RX4 yX4_clear yX4_clear, Cond.initialized RX4, Cond.code yX4_clear cX4_clear 1 none, Cond.fieldLink RX4 21 "MarkedNames$Rounds" "depth" "I", Cond.methodLink RX1 36 yX5_after, Cond.instanceMethod yX5_after, Cond.selects RX5 yX5_after yX5_after, Cond.code yX5_after cX5_after 2 (some .int), Cond.fieldLink RX5 18 "MarkedNames$Row" "size" "[I", Cond.methodLink RX1 46 yX5_isHeld, Cond.instanceMethod yX5_isHeld, Cond.selects RX5 yX5_isHeld yX5_isHeld, Cond.code yX5_isHeld cX5_isHeld 3 (some .boolean)]
def wsX1_firstRule_r3 : List Cond := [Cond.methodLink RX1 50 yX4_isIn, Cond.instanceMethod yX4_isIn, Cond.selects RX4 yX4_isIn yX4_isIn, Cond.code yX4_isIn cX4_isIn 2 (some .boolean), Cond.fieldLink RX4 9 "MarkedNames$Rounds" "held" "[I", Cond.methodLink RX4 25 yX4_hasInner, Cond.instanceMethod yX4_hasInner, Cond.selects RX4 yX4_hasInner yX4_hasInner, Cond.code yX4_hasInner cX4_hasInner 1 (some .boolean), Cond.methodLink RX1 56 yX4_enter, Cond.instanceMethod yX4_enter, Cond.selects RX4 yX4_enter yX4_enter, Cond.code yX4_enter cX4_enter 3 none, Cond.fieldLink RX4 15 "MarkedNames$Rounds" "round" "[I", Cond.fieldLink RX4 18 "MarkedNames$Rounds" "rounds" "[I", Cond.methodLink RX1 60 yX5_wordAt, Cond.methodLink RX1 63 yX4_leave, Cond.instanceMethod yX4_leave, Cond.selects RX4 yX4_leave yX4_leave, Cond.code yX4_leave cX4_leave 2 (some .int), Cond.static yX8_isName, Cond.initialized RX8, Cond.code yX8_isName cX8_isName 1 (some .boolean)]
def wsX1_firstRule : List Cond := .code yX1_firstRule cX1_firstRule 6 (some .int) :: ((wsX1_firstRule_r1 ++ (wsX1_firstRule_r2 ++ wsX1_firstRule_r3)) ++ wsX10 ++ wsX50 ++ wsX40)
def wsX5_startTree : List Cond := .code yX5_startTree cX5_startTree 1 (some .int) :: ([.fieldLink RX5 28 "MarkedNames$Row" "open" "I", .fieldLink RX5 24 "MarkedNames$Row" "top" "I"] ++ wsX50)
def wsX5_variableAt : List Cond := .code yX5_variableAt cX5_variableAt 2 (some .int) :: ([.fieldLink RX5 24 "MarkedNames$Row" "top" "I", .fieldLink RX5 21 "MarkedNames$Row" "use" "[I"] ++ wsX50)
def wsX4_roundOf : List Cond := .code yX4_roundOf cX4_roundOf 2 (some .int) :: ([.fieldLink RX4 21 "MarkedNames$Rounds" "depth" "I", .fieldLink RX4 15 "MarkedNames$Rounds" "round" "[I"] ++ wsX40)
def wsX1_matchOf : List Cond := .code yX1_matchOf cX1_matchOf 9 (some .int) :: ([.fieldLink RX1 72 "MarkedNames$Filler" "pattern" "I", .fieldLink RX1 76 "MarkedNames$Filler" "matched" "I", .constant RX1 45 (1000000), .fieldLink RX1 18 "MarkedNames$Filler" "row" "LMarkedNames$Row;", .fieldLink RX1 12 "MarkedNames$Filler" "rounds" "LMarkedNames$Rounds;", .methodLink RX1 36 yX5_after, .instanceMethod yX5_after, .selects RX5 yX5_after yX5_after, .initialized RX5, .code yX5_after cX5_after 2 (some .int), .fieldLink RX5 24 "MarkedNames$Row" "top" "I", .fieldLink RX5 18 "MarkedNames$Row" "size" "[I", .methodLink RX1 46 yX5_isHeld, .instanceMethod yX5_isHeld, .selects RX5 yX5_isHeld yX5_isHeld, .code yX5_isHeld cX5_isHeld 3 (some .boolean), .fieldLink RX5 9 "MarkedNames$Row" "word" "[I", .methodLink RX1 125 yX4_roundOf, .instanceMethod yX4_roundOf, .selects RX4 yX4_roundOf yX4_roundOf, .initialized RX4, .code yX4_roundOf cX4_roundOf 2 (some .int), .fieldLink RX4 21 "MarkedNames$Rounds" "depth" "I", .fieldLink RX4 15 "MarkedNames$Rounds" "round" "[I"] ++ wsX10 ++ wsX50 ++ wsX40)
def wsX1_roundsFor_r1 : List Cond := [Cond.fieldLink RX1 18 "MarkedNames$Filler" "row" "LMarkedNames$Row;", Cond.fieldLink RX1 12 "MarkedNames$Filler" "rounds" "LMarkedNames$Rounds;", Cond.fieldLink RX1 22 "MarkedNames$Filler" "outcome" "LMarkedNames$Outcome;", Cond.methodLink RX1 111 Lib.Math.max.name, Cond.static Lib.Math.max.name, Cond.initialized "java/lang/Math", Cond.code Lib.Math.max.name Lib.Math.max.code 2 (some .int), Cond.methodLink RX1 36 yX5_after, Cond.instanceMethod yX5_after, Cond.selects RX5 yX5_after yX5_after, Cond.initialized RX5, Cond.code yX5_after cX5_after 2 (some .int), Cond.fieldLink RX5 24 "MarkedNames$Row" "top" "I", Cond.fieldLink RX5 18 "MarkedNames$Row" "size" "[I", Cond.methodLink RX1 98 yX5_variableAt, Cond.instanceMethod yX5_variableAt, Cond.selects RX5 yX5_variableAt yX5_variableAt, Cond.code yX5_variableAt cX5_variableAt 2 (some .int), Cond.fieldLink RX5 21 "MarkedNames$Row" "use" "[I", Cond.methodLink RX1 104 yX1_matchOf, Cond.instanceMethod yX1_matchOf, Cond.selects RX1 yX1_matchOf yX1_matchOf, Cond.initialized RX1, Cond.code yX1_matchOf cX1_matchOf 9 (some .int)]
def wsX1_roundsFor_r2 : List Cond := [Cond.fieldLink RX1 72 "MarkedNames$Filler" "pattern" "I", Cond.fieldLink RX1 76 "MarkedNames$Filler" "matched" "I", Cond.constant RX1 45 (1000000), Cond.methodLink RX1 46 yX5_isHeld, Cond.instanceMethod yX5_isHeld, Cond.selects RX5 yX5_isHeld yX5_isHeld, Cond.code yX5_isHeld cX5_isHeld 3 (some .boolean), Cond.fieldLink RX5 9 "MarkedNames$Row" "word" "[I", Cond.methodLink RX1 125 yX4_roundOf, Cond.instanceMethod yX4_roundOf, Cond.selects RX4 yX4_roundOf yX4_roundOf, Cond.initialized RX4, Cond.code yX4_roundOf cX4_roundOf 2 (some .int), Cond.fieldLink RX4 21 "MarkedNames$Rounds" "depth" "I", Cond.fieldLink RX4 15 "MarkedNames$Rounds" "round" "[I", Cond.methodLink RX1 53 yX5_itemsFrom, Cond.instanceMethod yX5_itemsFrom, Cond.selects RX5 yX5_itemsFrom yX5_itemsFrom, Cond.code yX5_itemsFrom cX5_itemsFrom 5 (some .int), Cond.methodLink RX1 108 yX2_fail, Cond.instanceMethod yX2_fail, Cond.selects RX2 yX2_fail yX2_fail, Cond.initialized RX2, Cond.code yX2_fail cX2_fail 2 none]
def wsX1_roundsFor_r3 : List Cond := [Cond.fieldLink RX2 19 "MarkedNames$Outcome" "error" "I"]
def wsX1_roundsFor : List Cond := .code yX1_roundsFor cX1_roundsFor 7 (some .int) :: ((wsX1_roundsFor_r1 ++ (wsX1_roundsFor_r2 ++ wsX1_roundsFor_r3)) ++ wsX10 ++ wsX40 ++ wsX50 ++ wsX20)
def wsX8_isTree : List Cond := .code yX8_isTree cX8_isTree 1 (some .boolean) :: ([])
def wsX5_marksAt : List Cond := .code yX5_marksAt cX5_marksAt 2 (some .int) :: ([.fieldLink RX5 24 "MarkedNames$Row" "top" "I", .fieldLink RX5 15 "MarkedNames$Row" "marks" "[I"] ++ wsX50)
def wsX5_closeBracket : List Cond := .code yX5_closeBracket cX5_closeBracket 2 none :: ([.fieldLink RX5 28 "MarkedNames$Row" "open" "I", .fieldLink RX5 18 "MarkedNames$Row" "size" "[I", .fieldLink RX5 24 "MarkedNames$Row" "top" "I"] ++ wsX50)
def wsX5_add : List Cond := .code yX5_add cX5_add 3 none :: ([.fieldLink RX5 24 "MarkedNames$Row" "top" "I", .fieldLink RX5 9 "MarkedNames$Row" "word" "[I", .fieldLink RX5 15 "MarkedNames$Row" "marks" "[I", .fieldLink RX5 18 "MarkedNames$Row" "size" "[I", .fieldLink RX5 21 "MarkedNames$Row" "use" "[I", .fieldLink RX5 28 "MarkedNames$Row" "open" "I", .methodLink RX5 31 yX5_closeBracket, .instanceMethod yX5_closeBracket, .selects RX5 yX5_closeBracket yX5_closeBracket, .initialized RX5, .code yX5_closeBracket cX5_closeBracket 2 none] ++ wsX50)
def wsX1_fillToken_r1 : List Cond := [Cond.fieldLink RX1 18 "MarkedNames$Filler" "row" "LMarkedNames$Row;", Cond.fieldLink RX1 79 "MarkedNames$Filler" "filled" "I", Cond.fieldLink RX1 22 "MarkedNames$Filler" "outcome" "LMarkedNames$Outcome;", Cond.methodLink RX1 98 yX5_variableAt, Cond.instanceMethod yX5_variableAt, Cond.selects RX5 yX5_variableAt yX5_variableAt, Cond.initialized RX5, Cond.code yX5_variableAt cX5_variableAt 2 (some .int), Cond.fieldLink RX5 24 "MarkedNames$Row" "top" "I", Cond.fieldLink RX5 21 "MarkedNames$Row" "use" "[I", Cond.methodLink RX1 104 yX1_matchOf, Cond.instanceMethod yX1_matchOf, Cond.selects RX1 yX1_matchOf yX1_matchOf, Cond.initialized RX1, Cond.code yX1_matchOf cX1_matchOf 9 (some .int), Cond.fieldLink RX1 72 "MarkedNames$Filler" "pattern" "I", Cond.fieldLink RX1 76 "MarkedNames$Filler" "matched" "I", Cond.constant RX1 45 (1000000), Cond.fieldLink RX1 12 "MarkedNames$Filler" "rounds" "LMarkedNames$Rounds;", Cond.methodLink RX1 36 yX5_after, Cond.instanceMethod yX5_after, Cond.selects RX5 yX5_after yX5_after, Cond.code yX5_after cX5_after 2 (some .int), Cond.fieldLink RX5 18 "MarkedNames$Row" "size" "[I"]
def wsX1_fillToken_r2 : List Cond := [Cond.methodLink RX1 46 yX5_isHeld, Cond.instanceMethod yX5_isHeld, Cond.selects RX5 yX5_isHeld yX5_isHeld, Cond.code yX5_isHeld cX5_isHeld 3 (some .boolean), Cond.fieldLink RX5 9 "MarkedNames$Row" "word" "[I", Cond.methodLink RX1 125 yX4_roundOf, Cond.instanceMethod yX4_roundOf, Cond.selects RX4 yX4_roundOf yX4_roundOf, Cond.initialized RX4, Cond.code yX4_roundOf cX4_roundOf 2 (some .int), Cond.fieldLink RX4 21 "MarkedNames$Rounds" "depth" "I", Cond.fieldLink RX4 15 "MarkedNames$Rounds" "round" "[I", Cond.methodLink RX1 60 yX5_wordAt, Cond.instanceMethod yX5_wordAt, Cond.selects RX5 yX5_wordAt yX5_wordAt, Cond.code yX5_wordAt cX5_wordAt 2 (some .int), Cond.static yX8_isTree, Cond.initialized RX8, Cond.code yX8_isTree cX8_isTree 1 (some .boolean), Cond.methodLink RX1 108 yX2_fail, Cond.instanceMethod yX2_fail, Cond.selects RX2 yX2_fail yX2_fail, Cond.initialized RX2, Cond.code yX2_fail cX2_fail 2 none]
def wsX1_fillToken_r3 : List Cond := [Cond.fieldLink RX2 19 "MarkedNames$Outcome" "error" "I", Cond.methodLink RX1 119 yX5_marksAt, Cond.instanceMethod yX5_marksAt, Cond.selects RX5 yX5_marksAt yX5_marksAt, Cond.code yX5_marksAt cX5_marksAt 2 (some .int), Cond.fieldLink RX5 15 "MarkedNames$Row" "marks" "[I", Cond.methodLink RX1 122 yX5_add, Cond.instanceMethod yX5_add, Cond.selects RX5 yX5_add yX5_add, Cond.code yX5_add cX5_add 3 none, Cond.fieldLink RX5 28 "MarkedNames$Row" "open" "I", Cond.methodLink RX5 31 yX5_closeBracket, Cond.instanceMethod yX5_closeBracket, Cond.selects RX5 yX5_closeBracket yX5_closeBracket, Cond.code yX5_closeBracket cX5_closeBracket 2 none]
def wsX1_fillToken : List Cond := .code yX1_fillToken cX1_fillToken 6 none :: ((wsX1_fillToken_r1 ++ (wsX1_fillToken_r2 ++ wsX1_fillToken_r3)) ++ wsX10 ++ wsX50 ++ wsX40 ++ wsX20)
def wsX1_fill_r1 : List Cond := [Cond.fieldLink RX1 72 "MarkedNames$Filler" "pattern" "I", Cond.fieldLink RX1 76 "MarkedNames$Filler" "matched" "I", Cond.fieldLink RX1 79 "MarkedNames$Filler" "filled" "I", Cond.fieldLink RX1 12 "MarkedNames$Filler" "rounds" "LMarkedNames$Rounds;", Cond.fieldLink RX1 18 "MarkedNames$Filler" "row" "LMarkedNames$Row;", Cond.constant RX1 45 (1000000), Cond.fieldLink RX1 22 "MarkedNames$Filler" "outcome" "LMarkedNames$Outcome;", Cond.methodLink RX1 42 yX4_clear, Cond.instanceMethod yX4_clear, Cond.selects RX4 yX4_clear yX4_clear, Cond.initialized RX4, Cond.code yX4_clear cX4_clear 1 none, Cond.fieldLink RX4 21 "MarkedNames$Rounds" "depth" "I", Cond.methodLink RX1 82 yX5_startTree, Cond.instanceMethod yX5_startTree, Cond.selects RX5 yX5_startTree yX5_startTree, Cond.initialized RX5, Cond.code yX5_startTree cX5_startTree 1 (some .int), Cond.fieldLink RX5 28 "MarkedNames$Row" "open" "I", Cond.fieldLink RX5 24 "MarkedNames$Row" "top" "I", Cond.methodLink RX1 36 yX5_after, Cond.instanceMethod yX5_after, Cond.selects RX5 yX5_after yX5_after, Cond.code yX5_after cX5_after 2 (some .int)]
def wsX1_fill_r2 : List Cond := [Cond.fieldLink RX5 18 "MarkedNames$Row" "size" "[I", Cond.methodLink RX1 46 yX5_isHeld, Cond.instanceMethod yX5_isHeld, Cond.selects RX5 yX5_isHeld yX5_isHeld, Cond.code yX5_isHeld cX5_isHeld 3 (some .boolean), Cond.fieldLink RX5 9 "MarkedNames$Row" "word" "[I", Cond.methodLink RX1 50 yX4_isIn, Cond.instanceMethod yX4_isIn, Cond.selects RX4 yX4_isIn yX4_isIn, Cond.code yX4_isIn cX4_isIn 2 (some .boolean), Cond.fieldLink RX4 9 "MarkedNames$Rounds" "held" "[I", Cond.methodLink RX4 25 yX4_hasInner, Cond.instanceMethod yX4_hasInner, Cond.selects RX4 yX4_hasInner yX4_hasInner, Cond.code yX4_hasInner cX4_hasInner 1 (some .boolean), Cond.methodLink RX1 91 yX1_roundsFor, Cond.instanceMethod yX1_roundsFor, Cond.selects RX1 yX1_roundsFor yX1_roundsFor, Cond.initialized RX1, Cond.code yX1_roundsFor cX1_roundsFor 7 (some .int), Cond.methodLink RX1 111 Lib.Math.max.name, Cond.static Lib.Math.max.name, Cond.initialized "java/lang/Math", Cond.code Lib.Math.max.name Lib.Math.max.code 2 (some .int)]
def wsX1_fill_r3 : List Cond := [Cond.methodLink RX1 98 yX5_variableAt, Cond.instanceMethod yX5_variableAt, Cond.selects RX5 yX5_variableAt yX5_variableAt, Cond.code yX5_variableAt cX5_variableAt 2 (some .int), Cond.fieldLink RX5 21 "MarkedNames$Row" "use" "[I", Cond.methodLink RX1 104 yX1_matchOf, Cond.instanceMethod yX1_matchOf, Cond.selects RX1 yX1_matchOf yX1_matchOf, Cond.code yX1_matchOf cX1_matchOf 9 (some .int), Cond.methodLink RX1 125 yX4_roundOf, Cond.instanceMethod yX4_roundOf, Cond.selects RX4 yX4_roundOf yX4_roundOf, Cond.code yX4_roundOf cX4_roundOf 2 (some .int), Cond.fieldLink RX4 15 "MarkedNames$Rounds" "round" "[I", Cond.methodLink RX1 53 yX5_itemsFrom, Cond.instanceMethod yX5_itemsFrom, Cond.selects RX5 yX5_itemsFrom yX5_itemsFrom, Cond.code yX5_itemsFrom cX5_itemsFrom 5 (some .int), Cond.methodLink RX1 108 yX2_fail, Cond.instanceMethod yX2_fail, Cond.selects RX2 yX2_fail yX2_fail, Cond.initialized RX2, Cond.code yX2_fail cX2_fail 2 none, Cond.fieldLink RX2 19 "MarkedNames$Outcome" "error" "I"]
def wsX1_fill_r4 : List Cond := [Cond.methodLink RX1 56 yX4_enter, Cond.instanceMethod yX4_enter, Cond.selects RX4 yX4_enter yX4_enter, Cond.code yX4_enter cX4_enter 3 none, Cond.fieldLink RX4 18 "MarkedNames$Rounds" "rounds" "[I", Cond.methodLink RX1 60 yX5_wordAt, Cond.instanceMethod yX5_wordAt, Cond.selects RX5 yX5_wordAt yX5_wordAt, Cond.code yX5_wordAt cX5_wordAt 2 (some .int), Cond.methodLink RX1 63 yX4_leave, Cond.instanceMethod yX4_leave, Cond.selects RX4 yX4_leave yX4_leave, Cond.code yX4_leave cX4_leave 2 (some .int), Cond.methodLink RX1 94 yX1_fillToken, Cond.instanceMethod yX1_fillToken, Cond.selects RX1 yX1_fillToken yX1_fillToken, Cond.code yX1_fillToken cX1_fillToken 6 none, Cond.static yX8_isTree, Cond.initialized RX8, Cond.code yX8_isTree cX8_isTree 1 (some .boolean), Cond.methodLink RX1 119 yX5_marksAt, Cond.instanceMethod yX5_marksAt, Cond.selects RX5 yX5_marksAt yX5_marksAt, Cond.code yX5_marksAt cX5_marksAt 2 (some .int)]
def wsX1_fill_r5 : List Cond := [Cond.fieldLink RX5 15 "MarkedNames$Row" "marks" "[I", Cond.methodLink RX1 122 yX5_add, Cond.instanceMethod yX5_add, Cond.selects RX5 yX5_add yX5_add, Cond.code yX5_add cX5_add 3 none, Cond.methodLink RX5 31 yX5_closeBracket, Cond.instanceMethod yX5_closeBracket, Cond.selects RX5 yX5_closeBracket yX5_closeBracket, Cond.code yX5_closeBracket cX5_closeBracket 2 none]
def wsX1_fill : List Cond := .code yX1_fill cX1_fill 8 (some .int) :: ((wsX1_fill_r1 ++ (wsX1_fill_r2 ++ (wsX1_fill_r3 ++ (wsX1_fill_r4 ++ wsX1_fill_r5)))) ++ wsX10 ++ wsX20 ++ wsX40 ++ wsX50)
def wsX2_put : List Cond := .code yX2_put cX2_put 2 none :: ([.fieldLink RX2 19 "MarkedNames$Outcome" "error" "I", .fieldLink RX2 15 "MarkedNames$Outcome" "length" "I", .fieldLink RX2 9 "MarkedNames$Outcome" "text" "[I"] ++ wsX20)
def wsX0_areNames : List Cond := .code yX0_areNames cX0_areNames 4 (some .boolean) :: ([.fieldLink RX0 9 "MarkedNames$Expander" "row" "LMarkedNames$Row;", .methodLink RX0 139 yX5_plainLength, .instanceMethod yX5_plainLength, .selects RX5 yX5_plainLength yX5_plainLength, .initialized RX5, .code yX5_plainLength cX5_plainLength 2 (some .int), .methodLink RX5 34 yX5_wordAt, .instanceMethod yX5_wordAt, .selects RX5 yX5_wordAt yX5_wordAt, .code yX5_wordAt cX5_wordAt 2 (some .int), .fieldLink RX5 24 "MarkedNames$Row" "top" "I", .fieldLink RX5 9 "MarkedNames$Row" "word" "[I", .methodLink RX5 38 yX5_hasDots, .instanceMethod yX5_hasDots, .selects RX5 yX5_hasDots yX5_hasDots, .code yX5_hasDots cX5_hasDots 4 (some .boolean), .methodLink RX5 42 yX5_itemsFrom, .instanceMethod yX5_itemsFrom, .selects RX5 yX5_itemsFrom yX5_itemsFrom, .code yX5_itemsFrom cX5_itemsFrom 5 (some .int), .methodLink RX0 59 yX5_wordAt, .static yX8_isName, .initialized RX8, .code yX8_isName cX8_isName 1 (some .boolean)] ++ wsX00 ++ wsX50)
def wsX5_findName : List Cond := .code yX5_findName cX5_findName 5 (some .int) :: ([.fieldLink RX5 24 "MarkedNames$Row" "top" "I", .fieldLink RX5 9 "MarkedNames$Row" "word" "[I", .fieldLink RX5 15 "MarkedNames$Row" "marks" "[I"] ++ wsX50)
def wsX7_bind : List Cond := .code yX7_bind cX7_bind 5 (some .boolean) :: ([.fieldLink RX7 33 "MarkedNames$Table" "length" "I", .fieldLink RX7 9 "MarkedNames$Table" "name" "[I", .fieldLink RX7 15 "MarkedNames$Table" "marks" "[I", .fieldLink RX7 18 "MarkedNames$Table" "kind" "[I", .fieldLink RX7 21 "MarkedNames$Table" "value" "[I"] ++ wsX70)
def wsX0_bind_r1 : List Cond := [Cond.fieldLink RX0 19 "MarkedNames$Expander" "table" "LMarkedNames$Table;", Cond.fieldLink RX0 9 "MarkedNames$Expander" "row" "LMarkedNames$Row;", Cond.fieldLink RX0 23 "MarkedNames$Expander" "outcome" "LMarkedNames$Outcome;", Cond.fieldLink RX0 40 "MarkedNames$Expander" "bindings" "I", Cond.methodLink RX0 59 yX5_wordAt, Cond.instanceMethod yX5_wordAt, Cond.selects RX5 yX5_wordAt yX5_wordAt, Cond.initialized RX5, Cond.code yX5_wordAt cX5_wordAt 2 (some .int), Cond.fieldLink RX5 24 "MarkedNames$Row" "top" "I", Cond.fieldLink RX5 9 "MarkedNames$Row" "word" "[I", Cond.methodLink RX0 86 yX5_marksAt, Cond.instanceMethod yX5_marksAt, Cond.selects RX5 yX5_marksAt yX5_marksAt, Cond.code yX5_marksAt cX5_marksAt 2 (some .int), Cond.fieldLink RX5 15 "MarkedNames$Row" "marks" "[I", Cond.methodLink RX0 183 yX7_bind, Cond.instanceMethod yX7_bind, Cond.selects RX7 yX7_bind yX7_bind, Cond.initialized RX7, Cond.code yX7_bind cX7_bind 5 (some .boolean), Cond.fieldLink RX7 33 "MarkedNames$Table" "length" "I", Cond.fieldLink RX7 9 "MarkedNames$Table" "name" "[I", Cond.fieldLink RX7 15 "MarkedNames$Table" "marks" "[I"]
def wsX0_bind_r2 : List Cond := [Cond.fieldLink RX7 18 "MarkedNames$Table" "kind" "[I", Cond.fieldLink RX7 21 "MarkedNames$Table" "value" "[I", Cond.methodLink RX0 83 yX2_fail, Cond.instanceMethod yX2_fail, Cond.selects RX2 yX2_fail yX2_fail, Cond.initialized RX2, Cond.code yX2_fail cX2_fail 2 none, Cond.fieldLink RX2 19 "MarkedNames$Outcome" "error" "I"]
def wsX0_bind : List Cond := .code yX0_bind cX0_bind 4 (some .boolean) :: ((wsX0_bind_r1 ++ wsX0_bind_r2) ++ wsX00 ++ wsX50 ++ wsX70 ++ wsX20)
def wsX0_bindVariable_r1 : List Cond := [Cond.fieldLink RX0 9 "MarkedNames$Expander" "row" "LMarkedNames$Row;", Cond.fieldLink RX0 23 "MarkedNames$Expander" "outcome" "LMarkedNames$Outcome;", Cond.fieldLink RX0 43 "MarkedNames$Expander" "variables" "I", Cond.methodLink RX0 159 yX5_findName, Cond.instanceMethod yX5_findName, Cond.selects RX5 yX5_findName yX5_findName, Cond.initialized RX5, Cond.code yX5_findName cX5_findName 5 (some .int), Cond.fieldLink RX5 24 "MarkedNames$Row" "top" "I", Cond.fieldLink RX5 9 "MarkedNames$Row" "word" "[I", Cond.fieldLink RX5 15 "MarkedNames$Row" "marks" "[I", Cond.methodLink RX0 83 yX2_fail, Cond.instanceMethod yX2_fail, Cond.selects RX2 yX2_fail yX2_fail, Cond.initialized RX2, Cond.code yX2_fail cX2_fail 2 none, Cond.fieldLink RX2 19 "MarkedNames$Outcome" "error" "I", Cond.methodLink RX0 163 yX0_bind, Cond.instanceMethod yX0_bind, Cond.selects RX0 yX0_bind yX0_bind, Cond.initialized RX0, Cond.code yX0_bind cX0_bind 4 (some .boolean), Cond.fieldLink RX0 19 "MarkedNames$Expander" "table" "LMarkedNames$Table;", Cond.fieldLink RX0 40 "MarkedNames$Expander" "bindings" "I"]
def wsX0_bindVariable_r2 : List Cond := [Cond.methodLink RX0 59 yX5_wordAt, Cond.instanceMethod yX5_wordAt, Cond.selects RX5 yX5_wordAt yX5_wordAt, Cond.code yX5_wordAt cX5_wordAt 2 (some .int), Cond.methodLink RX0 86 yX5_marksAt, Cond.instanceMethod yX5_marksAt, Cond.selects RX5 yX5_marksAt yX5_marksAt, Cond.code yX5_marksAt cX5_marksAt 2 (some .int), Cond.methodLink RX0 183 yX7_bind, Cond.instanceMethod yX7_bind, Cond.selects RX7 yX7_bind yX7_bind, Cond.initialized RX7, Cond.code yX7_bind cX7_bind 5 (some .boolean), Cond.fieldLink RX7 33 "MarkedNames$Table" "length" "I", Cond.fieldLink RX7 9 "MarkedNames$Table" "name" "[I", Cond.fieldLink RX7 15 "MarkedNames$Table" "marks" "[I", Cond.fieldLink RX7 18 "MarkedNames$Table" "kind" "[I", Cond.fieldLink RX7 21 "MarkedNames$Table" "value" "[I"]
def wsX0_bindVariable : List Cond := .code yX0_bindVariable cX0_bindVariable 3 none :: ((wsX0_bindVariable_r1 ++ wsX0_bindVariable_r2) ++ wsX00 ++ wsX50 ++ wsX20 ++ wsX70)
def wsX2_putName : List Cond := .code yX2_putName cX2_putName 3 none :: ([.methodLink RX2 22 yX2_put, .instanceMethod yX2_put, .selects RX2 yX2_put yX2_put, .initialized RX2, .code yX2_put cX2_put 2 none, .fieldLink RX2 19 "MarkedNames$Outcome" "error" "I", .fieldLink RX2 15 "MarkedNames$Outcome" "length" "I", .fieldLink RX2 9 "MarkedNames$Outcome" "text" "[I"] ++ wsX20)
def wsX2_putNumber : List Cond := .code yX2_putNumber cX2_putNumber 2 none :: ([.methodLink RX2 22 yX2_put, .instanceMethod yX2_put, .selects RX2 yX2_put yX2_put, .initialized RX2, .code yX2_put cX2_put 2 none, .fieldLink RX2 19 "MarkedNames$Outcome" "error" "I", .fieldLink RX2 15 "MarkedNames$Outcome" "length" "I", .fieldLink RX2 9 "MarkedNames$Outcome" "text" "[I"] ++ wsX20)
def wsX2_putVariable : List Cond := .code yX2_putVariable cX2_putVariable 2 none :: ([.methodLink RX2 22 yX2_put, .instanceMethod yX2_put, .selects RX2 yX2_put yX2_put, .initialized RX2, .code yX2_put cX2_put 2 none, .fieldLink RX2 19 "MarkedNames$Outcome" "error" "I", .fieldLink RX2 15 "MarkedNames$Outcome" "length" "I", .fieldLink RX2 9 "MarkedNames$Outcome" "text" "[I", .methodLink RX2 26 yX2_putNumber, .instanceMethod yX2_putNumber, .selects RX2 yX2_putNumber yX2_putNumber, .code yX2_putNumber cX2_putNumber 2 none] ++ wsX20)
def wsX0_putVariables : List Cond := .code yX0_putVariables cX0_putVariables 4 none :: ([.fieldLink RX0 23 "MarkedNames$Expander" "outcome" "LMarkedNames$Outcome;", .constant RX0 158 (91758), .methodLink RX0 130 yX2_put, .instanceMethod yX2_put, .selects RX2 yX2_put yX2_put, .initialized RX2, .code yX2_put cX2_put 2 none, .fieldLink RX2 19 "MarkedNames$Outcome" "error" "I", .fieldLink RX2 15 "MarkedNames$Outcome" "length" "I", .fieldLink RX2 9 "MarkedNames$Outcome" "text" "[I", .methodLink RX0 99 yX2_putName, .instanceMethod yX2_putName, .selects RX2 yX2_putName yX2_putName, .code yX2_putName cX2_putName 3 none, .methodLink RX2 22 yX2_put, .methodLink RX0 105 yX2_putVariable, .instanceMethod yX2_putVariable, .selects RX2 yX2_putVariable yX2_putVariable, .code yX2_putVariable cX2_putVariable 2 none, .methodLink RX2 26 yX2_putNumber, .instanceMethod yX2_putNumber, .selects RX2 yX2_putNumber yX2_putNumber, .code yX2_putNumber cX2_putNumber 2 none] ++ wsX00 ++ wsX20)
def wsJ6_bitCount_0f7a4 : List Cond := .code yJ6_bitCount_0f7a4 cJ6_bitCount_0f7a4 1 (some .int) :: ([.constant RJ6 265 (1431655765), .constant RJ6 266 (858993459), .constant RJ6 267 (252645135)])
def wsX7_holdsAllOthers : List Cond := .code yX7_holdsAllOthers cX7_holdsAllOthers 5 (some .boolean) :: ([.fieldLink RX7 33 "MarkedNames$Table" "length" "I", .fieldLink RX7 9 "MarkedNames$Table" "name" "[I", .fieldLink RX7 15 "MarkedNames$Table" "marks" "[I"] ++ wsX70)
def wsX7_meaning : List Cond := .code yX7_meaning cX7_meaning 6 (some .int) :: ([.fieldLink RX7 33 "MarkedNames$Table" "length" "I", .fieldLink RX7 9 "MarkedNames$Table" "name" "[I", .fieldLink RX7 15 "MarkedNames$Table" "marks" "[I", .methodLink RX7 50 yJ6_bitCount_0f7a4, .static yJ6_bitCount_0f7a4, .initialized RJ6, .code yJ6_bitCount_0f7a4 cJ6_bitCount_0f7a4 1 (some .int), .constant RJ6 265 (1431655765), .constant RJ6 266 (858993459), .constant RJ6 267 (252645135), .methodLink RX7 56 yX7_holdsAllOthers, .instanceMethod yX7_holdsAllOthers, .selects RX7 yX7_holdsAllOthers yX7_holdsAllOthers, .initialized RX7, .code yX7_holdsAllOthers cX7_holdsAllOthers 5 (some .boolean)] ++ wsX70)
def wsX0_meaningOf_r1 : List Cond := [Cond.fieldLink RX0 19 "MarkedNames$Expander" "table" "LMarkedNames$Table;", Cond.fieldLink RX0 9 "MarkedNames$Expander" "row" "LMarkedNames$Row;", Cond.fieldLink RX0 23 "MarkedNames$Expander" "outcome" "LMarkedNames$Outcome;", Cond.methodLink RX0 59 yX5_wordAt, Cond.instanceMethod yX5_wordAt, Cond.selects RX5 yX5_wordAt yX5_wordAt, Cond.initialized RX5, Cond.code yX5_wordAt cX5_wordAt 2 (some .int), Cond.fieldLink RX5 24 "MarkedNames$Row" "top" "I", Cond.fieldLink RX5 9 "MarkedNames$Row" "word" "[I", Cond.methodLink RX0 86 yX5_marksAt, Cond.instanceMethod yX5_marksAt, Cond.selects RX5 yX5_marksAt yX5_marksAt, Cond.code yX5_marksAt cX5_marksAt 2 (some .int), Cond.fieldLink RX5 15 "MarkedNames$Row" "marks" "[I", Cond.methodLink RX0 89 yX7_meaning, Cond.instanceMethod yX7_meaning, Cond.selects RX7 yX7_meaning yX7_meaning, Cond.initialized RX7, Cond.code yX7_meaning cX7_meaning 6 (some .int), Cond.fieldLink RX7 33 "MarkedNames$Table" "length" "I", Cond.fieldLink RX7 9 "MarkedNames$Table" "name" "[I", Cond.fieldLink RX7 15 "MarkedNames$Table" "marks" "[I", Cond.methodLink RX7 50 yJ6_bitCount_0f7a4]
def wsX0_meaningOf_r2 : List Cond := [Cond.static yJ6_bitCount_0f7a4, Cond.initialized RJ6, Cond.code yJ6_bitCount_0f7a4 cJ6_bitCount_0f7a4 1 (some .int), Cond.constant RJ6 265 (1431655765), Cond.constant RJ6 266 (858993459), Cond.constant RJ6 267 (252645135), Cond.methodLink RX7 56 yX7_holdsAllOthers, Cond.instanceMethod yX7_holdsAllOthers, Cond.selects RX7 yX7_holdsAllOthers yX7_holdsAllOthers, Cond.code yX7_holdsAllOthers cX7_holdsAllOthers 5 (some .boolean), Cond.methodLink RX0 83 yX2_fail, Cond.instanceMethod yX2_fail, Cond.selects RX2 yX2_fail yX2_fail, Cond.initialized RX2, Cond.code yX2_fail cX2_fail 2 none, Cond.fieldLink RX2 19 "MarkedNames$Outcome" "error" "I"]
def wsX0_meaningOf : List Cond := .code yX0_meaningOf cX0_meaningOf 3 (some .int) :: ((wsX0_meaningOf_r1 ++ wsX0_meaningOf_r2) ++ wsX00 ++ wsX50 ++ wsX70 ++ wsX20)
def wsX7_kindOf : List Cond := .code yX7_kindOf cX7_kindOf 2 (some .int) :: ([.fieldLink RX7 18 "MarkedNames$Table" "kind" "[I"] ++ wsX70)
def wsX8_isNumber : List Cond := .code yX8_isNumber cX8_isNumber 1 (some .boolean) :: ([])
def wsX2_putWord : List Cond := .code yX2_putWord cX2_putWord 2 none :: ([.static yX8_isName, .initialized RX8, .code yX8_isName cX8_isName 1 (some .boolean), .methodLink RX2 33 yX2_putName, .instanceMethod yX2_putName, .selects RX2 yX2_putName yX2_putName, .initialized RX2, .code yX2_putName cX2_putName 3 none, .methodLink RX2 22 yX2_put, .instanceMethod yX2_put, .selects RX2 yX2_put yX2_put, .code yX2_put cX2_put 2 none, .fieldLink RX2 19 "MarkedNames$Outcome" "error" "I", .fieldLink RX2 15 "MarkedNames$Outcome" "length" "I", .fieldLink RX2 9 "MarkedNames$Outcome" "text" "[I", .static yX8_isNumber, .code yX8_isNumber cX8_isNumber 1 (some .boolean), .methodLink RX2 26 yX2_putNumber, .instanceMethod yX2_putNumber, .selects RX2 yX2_putNumber yX2_putNumber, .code yX2_putNumber cX2_putNumber 2 none] ++ wsX20)
def wsX2_putTree_r1 : List Cond := [Cond.methodLink RX2 39 yX5_after, Cond.instanceMethod yX5_after, Cond.selects RX5 yX5_after yX5_after, Cond.initialized RX5, Cond.code yX5_after cX5_after 2 (some .int), Cond.fieldLink RX5 24 "MarkedNames$Row" "top" "I", Cond.fieldLink RX5 18 "MarkedNames$Row" "size" "[I", Cond.methodLink RX2 45 yX5_wordAt, Cond.instanceMethod yX5_wordAt, Cond.selects RX5 yX5_wordAt yX5_wordAt, Cond.code yX5_wordAt cX5_wordAt 2 (some .int), Cond.fieldLink RX5 9 "MarkedNames$Row" "word" "[I", Cond.methodLink RX2 22 yX2_put, Cond.instanceMethod yX2_put, Cond.selects RX2 yX2_put yX2_put, Cond.initialized RX2, Cond.code yX2_put cX2_put 2 none, Cond.fieldLink RX2 19 "MarkedNames$Outcome" "error" "I", Cond.fieldLink RX2 15 "MarkedNames$Outcome" "length" "I", Cond.fieldLink RX2 9 "MarkedNames$Outcome" "text" "[I", Cond.methodLink RX2 48 yX2_putWord, Cond.instanceMethod yX2_putWord, Cond.selects RX2 yX2_putWord yX2_putWord, Cond.code yX2_putWord cX2_putWord 2 none]
def wsX2_putTree_r2 : List Cond := [Cond.static yX8_isName, Cond.initialized RX8, Cond.code yX8_isName cX8_isName 1 (some .boolean), Cond.methodLink RX2 33 yX2_putName, Cond.instanceMethod yX2_putName, Cond.selects RX2 yX2_putName yX2_putName, Cond.code yX2_putName cX2_putName 3 none, Cond.static yX8_isNumber, Cond.code yX8_isNumber cX8_isNumber 1 (some .boolean), Cond.methodLink RX2 26 yX2_putNumber, Cond.instanceMethod yX2_putNumber, Cond.selects RX2 yX2_putNumber yX2_putNumber, Cond.code yX2_putNumber cX2_putNumber 2 none]
def wsX2_putTree : List Cond := .code yX2_putTree cX2_putTree 5 none :: ((wsX2_putTree_r1 ++ wsX2_putTree_r2) ++ wsX50 ++ wsX20)
def wsX0_expandQ_r1 : List Cond := [Cond.fieldLink RX0 9 "MarkedNames$Expander" "row" "LMarkedNames$Row;", Cond.fieldLink RX0 23 "MarkedNames$Expander" "outcome" "LMarkedNames$Outcome;", Cond.methodLink RX0 139 yX5_plainLength, Cond.instanceMethod yX5_plainLength, Cond.selects RX5 yX5_plainLength yX5_plainLength, Cond.initialized RX5, Cond.code yX5_plainLength cX5_plainLength 2 (some .int), Cond.methodLink RX5 34 yX5_wordAt, Cond.instanceMethod yX5_wordAt, Cond.selects RX5 yX5_wordAt yX5_wordAt, Cond.code yX5_wordAt cX5_wordAt 2 (some .int), Cond.fieldLink RX5 24 "MarkedNames$Row" "top" "I", Cond.fieldLink RX5 9 "MarkedNames$Row" "word" "[I", Cond.methodLink RX5 38 yX5_hasDots, Cond.instanceMethod yX5_hasDots, Cond.selects RX5 yX5_hasDots yX5_hasDots, Cond.code yX5_hasDots cX5_hasDots 4 (some .boolean), Cond.methodLink RX5 42 yX5_itemsFrom, Cond.instanceMethod yX5_itemsFrom, Cond.selects RX5 yX5_itemsFrom yX5_itemsFrom, Cond.code yX5_itemsFrom cX5_itemsFrom 5 (some .int), Cond.methodLink RX0 83 yX2_fail, Cond.instanceMethod yX2_fail, Cond.selects RX2 yX2_fail yX2_fail]
def wsX0_expandQ_r2 : List Cond := [Cond.initialized RX2, Cond.code yX2_fail cX2_fail 2 none, Cond.fieldLink RX2 19 "MarkedNames$Outcome" "error" "I", Cond.methodLink RX0 168 yX2_putTree, Cond.instanceMethod yX2_putTree, Cond.selects RX2 yX2_putTree yX2_putTree, Cond.code yX2_putTree cX2_putTree 5 none, Cond.methodLink RX2 39 yX5_after, Cond.instanceMethod yX5_after, Cond.selects RX5 yX5_after yX5_after, Cond.code yX5_after cX5_after 2 (some .int), Cond.fieldLink RX5 18 "MarkedNames$Row" "size" "[I", Cond.methodLink RX2 45 yX5_wordAt, Cond.methodLink RX2 22 yX2_put, Cond.instanceMethod yX2_put, Cond.selects RX2 yX2_put yX2_put, Cond.code yX2_put cX2_put 2 none, Cond.fieldLink RX2 15 "MarkedNames$Outcome" "length" "I", Cond.fieldLink RX2 9 "MarkedNames$Outcome" "text" "[I", Cond.methodLink RX2 48 yX2_putWord, Cond.instanceMethod yX2_putWord, Cond.selects RX2 yX2_putWord yX2_putWord, Cond.code yX2_putWord cX2_putWord 2 none, Cond.static yX8_isName]
def wsX0_expandQ_r3 : List Cond := [Cond.initialized RX8, Cond.code yX8_isName cX8_isName 1 (some .boolean), Cond.methodLink RX2 33 yX2_putName, Cond.instanceMethod yX2_putName, Cond.selects RX2 yX2_putName yX2_putName, Cond.code yX2_putName cX2_putName 3 none, Cond.static yX8_isNumber, Cond.code yX8_isNumber cX8_isNumber 1 (some .boolean), Cond.methodLink RX2 26 yX2_putNumber, Cond.instanceMethod yX2_putNumber, Cond.selects RX2 yX2_putNumber yX2_putNumber, Cond.code yX2_putNumber cX2_putNumber 2 none]
def wsX0_expandQ : List Cond := .code yX0_expandQ cX0_expandQ 2 none :: ((wsX0_expandQ_r1 ++ (wsX0_expandQ_r2 ++ wsX0_expandQ_r3)) ++ wsX00 ++ wsX50 ++ wsX20)
def wsX7_valueOf : List Cond := .code yX7_valueOf cX7_valueOf 2 (some .int) :: ([.fieldLink RX7 21 "MarkedNames$Table" "value" "[I"] ++ wsX70)
def wsX5_holders : List Cond := .code yX5_holders cX5_holders 6 (some .int) :: ([.fieldLink RX5 24 "MarkedNames$Row" "top" "I", .fieldLink RX5 18 "MarkedNames$Row" "size" "[I", .fieldLink RX5 9 "MarkedNames$Row" "word" "[I"] ++ wsX50)
def wsX6_isPattern_r1 : List Cond := [Cond.fieldLink RX6 9 "MarkedNames$RuleCheck" "row" "LMarkedNames$Row;", Cond.methodLink RX6 21 yX5_wordAt, Cond.instanceMethod yX5_wordAt, Cond.selects RX5 yX5_wordAt yX5_wordAt, Cond.initialized RX5, Cond.code yX5_wordAt cX5_wordAt 2 (some .int), Cond.fieldLink RX5 24 "MarkedNames$Row" "top" "I", Cond.fieldLink RX5 9 "MarkedNames$Row" "word" "[I", Cond.methodLink RX6 45 yX5_isHeld, Cond.instanceMethod yX5_isHeld, Cond.selects RX5 yX5_isHeld yX5_isHeld, Cond.code yX5_isHeld cX5_isHeld 3 (some .boolean), Cond.fieldLink RX5 18 "MarkedNames$Row" "size" "[I", Cond.methodLink RX6 31 yX5_after, Cond.instanceMethod yX5_after, Cond.selects RX5 yX5_after yX5_after, Cond.code yX5_after cX5_after 2 (some .int), Cond.static yX8_isTree, Cond.initialized RX8, Cond.code yX8_isTree cX8_isTree 1 (some .boolean), Cond.methodLink RX6 51 yX5_holders, Cond.instanceMethod yX5_holders, Cond.selects RX5 yX5_holders yX5_holders, Cond.code yX5_holders cX5_holders 6 (some .int)]
def wsX6_isPattern_r2 : List Cond := [Cond.methodLink RX6 55 yX5_findName, Cond.instanceMethod yX5_findName, Cond.selects RX5 yX5_findName yX5_findName, Cond.code yX5_findName cX5_findName 5 (some .int), Cond.fieldLink RX5 15 "MarkedNames$Row" "marks" "[I"]
def wsX6_isPattern : List Cond := .code yX6_isPattern cX6_isPattern 7 (some .boolean) :: ((wsX6_isPattern_r1 ++ wsX6_isPattern_r2) ++ wsX60 ++ wsX50)
def wsX5_setVariable : List Cond := .code yX5_setVariable cX5_setVariable 3 none :: ([.fieldLink RX5 24 "MarkedNames$Row" "top" "I", .fieldLink RX5 21 "MarkedNames$Row" "use" "[I"] ++ wsX50)
def wsX6_linkUses : List Cond := .code yX6_linkUses cX6_linkUses 6 none :: ([.fieldLink RX6 9 "MarkedNames$RuleCheck" "row" "LMarkedNames$Row;", .methodLink RX6 31 yX5_after, .instanceMethod yX5_after, .selects RX5 yX5_after yX5_after, .initialized RX5, .code yX5_after cX5_after 2 (some .int), .fieldLink RX5 24 "MarkedNames$Row" "top" "I", .fieldLink RX5 18 "MarkedNames$Row" "size" "[I", .methodLink RX6 55 yX5_findName, .instanceMethod yX5_findName, .selects RX5 yX5_findName yX5_findName, .code yX5_findName cX5_findName 5 (some .int), .fieldLink RX5 9 "MarkedNames$Row" "word" "[I", .fieldLink RX5 15 "MarkedNames$Row" "marks" "[I", .methodLink RX6 59 yX5_setVariable, .instanceMethod yX5_setVariable, .selects RX5 yX5_setVariable yX5_setVariable, .code yX5_setVariable cX5_setVariable 3 none, .fieldLink RX5 21 "MarkedNames$Row" "use" "[I"] ++ wsX60 ++ wsX50)
def wsX5_hasUse : List Cond := .code yX5_hasUse cX5_hasUse 3 (some .boolean) :: ([.fieldLink RX5 24 "MarkedNames$Row" "top" "I", .fieldLink RX5 18 "MarkedNames$Row" "size" "[I", .fieldLink RX5 21 "MarkedNames$Row" "use" "[I"] ++ wsX50)
def wsX6_isTemplate_r1 : List Cond := [Cond.fieldLink RX6 9 "MarkedNames$RuleCheck" "row" "LMarkedNames$Row;", Cond.methodLink RX6 31 yX5_after, Cond.instanceMethod yX5_after, Cond.selects RX5 yX5_after yX5_after, Cond.initialized RX5, Cond.code yX5_after cX5_after 2 (some .int), Cond.fieldLink RX5 24 "MarkedNames$Row" "top" "I", Cond.fieldLink RX5 18 "MarkedNames$Row" "size" "[I", Cond.methodLink RX6 62 yX5_variableAt, Cond.instanceMethod yX5_variableAt, Cond.selects RX5 yX5_variableAt yX5_variableAt, Cond.code yX5_variableAt cX5_variableAt 2 (some .int), Cond.fieldLink RX5 21 "MarkedNames$Row" "use" "[I", Cond.methodLink RX6 51 yX5_holders, Cond.instanceMethod yX5_holders, Cond.selects RX5 yX5_holders yX5_holders, Cond.code yX5_holders cX5_holders 6 (some .int), Cond.fieldLink RX5 9 "MarkedNames$Row" "word" "[I", Cond.methodLink RX6 45 yX5_isHeld, Cond.instanceMethod yX5_isHeld, Cond.selects RX5 yX5_isHeld yX5_isHeld, Cond.code yX5_isHeld cX5_isHeld 3 (some .boolean), Cond.methodLink RX6 65 yX5_hasUse, Cond.instanceMethod yX5_hasUse]
def wsX6_isTemplate_r2 : List Cond := [Cond.selects RX5 yX5_hasUse yX5_hasUse, Cond.code yX5_hasUse cX5_hasUse 3 (some .boolean)]
def wsX6_isTemplate : List Cond := .code yX6_isTemplate cX6_isTemplate 6 (some .boolean) :: ((wsX6_isTemplate_r1 ++ wsX6_isTemplate_r2) ++ wsX60 ++ wsX50)
def wsX6_isRule_r1 : List Cond := [Cond.fieldLink RX6 9 "MarkedNames$RuleCheck" "row" "LMarkedNames$Row;", Cond.methodLink RX6 15 yX5_plainLength, Cond.instanceMethod yX5_plainLength, Cond.selects RX5 yX5_plainLength yX5_plainLength, Cond.initialized RX5, Cond.code yX5_plainLength cX5_plainLength 2 (some .int), Cond.methodLink RX5 34 yX5_wordAt, Cond.instanceMethod yX5_wordAt, Cond.selects RX5 yX5_wordAt yX5_wordAt, Cond.code yX5_wordAt cX5_wordAt 2 (some .int), Cond.fieldLink RX5 24 "MarkedNames$Row" "top" "I", Cond.fieldLink RX5 9 "MarkedNames$Row" "word" "[I", Cond.methodLink RX5 38 yX5_hasDots, Cond.instanceMethod yX5_hasDots, Cond.selects RX5 yX5_hasDots yX5_hasDots, Cond.code yX5_hasDots cX5_hasDots 4 (some .boolean), Cond.methodLink RX5 42 yX5_itemsFrom, Cond.instanceMethod yX5_itemsFrom, Cond.selects RX5 yX5_itemsFrom yX5_itemsFrom, Cond.code yX5_itemsFrom cX5_itemsFrom 5 (some .int), Cond.methodLink RX6 31 yX5_after, Cond.instanceMethod yX5_after, Cond.selects RX5 yX5_after yX5_after, Cond.code yX5_after cX5_after 2 (some .int)]
def wsX6_isRule_r2 : List Cond := [Cond.fieldLink RX5 18 "MarkedNames$Row" "size" "[I", Cond.methodLink RX6 34 yX6_isPattern, Cond.instanceMethod yX6_isPattern, Cond.selects RX6 yX6_isPattern yX6_isPattern, Cond.initialized RX6, Cond.code yX6_isPattern cX6_isPattern 7 (some .boolean), Cond.methodLink RX6 21 yX5_wordAt, Cond.methodLink RX6 45 yX5_isHeld, Cond.instanceMethod yX5_isHeld, Cond.selects RX5 yX5_isHeld yX5_isHeld, Cond.code yX5_isHeld cX5_isHeld 3 (some .boolean), Cond.static yX8_isTree, Cond.initialized RX8, Cond.code yX8_isTree cX8_isTree 1 (some .boolean), Cond.methodLink RX6 51 yX5_holders, Cond.instanceMethod yX5_holders, Cond.selects RX5 yX5_holders yX5_holders, Cond.code yX5_holders cX5_holders 6 (some .int), Cond.methodLink RX6 55 yX5_findName, Cond.instanceMethod yX5_findName, Cond.selects RX5 yX5_findName yX5_findName, Cond.code yX5_findName cX5_findName 5 (some .int), Cond.fieldLink RX5 15 "MarkedNames$Row" "marks" "[I", Cond.methodLink RX6 37 yX6_linkUses]
def wsX6_isRule_r3 : List Cond := [Cond.instanceMethod yX6_linkUses, Cond.selects RX6 yX6_linkUses yX6_linkUses, Cond.code yX6_linkUses cX6_linkUses 6 none, Cond.methodLink RX6 59 yX5_setVariable, Cond.instanceMethod yX5_setVariable, Cond.selects RX5 yX5_setVariable yX5_setVariable, Cond.code yX5_setVariable cX5_setVariable 3 none, Cond.fieldLink RX5 21 "MarkedNames$Row" "use" "[I", Cond.methodLink RX6 41 yX6_isTemplate, Cond.instanceMethod yX6_isTemplate, Cond.selects RX6 yX6_isTemplate yX6_isTemplate, Cond.code yX6_isTemplate cX6_isTemplate 6 (some .boolean), Cond.methodLink RX6 62 yX5_variableAt, Cond.instanceMethod yX5_variableAt, Cond.selects RX5 yX5_variableAt yX5_variableAt, Cond.code yX5_variableAt cX5_variableAt 2 (some .int), Cond.methodLink RX6 65 yX5_hasUse, Cond.instanceMethod yX5_hasUse, Cond.selects RX5 yX5_hasUse yX5_hasUse, Cond.code yX5_hasUse cX5_hasUse 3 (some .boolean)]
def wsX6_isRule : List Cond := .code yX6_isRule cX6_isRule 4 (some .boolean) :: ((wsX6_isRule_r1 ++ (wsX6_isRule_r2 ++ wsX6_isRule_r3)) ++ wsX60 ++ wsX50)
def wsX6_isNameWithRules_r1 : List Cond := [Cond.fieldLink RX6 9 "MarkedNames$RuleCheck" "row" "LMarkedNames$Row;", Cond.methodLink RX6 15 yX5_plainLength, Cond.instanceMethod yX5_plainLength, Cond.selects RX5 yX5_plainLength yX5_plainLength, Cond.initialized RX5, Cond.code yX5_plainLength cX5_plainLength 2 (some .int), Cond.methodLink RX5 34 yX5_wordAt, Cond.instanceMethod yX5_wordAt, Cond.selects RX5 yX5_wordAt yX5_wordAt, Cond.code yX5_wordAt cX5_wordAt 2 (some .int), Cond.fieldLink RX5 24 "MarkedNames$Row" "top" "I", Cond.fieldLink RX5 9 "MarkedNames$Row" "word" "[I", Cond.methodLink RX5 38 yX5_hasDots, Cond.instanceMethod yX5_hasDots, Cond.selects RX5 yX5_hasDots yX5_hasDots, Cond.code yX5_hasDots cX5_hasDots 4 (some .boolean), Cond.methodLink RX5 42 yX5_itemsFrom, Cond.instanceMethod yX5_itemsFrom, Cond.selects RX5 yX5_itemsFrom yX5_itemsFrom, Cond.code yX5_itemsFrom cX5_itemsFrom 5 (some .int), Cond.methodLink RX6 21 yX5_wordAt, Cond.static yX8_isName, Cond.initialized RX8, Cond.code yX8_isName cX8_isName 1 (some .boolean)]
def wsX6_isNameWithRules_r2 : List Cond := [Cond.methodLink RX6 28 yX6_isRule, Cond.instanceMethod yX6_isRule, Cond.selects RX6 yX6_isRule yX6_isRule, Cond.initialized RX6, Cond.code yX6_isRule cX6_isRule 4 (some .boolean), Cond.methodLink RX6 31 yX5_after, Cond.instanceMethod yX5_after, Cond.selects RX5 yX5_after yX5_after, Cond.code yX5_after cX5_after 2 (some .int), Cond.fieldLink RX5 18 "MarkedNames$Row" "size" "[I", Cond.methodLink RX6 34 yX6_isPattern, Cond.instanceMethod yX6_isPattern, Cond.selects RX6 yX6_isPattern yX6_isPattern, Cond.code yX6_isPattern cX6_isPattern 7 (some .boolean), Cond.methodLink RX6 45 yX5_isHeld, Cond.instanceMethod yX5_isHeld, Cond.selects RX5 yX5_isHeld yX5_isHeld, Cond.code yX5_isHeld cX5_isHeld 3 (some .boolean), Cond.static yX8_isTree, Cond.code yX8_isTree cX8_isTree 1 (some .boolean), Cond.methodLink RX6 51 yX5_holders, Cond.instanceMethod yX5_holders, Cond.selects RX5 yX5_holders yX5_holders, Cond.code yX5_holders cX5_holders 6 (some .int)]
def wsX6_isNameWithRules_r3 : List Cond := [Cond.methodLink RX6 55 yX5_findName, Cond.instanceMethod yX5_findName, Cond.selects RX5 yX5_findName yX5_findName, Cond.code yX5_findName cX5_findName 5 (some .int), Cond.fieldLink RX5 15 "MarkedNames$Row" "marks" "[I", Cond.methodLink RX6 37 yX6_linkUses, Cond.instanceMethod yX6_linkUses, Cond.selects RX6 yX6_linkUses yX6_linkUses, Cond.code yX6_linkUses cX6_linkUses 6 none, Cond.methodLink RX6 59 yX5_setVariable, Cond.instanceMethod yX5_setVariable, Cond.selects RX5 yX5_setVariable yX5_setVariable, Cond.code yX5_setVariable cX5_setVariable 3 none, Cond.fieldLink RX5 21 "MarkedNames$Row" "use" "[I", Cond.methodLink RX6 41 yX6_isTemplate, Cond.instanceMethod yX6_isTemplate, Cond.selects RX6 yX6_isTemplate yX6_isTemplate, Cond.code yX6_isTemplate cX6_isTemplate 6 (some .boolean), Cond.methodLink RX6 62 yX5_variableAt, Cond.instanceMethod yX5_variableAt, Cond.selects RX5 yX5_variableAt yX5_variableAt, Cond.code yX5_variableAt cX5_variableAt 2 (some .int), Cond.methodLink RX6 65 yX5_hasUse, Cond.instanceMethod yX5_hasUse]
def wsX6_isNameWithRules_r4 : List Cond := [Cond.selects RX5 yX5_hasUse yX5_hasUse, Cond.code yX5_hasUse cX5_hasUse 3 (some .boolean)]
def wsX6_isNameWithRules : List Cond := .code yX6_isNameWithRules cX6_isNameWithRules 5 (some .boolean) :: ((wsX6_isNameWithRules_r1 ++ (wsX6_isNameWithRules_r2 ++ (wsX6_isNameWithRules_r3 ++ wsX6_isNameWithRules_r4))) ++ wsX60 ++ wsX50)
def wsX0_expandName_r1 : List Cond := [Cond.fieldLink RX0 19 "MarkedNames$Expander" "table" "LMarkedNames$Table;", Cond.fieldLink RX0 23 "MarkedNames$Expander" "outcome" "LMarkedNames$Outcome;", Cond.fieldLink RX0 9 "MarkedNames$Expander" "row" "LMarkedNames$Row;", Cond.methodLink RX0 93 yX0_meaningOf, Cond.instanceMethod yX0_meaningOf, Cond.selects RX0 yX0_meaningOf yX0_meaningOf, Cond.initialized RX0, Cond.code yX0_meaningOf cX0_meaningOf 3 (some .int), Cond.methodLink RX0 59 yX5_wordAt, Cond.instanceMethod yX5_wordAt, Cond.selects RX5 yX5_wordAt yX5_wordAt, Cond.initialized RX5, Cond.code yX5_wordAt cX5_wordAt 2 (some .int), Cond.fieldLink RX5 24 "MarkedNames$Row" "top" "I", Cond.fieldLink RX5 9 "MarkedNames$Row" "word" "[I", Cond.methodLink RX0 86 yX5_marksAt, Cond.instanceMethod yX5_marksAt, Cond.selects RX5 yX5_marksAt yX5_marksAt, Cond.code yX5_marksAt cX5_marksAt 2 (some .int), Cond.fieldLink RX5 15 "MarkedNames$Row" "marks" "[I", Cond.methodLink RX0 89 yX7_meaning, Cond.instanceMethod yX7_meaning, Cond.selects RX7 yX7_meaning yX7_meaning, Cond.initialized RX7]
def wsX0_expandName_r2 : List Cond := [Cond.code yX7_meaning cX7_meaning 6 (some .int), Cond.fieldLink RX7 33 "MarkedNames$Table" "length" "I", Cond.fieldLink RX7 9 "MarkedNames$Table" "name" "[I", Cond.fieldLink RX7 15 "MarkedNames$Table" "marks" "[I", Cond.methodLink RX7 50 yJ6_bitCount_0f7a4, Cond.static yJ6_bitCount_0f7a4, Cond.initialized RJ6, Cond.code yJ6_bitCount_0f7a4 cJ6_bitCount_0f7a4 1 (some .int), Cond.constant RJ6 265 (1431655765), Cond.constant RJ6 266 (858993459), Cond.constant RJ6 267 (252645135), Cond.methodLink RX7 56 yX7_holdsAllOthers, Cond.instanceMethod yX7_holdsAllOthers, Cond.selects RX7 yX7_holdsAllOthers yX7_holdsAllOthers, Cond.code yX7_holdsAllOthers cX7_holdsAllOthers 5 (some .boolean), Cond.methodLink RX0 83 yX2_fail, Cond.instanceMethod yX2_fail, Cond.selects RX2 yX2_fail yX2_fail, Cond.initialized RX2, Cond.code yX2_fail cX2_fail 2 none, Cond.fieldLink RX2 19 "MarkedNames$Outcome" "error" "I", Cond.methodLink RX0 96 yX7_kindOf, Cond.instanceMethod yX7_kindOf, Cond.selects RX7 yX7_kindOf yX7_kindOf]
def wsX0_expandName_r3 : List Cond := [Cond.code yX7_kindOf cX7_kindOf 2 (some .int), Cond.fieldLink RX7 18 "MarkedNames$Table" "kind" "[I", Cond.methodLink RX0 99 yX2_putName, Cond.instanceMethod yX2_putName, Cond.selects RX2 yX2_putName yX2_putName, Cond.code yX2_putName cX2_putName 3 none, Cond.methodLink RX2 22 yX2_put, Cond.instanceMethod yX2_put, Cond.selects RX2 yX2_put yX2_put, Cond.code yX2_put cX2_put 2 none, Cond.fieldLink RX2 15 "MarkedNames$Outcome" "length" "I", Cond.fieldLink RX2 9 "MarkedNames$Outcome" "text" "[I", Cond.methodLink RX0 102 yX7_valueOf, Cond.instanceMethod yX7_valueOf, Cond.selects RX7 yX7_valueOf yX7_valueOf, Cond.code yX7_valueOf cX7_valueOf 2 (some .int), Cond.fieldLink RX7 21 "MarkedNames$Table" "value" "[I", Cond.methodLink RX0 105 yX2_putVariable, Cond.instanceMethod yX2_putVariable, Cond.selects RX2 yX2_putVariable yX2_putVariable, Cond.code yX2_putVariable cX2_putVariable 2 none, Cond.methodLink RX2 26 yX2_putNumber, Cond.instanceMethod yX2_putNumber, Cond.selects RX2 yX2_putNumber yX2_putNumber]
def wsX0_expandName_r4 : List Cond := [Cond.code yX2_putNumber cX2_putNumber 2 none]
def wsX0_expandName : List Cond := .code yX0_expandName cX0_expandName 4 none :: ((wsX0_expandName_r1 ++ (wsX0_expandName_r2 ++ (wsX0_expandName_r3 ++ wsX0_expandName_r4))) ++ wsX00 ++ wsX50 ++ wsX70 ++ wsX20)
def wsX0_expandByRules_r1 : List Cond := [Cond.fieldLink RX0 46 "MarkedNames$Expander" "fuel" "I", Cond.fieldLink RX0 23 "MarkedNames$Expander" "outcome" "LMarkedNames$Outcome;", Cond.fieldLink RX0 9 "MarkedNames$Expander" "row" "LMarkedNames$Row;", Cond.fieldLink RX0 32 "MarkedNames$Expander" "filler" "LMarkedNames$Filler;", Cond.methodLink RX0 83 yX2_fail, Cond.instanceMethod yX2_fail, Cond.selects RX2 yX2_fail yX2_fail, Cond.initialized RX2, Cond.code yX2_fail cX2_fail 2 none, Cond.fieldLink RX2 19 "MarkedNames$Outcome" "error" "I", Cond.methodLink RX0 145 yX0_newScope, Cond.instanceMethod yX0_newScope, Cond.selects RX0 yX0_newScope yX0_newScope, Cond.initialized RX0, Cond.code yX0_newScope cX0_newScope 1 (some .int), Cond.fieldLink RX0 36 "MarkedNames$Expander" "scopes" "I", Cond.methodLink RX0 149 yX5_turnScope, Cond.instanceMethod yX5_turnScope, Cond.selects RX5 yX5_turnScope yX5_turnScope, Cond.initialized RX5, Cond.code yX5_turnScope cX5_turnScope 5 none, Cond.fieldLink RX5 24 "MarkedNames$Row" "top" "I", Cond.fieldLink RX5 9 "MarkedNames$Row" "word" "[I", Cond.fieldLink RX5 15 "MarkedNames$Row" "marks" "[I"]
def wsX0_expandByRules_r2 : List Cond := [Cond.methodLink RX5 45 yX5_after, Cond.instanceMethod yX5_after, Cond.selects RX5 yX5_after yX5_after, Cond.code yX5_after cX5_after 2 (some .int), Cond.fieldLink RX5 18 "MarkedNames$Row" "size" "[I", Cond.static yX8_isName, Cond.initialized RX8, Cond.code yX8_isName cX8_isName 1 (some .boolean), Cond.methodLink RX0 177 yX1_firstRule, Cond.instanceMethod yX1_firstRule, Cond.selects RX1 yX1_firstRule yX1_firstRule, Cond.initialized RX1, Cond.code yX1_firstRule cX1_firstRule 6 (some .int), Cond.fieldLink RX1 18 "MarkedNames$Filler" "row" "LMarkedNames$Row;", Cond.methodLink RX1 26 yX5_plainLength, Cond.instanceMethod yX5_plainLength, Cond.selects RX5 yX5_plainLength yX5_plainLength, Cond.code yX5_plainLength cX5_plainLength 2 (some .int), Cond.methodLink RX5 34 yX5_wordAt, Cond.instanceMethod yX5_wordAt, Cond.selects RX5 yX5_wordAt yX5_wordAt, Cond.code yX5_wordAt cX5_wordAt 2 (some .int), Cond.methodLink RX5 38 yX5_hasDots, Cond.instanceMethod yX5_hasDots]
def wsX0_expandByRules_r3 : List Cond := [Cond.selects RX5 yX5_hasDots yX5_hasDots, Cond.code yX5_hasDots cX5_hasDots 4 (some .boolean), Cond.methodLink RX5 42 yX5_itemsFrom, Cond.instanceMethod yX5_itemsFrom, Cond.selects RX5 yX5_itemsFrom yX5_itemsFrom, Cond.code yX5_itemsFrom cX5_itemsFrom 5 (some .int), Cond.methodLink RX1 32 yX1_matches, Cond.instanceMethod yX1_matches, Cond.selects RX1 yX1_matches yX1_matches, Cond.code yX1_matches cX1_matches 8 (some .boolean), Cond.fieldLink RX1 12 "MarkedNames$Filler" "rounds" "LMarkedNames$Rounds;", Cond.constant RX1 45 (1000000), Cond.methodLink RX1 39 yX1_hasRoomFor, Cond.instanceMethod yX1_hasRoomFor, Cond.selects RX1 yX1_hasRoomFor yX1_hasRoomFor, Cond.code yX1_hasRoomFor cX1_hasRoomFor 5 (some .boolean), Cond.methodLink RX1 53 yX5_itemsFrom, Cond.methodLink RX1 69 yX5_hasDots, Cond.methodLink RX1 42 yX4_clear, Cond.instanceMethod yX4_clear, Cond.selects RX4 yX4_clear yX4_clear, Cond.initialized RX4, Cond.code yX4_clear cX4_clear 1 none, Cond.fieldLink RX4 21 "MarkedNames$Rounds" "depth" "I"]
def wsX0_expandByRules_r4 : List Cond := [Cond.methodLink RX1 36 yX5_after, Cond.methodLink RX1 46 yX5_isHeld, Cond.instanceMethod yX5_isHeld, Cond.selects RX5 yX5_isHeld yX5_isHeld, Cond.code yX5_isHeld cX5_isHeld 3 (some .boolean), Cond.methodLink RX1 50 yX4_isIn, Cond.instanceMethod yX4_isIn, Cond.selects RX4 yX4_isIn yX4_isIn, Cond.code yX4_isIn cX4_isIn 2 (some .boolean), Cond.fieldLink RX4 9 "MarkedNames$Rounds" "held" "[I", Cond.methodLink RX4 25 yX4_hasInner, Cond.instanceMethod yX4_hasInner, Cond.selects RX4 yX4_hasInner yX4_hasInner, Cond.code yX4_hasInner cX4_hasInner 1 (some .boolean), Cond.methodLink RX1 56 yX4_enter, Cond.instanceMethod yX4_enter, Cond.selects RX4 yX4_enter yX4_enter, Cond.code yX4_enter cX4_enter 3 none, Cond.fieldLink RX4 15 "MarkedNames$Rounds" "round" "[I", Cond.fieldLink RX4 18 "MarkedNames$Rounds" "rounds" "[I", Cond.methodLink RX1 60 yX5_wordAt, Cond.methodLink RX1 63 yX4_leave, Cond.instanceMethod yX4_leave, Cond.selects RX4 yX4_leave yX4_leave]
def wsX0_expandByRules_r5 : List Cond := [Cond.code yX4_leave cX4_leave 2 (some .int), Cond.methodLink RX0 180 yX1_fill, Cond.instanceMethod yX1_fill, Cond.selects RX1 yX1_fill yX1_fill, Cond.code yX1_fill cX1_fill 8 (some .int), Cond.fieldLink RX1 72 "MarkedNames$Filler" "pattern" "I", Cond.fieldLink RX1 76 "MarkedNames$Filler" "matched" "I", Cond.fieldLink RX1 79 "MarkedNames$Filler" "filled" "I", Cond.fieldLink RX1 22 "MarkedNames$Filler" "outcome" "LMarkedNames$Outcome;", Cond.methodLink RX1 82 yX5_startTree, Cond.instanceMethod yX5_startTree, Cond.selects RX5 yX5_startTree yX5_startTree, Cond.code yX5_startTree cX5_startTree 1 (some .int), Cond.fieldLink RX5 28 "MarkedNames$Row" "open" "I", Cond.methodLink RX1 91 yX1_roundsFor, Cond.instanceMethod yX1_roundsFor, Cond.selects RX1 yX1_roundsFor yX1_roundsFor, Cond.code yX1_roundsFor cX1_roundsFor 7 (some .int), Cond.methodLink RX1 111 Lib.Math.max.name, Cond.static Lib.Math.max.name, Cond.initialized "java/lang/Math", Cond.code Lib.Math.max.name Lib.Math.max.code 2 (some .int), Cond.methodLink RX1 98 yX5_variableAt, Cond.instanceMethod yX5_variableAt]
def wsX0_expandByRules_r6 : List Cond := [Cond.selects RX5 yX5_variableAt yX5_variableAt, Cond.code yX5_variableAt cX5_variableAt 2 (some .int), Cond.fieldLink RX5 21 "MarkedNames$Row" "use" "[I", Cond.methodLink RX1 104 yX1_matchOf, Cond.instanceMethod yX1_matchOf, Cond.selects RX1 yX1_matchOf yX1_matchOf, Cond.code yX1_matchOf cX1_matchOf 9 (some .int), Cond.methodLink RX1 125 yX4_roundOf, Cond.instanceMethod yX4_roundOf, Cond.selects RX4 yX4_roundOf yX4_roundOf, Cond.code yX4_roundOf cX4_roundOf 2 (some .int), Cond.methodLink RX1 108 yX2_fail, Cond.methodLink RX1 94 yX1_fillToken, Cond.instanceMethod yX1_fillToken, Cond.selects RX1 yX1_fillToken yX1_fillToken, Cond.code yX1_fillToken cX1_fillToken 6 none, Cond.static yX8_isTree, Cond.code yX8_isTree cX8_isTree 1 (some .boolean), Cond.methodLink RX1 119 yX5_marksAt, Cond.instanceMethod yX5_marksAt, Cond.selects RX5 yX5_marksAt yX5_marksAt, Cond.code yX5_marksAt cX5_marksAt 2 (some .int), Cond.methodLink RX1 122 yX5_add, Cond.instanceMethod yX5_add]
def wsX0_expandByRules_r7 : List Cond := [Cond.selects RX5 yX5_add yX5_add, Cond.code yX5_add cX5_add 3 none, Cond.methodLink RX5 31 yX5_closeBracket, Cond.instanceMethod yX5_closeBracket, Cond.selects RX5 yX5_closeBracket yX5_closeBracket, Cond.code yX5_closeBracket cX5_closeBracket 2 none, Cond.methodLink RX0 133 yX0_expandTree, Cond.instanceMethod yX0_expandTree, Cond.selects RX0 yX0_expandTree yX0_expandTree, Cond.code yX0_expandEach cX0_expandEach 6 none, Cond.methodLink RX0 127 yX5_itemsFrom, Cond.methodLink RX0 130 yX2_put, Cond.instanceMethod yX2_put, Cond.selects RX2 yX2_put yX2_put, Cond.code yX2_put cX2_put 2 none, Cond.fieldLink RX2 15 "MarkedNames$Outcome" "length" "I", Cond.fieldLink RX2 9 "MarkedNames$Outcome" "text" "[I", Cond.methodLink RX0 136 yX5_after, Cond.code yX0_expandFn cX0_expandFn 9 none, Cond.fieldLink RX0 43 "MarkedNames$Expander" "variables" "I", Cond.methodLink RX0 139 yX5_plainLength, Cond.methodLink RX0 142 yX0_areNames, Cond.instanceMethod yX0_areNames, Cond.selects RX0 yX0_areNames yX0_areNames]
def wsX0_expandByRules_r8 : List Cond := [Cond.code yX0_areNames cX0_areNames 4 (some .boolean), Cond.methodLink RX0 59 yX5_wordAt, Cond.methodLink RX0 152 yX0_bindVariable, Cond.instanceMethod yX0_bindVariable, Cond.selects RX0 yX0_bindVariable yX0_bindVariable, Cond.code yX0_bindVariable cX0_bindVariable 3 none, Cond.methodLink RX0 159 yX5_findName, Cond.instanceMethod yX5_findName, Cond.selects RX5 yX5_findName yX5_findName, Cond.code yX5_findName cX5_findName 5 (some .int), Cond.methodLink RX0 163 yX0_bind, Cond.instanceMethod yX0_bind, Cond.selects RX0 yX0_bind yX0_bind, Cond.code yX0_bind cX0_bind 4 (some .boolean), Cond.fieldLink RX0 19 "MarkedNames$Expander" "table" "LMarkedNames$Table;", Cond.fieldLink RX0 40 "MarkedNames$Expander" "bindings" "I", Cond.methodLink RX0 86 yX5_marksAt, Cond.methodLink RX0 183 yX7_bind, Cond.instanceMethod yX7_bind, Cond.selects RX7 yX7_bind yX7_bind, Cond.initialized RX7, Cond.code yX7_bind cX7_bind 5 (some .boolean), Cond.fieldLink RX7 33 "MarkedNames$Table" "length" "I", Cond.fieldLink RX7 9 "MarkedNames$Table" "name" "[I"]
def wsX0_expandByRules_r9 : List Cond := [Cond.fieldLink RX7 15 "MarkedNames$Table" "marks" "[I", Cond.fieldLink RX7 18 "MarkedNames$Table" "kind" "[I", Cond.fieldLink RX7 21 "MarkedNames$Table" "value" "[I", Cond.methodLink RX0 155 yX0_putVariables, Cond.instanceMethod yX0_putVariables, Cond.selects RX0 yX0_putVariables yX0_putVariables, Cond.code yX0_putVariables cX0_putVariables 4 none, Cond.constant RX0 158 (91758), Cond.methodLink RX0 99 yX2_putName, Cond.instanceMethod yX2_putName, Cond.selects RX2 yX2_putName yX2_putName, Cond.code yX2_putName cX2_putName 3 none, Cond.methodLink RX2 22 yX2_put, Cond.methodLink RX0 105 yX2_putVariable, Cond.instanceMethod yX2_putVariable, Cond.selects RX2 yX2_putVariable yX2_putVariable, Cond.code yX2_putVariable cX2_putVariable 2 none, Cond.methodLink RX2 26 yX2_putNumber, Cond.instanceMethod yX2_putNumber, Cond.selects RX2 yX2_putNumber yX2_putNumber, Cond.code yX2_putNumber cX2_putNumber 2 none, Cond.code yX0_expandIf cX0_expandIf 5 none, Cond.constant RX0 167 (92518), Cond.code yX0_expandList cX0_expandList 5 none]
def wsX0_expandByRules_r10 : List Cond := [Cond.methodLink RX0 93 yX0_meaningOf, Cond.instanceMethod yX0_meaningOf, Cond.selects RX0 yX0_meaningOf yX0_meaningOf, Cond.code yX0_meaningOf cX0_meaningOf 3 (some .int), Cond.methodLink RX0 89 yX7_meaning, Cond.instanceMethod yX7_meaning, Cond.selects RX7 yX7_meaning yX7_meaning, Cond.code yX7_meaning cX7_meaning 6 (some .int), Cond.methodLink RX7 50 yJ6_bitCount_0f7a4, Cond.static yJ6_bitCount_0f7a4, Cond.initialized RJ6, Cond.code yJ6_bitCount_0f7a4 cJ6_bitCount_0f7a4 1 (some .int), Cond.constant RJ6 265 (1431655765), Cond.constant RJ6 266 (858993459), Cond.constant RJ6 267 (252645135), Cond.methodLink RX7 56 yX7_holdsAllOthers, Cond.instanceMethod yX7_holdsAllOthers, Cond.selects RX7 yX7_holdsAllOthers yX7_holdsAllOthers, Cond.code yX7_holdsAllOthers cX7_holdsAllOthers 5 (some .boolean), Cond.methodLink RX0 96 yX7_kindOf, Cond.instanceMethod yX7_kindOf, Cond.selects RX7 yX7_kindOf yX7_kindOf, Cond.code yX7_kindOf cX7_kindOf 2 (some .int), Cond.methodLink RX0 108 yX0_expandFn]
def wsX0_expandByRules_r11 : List Cond := [Cond.instanceMethod yX0_expandFn, Cond.selects RX0 yX0_expandFn yX0_expandFn, Cond.methodLink RX0 111 yX0_expandIf, Cond.instanceMethod yX0_expandIf, Cond.selects RX0 yX0_expandIf yX0_expandIf, Cond.methodLink RX0 114 yX0_expandQ, Cond.instanceMethod yX0_expandQ, Cond.selects RX0 yX0_expandQ yX0_expandQ, Cond.code yX0_expandQ cX0_expandQ 2 none, Cond.methodLink RX0 168 yX2_putTree, Cond.instanceMethod yX2_putTree, Cond.selects RX2 yX2_putTree yX2_putTree, Cond.code yX2_putTree cX2_putTree 5 none, Cond.methodLink RX2 39 yX5_after, Cond.methodLink RX2 45 yX5_wordAt, Cond.methodLink RX2 48 yX2_putWord, Cond.instanceMethod yX2_putWord, Cond.selects RX2 yX2_putWord yX2_putWord, Cond.code yX2_putWord cX2_putWord 2 none, Cond.methodLink RX2 33 yX2_putName, Cond.static yX8_isNumber, Cond.code yX8_isNumber cX8_isNumber 1 (some .boolean), Cond.methodLink RX0 117 yX0_expandLs, Cond.instanceMethod yX0_expandLs]
def wsX0_expandByRules_r12 : List Cond := [Cond.selects RX0 yX0_expandLs yX0_expandLs, Cond.methodLink RX0 102 yX7_valueOf, Cond.instanceMethod yX7_valueOf, Cond.selects RX7 yX7_valueOf yX7_valueOf, Cond.code yX7_valueOf cX7_valueOf 2 (some .int), Cond.methodLink RX0 120 yX0_expandByRules, Cond.instanceMethod yX0_expandByRules, Cond.selects RX0 yX0_expandByRules yX0_expandByRules, Cond.methodLink RX0 124 yX0_expandEach, Cond.instanceMethod yX0_expandEach, Cond.selects RX0 yX0_expandEach yX0_expandEach, Cond.code yX0_expandLs cX0_expandLs 6 none, Cond.fieldLink RX0 15 "MarkedNames$Expander" "check" "LMarkedNames$RuleCheck;", Cond.methodLink RX0 172 yX6_isNameWithRules, Cond.instanceMethod yX6_isNameWithRules, Cond.selects RX6 yX6_isNameWithRules yX6_isNameWithRules, Cond.initialized RX6, Cond.code yX6_isNameWithRules cX6_isNameWithRules 5 (some .boolean), Cond.fieldLink RX6 9 "MarkedNames$RuleCheck" "row" "LMarkedNames$Row;", Cond.methodLink RX6 15 yX5_plainLength, Cond.methodLink RX6 21 yX5_wordAt, Cond.methodLink RX6 28 yX6_isRule, Cond.instanceMethod yX6_isRule, Cond.selects RX6 yX6_isRule yX6_isRule]
def wsX0_expandByRules_r13 : List Cond := [Cond.code yX6_isRule cX6_isRule 4 (some .boolean), Cond.methodLink RX6 31 yX5_after, Cond.methodLink RX6 34 yX6_isPattern, Cond.instanceMethod yX6_isPattern, Cond.selects RX6 yX6_isPattern yX6_isPattern, Cond.code yX6_isPattern cX6_isPattern 7 (some .boolean), Cond.methodLink RX6 45 yX5_isHeld, Cond.methodLink RX6 51 yX5_holders, Cond.instanceMethod yX5_holders, Cond.selects RX5 yX5_holders yX5_holders, Cond.code yX5_holders cX5_holders 6 (some .int), Cond.methodLink RX6 55 yX5_findName, Cond.methodLink RX6 37 yX6_linkUses, Cond.instanceMethod yX6_linkUses, Cond.selects RX6 yX6_linkUses yX6_linkUses, Cond.code yX6_linkUses cX6_linkUses 6 none, Cond.methodLink RX6 59 yX5_setVariable, Cond.instanceMethod yX5_setVariable, Cond.selects RX5 yX5_setVariable yX5_setVariable, Cond.code yX5_setVariable cX5_setVariable 3 none, Cond.methodLink RX6 41 yX6_isTemplate, Cond.instanceMethod yX6_isTemplate, Cond.selects RX6 yX6_isTemplate yX6_isTemplate, Cond.code yX6_isTemplate cX6_isTemplate 6 (some .boolean)]
def wsX0_expandByRules_r14 : List Cond := [Cond.methodLink RX6 62 yX5_variableAt, Cond.methodLink RX6 65 yX5_hasUse, Cond.instanceMethod yX5_hasUse, Cond.selects RX5 yX5_hasUse yX5_hasUse, Cond.code yX5_hasUse cX5_hasUse 3 (some .boolean), Cond.code yX0_expandTree cX0_expandTree 4 none, Cond.methodLink RX0 65 yX0_expandList, Cond.instanceMethod yX0_expandList, Cond.selects RX0 yX0_expandList yX0_expandList, Cond.methodLink RX0 73 yX0_expandName, Cond.instanceMethod yX0_expandName, Cond.selects RX0 yX0_expandName yX0_expandName, Cond.code yX0_expandName cX0_expandName 4 none, Cond.methodLink RX0 80 yX2_putNumber]
def wsX0_expandByRules : List Cond := .code yX0_expandByRules cX0_expandByRules 7 none :: ((wsX0_expandByRules_r1 ++ (wsX0_expandByRules_r2 ++ (wsX0_expandByRules_r3 ++ (wsX0_expandByRules_r4 ++ (wsX0_expandByRules_r5 ++ (wsX0_expandByRules_r6 ++ (wsX0_expandByRules_r7 ++ (wsX0_expandByRules_r8 ++ (wsX0_expandByRules_r9 ++ (wsX0_expandByRules_r10 ++ (wsX0_expandByRules_r11 ++ (wsX0_expandByRules_r12 ++ (wsX0_expandByRules_r13 ++ wsX0_expandByRules_r14))))))))))))) ++ wsX00 ++ wsX20 ++ wsX50 ++ wsX10 ++ wsX40 ++ wsX70 ++ wsX60)
def wsX0_expandEach_r1 : List Cond := [Cond.fieldLink RX0 9 "MarkedNames$Expander" "row" "LMarkedNames$Row;", Cond.fieldLink RX0 23 "MarkedNames$Expander" "outcome" "LMarkedNames$Outcome;", Cond.methodLink RX0 127 yX5_itemsFrom, Cond.instanceMethod yX5_itemsFrom, Cond.selects RX5 yX5_itemsFrom yX5_itemsFrom, Cond.initialized RX5, Cond.code yX5_itemsFrom cX5_itemsFrom 5 (some .int), Cond.fieldLink RX5 24 "MarkedNames$Row" "top" "I", Cond.fieldLink RX5 9 "MarkedNames$Row" "word" "[I", Cond.methodLink RX0 130 yX2_put, Cond.instanceMethod yX2_put, Cond.selects RX2 yX2_put yX2_put, Cond.initialized RX2, Cond.code yX2_put cX2_put 2 none, Cond.fieldLink RX2 19 "MarkedNames$Outcome" "error" "I", Cond.fieldLink RX2 15 "MarkedNames$Outcome" "length" "I", Cond.fieldLink RX2 9 "MarkedNames$Outcome" "text" "[I", Cond.methodLink RX0 133 yX0_expandTree, Cond.instanceMethod yX0_expandTree, Cond.selects RX0 yX0_expandTree yX0_expandTree, Cond.initialized RX0, Cond.methodLink RX0 136 yX5_after, Cond.instanceMethod yX5_after, Cond.selects RX5 yX5_after yX5_after]
def wsX0_expandEach_r2 : List Cond := [Cond.code yX5_after cX5_after 2 (some .int), Cond.fieldLink RX5 18 "MarkedNames$Row" "size" "[I", Cond.code yX0_expandByRules cX0_expandByRules 7 none, Cond.fieldLink RX0 46 "MarkedNames$Expander" "fuel" "I", Cond.fieldLink RX0 32 "MarkedNames$Expander" "filler" "LMarkedNames$Filler;", Cond.methodLink RX0 83 yX2_fail, Cond.instanceMethod yX2_fail, Cond.selects RX2 yX2_fail yX2_fail, Cond.code yX2_fail cX2_fail 2 none, Cond.methodLink RX0 145 yX0_newScope, Cond.instanceMethod yX0_newScope, Cond.selects RX0 yX0_newScope yX0_newScope, Cond.code yX0_newScope cX0_newScope 1 (some .int), Cond.fieldLink RX0 36 "MarkedNames$Expander" "scopes" "I", Cond.methodLink RX0 149 yX5_turnScope, Cond.instanceMethod yX5_turnScope, Cond.selects RX5 yX5_turnScope yX5_turnScope, Cond.code yX5_turnScope cX5_turnScope 5 none, Cond.fieldLink RX5 15 "MarkedNames$Row" "marks" "[I", Cond.methodLink RX5 45 yX5_after, Cond.static yX8_isName, Cond.initialized RX8, Cond.code yX8_isName cX8_isName 1 (some .boolean), Cond.methodLink RX0 177 yX1_firstRule]
def wsX0_expandEach_r3 : List Cond := [Cond.instanceMethod yX1_firstRule, Cond.selects RX1 yX1_firstRule yX1_firstRule, Cond.initialized RX1, Cond.code yX1_firstRule cX1_firstRule 6 (some .int), Cond.fieldLink RX1 18 "MarkedNames$Filler" "row" "LMarkedNames$Row;", Cond.methodLink RX1 26 yX5_plainLength, Cond.instanceMethod yX5_plainLength, Cond.selects RX5 yX5_plainLength yX5_plainLength, Cond.code yX5_plainLength cX5_plainLength 2 (some .int), Cond.methodLink RX5 34 yX5_wordAt, Cond.instanceMethod yX5_wordAt, Cond.selects RX5 yX5_wordAt yX5_wordAt, Cond.code yX5_wordAt cX5_wordAt 2 (some .int), Cond.methodLink RX5 38 yX5_hasDots, Cond.instanceMethod yX5_hasDots, Cond.selects RX5 yX5_hasDots yX5_hasDots, Cond.code yX5_hasDots cX5_hasDots 4 (some .boolean), Cond.methodLink RX5 42 yX5_itemsFrom, Cond.methodLink RX1 32 yX1_matches, Cond.instanceMethod yX1_matches, Cond.selects RX1 yX1_matches yX1_matches, Cond.code yX1_matches cX1_matches 8 (some .boolean), Cond.fieldLink RX1 12 "MarkedNames$Filler" "rounds" "LMarkedNames$Rounds;", Cond.constant RX1 45 (1000000)]
def wsX0_expandEach_r4 : List Cond := [Cond.methodLink RX1 39 yX1_hasRoomFor, Cond.instanceMethod yX1_hasRoomFor, Cond.selects RX1 yX1_hasRoomFor yX1_hasRoomFor, Cond.code yX1_hasRoomFor cX1_hasRoomFor 5 (some .boolean), Cond.methodLink RX1 53 yX5_itemsFrom, Cond.methodLink RX1 69 yX5_hasDots, Cond.methodLink RX1 42 yX4_clear, Cond.instanceMethod yX4_clear, Cond.selects RX4 yX4_clear yX4_clear, Cond.initialized RX4, Cond.code yX4_clear cX4_clear 1 none, Cond.fieldLink RX4 21 "MarkedNames$Rounds" "depth" "I", Cond.methodLink RX1 36 yX5_after, Cond.methodLink RX1 46 yX5_isHeld, Cond.instanceMethod yX5_isHeld, Cond.selects RX5 yX5_isHeld yX5_isHeld, Cond.code yX5_isHeld cX5_isHeld 3 (some .boolean), Cond.methodLink RX1 50 yX4_isIn, Cond.instanceMethod yX4_isIn, Cond.selects RX4 yX4_isIn yX4_isIn, Cond.code yX4_isIn cX4_isIn 2 (some .boolean), Cond.fieldLink RX4 9 "MarkedNames$Rounds" "held" "[I", Cond.methodLink RX4 25 yX4_hasInner, Cond.instanceMethod yX4_hasInner]
def wsX0_expandEach_r5 : List Cond := [Cond.selects RX4 yX4_hasInner yX4_hasInner, Cond.code yX4_hasInner cX4_hasInner 1 (some .boolean), Cond.methodLink RX1 56 yX4_enter, Cond.instanceMethod yX4_enter, Cond.selects RX4 yX4_enter yX4_enter, Cond.code yX4_enter cX4_enter 3 none, Cond.fieldLink RX4 15 "MarkedNames$Rounds" "round" "[I", Cond.fieldLink RX4 18 "MarkedNames$Rounds" "rounds" "[I", Cond.methodLink RX1 60 yX5_wordAt, Cond.methodLink RX1 63 yX4_leave, Cond.instanceMethod yX4_leave, Cond.selects RX4 yX4_leave yX4_leave, Cond.code yX4_leave cX4_leave 2 (some .int), Cond.methodLink RX0 180 yX1_fill, Cond.instanceMethod yX1_fill, Cond.selects RX1 yX1_fill yX1_fill, Cond.code yX1_fill cX1_fill 8 (some .int), Cond.fieldLink RX1 72 "MarkedNames$Filler" "pattern" "I", Cond.fieldLink RX1 76 "MarkedNames$Filler" "matched" "I", Cond.fieldLink RX1 79 "MarkedNames$Filler" "filled" "I", Cond.fieldLink RX1 22 "MarkedNames$Filler" "outcome" "LMarkedNames$Outcome;", Cond.methodLink RX1 82 yX5_startTree, Cond.instanceMethod yX5_startTree, Cond.selects RX5 yX5_startTree yX5_startTree]
def wsX0_expandEach_r6 : List Cond := [Cond.code yX5_startTree cX5_startTree 1 (some .int), Cond.fieldLink RX5 28 "MarkedNames$Row" "open" "I", Cond.methodLink RX1 91 yX1_roundsFor, Cond.instanceMethod yX1_roundsFor, Cond.selects RX1 yX1_roundsFor yX1_roundsFor, Cond.code yX1_roundsFor cX1_roundsFor 7 (some .int), Cond.methodLink RX1 111 Lib.Math.max.name, Cond.static Lib.Math.max.name, Cond.initialized "java/lang/Math", Cond.code Lib.Math.max.name Lib.Math.max.code 2 (some .int), Cond.methodLink RX1 98 yX5_variableAt, Cond.instanceMethod yX5_variableAt, Cond.selects RX5 yX5_variableAt yX5_variableAt, Cond.code yX5_variableAt cX5_variableAt 2 (some .int), Cond.fieldLink RX5 21 "MarkedNames$Row" "use" "[I", Cond.methodLink RX1 104 yX1_matchOf, Cond.instanceMethod yX1_matchOf, Cond.selects RX1 yX1_matchOf yX1_matchOf, Cond.code yX1_matchOf cX1_matchOf 9 (some .int), Cond.methodLink RX1 125 yX4_roundOf, Cond.instanceMethod yX4_roundOf, Cond.selects RX4 yX4_roundOf yX4_roundOf, Cond.code yX4_roundOf cX4_roundOf 2 (some .int), Cond.methodLink RX1 108 yX2_fail]
def wsX0_expandEach_r7 : List Cond := [Cond.methodLink RX1 94 yX1_fillToken, Cond.instanceMethod yX1_fillToken, Cond.selects RX1 yX1_fillToken yX1_fillToken, Cond.code yX1_fillToken cX1_fillToken 6 none, Cond.static yX8_isTree, Cond.code yX8_isTree cX8_isTree 1 (some .boolean), Cond.methodLink RX1 119 yX5_marksAt, Cond.instanceMethod yX5_marksAt, Cond.selects RX5 yX5_marksAt yX5_marksAt, Cond.code yX5_marksAt cX5_marksAt 2 (some .int), Cond.methodLink RX1 122 yX5_add, Cond.instanceMethod yX5_add, Cond.selects RX5 yX5_add yX5_add, Cond.code yX5_add cX5_add 3 none, Cond.methodLink RX5 31 yX5_closeBracket, Cond.instanceMethod yX5_closeBracket, Cond.selects RX5 yX5_closeBracket yX5_closeBracket, Cond.code yX5_closeBracket cX5_closeBracket 2 none, Cond.code yX0_expandFn cX0_expandFn 9 none, Cond.fieldLink RX0 43 "MarkedNames$Expander" "variables" "I", Cond.methodLink RX0 139 yX5_plainLength, Cond.methodLink RX0 142 yX0_areNames, Cond.instanceMethod yX0_areNames, Cond.selects RX0 yX0_areNames yX0_areNames]
def wsX0_expandEach_r8 : List Cond := [Cond.code yX0_areNames cX0_areNames 4 (some .boolean), Cond.methodLink RX0 59 yX5_wordAt, Cond.methodLink RX0 152 yX0_bindVariable, Cond.instanceMethod yX0_bindVariable, Cond.selects RX0 yX0_bindVariable yX0_bindVariable, Cond.code yX0_bindVariable cX0_bindVariable 3 none, Cond.methodLink RX0 159 yX5_findName, Cond.instanceMethod yX5_findName, Cond.selects RX5 yX5_findName yX5_findName, Cond.code yX5_findName cX5_findName 5 (some .int), Cond.methodLink RX0 163 yX0_bind, Cond.instanceMethod yX0_bind, Cond.selects RX0 yX0_bind yX0_bind, Cond.code yX0_bind cX0_bind 4 (some .boolean), Cond.fieldLink RX0 19 "MarkedNames$Expander" "table" "LMarkedNames$Table;", Cond.fieldLink RX0 40 "MarkedNames$Expander" "bindings" "I", Cond.methodLink RX0 86 yX5_marksAt, Cond.methodLink RX0 183 yX7_bind, Cond.instanceMethod yX7_bind, Cond.selects RX7 yX7_bind yX7_bind, Cond.initialized RX7, Cond.code yX7_bind cX7_bind 5 (some .boolean), Cond.fieldLink RX7 33 "MarkedNames$Table" "length" "I", Cond.fieldLink RX7 9 "MarkedNames$Table" "name" "[I"]
def wsX0_expandEach_r9 : List Cond := [Cond.fieldLink RX7 15 "MarkedNames$Table" "marks" "[I", Cond.fieldLink RX7 18 "MarkedNames$Table" "kind" "[I", Cond.fieldLink RX7 21 "MarkedNames$Table" "value" "[I", Cond.methodLink RX0 155 yX0_putVariables, Cond.instanceMethod yX0_putVariables, Cond.selects RX0 yX0_putVariables yX0_putVariables, Cond.code yX0_putVariables cX0_putVariables 4 none, Cond.constant RX0 158 (91758), Cond.methodLink RX0 99 yX2_putName, Cond.instanceMethod yX2_putName, Cond.selects RX2 yX2_putName yX2_putName, Cond.code yX2_putName cX2_putName 3 none, Cond.methodLink RX2 22 yX2_put, Cond.methodLink RX0 105 yX2_putVariable, Cond.instanceMethod yX2_putVariable, Cond.selects RX2 yX2_putVariable yX2_putVariable, Cond.code yX2_putVariable cX2_putVariable 2 none, Cond.methodLink RX2 26 yX2_putNumber, Cond.instanceMethod yX2_putNumber, Cond.selects RX2 yX2_putNumber yX2_putNumber, Cond.code yX2_putNumber cX2_putNumber 2 none, Cond.code yX0_expandIf cX0_expandIf 5 none, Cond.constant RX0 167 (92518), Cond.code yX0_expandList cX0_expandList 5 none]
def wsX0_expandEach_r10 : List Cond := [Cond.methodLink RX0 93 yX0_meaningOf, Cond.instanceMethod yX0_meaningOf, Cond.selects RX0 yX0_meaningOf yX0_meaningOf, Cond.code yX0_meaningOf cX0_meaningOf 3 (some .int), Cond.methodLink RX0 89 yX7_meaning, Cond.instanceMethod yX7_meaning, Cond.selects RX7 yX7_meaning yX7_meaning, Cond.code yX7_meaning cX7_meaning 6 (some .int), Cond.methodLink RX7 50 yJ6_bitCount_0f7a4, Cond.static yJ6_bitCount_0f7a4, Cond.initialized RJ6, Cond.code yJ6_bitCount_0f7a4 cJ6_bitCount_0f7a4 1 (some .int), Cond.constant RJ6 265 (1431655765), Cond.constant RJ6 266 (858993459), Cond.constant RJ6 267 (252645135), Cond.methodLink RX7 56 yX7_holdsAllOthers, Cond.instanceMethod yX7_holdsAllOthers, Cond.selects RX7 yX7_holdsAllOthers yX7_holdsAllOthers, Cond.code yX7_holdsAllOthers cX7_holdsAllOthers 5 (some .boolean), Cond.methodLink RX0 96 yX7_kindOf, Cond.instanceMethod yX7_kindOf, Cond.selects RX7 yX7_kindOf yX7_kindOf, Cond.code yX7_kindOf cX7_kindOf 2 (some .int), Cond.methodLink RX0 108 yX0_expandFn]
def wsX0_expandEach_r11 : List Cond := [Cond.instanceMethod yX0_expandFn, Cond.selects RX0 yX0_expandFn yX0_expandFn, Cond.methodLink RX0 111 yX0_expandIf, Cond.instanceMethod yX0_expandIf, Cond.selects RX0 yX0_expandIf yX0_expandIf, Cond.methodLink RX0 114 yX0_expandQ, Cond.instanceMethod yX0_expandQ, Cond.selects RX0 yX0_expandQ yX0_expandQ, Cond.code yX0_expandQ cX0_expandQ 2 none, Cond.methodLink RX0 168 yX2_putTree, Cond.instanceMethod yX2_putTree, Cond.selects RX2 yX2_putTree yX2_putTree, Cond.code yX2_putTree cX2_putTree 5 none, Cond.methodLink RX2 39 yX5_after, Cond.methodLink RX2 45 yX5_wordAt, Cond.methodLink RX2 48 yX2_putWord, Cond.instanceMethod yX2_putWord, Cond.selects RX2 yX2_putWord yX2_putWord, Cond.code yX2_putWord cX2_putWord 2 none, Cond.methodLink RX2 33 yX2_putName, Cond.static yX8_isNumber, Cond.code yX8_isNumber cX8_isNumber 1 (some .boolean), Cond.methodLink RX0 117 yX0_expandLs, Cond.instanceMethod yX0_expandLs]
def wsX0_expandEach_r12 : List Cond := [Cond.selects RX0 yX0_expandLs yX0_expandLs, Cond.methodLink RX0 102 yX7_valueOf, Cond.instanceMethod yX7_valueOf, Cond.selects RX7 yX7_valueOf yX7_valueOf, Cond.code yX7_valueOf cX7_valueOf 2 (some .int), Cond.methodLink RX0 120 yX0_expandByRules, Cond.instanceMethod yX0_expandByRules, Cond.selects RX0 yX0_expandByRules yX0_expandByRules, Cond.methodLink RX0 124 yX0_expandEach, Cond.instanceMethod yX0_expandEach, Cond.selects RX0 yX0_expandEach yX0_expandEach, Cond.code yX0_expandLs cX0_expandLs 6 none, Cond.fieldLink RX0 15 "MarkedNames$Expander" "check" "LMarkedNames$RuleCheck;", Cond.methodLink RX0 172 yX6_isNameWithRules, Cond.instanceMethod yX6_isNameWithRules, Cond.selects RX6 yX6_isNameWithRules yX6_isNameWithRules, Cond.initialized RX6, Cond.code yX6_isNameWithRules cX6_isNameWithRules 5 (some .boolean), Cond.fieldLink RX6 9 "MarkedNames$RuleCheck" "row" "LMarkedNames$Row;", Cond.methodLink RX6 15 yX5_plainLength, Cond.methodLink RX6 21 yX5_wordAt, Cond.methodLink RX6 28 yX6_isRule, Cond.instanceMethod yX6_isRule, Cond.selects RX6 yX6_isRule yX6_isRule]
def wsX0_expandEach_r13 : List Cond := [Cond.code yX6_isRule cX6_isRule 4 (some .boolean), Cond.methodLink RX6 31 yX5_after, Cond.methodLink RX6 34 yX6_isPattern, Cond.instanceMethod yX6_isPattern, Cond.selects RX6 yX6_isPattern yX6_isPattern, Cond.code yX6_isPattern cX6_isPattern 7 (some .boolean), Cond.methodLink RX6 45 yX5_isHeld, Cond.methodLink RX6 51 yX5_holders, Cond.instanceMethod yX5_holders, Cond.selects RX5 yX5_holders yX5_holders, Cond.code yX5_holders cX5_holders 6 (some .int), Cond.methodLink RX6 55 yX5_findName, Cond.methodLink RX6 37 yX6_linkUses, Cond.instanceMethod yX6_linkUses, Cond.selects RX6 yX6_linkUses yX6_linkUses, Cond.code yX6_linkUses cX6_linkUses 6 none, Cond.methodLink RX6 59 yX5_setVariable, Cond.instanceMethod yX5_setVariable, Cond.selects RX5 yX5_setVariable yX5_setVariable, Cond.code yX5_setVariable cX5_setVariable 3 none, Cond.methodLink RX6 41 yX6_isTemplate, Cond.instanceMethod yX6_isTemplate, Cond.selects RX6 yX6_isTemplate yX6_isTemplate, Cond.code yX6_isTemplate cX6_isTemplate 6 (some .boolean)]
def wsX0_expandEach_r14 : List Cond := [Cond.methodLink RX6 62 yX5_variableAt, Cond.methodLink RX6 65 yX5_hasUse, Cond.instanceMethod yX5_hasUse, Cond.selects RX5 yX5_hasUse yX5_hasUse, Cond.code yX5_hasUse cX5_hasUse 3 (some .boolean), Cond.code yX0_expandTree cX0_expandTree 4 none, Cond.methodLink RX0 65 yX0_expandList, Cond.instanceMethod yX0_expandList, Cond.selects RX0 yX0_expandList yX0_expandList, Cond.methodLink RX0 73 yX0_expandName, Cond.instanceMethod yX0_expandName, Cond.selects RX0 yX0_expandName yX0_expandName, Cond.code yX0_expandName cX0_expandName 4 none, Cond.methodLink RX0 80 yX2_putNumber]
def wsX0_expandEach : List Cond := .code yX0_expandEach cX0_expandEach 6 none :: ((wsX0_expandEach_r1 ++ (wsX0_expandEach_r2 ++ (wsX0_expandEach_r3 ++ (wsX0_expandEach_r4 ++ (wsX0_expandEach_r5 ++ (wsX0_expandEach_r6 ++ (wsX0_expandEach_r7 ++ (wsX0_expandEach_r8 ++ (wsX0_expandEach_r9 ++ (wsX0_expandEach_r10 ++ (wsX0_expandEach_r11 ++ (wsX0_expandEach_r12 ++ (wsX0_expandEach_r13 ++ wsX0_expandEach_r14))))))))))))) ++ wsX00 ++ wsX20 ++ wsX50 ++ wsX10 ++ wsX40 ++ wsX70 ++ wsX60)
def wsX0_expandFn_r1 : List Cond := [Cond.fieldLink RX0 9 "MarkedNames$Expander" "row" "LMarkedNames$Row;", Cond.fieldLink RX0 23 "MarkedNames$Expander" "outcome" "LMarkedNames$Outcome;", Cond.fieldLink RX0 43 "MarkedNames$Expander" "variables" "I", Cond.methodLink RX0 136 yX5_after, Cond.instanceMethod yX5_after, Cond.selects RX5 yX5_after yX5_after, Cond.initialized RX5, Cond.code yX5_after cX5_after 2 (some .int), Cond.fieldLink RX5 24 "MarkedNames$Row" "top" "I", Cond.fieldLink RX5 18 "MarkedNames$Row" "size" "[I", Cond.methodLink RX0 139 yX5_plainLength, Cond.instanceMethod yX5_plainLength, Cond.selects RX5 yX5_plainLength yX5_plainLength, Cond.code yX5_plainLength cX5_plainLength 2 (some .int), Cond.methodLink RX5 34 yX5_wordAt, Cond.instanceMethod yX5_wordAt, Cond.selects RX5 yX5_wordAt yX5_wordAt, Cond.code yX5_wordAt cX5_wordAt 2 (some .int), Cond.fieldLink RX5 9 "MarkedNames$Row" "word" "[I", Cond.methodLink RX5 38 yX5_hasDots, Cond.instanceMethod yX5_hasDots, Cond.selects RX5 yX5_hasDots yX5_hasDots, Cond.code yX5_hasDots cX5_hasDots 4 (some .boolean), Cond.methodLink RX5 42 yX5_itemsFrom]
def wsX0_expandFn_r2 : List Cond := [Cond.instanceMethod yX5_itemsFrom, Cond.selects RX5 yX5_itemsFrom yX5_itemsFrom, Cond.code yX5_itemsFrom cX5_itemsFrom 5 (some .int), Cond.methodLink RX0 142 yX0_areNames, Cond.instanceMethod yX0_areNames, Cond.selects RX0 yX0_areNames yX0_areNames, Cond.initialized RX0, Cond.code yX0_areNames cX0_areNames 4 (some .boolean), Cond.methodLink RX0 59 yX5_wordAt, Cond.static yX8_isName, Cond.initialized RX8, Cond.code yX8_isName cX8_isName 1 (some .boolean), Cond.methodLink RX0 83 yX2_fail, Cond.instanceMethod yX2_fail, Cond.selects RX2 yX2_fail yX2_fail, Cond.initialized RX2, Cond.code yX2_fail cX2_fail 2 none, Cond.fieldLink RX2 19 "MarkedNames$Outcome" "error" "I", Cond.methodLink RX0 145 yX0_newScope, Cond.instanceMethod yX0_newScope, Cond.selects RX0 yX0_newScope yX0_newScope, Cond.code yX0_newScope cX0_newScope 1 (some .int), Cond.fieldLink RX0 36 "MarkedNames$Expander" "scopes" "I", Cond.methodLink RX0 149 yX5_turnScope]
def wsX0_expandFn_r3 : List Cond := [Cond.instanceMethod yX5_turnScope, Cond.selects RX5 yX5_turnScope yX5_turnScope, Cond.code yX5_turnScope cX5_turnScope 5 none, Cond.fieldLink RX5 15 "MarkedNames$Row" "marks" "[I", Cond.methodLink RX5 45 yX5_after, Cond.methodLink RX0 127 yX5_itemsFrom, Cond.methodLink RX0 152 yX0_bindVariable, Cond.instanceMethod yX0_bindVariable, Cond.selects RX0 yX0_bindVariable yX0_bindVariable, Cond.code yX0_bindVariable cX0_bindVariable 3 none, Cond.methodLink RX0 159 yX5_findName, Cond.instanceMethod yX5_findName, Cond.selects RX5 yX5_findName yX5_findName, Cond.code yX5_findName cX5_findName 5 (some .int), Cond.methodLink RX0 163 yX0_bind, Cond.instanceMethod yX0_bind, Cond.selects RX0 yX0_bind yX0_bind, Cond.code yX0_bind cX0_bind 4 (some .boolean), Cond.fieldLink RX0 19 "MarkedNames$Expander" "table" "LMarkedNames$Table;", Cond.fieldLink RX0 40 "MarkedNames$Expander" "bindings" "I", Cond.methodLink RX0 86 yX5_marksAt, Cond.instanceMethod yX5_marksAt, Cond.selects RX5 yX5_marksAt yX5_marksAt, Cond.code yX5_marksAt cX5_marksAt 2 (some .int)]
def wsX0_expandFn_r4 : List Cond := [Cond.methodLink RX0 183 yX7_bind, Cond.instanceMethod yX7_bind, Cond.selects RX7 yX7_bind yX7_bind, Cond.initialized RX7, Cond.code yX7_bind cX7_bind 5 (some .boolean), Cond.fieldLink RX7 33 "MarkedNames$Table" "length" "I", Cond.fieldLink RX7 9 "MarkedNames$Table" "name" "[I", Cond.fieldLink RX7 15 "MarkedNames$Table" "marks" "[I", Cond.fieldLink RX7 18 "MarkedNames$Table" "kind" "[I", Cond.fieldLink RX7 21 "MarkedNames$Table" "value" "[I", Cond.methodLink RX0 155 yX0_putVariables, Cond.instanceMethod yX0_putVariables, Cond.selects RX0 yX0_putVariables yX0_putVariables, Cond.code yX0_putVariables cX0_putVariables 4 none, Cond.constant RX0 158 (91758), Cond.methodLink RX0 130 yX2_put, Cond.instanceMethod yX2_put, Cond.selects RX2 yX2_put yX2_put, Cond.code yX2_put cX2_put 2 none, Cond.fieldLink RX2 15 "MarkedNames$Outcome" "length" "I", Cond.fieldLink RX2 9 "MarkedNames$Outcome" "text" "[I", Cond.methodLink RX0 99 yX2_putName, Cond.instanceMethod yX2_putName, Cond.selects RX2 yX2_putName yX2_putName]
def wsX0_expandFn_r5 : List Cond := [Cond.code yX2_putName cX2_putName 3 none, Cond.methodLink RX2 22 yX2_put, Cond.methodLink RX0 105 yX2_putVariable, Cond.instanceMethod yX2_putVariable, Cond.selects RX2 yX2_putVariable yX2_putVariable, Cond.code yX2_putVariable cX2_putVariable 2 none, Cond.methodLink RX2 26 yX2_putNumber, Cond.instanceMethod yX2_putNumber, Cond.selects RX2 yX2_putNumber yX2_putNumber, Cond.code yX2_putNumber cX2_putNumber 2 none, Cond.methodLink RX0 133 yX0_expandTree, Cond.instanceMethod yX0_expandTree, Cond.selects RX0 yX0_expandTree yX0_expandTree, Cond.code yX0_expandByRules cX0_expandByRules 7 none, Cond.fieldLink RX0 46 "MarkedNames$Expander" "fuel" "I", Cond.fieldLink RX0 32 "MarkedNames$Expander" "filler" "LMarkedNames$Filler;", Cond.methodLink RX0 177 yX1_firstRule, Cond.instanceMethod yX1_firstRule, Cond.selects RX1 yX1_firstRule yX1_firstRule, Cond.initialized RX1, Cond.code yX1_firstRule cX1_firstRule 6 (some .int), Cond.fieldLink RX1 18 "MarkedNames$Filler" "row" "LMarkedNames$Row;", Cond.methodLink RX1 26 yX5_plainLength, Cond.methodLink RX1 32 yX1_matches]
def wsX0_expandFn_r6 : List Cond := [Cond.instanceMethod yX1_matches, Cond.selects RX1 yX1_matches yX1_matches, Cond.code yX1_matches cX1_matches 8 (some .boolean), Cond.fieldLink RX1 12 "MarkedNames$Filler" "rounds" "LMarkedNames$Rounds;", Cond.constant RX1 45 (1000000), Cond.methodLink RX1 39 yX1_hasRoomFor, Cond.instanceMethod yX1_hasRoomFor, Cond.selects RX1 yX1_hasRoomFor yX1_hasRoomFor, Cond.code yX1_hasRoomFor cX1_hasRoomFor 5 (some .boolean), Cond.methodLink RX1 53 yX5_itemsFrom, Cond.methodLink RX1 69 yX5_hasDots, Cond.methodLink RX1 42 yX4_clear, Cond.instanceMethod yX4_clear, Cond.selects RX4 yX4_clear yX4_clear, Cond.initialized RX4, Cond.code yX4_clear cX4_clear 1 none, Cond.fieldLink RX4 21 "MarkedNames$Rounds" "depth" "I", Cond.methodLink RX1 36 yX5_after, Cond.methodLink RX1 46 yX5_isHeld, Cond.instanceMethod yX5_isHeld, Cond.selects RX5 yX5_isHeld yX5_isHeld, Cond.code yX5_isHeld cX5_isHeld 3 (some .boolean), Cond.methodLink RX1 50 yX4_isIn, Cond.instanceMethod yX4_isIn]
def wsX0_expandFn_r7 : List Cond := [Cond.selects RX4 yX4_isIn yX4_isIn, Cond.code yX4_isIn cX4_isIn 2 (some .boolean), Cond.fieldLink RX4 9 "MarkedNames$Rounds" "held" "[I", Cond.methodLink RX4 25 yX4_hasInner, Cond.instanceMethod yX4_hasInner, Cond.selects RX4 yX4_hasInner yX4_hasInner, Cond.code yX4_hasInner cX4_hasInner 1 (some .boolean), Cond.methodLink RX1 56 yX4_enter, Cond.instanceMethod yX4_enter, Cond.selects RX4 yX4_enter yX4_enter, Cond.code yX4_enter cX4_enter 3 none, Cond.fieldLink RX4 15 "MarkedNames$Rounds" "round" "[I", Cond.fieldLink RX4 18 "MarkedNames$Rounds" "rounds" "[I", Cond.methodLink RX1 60 yX5_wordAt, Cond.methodLink RX1 63 yX4_leave, Cond.instanceMethod yX4_leave, Cond.selects RX4 yX4_leave yX4_leave, Cond.code yX4_leave cX4_leave 2 (some .int), Cond.methodLink RX0 180 yX1_fill, Cond.instanceMethod yX1_fill, Cond.selects RX1 yX1_fill yX1_fill, Cond.code yX1_fill cX1_fill 8 (some .int), Cond.fieldLink RX1 72 "MarkedNames$Filler" "pattern" "I", Cond.fieldLink RX1 76 "MarkedNames$Filler" "matched" "I"]
def wsX0_expandFn_r8 : List Cond := [Cond.fieldLink RX1 79 "MarkedNames$Filler" "filled" "I", Cond.fieldLink RX1 22 "MarkedNames$Filler" "outcome" "LMarkedNames$Outcome;", Cond.methodLink RX1 82 yX5_startTree, Cond.instanceMethod yX5_startTree, Cond.selects RX5 yX5_startTree yX5_startTree, Cond.code yX5_startTree cX5_startTree 1 (some .int), Cond.fieldLink RX5 28 "MarkedNames$Row" "open" "I", Cond.methodLink RX1 91 yX1_roundsFor, Cond.instanceMethod yX1_roundsFor, Cond.selects RX1 yX1_roundsFor yX1_roundsFor, Cond.code yX1_roundsFor cX1_roundsFor 7 (some .int), Cond.methodLink RX1 111 Lib.Math.max.name, Cond.static Lib.Math.max.name, Cond.initialized "java/lang/Math", Cond.code Lib.Math.max.name Lib.Math.max.code 2 (some .int), Cond.methodLink RX1 98 yX5_variableAt, Cond.instanceMethod yX5_variableAt, Cond.selects RX5 yX5_variableAt yX5_variableAt, Cond.code yX5_variableAt cX5_variableAt 2 (some .int), Cond.fieldLink RX5 21 "MarkedNames$Row" "use" "[I", Cond.methodLink RX1 104 yX1_matchOf, Cond.instanceMethod yX1_matchOf, Cond.selects RX1 yX1_matchOf yX1_matchOf, Cond.code yX1_matchOf cX1_matchOf 9 (some .int)]
def wsX0_expandFn_r9 : List Cond := [Cond.methodLink RX1 125 yX4_roundOf, Cond.instanceMethod yX4_roundOf, Cond.selects RX4 yX4_roundOf yX4_roundOf, Cond.code yX4_roundOf cX4_roundOf 2 (some .int), Cond.methodLink RX1 108 yX2_fail, Cond.methodLink RX1 94 yX1_fillToken, Cond.instanceMethod yX1_fillToken, Cond.selects RX1 yX1_fillToken yX1_fillToken, Cond.code yX1_fillToken cX1_fillToken 6 none, Cond.static yX8_isTree, Cond.code yX8_isTree cX8_isTree 1 (some .boolean), Cond.methodLink RX1 119 yX5_marksAt, Cond.methodLink RX1 122 yX5_add, Cond.instanceMethod yX5_add, Cond.selects RX5 yX5_add yX5_add, Cond.code yX5_add cX5_add 3 none, Cond.methodLink RX5 31 yX5_closeBracket, Cond.instanceMethod yX5_closeBracket, Cond.selects RX5 yX5_closeBracket yX5_closeBracket, Cond.code yX5_closeBracket cX5_closeBracket 2 none, Cond.code yX0_expandEach cX0_expandEach 6 none, Cond.code yX0_expandIf cX0_expandIf 5 none, Cond.constant RX0 167 (92518), Cond.code yX0_expandList cX0_expandList 5 none]
def wsX0_expandFn_r10 : List Cond := [Cond.methodLink RX0 93 yX0_meaningOf, Cond.instanceMethod yX0_meaningOf, Cond.selects RX0 yX0_meaningOf yX0_meaningOf, Cond.code yX0_meaningOf cX0_meaningOf 3 (some .int), Cond.methodLink RX0 89 yX7_meaning, Cond.instanceMethod yX7_meaning, Cond.selects RX7 yX7_meaning yX7_meaning, Cond.code yX7_meaning cX7_meaning 6 (some .int), Cond.methodLink RX7 50 yJ6_bitCount_0f7a4, Cond.static yJ6_bitCount_0f7a4, Cond.initialized RJ6, Cond.code yJ6_bitCount_0f7a4 cJ6_bitCount_0f7a4 1 (some .int), Cond.constant RJ6 265 (1431655765), Cond.constant RJ6 266 (858993459), Cond.constant RJ6 267 (252645135), Cond.methodLink RX7 56 yX7_holdsAllOthers, Cond.instanceMethod yX7_holdsAllOthers, Cond.selects RX7 yX7_holdsAllOthers yX7_holdsAllOthers, Cond.code yX7_holdsAllOthers cX7_holdsAllOthers 5 (some .boolean), Cond.methodLink RX0 96 yX7_kindOf, Cond.instanceMethod yX7_kindOf, Cond.selects RX7 yX7_kindOf yX7_kindOf, Cond.code yX7_kindOf cX7_kindOf 2 (some .int), Cond.methodLink RX0 108 yX0_expandFn]
def wsX0_expandFn_r11 : List Cond := [Cond.instanceMethod yX0_expandFn, Cond.selects RX0 yX0_expandFn yX0_expandFn, Cond.methodLink RX0 111 yX0_expandIf, Cond.instanceMethod yX0_expandIf, Cond.selects RX0 yX0_expandIf yX0_expandIf, Cond.methodLink RX0 114 yX0_expandQ, Cond.instanceMethod yX0_expandQ, Cond.selects RX0 yX0_expandQ yX0_expandQ, Cond.code yX0_expandQ cX0_expandQ 2 none, Cond.methodLink RX0 168 yX2_putTree, Cond.instanceMethod yX2_putTree, Cond.selects RX2 yX2_putTree yX2_putTree, Cond.code yX2_putTree cX2_putTree 5 none, Cond.methodLink RX2 39 yX5_after, Cond.methodLink RX2 45 yX5_wordAt, Cond.methodLink RX2 48 yX2_putWord, Cond.instanceMethod yX2_putWord, Cond.selects RX2 yX2_putWord yX2_putWord, Cond.code yX2_putWord cX2_putWord 2 none, Cond.methodLink RX2 33 yX2_putName, Cond.static yX8_isNumber, Cond.code yX8_isNumber cX8_isNumber 1 (some .boolean), Cond.methodLink RX0 117 yX0_expandLs, Cond.instanceMethod yX0_expandLs]
def wsX0_expandFn_r12 : List Cond := [Cond.selects RX0 yX0_expandLs yX0_expandLs, Cond.methodLink RX0 102 yX7_valueOf, Cond.instanceMethod yX7_valueOf, Cond.selects RX7 yX7_valueOf yX7_valueOf, Cond.code yX7_valueOf cX7_valueOf 2 (some .int), Cond.methodLink RX0 120 yX0_expandByRules, Cond.instanceMethod yX0_expandByRules, Cond.selects RX0 yX0_expandByRules yX0_expandByRules, Cond.methodLink RX0 124 yX0_expandEach, Cond.instanceMethod yX0_expandEach, Cond.selects RX0 yX0_expandEach yX0_expandEach, Cond.code yX0_expandLs cX0_expandLs 6 none, Cond.fieldLink RX0 15 "MarkedNames$Expander" "check" "LMarkedNames$RuleCheck;", Cond.methodLink RX0 172 yX6_isNameWithRules, Cond.instanceMethod yX6_isNameWithRules, Cond.selects RX6 yX6_isNameWithRules yX6_isNameWithRules, Cond.initialized RX6, Cond.code yX6_isNameWithRules cX6_isNameWithRules 5 (some .boolean), Cond.fieldLink RX6 9 "MarkedNames$RuleCheck" "row" "LMarkedNames$Row;", Cond.methodLink RX6 15 yX5_plainLength, Cond.methodLink RX6 21 yX5_wordAt, Cond.methodLink RX6 28 yX6_isRule, Cond.instanceMethod yX6_isRule, Cond.selects RX6 yX6_isRule yX6_isRule]
def wsX0_expandFn_r13 : List Cond := [Cond.code yX6_isRule cX6_isRule 4 (some .boolean), Cond.methodLink RX6 31 yX5_after, Cond.methodLink RX6 34 yX6_isPattern, Cond.instanceMethod yX6_isPattern, Cond.selects RX6 yX6_isPattern yX6_isPattern, Cond.code yX6_isPattern cX6_isPattern 7 (some .boolean), Cond.methodLink RX6 45 yX5_isHeld, Cond.methodLink RX6 51 yX5_holders, Cond.instanceMethod yX5_holders, Cond.selects RX5 yX5_holders yX5_holders, Cond.code yX5_holders cX5_holders 6 (some .int), Cond.methodLink RX6 55 yX5_findName, Cond.methodLink RX6 37 yX6_linkUses, Cond.instanceMethod yX6_linkUses, Cond.selects RX6 yX6_linkUses yX6_linkUses, Cond.code yX6_linkUses cX6_linkUses 6 none, Cond.methodLink RX6 59 yX5_setVariable, Cond.instanceMethod yX5_setVariable, Cond.selects RX5 yX5_setVariable yX5_setVariable, Cond.code yX5_setVariable cX5_setVariable 3 none, Cond.methodLink RX6 41 yX6_isTemplate, Cond.instanceMethod yX6_isTemplate, Cond.selects RX6 yX6_isTemplate yX6_isTemplate, Cond.code yX6_isTemplate cX6_isTemplate 6 (some .boolean)]
def wsX0_expandFn_r14 : List Cond := [Cond.methodLink RX6 62 yX5_variableAt, Cond.methodLink RX6 65 yX5_hasUse, Cond.instanceMethod yX5_hasUse, Cond.selects RX5 yX5_hasUse yX5_hasUse, Cond.code yX5_hasUse cX5_hasUse 3 (some .boolean), Cond.code yX0_expandTree cX0_expandTree 4 none, Cond.methodLink RX0 65 yX0_expandList, Cond.instanceMethod yX0_expandList, Cond.selects RX0 yX0_expandList yX0_expandList, Cond.methodLink RX0 73 yX0_expandName, Cond.instanceMethod yX0_expandName, Cond.selects RX0 yX0_expandName yX0_expandName, Cond.code yX0_expandName cX0_expandName 4 none, Cond.methodLink RX0 80 yX2_putNumber]
def wsX0_expandFn : List Cond := .code yX0_expandFn cX0_expandFn 9 none :: ((wsX0_expandFn_r1 ++ (wsX0_expandFn_r2 ++ (wsX0_expandFn_r3 ++ (wsX0_expandFn_r4 ++ (wsX0_expandFn_r5 ++ (wsX0_expandFn_r6 ++ (wsX0_expandFn_r7 ++ (wsX0_expandFn_r8 ++ (wsX0_expandFn_r9 ++ (wsX0_expandFn_r10 ++ (wsX0_expandFn_r11 ++ (wsX0_expandFn_r12 ++ (wsX0_expandFn_r13 ++ wsX0_expandFn_r14))))))))))))) ++ wsX00 ++ wsX20 ++ wsX50 ++ wsX10 ++ wsX40 ++ wsX70 ++ wsX60)
def wsX0_expandIf_r1 : List Cond := [Cond.fieldLink RX0 9 "MarkedNames$Expander" "row" "LMarkedNames$Row;", Cond.fieldLink RX0 23 "MarkedNames$Expander" "outcome" "LMarkedNames$Outcome;", Cond.constant RX0 167 (92518), Cond.methodLink RX0 139 yX5_plainLength, Cond.instanceMethod yX5_plainLength, Cond.selects RX5 yX5_plainLength yX5_plainLength, Cond.initialized RX5, Cond.code yX5_plainLength cX5_plainLength 2 (some .int), Cond.methodLink RX5 34 yX5_wordAt, Cond.instanceMethod yX5_wordAt, Cond.selects RX5 yX5_wordAt yX5_wordAt, Cond.code yX5_wordAt cX5_wordAt 2 (some .int), Cond.fieldLink RX5 24 "MarkedNames$Row" "top" "I", Cond.fieldLink RX5 9 "MarkedNames$Row" "word" "[I", Cond.methodLink RX5 38 yX5_hasDots, Cond.instanceMethod yX5_hasDots, Cond.selects RX5 yX5_hasDots yX5_hasDots, Cond.code yX5_hasDots cX5_hasDots 4 (some .boolean), Cond.methodLink RX5 42 yX5_itemsFrom, Cond.instanceMethod yX5_itemsFrom, Cond.selects RX5 yX5_itemsFrom yX5_itemsFrom, Cond.code yX5_itemsFrom cX5_itemsFrom 5 (some .int), Cond.methodLink RX0 83 yX2_fail, Cond.instanceMethod yX2_fail]
def wsX0_expandIf_r2 : List Cond := [Cond.selects RX2 yX2_fail yX2_fail, Cond.initialized RX2, Cond.code yX2_fail cX2_fail 2 none, Cond.fieldLink RX2 19 "MarkedNames$Outcome" "error" "I", Cond.methodLink RX0 130 yX2_put, Cond.instanceMethod yX2_put, Cond.selects RX2 yX2_put yX2_put, Cond.code yX2_put cX2_put 2 none, Cond.fieldLink RX2 15 "MarkedNames$Outcome" "length" "I", Cond.fieldLink RX2 9 "MarkedNames$Outcome" "text" "[I", Cond.methodLink RX0 99 yX2_putName, Cond.instanceMethod yX2_putName, Cond.selects RX2 yX2_putName yX2_putName, Cond.code yX2_putName cX2_putName 3 none, Cond.methodLink RX2 22 yX2_put, Cond.methodLink RX0 133 yX0_expandTree, Cond.instanceMethod yX0_expandTree, Cond.selects RX0 yX0_expandTree yX0_expandTree, Cond.initialized RX0, Cond.methodLink RX0 136 yX5_after, Cond.instanceMethod yX5_after, Cond.selects RX5 yX5_after yX5_after, Cond.code yX5_after cX5_after 2 (some .int), Cond.fieldLink RX5 18 "MarkedNames$Row" "size" "[I"]
def wsX0_expandIf_r3 : List Cond := [Cond.code yX0_expandByRules cX0_expandByRules 7 none, Cond.fieldLink RX0 46 "MarkedNames$Expander" "fuel" "I", Cond.fieldLink RX0 32 "MarkedNames$Expander" "filler" "LMarkedNames$Filler;", Cond.methodLink RX0 145 yX0_newScope, Cond.instanceMethod yX0_newScope, Cond.selects RX0 yX0_newScope yX0_newScope, Cond.code yX0_newScope cX0_newScope 1 (some .int), Cond.fieldLink RX0 36 "MarkedNames$Expander" "scopes" "I", Cond.methodLink RX0 149 yX5_turnScope, Cond.instanceMethod yX5_turnScope, Cond.selects RX5 yX5_turnScope yX5_turnScope, Cond.code yX5_turnScope cX5_turnScope 5 none, Cond.fieldLink RX5 15 "MarkedNames$Row" "marks" "[I", Cond.methodLink RX5 45 yX5_after, Cond.static yX8_isName, Cond.initialized RX8, Cond.code yX8_isName cX8_isName 1 (some .boolean), Cond.methodLink RX0 177 yX1_firstRule, Cond.instanceMethod yX1_firstRule, Cond.selects RX1 yX1_firstRule yX1_firstRule, Cond.initialized RX1, Cond.code yX1_firstRule cX1_firstRule 6 (some .int), Cond.fieldLink RX1 18 "MarkedNames$Filler" "row" "LMarkedNames$Row;", Cond.methodLink RX1 26 yX5_plainLength]
def wsX0_expandIf_r4 : List Cond := [Cond.methodLink RX1 32 yX1_matches, Cond.instanceMethod yX1_matches, Cond.selects RX1 yX1_matches yX1_matches, Cond.code yX1_matches cX1_matches 8 (some .boolean), Cond.fieldLink RX1 12 "MarkedNames$Filler" "rounds" "LMarkedNames$Rounds;", Cond.constant RX1 45 (1000000), Cond.methodLink RX1 39 yX1_hasRoomFor, Cond.instanceMethod yX1_hasRoomFor, Cond.selects RX1 yX1_hasRoomFor yX1_hasRoomFor, Cond.code yX1_hasRoomFor cX1_hasRoomFor 5 (some .boolean), Cond.methodLink RX1 53 yX5_itemsFrom, Cond.methodLink RX1 69 yX5_hasDots, Cond.methodLink RX1 42 yX4_clear, Cond.instanceMethod yX4_clear, Cond.selects RX4 yX4_clear yX4_clear, Cond.initialized RX4, Cond.code yX4_clear cX4_clear 1 none, Cond.fieldLink RX4 21 "MarkedNames$Rounds" "depth" "I", Cond.methodLink RX1 36 yX5_after, Cond.methodLink RX1 46 yX5_isHeld, Cond.instanceMethod yX5_isHeld, Cond.selects RX5 yX5_isHeld yX5_isHeld, Cond.code yX5_isHeld cX5_isHeld 3 (some .boolean), Cond.methodLink RX1 50 yX4_isIn]
def wsX0_expandIf_r5 : List Cond := [Cond.instanceMethod yX4_isIn, Cond.selects RX4 yX4_isIn yX4_isIn, Cond.code yX4_isIn cX4_isIn 2 (some .boolean), Cond.fieldLink RX4 9 "MarkedNames$Rounds" "held" "[I", Cond.methodLink RX4 25 yX4_hasInner, Cond.instanceMethod yX4_hasInner, Cond.selects RX4 yX4_hasInner yX4_hasInner, Cond.code yX4_hasInner cX4_hasInner 1 (some .boolean), Cond.methodLink RX1 56 yX4_enter, Cond.instanceMethod yX4_enter, Cond.selects RX4 yX4_enter yX4_enter, Cond.code yX4_enter cX4_enter 3 none, Cond.fieldLink RX4 15 "MarkedNames$Rounds" "round" "[I", Cond.fieldLink RX4 18 "MarkedNames$Rounds" "rounds" "[I", Cond.methodLink RX1 60 yX5_wordAt, Cond.methodLink RX1 63 yX4_leave, Cond.instanceMethod yX4_leave, Cond.selects RX4 yX4_leave yX4_leave, Cond.code yX4_leave cX4_leave 2 (some .int), Cond.methodLink RX0 180 yX1_fill, Cond.instanceMethod yX1_fill, Cond.selects RX1 yX1_fill yX1_fill, Cond.code yX1_fill cX1_fill 8 (some .int), Cond.fieldLink RX1 72 "MarkedNames$Filler" "pattern" "I"]
def wsX0_expandIf_r6 : List Cond := [Cond.fieldLink RX1 76 "MarkedNames$Filler" "matched" "I", Cond.fieldLink RX1 79 "MarkedNames$Filler" "filled" "I", Cond.fieldLink RX1 22 "MarkedNames$Filler" "outcome" "LMarkedNames$Outcome;", Cond.methodLink RX1 82 yX5_startTree, Cond.instanceMethod yX5_startTree, Cond.selects RX5 yX5_startTree yX5_startTree, Cond.code yX5_startTree cX5_startTree 1 (some .int), Cond.fieldLink RX5 28 "MarkedNames$Row" "open" "I", Cond.methodLink RX1 91 yX1_roundsFor, Cond.instanceMethod yX1_roundsFor, Cond.selects RX1 yX1_roundsFor yX1_roundsFor, Cond.code yX1_roundsFor cX1_roundsFor 7 (some .int), Cond.methodLink RX1 111 Lib.Math.max.name, Cond.static Lib.Math.max.name, Cond.initialized "java/lang/Math", Cond.code Lib.Math.max.name Lib.Math.max.code 2 (some .int), Cond.methodLink RX1 98 yX5_variableAt, Cond.instanceMethod yX5_variableAt, Cond.selects RX5 yX5_variableAt yX5_variableAt, Cond.code yX5_variableAt cX5_variableAt 2 (some .int), Cond.fieldLink RX5 21 "MarkedNames$Row" "use" "[I", Cond.methodLink RX1 104 yX1_matchOf, Cond.instanceMethod yX1_matchOf, Cond.selects RX1 yX1_matchOf yX1_matchOf]
def wsX0_expandIf_r7 : List Cond := [Cond.code yX1_matchOf cX1_matchOf 9 (some .int), Cond.methodLink RX1 125 yX4_roundOf, Cond.instanceMethod yX4_roundOf, Cond.selects RX4 yX4_roundOf yX4_roundOf, Cond.code yX4_roundOf cX4_roundOf 2 (some .int), Cond.methodLink RX1 108 yX2_fail, Cond.methodLink RX1 94 yX1_fillToken, Cond.instanceMethod yX1_fillToken, Cond.selects RX1 yX1_fillToken yX1_fillToken, Cond.code yX1_fillToken cX1_fillToken 6 none, Cond.static yX8_isTree, Cond.code yX8_isTree cX8_isTree 1 (some .boolean), Cond.methodLink RX1 119 yX5_marksAt, Cond.instanceMethod yX5_marksAt, Cond.selects RX5 yX5_marksAt yX5_marksAt, Cond.code yX5_marksAt cX5_marksAt 2 (some .int), Cond.methodLink RX1 122 yX5_add, Cond.instanceMethod yX5_add, Cond.selects RX5 yX5_add yX5_add, Cond.code yX5_add cX5_add 3 none, Cond.methodLink RX5 31 yX5_closeBracket, Cond.instanceMethod yX5_closeBracket, Cond.selects RX5 yX5_closeBracket yX5_closeBracket, Cond.code yX5_closeBracket cX5_closeBracket 2 none]
def wsX0_expandIf_r8 : List Cond := [Cond.code yX0_expandEach cX0_expandEach 6 none, Cond.methodLink RX0 127 yX5_itemsFrom, Cond.code yX0_expandFn cX0_expandFn 9 none, Cond.fieldLink RX0 43 "MarkedNames$Expander" "variables" "I", Cond.methodLink RX0 142 yX0_areNames, Cond.instanceMethod yX0_areNames, Cond.selects RX0 yX0_areNames yX0_areNames, Cond.code yX0_areNames cX0_areNames 4 (some .boolean), Cond.methodLink RX0 59 yX5_wordAt, Cond.methodLink RX0 152 yX0_bindVariable, Cond.instanceMethod yX0_bindVariable, Cond.selects RX0 yX0_bindVariable yX0_bindVariable, Cond.code yX0_bindVariable cX0_bindVariable 3 none, Cond.methodLink RX0 159 yX5_findName, Cond.instanceMethod yX5_findName, Cond.selects RX5 yX5_findName yX5_findName, Cond.code yX5_findName cX5_findName 5 (some .int), Cond.methodLink RX0 163 yX0_bind, Cond.instanceMethod yX0_bind, Cond.selects RX0 yX0_bind yX0_bind, Cond.code yX0_bind cX0_bind 4 (some .boolean), Cond.fieldLink RX0 19 "MarkedNames$Expander" "table" "LMarkedNames$Table;", Cond.fieldLink RX0 40 "MarkedNames$Expander" "bindings" "I", Cond.methodLink RX0 86 yX5_marksAt]
def wsX0_expandIf_r9 : List Cond := [Cond.methodLink RX0 183 yX7_bind, Cond.instanceMethod yX7_bind, Cond.selects RX7 yX7_bind yX7_bind, Cond.initialized RX7, Cond.code yX7_bind cX7_bind 5 (some .boolean), Cond.fieldLink RX7 33 "MarkedNames$Table" "length" "I", Cond.fieldLink RX7 9 "MarkedNames$Table" "name" "[I", Cond.fieldLink RX7 15 "MarkedNames$Table" "marks" "[I", Cond.fieldLink RX7 18 "MarkedNames$Table" "kind" "[I", Cond.fieldLink RX7 21 "MarkedNames$Table" "value" "[I", Cond.methodLink RX0 155 yX0_putVariables, Cond.instanceMethod yX0_putVariables, Cond.selects RX0 yX0_putVariables yX0_putVariables, Cond.code yX0_putVariables cX0_putVariables 4 none, Cond.constant RX0 158 (91758), Cond.methodLink RX0 105 yX2_putVariable, Cond.instanceMethod yX2_putVariable, Cond.selects RX2 yX2_putVariable yX2_putVariable, Cond.code yX2_putVariable cX2_putVariable 2 none, Cond.methodLink RX2 26 yX2_putNumber, Cond.instanceMethod yX2_putNumber, Cond.selects RX2 yX2_putNumber yX2_putNumber, Cond.code yX2_putNumber cX2_putNumber 2 none, Cond.code yX0_expandList cX0_expandList 5 none]
def wsX0_expandIf_r10 : List Cond := [Cond.methodLink RX0 93 yX0_meaningOf, Cond.instanceMethod yX0_meaningOf, Cond.selects RX0 yX0_meaningOf yX0_meaningOf, Cond.code yX0_meaningOf cX0_meaningOf 3 (some .int), Cond.methodLink RX0 89 yX7_meaning, Cond.instanceMethod yX7_meaning, Cond.selects RX7 yX7_meaning yX7_meaning, Cond.code yX7_meaning cX7_meaning 6 (some .int), Cond.methodLink RX7 50 yJ6_bitCount_0f7a4, Cond.static yJ6_bitCount_0f7a4, Cond.initialized RJ6, Cond.code yJ6_bitCount_0f7a4 cJ6_bitCount_0f7a4 1 (some .int), Cond.constant RJ6 265 (1431655765), Cond.constant RJ6 266 (858993459), Cond.constant RJ6 267 (252645135), Cond.methodLink RX7 56 yX7_holdsAllOthers, Cond.instanceMethod yX7_holdsAllOthers, Cond.selects RX7 yX7_holdsAllOthers yX7_holdsAllOthers, Cond.code yX7_holdsAllOthers cX7_holdsAllOthers 5 (some .boolean), Cond.methodLink RX0 96 yX7_kindOf, Cond.instanceMethod yX7_kindOf, Cond.selects RX7 yX7_kindOf yX7_kindOf, Cond.code yX7_kindOf cX7_kindOf 2 (some .int), Cond.methodLink RX0 108 yX0_expandFn]
def wsX0_expandIf_r11 : List Cond := [Cond.instanceMethod yX0_expandFn, Cond.selects RX0 yX0_expandFn yX0_expandFn, Cond.methodLink RX0 111 yX0_expandIf, Cond.instanceMethod yX0_expandIf, Cond.selects RX0 yX0_expandIf yX0_expandIf, Cond.methodLink RX0 114 yX0_expandQ, Cond.instanceMethod yX0_expandQ, Cond.selects RX0 yX0_expandQ yX0_expandQ, Cond.code yX0_expandQ cX0_expandQ 2 none, Cond.methodLink RX0 168 yX2_putTree, Cond.instanceMethod yX2_putTree, Cond.selects RX2 yX2_putTree yX2_putTree, Cond.code yX2_putTree cX2_putTree 5 none, Cond.methodLink RX2 39 yX5_after, Cond.methodLink RX2 45 yX5_wordAt, Cond.methodLink RX2 48 yX2_putWord, Cond.instanceMethod yX2_putWord, Cond.selects RX2 yX2_putWord yX2_putWord, Cond.code yX2_putWord cX2_putWord 2 none, Cond.methodLink RX2 33 yX2_putName, Cond.static yX8_isNumber, Cond.code yX8_isNumber cX8_isNumber 1 (some .boolean), Cond.methodLink RX0 117 yX0_expandLs, Cond.instanceMethod yX0_expandLs]
def wsX0_expandIf_r12 : List Cond := [Cond.selects RX0 yX0_expandLs yX0_expandLs, Cond.methodLink RX0 102 yX7_valueOf, Cond.instanceMethod yX7_valueOf, Cond.selects RX7 yX7_valueOf yX7_valueOf, Cond.code yX7_valueOf cX7_valueOf 2 (some .int), Cond.methodLink RX0 120 yX0_expandByRules, Cond.instanceMethod yX0_expandByRules, Cond.selects RX0 yX0_expandByRules yX0_expandByRules, Cond.methodLink RX0 124 yX0_expandEach, Cond.instanceMethod yX0_expandEach, Cond.selects RX0 yX0_expandEach yX0_expandEach, Cond.code yX0_expandLs cX0_expandLs 6 none, Cond.fieldLink RX0 15 "MarkedNames$Expander" "check" "LMarkedNames$RuleCheck;", Cond.methodLink RX0 172 yX6_isNameWithRules, Cond.instanceMethod yX6_isNameWithRules, Cond.selects RX6 yX6_isNameWithRules yX6_isNameWithRules, Cond.initialized RX6, Cond.code yX6_isNameWithRules cX6_isNameWithRules 5 (some .boolean), Cond.fieldLink RX6 9 "MarkedNames$RuleCheck" "row" "LMarkedNames$Row;", Cond.methodLink RX6 15 yX5_plainLength, Cond.methodLink RX6 21 yX5_wordAt, Cond.methodLink RX6 28 yX6_isRule, Cond.instanceMethod yX6_isRule, Cond.selects RX6 yX6_isRule yX6_isRule]
def wsX0_expandIf_r13 : List Cond := [Cond.code yX6_isRule cX6_isRule 4 (some .boolean), Cond.methodLink RX6 31 yX5_after, Cond.methodLink RX6 34 yX6_isPattern, Cond.instanceMethod yX6_isPattern, Cond.selects RX6 yX6_isPattern yX6_isPattern, Cond.code yX6_isPattern cX6_isPattern 7 (some .boolean), Cond.methodLink RX6 45 yX5_isHeld, Cond.methodLink RX6 51 yX5_holders, Cond.instanceMethod yX5_holders, Cond.selects RX5 yX5_holders yX5_holders, Cond.code yX5_holders cX5_holders 6 (some .int), Cond.methodLink RX6 55 yX5_findName, Cond.methodLink RX6 37 yX6_linkUses, Cond.instanceMethod yX6_linkUses, Cond.selects RX6 yX6_linkUses yX6_linkUses, Cond.code yX6_linkUses cX6_linkUses 6 none, Cond.methodLink RX6 59 yX5_setVariable, Cond.instanceMethod yX5_setVariable, Cond.selects RX5 yX5_setVariable yX5_setVariable, Cond.code yX5_setVariable cX5_setVariable 3 none, Cond.methodLink RX6 41 yX6_isTemplate, Cond.instanceMethod yX6_isTemplate, Cond.selects RX6 yX6_isTemplate yX6_isTemplate, Cond.code yX6_isTemplate cX6_isTemplate 6 (some .boolean)]
def wsX0_expandIf_r14 : List Cond := [Cond.methodLink RX6 62 yX5_variableAt, Cond.methodLink RX6 65 yX5_hasUse, Cond.instanceMethod yX5_hasUse, Cond.selects RX5 yX5_hasUse yX5_hasUse, Cond.code yX5_hasUse cX5_hasUse 3 (some .boolean), Cond.code yX0_expandTree cX0_expandTree 4 none, Cond.methodLink RX0 65 yX0_expandList, Cond.instanceMethod yX0_expandList, Cond.selects RX0 yX0_expandList yX0_expandList, Cond.methodLink RX0 73 yX0_expandName, Cond.instanceMethod yX0_expandName, Cond.selects RX0 yX0_expandName yX0_expandName, Cond.code yX0_expandName cX0_expandName 4 none, Cond.methodLink RX0 80 yX2_putNumber]
def wsX0_expandIf : List Cond := .code yX0_expandIf cX0_expandIf 5 none :: ((wsX0_expandIf_r1 ++ (wsX0_expandIf_r2 ++ (wsX0_expandIf_r3 ++ (wsX0_expandIf_r4 ++ (wsX0_expandIf_r5 ++ (wsX0_expandIf_r6 ++ (wsX0_expandIf_r7 ++ (wsX0_expandIf_r8 ++ (wsX0_expandIf_r9 ++ (wsX0_expandIf_r10 ++ (wsX0_expandIf_r11 ++ (wsX0_expandIf_r12 ++ (wsX0_expandIf_r13 ++ wsX0_expandIf_r14))))))))))))) ++ wsX00 ++ wsX20 ++ wsX50 ++ wsX10 ++ wsX40 ++ wsX70 ++ wsX60)
def wsX0_expandList_r1 : List Cond := [Cond.fieldLink RX0 9 "MarkedNames$Expander" "row" "LMarkedNames$Row;", Cond.fieldLink RX0 23 "MarkedNames$Expander" "outcome" "LMarkedNames$Outcome;", Cond.fieldLink RX0 19 "MarkedNames$Expander" "table" "LMarkedNames$Table;", Cond.methodLink RX0 59 yX5_wordAt, Cond.instanceMethod yX5_wordAt, Cond.selects RX5 yX5_wordAt yX5_wordAt, Cond.initialized RX5, Cond.code yX5_wordAt cX5_wordAt 2 (some .int), Cond.fieldLink RX5 24 "MarkedNames$Row" "top" "I", Cond.fieldLink RX5 9 "MarkedNames$Row" "word" "[I", Cond.methodLink RX0 83 yX2_fail, Cond.instanceMethod yX2_fail, Cond.selects RX2 yX2_fail yX2_fail, Cond.initialized RX2, Cond.code yX2_fail cX2_fail 2 none, Cond.fieldLink RX2 19 "MarkedNames$Outcome" "error" "I", Cond.static yX8_isName, Cond.initialized RX8, Cond.code yX8_isName cX8_isName 1 (some .boolean), Cond.methodLink RX0 93 yX0_meaningOf, Cond.instanceMethod yX0_meaningOf, Cond.selects RX0 yX0_meaningOf yX0_meaningOf, Cond.initialized RX0, Cond.code yX0_meaningOf cX0_meaningOf 3 (some .int)]
def wsX0_expandList_r2 : List Cond := [Cond.methodLink RX0 86 yX5_marksAt, Cond.instanceMethod yX5_marksAt, Cond.selects RX5 yX5_marksAt yX5_marksAt, Cond.code yX5_marksAt cX5_marksAt 2 (some .int), Cond.fieldLink RX5 15 "MarkedNames$Row" "marks" "[I", Cond.methodLink RX0 89 yX7_meaning, Cond.instanceMethod yX7_meaning, Cond.selects RX7 yX7_meaning yX7_meaning, Cond.initialized RX7, Cond.code yX7_meaning cX7_meaning 6 (some .int), Cond.fieldLink RX7 33 "MarkedNames$Table" "length" "I", Cond.fieldLink RX7 9 "MarkedNames$Table" "name" "[I", Cond.fieldLink RX7 15 "MarkedNames$Table" "marks" "[I", Cond.methodLink RX7 50 yJ6_bitCount_0f7a4, Cond.static yJ6_bitCount_0f7a4, Cond.initialized RJ6, Cond.code yJ6_bitCount_0f7a4 cJ6_bitCount_0f7a4 1 (some .int), Cond.constant RJ6 265 (1431655765), Cond.constant RJ6 266 (858993459), Cond.constant RJ6 267 (252645135), Cond.methodLink RX7 56 yX7_holdsAllOthers, Cond.instanceMethod yX7_holdsAllOthers, Cond.selects RX7 yX7_holdsAllOthers yX7_holdsAllOthers, Cond.code yX7_holdsAllOthers cX7_holdsAllOthers 5 (some .boolean)]
def wsX0_expandList_r3 : List Cond := [Cond.methodLink RX0 96 yX7_kindOf, Cond.instanceMethod yX7_kindOf, Cond.selects RX7 yX7_kindOf yX7_kindOf, Cond.code yX7_kindOf cX7_kindOf 2 (some .int), Cond.fieldLink RX7 18 "MarkedNames$Table" "kind" "[I", Cond.methodLink RX0 108 yX0_expandFn, Cond.instanceMethod yX0_expandFn, Cond.selects RX0 yX0_expandFn yX0_expandFn, Cond.methodLink RX0 111 yX0_expandIf, Cond.instanceMethod yX0_expandIf, Cond.selects RX0 yX0_expandIf yX0_expandIf, Cond.methodLink RX0 114 yX0_expandQ, Cond.instanceMethod yX0_expandQ, Cond.selects RX0 yX0_expandQ yX0_expandQ, Cond.code yX0_expandQ cX0_expandQ 2 none, Cond.methodLink RX0 139 yX5_plainLength, Cond.instanceMethod yX5_plainLength, Cond.selects RX5 yX5_plainLength yX5_plainLength, Cond.code yX5_plainLength cX5_plainLength 2 (some .int), Cond.methodLink RX5 34 yX5_wordAt, Cond.methodLink RX5 38 yX5_hasDots, Cond.instanceMethod yX5_hasDots, Cond.selects RX5 yX5_hasDots yX5_hasDots, Cond.code yX5_hasDots cX5_hasDots 4 (some .boolean)]
def wsX0_expandList_r4 : List Cond := [Cond.methodLink RX5 42 yX5_itemsFrom, Cond.instanceMethod yX5_itemsFrom, Cond.selects RX5 yX5_itemsFrom yX5_itemsFrom, Cond.code yX5_itemsFrom cX5_itemsFrom 5 (some .int), Cond.methodLink RX0 168 yX2_putTree, Cond.instanceMethod yX2_putTree, Cond.selects RX2 yX2_putTree yX2_putTree, Cond.code yX2_putTree cX2_putTree 5 none, Cond.methodLink RX2 39 yX5_after, Cond.instanceMethod yX5_after, Cond.selects RX5 yX5_after yX5_after, Cond.code yX5_after cX5_after 2 (some .int), Cond.fieldLink RX5 18 "MarkedNames$Row" "size" "[I", Cond.methodLink RX2 45 yX5_wordAt, Cond.methodLink RX2 22 yX2_put, Cond.instanceMethod yX2_put, Cond.selects RX2 yX2_put yX2_put, Cond.code yX2_put cX2_put 2 none, Cond.fieldLink RX2 15 "MarkedNames$Outcome" "length" "I", Cond.fieldLink RX2 9 "MarkedNames$Outcome" "text" "[I", Cond.methodLink RX2 48 yX2_putWord, Cond.instanceMethod yX2_putWord, Cond.selects RX2 yX2_putWord yX2_putWord, Cond.code yX2_putWord cX2_putWord 2 none]
def wsX0_expandList_r5 : List Cond := [Cond.methodLink RX2 33 yX2_putName, Cond.instanceMethod yX2_putName, Cond.selects RX2 yX2_putName yX2_putName, Cond.code yX2_putName cX2_putName 3 none, Cond.static yX8_isNumber, Cond.code yX8_isNumber cX8_isNumber 1 (some .boolean), Cond.methodLink RX2 26 yX2_putNumber, Cond.instanceMethod yX2_putNumber, Cond.selects RX2 yX2_putNumber yX2_putNumber, Cond.code yX2_putNumber cX2_putNumber 2 none, Cond.methodLink RX0 117 yX0_expandLs, Cond.instanceMethod yX0_expandLs, Cond.selects RX0 yX0_expandLs yX0_expandLs, Cond.methodLink RX0 102 yX7_valueOf, Cond.instanceMethod yX7_valueOf, Cond.selects RX7 yX7_valueOf yX7_valueOf, Cond.code yX7_valueOf cX7_valueOf 2 (some .int), Cond.fieldLink RX7 21 "MarkedNames$Table" "value" "[I", Cond.methodLink RX0 120 yX0_expandByRules, Cond.instanceMethod yX0_expandByRules, Cond.selects RX0 yX0_expandByRules yX0_expandByRules, Cond.methodLink RX0 124 yX0_expandEach, Cond.instanceMethod yX0_expandEach, Cond.selects RX0 yX0_expandEach yX0_expandEach]
def wsX0_expandList_r6 : List Cond := [Cond.code yX0_expandByRules cX0_expandByRules 7 none, Cond.fieldLink RX0 46 "MarkedNames$Expander" "fuel" "I", Cond.fieldLink RX0 32 "MarkedNames$Expander" "filler" "LMarkedNames$Filler;", Cond.methodLink RX0 145 yX0_newScope, Cond.instanceMethod yX0_newScope, Cond.selects RX0 yX0_newScope yX0_newScope, Cond.code yX0_newScope cX0_newScope 1 (some .int), Cond.fieldLink RX0 36 "MarkedNames$Expander" "scopes" "I", Cond.methodLink RX0 149 yX5_turnScope, Cond.instanceMethod yX5_turnScope, Cond.selects RX5 yX5_turnScope yX5_turnScope, Cond.code yX5_turnScope cX5_turnScope 5 none, Cond.methodLink RX5 45 yX5_after, Cond.methodLink RX0 177 yX1_firstRule, Cond.instanceMethod yX1_firstRule, Cond.selects RX1 yX1_firstRule yX1_firstRule, Cond.initialized RX1, Cond.code yX1_firstRule cX1_firstRule 6 (some .int), Cond.fieldLink RX1 18 "MarkedNames$Filler" "row" "LMarkedNames$Row;", Cond.methodLink RX1 26 yX5_plainLength, Cond.methodLink RX1 32 yX1_matches, Cond.instanceMethod yX1_matches, Cond.selects RX1 yX1_matches yX1_matches, Cond.code yX1_matches cX1_matches 8 (some .boolean)]
def wsX0_expandList_r7 : List Cond := [Cond.fieldLink RX1 12 "MarkedNames$Filler" "rounds" "LMarkedNames$Rounds;", Cond.constant RX1 45 (1000000), Cond.methodLink RX1 39 yX1_hasRoomFor, Cond.instanceMethod yX1_hasRoomFor, Cond.selects RX1 yX1_hasRoomFor yX1_hasRoomFor, Cond.code yX1_hasRoomFor cX1_hasRoomFor 5 (some .boolean), Cond.methodLink RX1 53 yX5_itemsFrom, Cond.methodLink RX1 69 yX5_hasDots, Cond.methodLink RX1 42 yX4_clear, Cond.instanceMethod yX4_clear, Cond.selects RX4 yX4_clear yX4_clear, Cond.initialized RX4, Cond.code yX4_clear cX4_clear 1 none, Cond.fieldLink RX4 21 "MarkedNames$Rounds" "depth" "I", Cond.methodLink RX1 36 yX5_after, Cond.methodLink RX1 46 yX5_isHeld, Cond.instanceMethod yX5_isHeld, Cond.selects RX5 yX5_isHeld yX5_isHeld, Cond.code yX5_isHeld cX5_isHeld 3 (some .boolean), Cond.methodLink RX1 50 yX4_isIn, Cond.instanceMethod yX4_isIn, Cond.selects RX4 yX4_isIn yX4_isIn, Cond.code yX4_isIn cX4_isIn 2 (some .boolean), Cond.fieldLink RX4 9 "MarkedNames$Rounds" "held" "[I"]
def wsX0_expandList_r8 : List Cond := [Cond.methodLink RX4 25 yX4_hasInner, Cond.instanceMethod yX4_hasInner, Cond.selects RX4 yX4_hasInner yX4_hasInner, Cond.code yX4_hasInner cX4_hasInner 1 (some .boolean), Cond.methodLink RX1 56 yX4_enter, Cond.instanceMethod yX4_enter, Cond.selects RX4 yX4_enter yX4_enter, Cond.code yX4_enter cX4_enter 3 none, Cond.fieldLink RX4 15 "MarkedNames$Rounds" "round" "[I", Cond.fieldLink RX4 18 "MarkedNames$Rounds" "rounds" "[I", Cond.methodLink RX1 60 yX5_wordAt, Cond.methodLink RX1 63 yX4_leave, Cond.instanceMethod yX4_leave, Cond.selects RX4 yX4_leave yX4_leave, Cond.code yX4_leave cX4_leave 2 (some .int), Cond.methodLink RX0 180 yX1_fill, Cond.instanceMethod yX1_fill, Cond.selects RX1 yX1_fill yX1_fill, Cond.code yX1_fill cX1_fill 8 (some .int), Cond.fieldLink RX1 72 "MarkedNames$Filler" "pattern" "I", Cond.fieldLink RX1 76 "MarkedNames$Filler" "matched" "I", Cond.fieldLink RX1 79 "MarkedNames$Filler" "filled" "I", Cond.fieldLink RX1 22 "MarkedNames$Filler" "outcome" "LMarkedNames$Outcome;", Cond.methodLink RX1 82 yX5_startTree]
def wsX0_expandList_r9 : List Cond := [Cond.instanceMethod yX5_startTree, Cond.selects RX5 yX5_startTree yX5_startTree, Cond.code yX5_startTree cX5_startTree 1 (some .int), Cond.fieldLink RX5 28 "MarkedNames$Row" "open" "I", Cond.methodLink RX1 91 yX1_roundsFor, Cond.instanceMethod yX1_roundsFor, Cond.selects RX1 yX1_roundsFor yX1_roundsFor, Cond.code yX1_roundsFor cX1_roundsFor 7 (some .int), Cond.methodLink RX1 111 Lib.Math.max.name, Cond.static Lib.Math.max.name, Cond.initialized "java/lang/Math", Cond.code Lib.Math.max.name Lib.Math.max.code 2 (some .int), Cond.methodLink RX1 98 yX5_variableAt, Cond.instanceMethod yX5_variableAt, Cond.selects RX5 yX5_variableAt yX5_variableAt, Cond.code yX5_variableAt cX5_variableAt 2 (some .int), Cond.fieldLink RX5 21 "MarkedNames$Row" "use" "[I", Cond.methodLink RX1 104 yX1_matchOf, Cond.instanceMethod yX1_matchOf, Cond.selects RX1 yX1_matchOf yX1_matchOf, Cond.code yX1_matchOf cX1_matchOf 9 (some .int), Cond.methodLink RX1 125 yX4_roundOf, Cond.instanceMethod yX4_roundOf, Cond.selects RX4 yX4_roundOf yX4_roundOf]
def wsX0_expandList_r10 : List Cond := [Cond.code yX4_roundOf cX4_roundOf 2 (some .int), Cond.methodLink RX1 108 yX2_fail, Cond.methodLink RX1 94 yX1_fillToken, Cond.instanceMethod yX1_fillToken, Cond.selects RX1 yX1_fillToken yX1_fillToken, Cond.code yX1_fillToken cX1_fillToken 6 none, Cond.static yX8_isTree, Cond.code yX8_isTree cX8_isTree 1 (some .boolean), Cond.methodLink RX1 119 yX5_marksAt, Cond.methodLink RX1 122 yX5_add, Cond.instanceMethod yX5_add, Cond.selects RX5 yX5_add yX5_add, Cond.code yX5_add cX5_add 3 none, Cond.methodLink RX5 31 yX5_closeBracket, Cond.instanceMethod yX5_closeBracket, Cond.selects RX5 yX5_closeBracket yX5_closeBracket, Cond.code yX5_closeBracket cX5_closeBracket 2 none, Cond.methodLink RX0 133 yX0_expandTree, Cond.instanceMethod yX0_expandTree, Cond.selects RX0 yX0_expandTree yX0_expandTree, Cond.code yX0_expandEach cX0_expandEach 6 none, Cond.methodLink RX0 127 yX5_itemsFrom, Cond.methodLink RX0 130 yX2_put, Cond.methodLink RX0 136 yX5_after]
def wsX0_expandList_r11 : List Cond := [Cond.code yX0_expandFn cX0_expandFn 9 none, Cond.fieldLink RX0 43 "MarkedNames$Expander" "variables" "I", Cond.methodLink RX0 142 yX0_areNames, Cond.instanceMethod yX0_areNames, Cond.selects RX0 yX0_areNames yX0_areNames, Cond.code yX0_areNames cX0_areNames 4 (some .boolean), Cond.methodLink RX0 152 yX0_bindVariable, Cond.instanceMethod yX0_bindVariable, Cond.selects RX0 yX0_bindVariable yX0_bindVariable, Cond.code yX0_bindVariable cX0_bindVariable 3 none, Cond.methodLink RX0 159 yX5_findName, Cond.instanceMethod yX5_findName, Cond.selects RX5 yX5_findName yX5_findName, Cond.code yX5_findName cX5_findName 5 (some .int), Cond.methodLink RX0 163 yX0_bind, Cond.instanceMethod yX0_bind, Cond.selects RX0 yX0_bind yX0_bind, Cond.code yX0_bind cX0_bind 4 (some .boolean), Cond.fieldLink RX0 40 "MarkedNames$Expander" "bindings" "I", Cond.methodLink RX0 183 yX7_bind, Cond.instanceMethod yX7_bind, Cond.selects RX7 yX7_bind yX7_bind, Cond.code yX7_bind cX7_bind 5 (some .boolean), Cond.methodLink RX0 155 yX0_putVariables]
def wsX0_expandList_r12 : List Cond := [Cond.instanceMethod yX0_putVariables, Cond.selects RX0 yX0_putVariables yX0_putVariables, Cond.code yX0_putVariables cX0_putVariables 4 none, Cond.constant RX0 158 (91758), Cond.methodLink RX0 99 yX2_putName, Cond.methodLink RX0 105 yX2_putVariable, Cond.instanceMethod yX2_putVariable, Cond.selects RX2 yX2_putVariable yX2_putVariable, Cond.code yX2_putVariable cX2_putVariable 2 none, Cond.code yX0_expandIf cX0_expandIf 5 none, Cond.constant RX0 167 (92518), Cond.code yX0_expandLs cX0_expandLs 6 none, Cond.fieldLink RX0 15 "MarkedNames$Expander" "check" "LMarkedNames$RuleCheck;", Cond.methodLink RX0 172 yX6_isNameWithRules, Cond.instanceMethod yX6_isNameWithRules, Cond.selects RX6 yX6_isNameWithRules yX6_isNameWithRules, Cond.initialized RX6, Cond.code yX6_isNameWithRules cX6_isNameWithRules 5 (some .boolean), Cond.fieldLink RX6 9 "MarkedNames$RuleCheck" "row" "LMarkedNames$Row;", Cond.methodLink RX6 15 yX5_plainLength, Cond.methodLink RX6 21 yX5_wordAt, Cond.methodLink RX6 28 yX6_isRule, Cond.instanceMethod yX6_isRule, Cond.selects RX6 yX6_isRule yX6_isRule]
def wsX0_expandList_r13 : List Cond := [Cond.code yX6_isRule cX6_isRule 4 (some .boolean), Cond.methodLink RX6 31 yX5_after, Cond.methodLink RX6 34 yX6_isPattern, Cond.instanceMethod yX6_isPattern, Cond.selects RX6 yX6_isPattern yX6_isPattern, Cond.code yX6_isPattern cX6_isPattern 7 (some .boolean), Cond.methodLink RX6 45 yX5_isHeld, Cond.methodLink RX6 51 yX5_holders, Cond.instanceMethod yX5_holders, Cond.selects RX5 yX5_holders yX5_holders, Cond.code yX5_holders cX5_holders 6 (some .int), Cond.methodLink RX6 55 yX5_findName, Cond.methodLink RX6 37 yX6_linkUses, Cond.instanceMethod yX6_linkUses, Cond.selects RX6 yX6_linkUses yX6_linkUses, Cond.code yX6_linkUses cX6_linkUses 6 none, Cond.methodLink RX6 59 yX5_setVariable, Cond.instanceMethod yX5_setVariable, Cond.selects RX5 yX5_setVariable yX5_setVariable, Cond.code yX5_setVariable cX5_setVariable 3 none, Cond.methodLink RX6 41 yX6_isTemplate, Cond.instanceMethod yX6_isTemplate, Cond.selects RX6 yX6_isTemplate yX6_isTemplate, Cond.code yX6_isTemplate cX6_isTemplate 6 (some .boolean)]
def wsX0_expandList_r14 : List Cond := [Cond.methodLink RX6 62 yX5_variableAt, Cond.methodLink RX6 65 yX5_hasUse, Cond.instanceMethod yX5_hasUse, Cond.selects RX5 yX5_hasUse yX5_hasUse, Cond.code yX5_hasUse cX5_hasUse 3 (some .boolean), Cond.code yX0_expandTree cX0_expandTree 4 none, Cond.methodLink RX0 65 yX0_expandList, Cond.instanceMethod yX0_expandList, Cond.selects RX0 yX0_expandList yX0_expandList, Cond.methodLink RX0 73 yX0_expandName, Cond.instanceMethod yX0_expandName, Cond.selects RX0 yX0_expandName yX0_expandName, Cond.code yX0_expandName cX0_expandName 4 none, Cond.methodLink RX0 80 yX2_putNumber]
def wsX0_expandList : List Cond := .code yX0_expandList cX0_expandList 5 none :: ((wsX0_expandList_r1 ++ (wsX0_expandList_r2 ++ (wsX0_expandList_r3 ++ (wsX0_expandList_r4 ++ (wsX0_expandList_r5 ++ (wsX0_expandList_r6 ++ (wsX0_expandList_r7 ++ (wsX0_expandList_r8 ++ (wsX0_expandList_r9 ++ (wsX0_expandList_r10 ++ (wsX0_expandList_r11 ++ (wsX0_expandList_r12 ++ (wsX0_expandList_r13 ++ wsX0_expandList_r14))))))))))))) ++ wsX00 ++ wsX20 ++ wsX50 ++ wsX10 ++ wsX40 ++ wsX70 ++ wsX60)
def wsX0_expandLs_r1 : List Cond := [Cond.fieldLink RX0 9 "MarkedNames$Expander" "row" "LMarkedNames$Row;", Cond.fieldLink RX0 15 "MarkedNames$Expander" "check" "LMarkedNames$RuleCheck;", Cond.fieldLink RX0 23 "MarkedNames$Expander" "outcome" "LMarkedNames$Outcome;", Cond.methodLink RX0 136 yX5_after, Cond.instanceMethod yX5_after, Cond.selects RX5 yX5_after yX5_after, Cond.initialized RX5, Cond.code yX5_after cX5_after 2 (some .int), Cond.fieldLink RX5 24 "MarkedNames$Row" "top" "I", Cond.fieldLink RX5 18 "MarkedNames$Row" "size" "[I", Cond.methodLink RX0 139 yX5_plainLength, Cond.instanceMethod yX5_plainLength, Cond.selects RX5 yX5_plainLength yX5_plainLength, Cond.code yX5_plainLength cX5_plainLength 2 (some .int), Cond.methodLink RX5 34 yX5_wordAt, Cond.instanceMethod yX5_wordAt, Cond.selects RX5 yX5_wordAt yX5_wordAt, Cond.code yX5_wordAt cX5_wordAt 2 (some .int), Cond.fieldLink RX5 9 "MarkedNames$Row" "word" "[I", Cond.methodLink RX5 38 yX5_hasDots, Cond.instanceMethod yX5_hasDots, Cond.selects RX5 yX5_hasDots yX5_hasDots, Cond.code yX5_hasDots cX5_hasDots 4 (some .boolean), Cond.methodLink RX5 42 yX5_itemsFrom]
def wsX0_expandLs_r2 : List Cond := [Cond.instanceMethod yX5_itemsFrom, Cond.selects RX5 yX5_itemsFrom yX5_itemsFrom, Cond.code yX5_itemsFrom cX5_itemsFrom 5 (some .int), Cond.methodLink RX0 172 yX6_isNameWithRules, Cond.instanceMethod yX6_isNameWithRules, Cond.selects RX6 yX6_isNameWithRules yX6_isNameWithRules, Cond.initialized RX6, Cond.code yX6_isNameWithRules cX6_isNameWithRules 5 (some .boolean), Cond.fieldLink RX6 9 "MarkedNames$RuleCheck" "row" "LMarkedNames$Row;", Cond.methodLink RX6 15 yX5_plainLength, Cond.methodLink RX6 21 yX5_wordAt, Cond.static yX8_isName, Cond.initialized RX8, Cond.code yX8_isName cX8_isName 1 (some .boolean), Cond.methodLink RX6 28 yX6_isRule, Cond.instanceMethod yX6_isRule, Cond.selects RX6 yX6_isRule yX6_isRule, Cond.code yX6_isRule cX6_isRule 4 (some .boolean), Cond.methodLink RX6 31 yX5_after, Cond.methodLink RX6 34 yX6_isPattern, Cond.instanceMethod yX6_isPattern, Cond.selects RX6 yX6_isPattern yX6_isPattern, Cond.code yX6_isPattern cX6_isPattern 7 (some .boolean), Cond.methodLink RX6 45 yX5_isHeld]
def wsX0_expandLs_r3 : List Cond := [Cond.instanceMethod yX5_isHeld, Cond.selects RX5 yX5_isHeld yX5_isHeld, Cond.code yX5_isHeld cX5_isHeld 3 (some .boolean), Cond.static yX8_isTree, Cond.code yX8_isTree cX8_isTree 1 (some .boolean), Cond.methodLink RX6 51 yX5_holders, Cond.instanceMethod yX5_holders, Cond.selects RX5 yX5_holders yX5_holders, Cond.code yX5_holders cX5_holders 6 (some .int), Cond.methodLink RX6 55 yX5_findName, Cond.instanceMethod yX5_findName, Cond.selects RX5 yX5_findName yX5_findName, Cond.code yX5_findName cX5_findName 5 (some .int), Cond.fieldLink RX5 15 "MarkedNames$Row" "marks" "[I", Cond.methodLink RX6 37 yX6_linkUses, Cond.instanceMethod yX6_linkUses, Cond.selects RX6 yX6_linkUses yX6_linkUses, Cond.code yX6_linkUses cX6_linkUses 6 none, Cond.methodLink RX6 59 yX5_setVariable, Cond.instanceMethod yX5_setVariable, Cond.selects RX5 yX5_setVariable yX5_setVariable, Cond.code yX5_setVariable cX5_setVariable 3 none, Cond.fieldLink RX5 21 "MarkedNames$Row" "use" "[I", Cond.methodLink RX6 41 yX6_isTemplate]
def wsX0_expandLs_r4 : List Cond := [Cond.instanceMethod yX6_isTemplate, Cond.selects RX6 yX6_isTemplate yX6_isTemplate, Cond.code yX6_isTemplate cX6_isTemplate 6 (some .boolean), Cond.methodLink RX6 62 yX5_variableAt, Cond.instanceMethod yX5_variableAt, Cond.selects RX5 yX5_variableAt yX5_variableAt, Cond.code yX5_variableAt cX5_variableAt 2 (some .int), Cond.methodLink RX6 65 yX5_hasUse, Cond.instanceMethod yX5_hasUse, Cond.selects RX5 yX5_hasUse yX5_hasUse, Cond.code yX5_hasUse cX5_hasUse 3 (some .boolean), Cond.methodLink RX0 83 yX2_fail, Cond.instanceMethod yX2_fail, Cond.selects RX2 yX2_fail yX2_fail, Cond.initialized RX2, Cond.code yX2_fail cX2_fail 2 none, Cond.fieldLink RX2 19 "MarkedNames$Outcome" "error" "I", Cond.methodLink RX0 145 yX0_newScope, Cond.instanceMethod yX0_newScope, Cond.selects RX0 yX0_newScope yX0_newScope, Cond.initialized RX0, Cond.code yX0_newScope cX0_newScope 1 (some .int), Cond.fieldLink RX0 36 "MarkedNames$Expander" "scopes" "I", Cond.methodLink RX0 149 yX5_turnScope]
def wsX0_expandLs_r5 : List Cond := [Cond.instanceMethod yX5_turnScope, Cond.selects RX5 yX5_turnScope yX5_turnScope, Cond.code yX5_turnScope cX5_turnScope 5 none, Cond.methodLink RX5 45 yX5_after, Cond.methodLink RX0 163 yX0_bind, Cond.instanceMethod yX0_bind, Cond.selects RX0 yX0_bind yX0_bind, Cond.code yX0_bind cX0_bind 4 (some .boolean), Cond.fieldLink RX0 19 "MarkedNames$Expander" "table" "LMarkedNames$Table;", Cond.fieldLink RX0 40 "MarkedNames$Expander" "bindings" "I", Cond.methodLink RX0 59 yX5_wordAt, Cond.methodLink RX0 86 yX5_marksAt, Cond.instanceMethod yX5_marksAt, Cond.selects RX5 yX5_marksAt yX5_marksAt, Cond.code yX5_marksAt cX5_marksAt 2 (some .int), Cond.methodLink RX0 183 yX7_bind, Cond.instanceMethod yX7_bind, Cond.selects RX7 yX7_bind yX7_bind, Cond.initialized RX7, Cond.code yX7_bind cX7_bind 5 (some .boolean), Cond.fieldLink RX7 33 "MarkedNames$Table" "length" "I", Cond.fieldLink RX7 9 "MarkedNames$Table" "name" "[I", Cond.fieldLink RX7 15 "MarkedNames$Table" "marks" "[I", Cond.fieldLink RX7 18 "MarkedNames$Table" "kind" "[I"]
def wsX0_expandLs_r6 : List Cond := [Cond.fieldLink RX7 21 "MarkedNames$Table" "value" "[I", Cond.methodLink RX0 133 yX0_expandTree, Cond.instanceMethod yX0_expandTree, Cond.selects RX0 yX0_expandTree yX0_expandTree, Cond.code yX0_expandByRules cX0_expandByRules 7 none, Cond.fieldLink RX0 46 "MarkedNames$Expander" "fuel" "I", Cond.fieldLink RX0 32 "MarkedNames$Expander" "filler" "LMarkedNames$Filler;", Cond.methodLink RX0 177 yX1_firstRule, Cond.instanceMethod yX1_firstRule, Cond.selects RX1 yX1_firstRule yX1_firstRule, Cond.initialized RX1, Cond.code yX1_firstRule cX1_firstRule 6 (some .int), Cond.fieldLink RX1 18 "MarkedNames$Filler" "row" "LMarkedNames$Row;", Cond.methodLink RX1 26 yX5_plainLength, Cond.methodLink RX1 32 yX1_matches, Cond.instanceMethod yX1_matches, Cond.selects RX1 yX1_matches yX1_matches, Cond.code yX1_matches cX1_matches 8 (some .boolean), Cond.fieldLink RX1 12 "MarkedNames$Filler" "rounds" "LMarkedNames$Rounds;", Cond.constant RX1 45 (1000000), Cond.methodLink RX1 39 yX1_hasRoomFor, Cond.instanceMethod yX1_hasRoomFor, Cond.selects RX1 yX1_hasRoomFor yX1_hasRoomFor, Cond.code yX1_hasRoomFor cX1_hasRoomFor 5 (some .boolean)]
def wsX0_expandLs_r7 : List Cond := [Cond.methodLink RX1 53 yX5_itemsFrom, Cond.methodLink RX1 69 yX5_hasDots, Cond.methodLink RX1 42 yX4_clear, Cond.instanceMethod yX4_clear, Cond.selects RX4 yX4_clear yX4_clear, Cond.initialized RX4, Cond.code yX4_clear cX4_clear 1 none, Cond.fieldLink RX4 21 "MarkedNames$Rounds" "depth" "I", Cond.methodLink RX1 36 yX5_after, Cond.methodLink RX1 46 yX5_isHeld, Cond.methodLink RX1 50 yX4_isIn, Cond.instanceMethod yX4_isIn, Cond.selects RX4 yX4_isIn yX4_isIn, Cond.code yX4_isIn cX4_isIn 2 (some .boolean), Cond.fieldLink RX4 9 "MarkedNames$Rounds" "held" "[I", Cond.methodLink RX4 25 yX4_hasInner, Cond.instanceMethod yX4_hasInner, Cond.selects RX4 yX4_hasInner yX4_hasInner, Cond.code yX4_hasInner cX4_hasInner 1 (some .boolean), Cond.methodLink RX1 56 yX4_enter, Cond.instanceMethod yX4_enter, Cond.selects RX4 yX4_enter yX4_enter, Cond.code yX4_enter cX4_enter 3 none, Cond.fieldLink RX4 15 "MarkedNames$Rounds" "round" "[I"]
def wsX0_expandLs_r8 : List Cond := [Cond.fieldLink RX4 18 "MarkedNames$Rounds" "rounds" "[I", Cond.methodLink RX1 60 yX5_wordAt, Cond.methodLink RX1 63 yX4_leave, Cond.instanceMethod yX4_leave, Cond.selects RX4 yX4_leave yX4_leave, Cond.code yX4_leave cX4_leave 2 (some .int), Cond.methodLink RX0 180 yX1_fill, Cond.instanceMethod yX1_fill, Cond.selects RX1 yX1_fill yX1_fill, Cond.code yX1_fill cX1_fill 8 (some .int), Cond.fieldLink RX1 72 "MarkedNames$Filler" "pattern" "I", Cond.fieldLink RX1 76 "MarkedNames$Filler" "matched" "I", Cond.fieldLink RX1 79 "MarkedNames$Filler" "filled" "I", Cond.fieldLink RX1 22 "MarkedNames$Filler" "outcome" "LMarkedNames$Outcome;", Cond.methodLink RX1 82 yX5_startTree, Cond.instanceMethod yX5_startTree, Cond.selects RX5 yX5_startTree yX5_startTree, Cond.code yX5_startTree cX5_startTree 1 (some .int), Cond.fieldLink RX5 28 "MarkedNames$Row" "open" "I", Cond.methodLink RX1 91 yX1_roundsFor, Cond.instanceMethod yX1_roundsFor, Cond.selects RX1 yX1_roundsFor yX1_roundsFor, Cond.code yX1_roundsFor cX1_roundsFor 7 (some .int), Cond.methodLink RX1 111 Lib.Math.max.name]
def wsX0_expandLs_r9 : List Cond := [Cond.static Lib.Math.max.name, Cond.initialized "java/lang/Math", Cond.code Lib.Math.max.name Lib.Math.max.code 2 (some .int), Cond.methodLink RX1 98 yX5_variableAt, Cond.methodLink RX1 104 yX1_matchOf, Cond.instanceMethod yX1_matchOf, Cond.selects RX1 yX1_matchOf yX1_matchOf, Cond.code yX1_matchOf cX1_matchOf 9 (some .int), Cond.methodLink RX1 125 yX4_roundOf, Cond.instanceMethod yX4_roundOf, Cond.selects RX4 yX4_roundOf yX4_roundOf, Cond.code yX4_roundOf cX4_roundOf 2 (some .int), Cond.methodLink RX1 108 yX2_fail, Cond.methodLink RX1 94 yX1_fillToken, Cond.instanceMethod yX1_fillToken, Cond.selects RX1 yX1_fillToken yX1_fillToken, Cond.code yX1_fillToken cX1_fillToken 6 none, Cond.methodLink RX1 119 yX5_marksAt, Cond.methodLink RX1 122 yX5_add, Cond.instanceMethod yX5_add, Cond.selects RX5 yX5_add yX5_add, Cond.code yX5_add cX5_add 3 none, Cond.methodLink RX5 31 yX5_closeBracket, Cond.instanceMethod yX5_closeBracket]
def wsX0_expandLs_r10 : List Cond := [Cond.selects RX5 yX5_closeBracket yX5_closeBracket, Cond.code yX5_closeBracket cX5_closeBracket 2 none, Cond.code yX0_expandEach cX0_expandEach 6 none, Cond.methodLink RX0 127 yX5_itemsFrom, Cond.methodLink RX0 130 yX2_put, Cond.instanceMethod yX2_put, Cond.selects RX2 yX2_put yX2_put, Cond.code yX2_put cX2_put 2 none, Cond.fieldLink RX2 15 "MarkedNames$Outcome" "length" "I", Cond.fieldLink RX2 9 "MarkedNames$Outcome" "text" "[I", Cond.code yX0_expandFn cX0_expandFn 9 none, Cond.fieldLink RX0 43 "MarkedNames$Expander" "variables" "I", Cond.methodLink RX0 142 yX0_areNames, Cond.instanceMethod yX0_areNames, Cond.selects RX0 yX0_areNames yX0_areNames, Cond.code yX0_areNames cX0_areNames 4 (some .boolean), Cond.methodLink RX0 152 yX0_bindVariable, Cond.instanceMethod yX0_bindVariable, Cond.selects RX0 yX0_bindVariable yX0_bindVariable, Cond.code yX0_bindVariable cX0_bindVariable 3 none, Cond.methodLink RX0 159 yX5_findName, Cond.methodLink RX0 155 yX0_putVariables, Cond.instanceMethod yX0_putVariables, Cond.selects RX0 yX0_putVariables yX0_putVariables]
def wsX0_expandLs_r11 : List Cond := [Cond.code yX0_putVariables cX0_putVariables 4 none, Cond.constant RX0 158 (91758), Cond.methodLink RX0 99 yX2_putName, Cond.instanceMethod yX2_putName, Cond.selects RX2 yX2_putName yX2_putName, Cond.code yX2_putName cX2_putName 3 none, Cond.methodLink RX2 22 yX2_put, Cond.methodLink RX0 105 yX2_putVariable, Cond.instanceMethod yX2_putVariable, Cond.selects RX2 yX2_putVariable yX2_putVariable, Cond.code yX2_putVariable cX2_putVariable 2 none, Cond.methodLink RX2 26 yX2_putNumber, Cond.instanceMethod yX2_putNumber, Cond.selects RX2 yX2_putNumber yX2_putNumber, Cond.code yX2_putNumber cX2_putNumber 2 none, Cond.code yX0_expandIf cX0_expandIf 5 none, Cond.constant RX0 167 (92518), Cond.code yX0_expandList cX0_expandList 5 none, Cond.methodLink RX0 93 yX0_meaningOf, Cond.instanceMethod yX0_meaningOf, Cond.selects RX0 yX0_meaningOf yX0_meaningOf, Cond.code yX0_meaningOf cX0_meaningOf 3 (some .int), Cond.methodLink RX0 89 yX7_meaning, Cond.instanceMethod yX7_meaning]
def wsX0_expandLs_r12 : List Cond := [Cond.selects RX7 yX7_meaning yX7_meaning, Cond.code yX7_meaning cX7_meaning 6 (some .int), Cond.methodLink RX7 50 yJ6_bitCount_0f7a4, Cond.static yJ6_bitCount_0f7a4, Cond.initialized RJ6, Cond.code yJ6_bitCount_0f7a4 cJ6_bitCount_0f7a4 1 (some .int), Cond.constant RJ6 265 (1431655765), Cond.constant RJ6 266 (858993459), Cond.constant RJ6 267 (252645135), Cond.methodLink RX7 56 yX7_holdsAllOthers, Cond.instanceMethod yX7_holdsAllOthers, Cond.selects RX7 yX7_holdsAllOthers yX7_holdsAllOthers, Cond.code yX7_holdsAllOthers cX7_holdsAllOthers 5 (some .boolean), Cond.methodLink RX0 96 yX7_kindOf, Cond.instanceMethod yX7_kindOf, Cond.selects RX7 yX7_kindOf yX7_kindOf, Cond.code yX7_kindOf cX7_kindOf 2 (some .int), Cond.methodLink RX0 108 yX0_expandFn, Cond.instanceMethod yX0_expandFn, Cond.selects RX0 yX0_expandFn yX0_expandFn, Cond.methodLink RX0 111 yX0_expandIf, Cond.instanceMethod yX0_expandIf, Cond.selects RX0 yX0_expandIf yX0_expandIf, Cond.methodLink RX0 114 yX0_expandQ]
def wsX0_expandLs_r13 : List Cond := [Cond.instanceMethod yX0_expandQ, Cond.selects RX0 yX0_expandQ yX0_expandQ, Cond.code yX0_expandQ cX0_expandQ 2 none, Cond.methodLink RX0 168 yX2_putTree, Cond.instanceMethod yX2_putTree, Cond.selects RX2 yX2_putTree yX2_putTree, Cond.code yX2_putTree cX2_putTree 5 none, Cond.methodLink RX2 39 yX5_after, Cond.methodLink RX2 45 yX5_wordAt, Cond.methodLink RX2 48 yX2_putWord, Cond.instanceMethod yX2_putWord, Cond.selects RX2 yX2_putWord yX2_putWord, Cond.code yX2_putWord cX2_putWord 2 none, Cond.methodLink RX2 33 yX2_putName, Cond.static yX8_isNumber, Cond.code yX8_isNumber cX8_isNumber 1 (some .boolean), Cond.methodLink RX0 117 yX0_expandLs, Cond.instanceMethod yX0_expandLs, Cond.selects RX0 yX0_expandLs yX0_expandLs, Cond.methodLink RX0 102 yX7_valueOf, Cond.instanceMethod yX7_valueOf, Cond.selects RX7 yX7_valueOf yX7_valueOf, Cond.code yX7_valueOf cX7_valueOf 2 (some .int), Cond.methodLink RX0 120 yX0_expandByRules]
def wsX0_expandLs_r14 : List Cond := [Cond.instanceMethod yX0_expandByRules, Cond.selects RX0 yX0_expandByRules yX0_expandByRules, Cond.methodLink RX0 124 yX0_expandEach, Cond.instanceMethod yX0_expandEach, Cond.selects RX0 yX0_expandEach yX0_expandEach, Cond.code yX0_expandTree cX0_expandTree 4 none, Cond.methodLink RX0 65 yX0_expandList, Cond.instanceMethod yX0_expandList, Cond.selects RX0 yX0_expandList yX0_expandList, Cond.methodLink RX0 73 yX0_expandName, Cond.instanceMethod yX0_expandName, Cond.selects RX0 yX0_expandName yX0_expandName, Cond.code yX0_expandName cX0_expandName 4 none, Cond.methodLink RX0 80 yX2_putNumber]
def wsX0_expandLs : List Cond := .code yX0_expandLs cX0_expandLs 6 none :: ((wsX0_expandLs_r1 ++ (wsX0_expandLs_r2 ++ (wsX0_expandLs_r3 ++ (wsX0_expandLs_r4 ++ (wsX0_expandLs_r5 ++ (wsX0_expandLs_r6 ++ (wsX0_expandLs_r7 ++ (wsX0_expandLs_r8 ++ (wsX0_expandLs_r9 ++ (wsX0_expandLs_r10 ++ (wsX0_expandLs_r11 ++ (wsX0_expandLs_r12 ++ (wsX0_expandLs_r13 ++ wsX0_expandLs_r14))))))))))))) ++ wsX00 ++ wsX20 ++ wsX50 ++ wsX10 ++ wsX40 ++ wsX70 ++ wsX60)
def wsX0_expandTree_r1 : List Cond := [Cond.fieldLink RX0 23 "MarkedNames$Expander" "outcome" "LMarkedNames$Outcome;", Cond.fieldLink RX0 9 "MarkedNames$Expander" "row" "LMarkedNames$Row;", Cond.methodLink RX0 59 yX5_wordAt, Cond.instanceMethod yX5_wordAt, Cond.selects RX5 yX5_wordAt yX5_wordAt, Cond.initialized RX5, Cond.code yX5_wordAt cX5_wordAt 2 (some .int), Cond.fieldLink RX5 24 "MarkedNames$Row" "top" "I", Cond.fieldLink RX5 9 "MarkedNames$Row" "word" "[I", Cond.methodLink RX0 65 yX0_expandList, Cond.instanceMethod yX0_expandList, Cond.selects RX0 yX0_expandList yX0_expandList, Cond.initialized RX0, Cond.static yX8_isName, Cond.initialized RX8, Cond.code yX8_isName cX8_isName 1 (some .boolean), Cond.methodLink RX0 73 yX0_expandName, Cond.instanceMethod yX0_expandName, Cond.selects RX0 yX0_expandName yX0_expandName, Cond.code yX0_expandName cX0_expandName 4 none, Cond.fieldLink RX0 19 "MarkedNames$Expander" "table" "LMarkedNames$Table;", Cond.methodLink RX0 93 yX0_meaningOf, Cond.instanceMethod yX0_meaningOf, Cond.selects RX0 yX0_meaningOf yX0_meaningOf]
def wsX0_expandTree_r2 : List Cond := [Cond.code yX0_meaningOf cX0_meaningOf 3 (some .int), Cond.methodLink RX0 86 yX5_marksAt, Cond.instanceMethod yX5_marksAt, Cond.selects RX5 yX5_marksAt yX5_marksAt, Cond.code yX5_marksAt cX5_marksAt 2 (some .int), Cond.fieldLink RX5 15 "MarkedNames$Row" "marks" "[I", Cond.methodLink RX0 89 yX7_meaning, Cond.instanceMethod yX7_meaning, Cond.selects RX7 yX7_meaning yX7_meaning, Cond.initialized RX7, Cond.code yX7_meaning cX7_meaning 6 (some .int), Cond.fieldLink RX7 33 "MarkedNames$Table" "length" "I", Cond.fieldLink RX7 9 "MarkedNames$Table" "name" "[I", Cond.fieldLink RX7 15 "MarkedNames$Table" "marks" "[I", Cond.methodLink RX7 50 yJ6_bitCount_0f7a4, Cond.static yJ6_bitCount_0f7a4, Cond.initialized RJ6, Cond.code yJ6_bitCount_0f7a4 cJ6_bitCount_0f7a4 1 (some .int), Cond.constant RJ6 265 (1431655765), Cond.constant RJ6 266 (858993459), Cond.constant RJ6 267 (252645135), Cond.methodLink RX7 56 yX7_holdsAllOthers, Cond.instanceMethod yX7_holdsAllOthers, Cond.selects RX7 yX7_holdsAllOthers yX7_holdsAllOthers]
def wsX0_expandTree_r3 : List Cond := [Cond.code yX7_holdsAllOthers cX7_holdsAllOthers 5 (some .boolean), Cond.methodLink RX0 83 yX2_fail, Cond.instanceMethod yX2_fail, Cond.selects RX2 yX2_fail yX2_fail, Cond.initialized RX2, Cond.code yX2_fail cX2_fail 2 none, Cond.fieldLink RX2 19 "MarkedNames$Outcome" "error" "I", Cond.methodLink RX0 96 yX7_kindOf, Cond.instanceMethod yX7_kindOf, Cond.selects RX7 yX7_kindOf yX7_kindOf, Cond.code yX7_kindOf cX7_kindOf 2 (some .int), Cond.fieldLink RX7 18 "MarkedNames$Table" "kind" "[I", Cond.methodLink RX0 99 yX2_putName, Cond.instanceMethod yX2_putName, Cond.selects RX2 yX2_putName yX2_putName, Cond.code yX2_putName cX2_putName 3 none, Cond.methodLink RX2 22 yX2_put, Cond.instanceMethod yX2_put, Cond.selects RX2 yX2_put yX2_put, Cond.code yX2_put cX2_put 2 none, Cond.fieldLink RX2 15 "MarkedNames$Outcome" "length" "I", Cond.fieldLink RX2 9 "MarkedNames$Outcome" "text" "[I", Cond.methodLink RX0 102 yX7_valueOf, Cond.instanceMethod yX7_valueOf]
def wsX0_expandTree_r4 : List Cond := [Cond.selects RX7 yX7_valueOf yX7_valueOf, Cond.code yX7_valueOf cX7_valueOf 2 (some .int), Cond.fieldLink RX7 21 "MarkedNames$Table" "value" "[I", Cond.methodLink RX0 105 yX2_putVariable, Cond.instanceMethod yX2_putVariable, Cond.selects RX2 yX2_putVariable yX2_putVariable, Cond.code yX2_putVariable cX2_putVariable 2 none, Cond.methodLink RX2 26 yX2_putNumber, Cond.instanceMethod yX2_putNumber, Cond.selects RX2 yX2_putNumber yX2_putNumber, Cond.code yX2_putNumber cX2_putNumber 2 none, Cond.static yX8_isNumber, Cond.code yX8_isNumber cX8_isNumber 1 (some .boolean), Cond.methodLink RX0 80 yX2_putNumber, Cond.code yX0_expandByRules cX0_expandByRules 7 none, Cond.fieldLink RX0 46 "MarkedNames$Expander" "fuel" "I", Cond.fieldLink RX0 32 "MarkedNames$Expander" "filler" "LMarkedNames$Filler;", Cond.methodLink RX0 145 yX0_newScope, Cond.instanceMethod yX0_newScope, Cond.selects RX0 yX0_newScope yX0_newScope, Cond.code yX0_newScope cX0_newScope 1 (some .int), Cond.fieldLink RX0 36 "MarkedNames$Expander" "scopes" "I", Cond.methodLink RX0 149 yX5_turnScope, Cond.instanceMethod yX5_turnScope]
def wsX0_expandTree_r5 : List Cond := [Cond.selects RX5 yX5_turnScope yX5_turnScope, Cond.code yX5_turnScope cX5_turnScope 5 none, Cond.methodLink RX5 45 yX5_after, Cond.instanceMethod yX5_after, Cond.selects RX5 yX5_after yX5_after, Cond.code yX5_after cX5_after 2 (some .int), Cond.fieldLink RX5 18 "MarkedNames$Row" "size" "[I", Cond.methodLink RX0 177 yX1_firstRule, Cond.instanceMethod yX1_firstRule, Cond.selects RX1 yX1_firstRule yX1_firstRule, Cond.initialized RX1, Cond.code yX1_firstRule cX1_firstRule 6 (some .int), Cond.fieldLink RX1 18 "MarkedNames$Filler" "row" "LMarkedNames$Row;", Cond.methodLink RX1 26 yX5_plainLength, Cond.instanceMethod yX5_plainLength, Cond.selects RX5 yX5_plainLength yX5_plainLength, Cond.code yX5_plainLength cX5_plainLength 2 (some .int), Cond.methodLink RX5 34 yX5_wordAt, Cond.methodLink RX5 38 yX5_hasDots, Cond.instanceMethod yX5_hasDots, Cond.selects RX5 yX5_hasDots yX5_hasDots, Cond.code yX5_hasDots cX5_hasDots 4 (some .boolean), Cond.methodLink RX5 42 yX5_itemsFrom, Cond.instanceMethod yX5_itemsFrom]
def wsX0_expandTree_r6 : List Cond := [Cond.selects RX5 yX5_itemsFrom yX5_itemsFrom, Cond.code yX5_itemsFrom cX5_itemsFrom 5 (some .int), Cond.methodLink RX1 32 yX1_matches, Cond.instanceMethod yX1_matches, Cond.selects RX1 yX1_matches yX1_matches, Cond.code yX1_matches cX1_matches 8 (some .boolean), Cond.fieldLink RX1 12 "MarkedNames$Filler" "rounds" "LMarkedNames$Rounds;", Cond.constant RX1 45 (1000000), Cond.methodLink RX1 39 yX1_hasRoomFor, Cond.instanceMethod yX1_hasRoomFor, Cond.selects RX1 yX1_hasRoomFor yX1_hasRoomFor, Cond.code yX1_hasRoomFor cX1_hasRoomFor 5 (some .boolean), Cond.methodLink RX1 53 yX5_itemsFrom, Cond.methodLink RX1 69 yX5_hasDots, Cond.methodLink RX1 42 yX4_clear, Cond.instanceMethod yX4_clear, Cond.selects RX4 yX4_clear yX4_clear, Cond.initialized RX4, Cond.code yX4_clear cX4_clear 1 none, Cond.fieldLink RX4 21 "MarkedNames$Rounds" "depth" "I", Cond.methodLink RX1 36 yX5_after, Cond.methodLink RX1 46 yX5_isHeld, Cond.instanceMethod yX5_isHeld, Cond.selects RX5 yX5_isHeld yX5_isHeld]
def wsX0_expandTree_r7 : List Cond := [Cond.code yX5_isHeld cX5_isHeld 3 (some .boolean), Cond.methodLink RX1 50 yX4_isIn, Cond.instanceMethod yX4_isIn, Cond.selects RX4 yX4_isIn yX4_isIn, Cond.code yX4_isIn cX4_isIn 2 (some .boolean), Cond.fieldLink RX4 9 "MarkedNames$Rounds" "held" "[I", Cond.methodLink RX4 25 yX4_hasInner, Cond.instanceMethod yX4_hasInner, Cond.selects RX4 yX4_hasInner yX4_hasInner, Cond.code yX4_hasInner cX4_hasInner 1 (some .boolean), Cond.methodLink RX1 56 yX4_enter, Cond.instanceMethod yX4_enter, Cond.selects RX4 yX4_enter yX4_enter, Cond.code yX4_enter cX4_enter 3 none, Cond.fieldLink RX4 15 "MarkedNames$Rounds" "round" "[I", Cond.fieldLink RX4 18 "MarkedNames$Rounds" "rounds" "[I", Cond.methodLink RX1 60 yX5_wordAt, Cond.methodLink RX1 63 yX4_leave, Cond.instanceMethod yX4_leave, Cond.selects RX4 yX4_leave yX4_leave, Cond.code yX4_leave cX4_leave 2 (some .int), Cond.methodLink RX0 180 yX1_fill, Cond.instanceMethod yX1_fill, Cond.selects RX1 yX1_fill yX1_fill]
def wsX0_expandTree_r8 : List Cond := [Cond.code yX1_fill cX1_fill 8 (some .int), Cond.fieldLink RX1 72 "MarkedNames$Filler" "pattern" "I", Cond.fieldLink RX1 76 "MarkedNames$Filler" "matched" "I", Cond.fieldLink RX1 79 "MarkedNames$Filler" "filled" "I", Cond.fieldLink RX1 22 "MarkedNames$Filler" "outcome" "LMarkedNames$Outcome;", Cond.methodLink RX1 82 yX5_startTree, Cond.instanceMethod yX5_startTree, Cond.selects RX5 yX5_startTree yX5_startTree, Cond.code yX5_startTree cX5_startTree 1 (some .int), Cond.fieldLink RX5 28 "MarkedNames$Row" "open" "I", Cond.methodLink RX1 91 yX1_roundsFor, Cond.instanceMethod yX1_roundsFor, Cond.selects RX1 yX1_roundsFor yX1_roundsFor, Cond.code yX1_roundsFor cX1_roundsFor 7 (some .int), Cond.methodLink RX1 111 Lib.Math.max.name, Cond.static Lib.Math.max.name, Cond.initialized "java/lang/Math", Cond.code Lib.Math.max.name Lib.Math.max.code 2 (some .int), Cond.methodLink RX1 98 yX5_variableAt, Cond.instanceMethod yX5_variableAt, Cond.selects RX5 yX5_variableAt yX5_variableAt, Cond.code yX5_variableAt cX5_variableAt 2 (some .int), Cond.fieldLink RX5 21 "MarkedNames$Row" "use" "[I", Cond.methodLink RX1 104 yX1_matchOf]
def wsX0_expandTree_r9 : List Cond := [Cond.instanceMethod yX1_matchOf, Cond.selects RX1 yX1_matchOf yX1_matchOf, Cond.code yX1_matchOf cX1_matchOf 9 (some .int), Cond.methodLink RX1 125 yX4_roundOf, Cond.instanceMethod yX4_roundOf, Cond.selects RX4 yX4_roundOf yX4_roundOf, Cond.code yX4_roundOf cX4_roundOf 2 (some .int), Cond.methodLink RX1 108 yX2_fail, Cond.methodLink RX1 94 yX1_fillToken, Cond.instanceMethod yX1_fillToken, Cond.selects RX1 yX1_fillToken yX1_fillToken, Cond.code yX1_fillToken cX1_fillToken 6 none, Cond.static yX8_isTree, Cond.code yX8_isTree cX8_isTree 1 (some .boolean), Cond.methodLink RX1 119 yX5_marksAt, Cond.methodLink RX1 122 yX5_add, Cond.instanceMethod yX5_add, Cond.selects RX5 yX5_add yX5_add, Cond.code yX5_add cX5_add 3 none, Cond.methodLink RX5 31 yX5_closeBracket, Cond.instanceMethod yX5_closeBracket, Cond.selects RX5 yX5_closeBracket yX5_closeBracket, Cond.code yX5_closeBracket cX5_closeBracket 2 none, Cond.methodLink RX0 133 yX0_expandTree]
def wsX0_expandTree_r10 : List Cond := [Cond.instanceMethod yX0_expandTree, Cond.selects RX0 yX0_expandTree yX0_expandTree, Cond.code yX0_expandEach cX0_expandEach 6 none, Cond.methodLink RX0 127 yX5_itemsFrom, Cond.methodLink RX0 130 yX2_put, Cond.methodLink RX0 136 yX5_after, Cond.code yX0_expandFn cX0_expandFn 9 none, Cond.fieldLink RX0 43 "MarkedNames$Expander" "variables" "I", Cond.methodLink RX0 139 yX5_plainLength, Cond.methodLink RX0 142 yX0_areNames, Cond.instanceMethod yX0_areNames, Cond.selects RX0 yX0_areNames yX0_areNames, Cond.code yX0_areNames cX0_areNames 4 (some .boolean), Cond.methodLink RX0 152 yX0_bindVariable, Cond.instanceMethod yX0_bindVariable, Cond.selects RX0 yX0_bindVariable yX0_bindVariable, Cond.code yX0_bindVariable cX0_bindVariable 3 none, Cond.methodLink RX0 159 yX5_findName, Cond.instanceMethod yX5_findName, Cond.selects RX5 yX5_findName yX5_findName, Cond.code yX5_findName cX5_findName 5 (some .int), Cond.methodLink RX0 163 yX0_bind, Cond.instanceMethod yX0_bind, Cond.selects RX0 yX0_bind yX0_bind]
def wsX0_expandTree_r11 : List Cond := [Cond.code yX0_bind cX0_bind 4 (some .boolean), Cond.fieldLink RX0 40 "MarkedNames$Expander" "bindings" "I", Cond.methodLink RX0 183 yX7_bind, Cond.instanceMethod yX7_bind, Cond.selects RX7 yX7_bind yX7_bind, Cond.code yX7_bind cX7_bind 5 (some .boolean), Cond.methodLink RX0 155 yX0_putVariables, Cond.instanceMethod yX0_putVariables, Cond.selects RX0 yX0_putVariables yX0_putVariables, Cond.code yX0_putVariables cX0_putVariables 4 none, Cond.constant RX0 158 (91758), Cond.code yX0_expandIf cX0_expandIf 5 none, Cond.constant RX0 167 (92518), Cond.code yX0_expandList cX0_expandList 5 none, Cond.methodLink RX0 108 yX0_expandFn, Cond.instanceMethod yX0_expandFn, Cond.selects RX0 yX0_expandFn yX0_expandFn, Cond.methodLink RX0 111 yX0_expandIf, Cond.instanceMethod yX0_expandIf, Cond.selects RX0 yX0_expandIf yX0_expandIf, Cond.methodLink RX0 114 yX0_expandQ, Cond.instanceMethod yX0_expandQ, Cond.selects RX0 yX0_expandQ yX0_expandQ, Cond.code yX0_expandQ cX0_expandQ 2 none]
def wsX0_expandTree_r12 : List Cond := [Cond.methodLink RX0 168 yX2_putTree, Cond.instanceMethod yX2_putTree, Cond.selects RX2 yX2_putTree yX2_putTree, Cond.code yX2_putTree cX2_putTree 5 none, Cond.methodLink RX2 39 yX5_after, Cond.methodLink RX2 45 yX5_wordAt, Cond.methodLink RX2 48 yX2_putWord, Cond.instanceMethod yX2_putWord, Cond.selects RX2 yX2_putWord yX2_putWord, Cond.code yX2_putWord cX2_putWord 2 none, Cond.methodLink RX2 33 yX2_putName, Cond.methodLink RX0 117 yX0_expandLs, Cond.instanceMethod yX0_expandLs, Cond.selects RX0 yX0_expandLs yX0_expandLs, Cond.methodLink RX0 120 yX0_expandByRules, Cond.instanceMethod yX0_expandByRules, Cond.selects RX0 yX0_expandByRules yX0_expandByRules, Cond.methodLink RX0 124 yX0_expandEach, Cond.instanceMethod yX0_expandEach, Cond.selects RX0 yX0_expandEach yX0_expandEach, Cond.code yX0_expandLs cX0_expandLs 6 none, Cond.fieldLink RX0 15 "MarkedNames$Expander" "check" "LMarkedNames$RuleCheck;", Cond.methodLink RX0 172 yX6_isNameWithRules, Cond.instanceMethod yX6_isNameWithRules]
def wsX0_expandTree_r13 : List Cond := [Cond.selects RX6 yX6_isNameWithRules yX6_isNameWithRules, Cond.initialized RX6, Cond.code yX6_isNameWithRules cX6_isNameWithRules 5 (some .boolean), Cond.fieldLink RX6 9 "MarkedNames$RuleCheck" "row" "LMarkedNames$Row;", Cond.methodLink RX6 15 yX5_plainLength, Cond.methodLink RX6 21 yX5_wordAt, Cond.methodLink RX6 28 yX6_isRule, Cond.instanceMethod yX6_isRule, Cond.selects RX6 yX6_isRule yX6_isRule, Cond.code yX6_isRule cX6_isRule 4 (some .boolean), Cond.methodLink RX6 31 yX5_after, Cond.methodLink RX6 34 yX6_isPattern, Cond.instanceMethod yX6_isPattern, Cond.selects RX6 yX6_isPattern yX6_isPattern, Cond.code yX6_isPattern cX6_isPattern 7 (some .boolean), Cond.methodLink RX6 45 yX5_isHeld, Cond.methodLink RX6 51 yX5_holders, Cond.instanceMethod yX5_holders, Cond.selects RX5 yX5_holders yX5_holders, Cond.code yX5_holders cX5_holders 6 (some .int), Cond.methodLink RX6 55 yX5_findName, Cond.methodLink RX6 37 yX6_linkUses, Cond.instanceMethod yX6_linkUses, Cond.selects RX6 yX6_linkUses yX6_linkUses]
def wsX0_expandTree_r14 : List Cond := [Cond.code yX6_linkUses cX6_linkUses 6 none, Cond.methodLink RX6 59 yX5_setVariable, Cond.instanceMethod yX5_setVariable, Cond.selects RX5 yX5_setVariable yX5_setVariable, Cond.code yX5_setVariable cX5_setVariable 3 none, Cond.methodLink RX6 41 yX6_isTemplate, Cond.instanceMethod yX6_isTemplate, Cond.selects RX6 yX6_isTemplate yX6_isTemplate, Cond.code yX6_isTemplate cX6_isTemplate 6 (some .boolean), Cond.methodLink RX6 62 yX5_variableAt, Cond.methodLink RX6 65 yX5_hasUse, Cond.instanceMethod yX5_hasUse, Cond.selects RX5 yX5_hasUse yX5_hasUse, Cond.code yX5_hasUse cX5_hasUse 3 (some .boolean)]
def wsX0_expandTree : List Cond := .code yX0_expandTree cX0_expandTree 4 none :: ((wsX0_expandTree_r1 ++ (wsX0_expandTree_r2 ++ (wsX0_expandTree_r3 ++ (wsX0_expandTree_r4 ++ (wsX0_expandTree_r5 ++ (wsX0_expandTree_r6 ++ (wsX0_expandTree_r7 ++ (wsX0_expandTree_r8 ++ (wsX0_expandTree_r9 ++ (wsX0_expandTree_r10 ++ (wsX0_expandTree_r11 ++ (wsX0_expandTree_r12 ++ (wsX0_expandTree_r13 ++ wsX0_expandTree_r14))))))))))))) ++ wsX00 ++ wsX20 ++ wsX50 ++ wsX10 ++ wsX40 ++ wsX70 ++ wsX60)
def wsX2_init : List Cond := .code yX2_init cX2_init 1 none :: ([.methodLink RX2 3 objectInit, .instanceMethod objectInit, .code objectInit ⟨#[0xb1]⟩ 1 none, .arrayClass .int, .fieldLink RX2 9 "MarkedNames$Outcome" "text" "[I"] ++ wsX20)
def wsX2_clear : List Cond := .code yX2_clear cX2_clear 1 none :: ([.fieldLink RX2 15 "MarkedNames$Outcome" "length" "I", .fieldLink RX2 19 "MarkedNames$Outcome" "error" "I"] ++ wsX20)
def wsX2_charAt : List Cond := .code yX2_charAt cX2_charAt 2 (some .int) :: ([.fieldLink RX2 15 "MarkedNames$Outcome" "length" "I", .fieldLink RX2 9 "MarkedNames$Outcome" "text" "[I"] ++ wsX20)
def wsX3_init : List Cond := .code yX3_init cX3_init 2 none :: ([.methodLink RX3 3 objectInit, .instanceMethod objectInit, .code objectInit ⟨#[0xb1]⟩ 1 none, .fieldLink RX3 9 "MarkedNames$Reader" "row" "LMarkedNames$Row;"] ++ wsX30)
def wsX5_restart : List Cond := .code yX5_restart cX5_restart 1 none :: ([.fieldLink RX5 24 "MarkedNames$Row" "top" "I", .fieldLink RX5 28 "MarkedNames$Row" "open" "I"] ++ wsX50)
def wsX3_isWhole : List Cond := .code yX3_isWhole cX3_isWhole 1 (some .boolean) :: ([.fieldLink RX3 20 "MarkedNames$Reader" "depth" "I", .fieldLink RX3 9 "MarkedNames$Reader" "row" "LMarkedNames$Row;"] ++ wsX30 ++ wsX50)
def wsX3_runLength : List Cond := .code yX3_runLength cX3_runLength 7 (some .int) :: ([])
def wsX3_readName : List Cond := .code yX3_readName cX3_readName 6 (some .int) :: ([.fieldLink RX3 9 "MarkedNames$Reader" "row" "LMarkedNames$Row;", .methodLink RX3 63 yX5_add, .instanceMethod yX5_add, .selects RX5 yX5_add yX5_add, .initialized RX5, .code yX5_add cX5_add 3 none, .fieldLink RX5 24 "MarkedNames$Row" "top" "I", .fieldLink RX5 9 "MarkedNames$Row" "word" "[I", .fieldLink RX5 15 "MarkedNames$Row" "marks" "[I", .fieldLink RX5 18 "MarkedNames$Row" "size" "[I", .fieldLink RX5 21 "MarkedNames$Row" "use" "[I", .fieldLink RX5 28 "MarkedNames$Row" "open" "I", .methodLink RX5 31 yX5_closeBracket, .instanceMethod yX5_closeBracket, .selects RX5 yX5_closeBracket yX5_closeBracket, .code yX5_closeBracket cX5_closeBracket 2 none] ++ wsX30 ++ wsX50)
def wsX3_readNumber : List Cond := .code yX3_readNumber cX3_readNumber 6 (some .int) :: ([.fieldLink RX3 9 "MarkedNames$Reader" "row" "LMarkedNames$Row;", .methodLink RX3 63 yX5_add, .instanceMethod yX5_add, .selects RX5 yX5_add yX5_add, .initialized RX5, .code yX5_add cX5_add 3 none, .fieldLink RX5 24 "MarkedNames$Row" "top" "I", .fieldLink RX5 9 "MarkedNames$Row" "word" "[I", .fieldLink RX5 15 "MarkedNames$Row" "marks" "[I", .fieldLink RX5 18 "MarkedNames$Row" "size" "[I", .fieldLink RX5 21 "MarkedNames$Row" "use" "[I", .fieldLink RX5 28 "MarkedNames$Row" "open" "I", .methodLink RX5 31 yX5_closeBracket, .instanceMethod yX5_closeBracket, .selects RX5 yX5_closeBracket yX5_closeBracket, .code yX5_closeBracket cX5_closeBracket 2 none] ++ wsX30 ++ wsX50)
def wsX3_readOpen : List Cond := .code yX3_readOpen cX3_readOpen 1 (some .int) :: ([.fieldLink RX3 20 "MarkedNames$Reader" "depth" "I", .fieldLink RX3 9 "MarkedNames$Reader" "row" "LMarkedNames$Row;", .methodLink RX3 63 yX5_add, .instanceMethod yX5_add, .selects RX5 yX5_add yX5_add, .initialized RX5, .code yX5_add cX5_add 3 none, .fieldLink RX5 24 "MarkedNames$Row" "top" "I", .fieldLink RX5 9 "MarkedNames$Row" "word" "[I", .fieldLink RX5 15 "MarkedNames$Row" "marks" "[I", .fieldLink RX5 18 "MarkedNames$Row" "size" "[I", .fieldLink RX5 21 "MarkedNames$Row" "use" "[I", .fieldLink RX5 28 "MarkedNames$Row" "open" "I", .methodLink RX5 31 yX5_closeBracket, .instanceMethod yX5_closeBracket, .selects RX5 yX5_closeBracket yX5_closeBracket, .code yX5_closeBracket cX5_closeBracket 2 none] ++ wsX30 ++ wsX50)
def wsX3_readClose : List Cond := .code yX3_readClose cX3_readClose 1 (some .int) :: ([.fieldLink RX3 20 "MarkedNames$Reader" "depth" "I", .fieldLink RX3 9 "MarkedNames$Reader" "row" "LMarkedNames$Row;", .methodLink RX3 63 yX5_add, .instanceMethod yX5_add, .selects RX5 yX5_add yX5_add, .initialized RX5, .code yX5_add cX5_add 3 none, .fieldLink RX5 24 "MarkedNames$Row" "top" "I", .fieldLink RX5 9 "MarkedNames$Row" "word" "[I", .fieldLink RX5 15 "MarkedNames$Row" "marks" "[I", .fieldLink RX5 18 "MarkedNames$Row" "size" "[I", .fieldLink RX5 21 "MarkedNames$Row" "use" "[I", .fieldLink RX5 28 "MarkedNames$Row" "open" "I", .methodLink RX5 31 yX5_closeBracket, .instanceMethod yX5_closeBracket, .selects RX5 yX5_closeBracket yX5_closeBracket, .code yX5_closeBracket cX5_closeBracket 2 none] ++ wsX30 ++ wsX50)
def wsX3_readDots : List Cond := .code yX3_readDots cX3_readDots 3 (some .int) :: ([.fieldLink RX3 9 "MarkedNames$Reader" "row" "LMarkedNames$Row;", .fieldLink RX3 20 "MarkedNames$Reader" "depth" "I", .methodLink RX3 67 yX5_wordAt, .instanceMethod yX5_wordAt, .selects RX5 yX5_wordAt yX5_wordAt, .initialized RX5, .code yX5_wordAt cX5_wordAt 2 (some .int), .fieldLink RX5 24 "MarkedNames$Row" "top" "I", .fieldLink RX5 9 "MarkedNames$Row" "word" "[I", .methodLink RX3 63 yX5_add, .instanceMethod yX5_add, .selects RX5 yX5_add yX5_add, .code yX5_add cX5_add 3 none, .fieldLink RX5 15 "MarkedNames$Row" "marks" "[I", .fieldLink RX5 18 "MarkedNames$Row" "size" "[I", .fieldLink RX5 21 "MarkedNames$Row" "use" "[I", .fieldLink RX5 28 "MarkedNames$Row" "open" "I", .methodLink RX5 31 yX5_closeBracket, .instanceMethod yX5_closeBracket, .selects RX5 yX5_closeBracket yX5_closeBracket, .code yX5_closeBracket cX5_closeBracket 2 none] ++ wsX30 ++ wsX50)
def wsX3_readToken_r1 : List Cond := [Cond.fieldLink RX3 9 "MarkedNames$Reader" "row" "LMarkedNames$Row;", Cond.methodLink RX3 35 yX3_isWhole, Cond.instanceMethod yX3_isWhole, Cond.selects RX3 yX3_isWhole yX3_isWhole, Cond.initialized RX3, Cond.code yX3_isWhole cX3_isWhole 1 (some .boolean), Cond.fieldLink RX3 20 "MarkedNames$Reader" "depth" "I", Cond.methodLink RX3 42 yX3_runLength, Cond.static yX3_runLength, Cond.code yX3_runLength cX3_runLength 7 (some .int), Cond.methodLink RX3 46 yX3_readName, Cond.instanceMethod yX3_readName, Cond.selects RX3 yX3_readName yX3_readName, Cond.code yX3_readName cX3_readName 6 (some .int), Cond.methodLink RX3 63 yX5_add, Cond.instanceMethod yX5_add, Cond.selects RX5 yX5_add yX5_add, Cond.initialized RX5, Cond.code yX5_add cX5_add 3 none, Cond.fieldLink RX5 24 "MarkedNames$Row" "top" "I", Cond.fieldLink RX5 9 "MarkedNames$Row" "word" "[I", Cond.fieldLink RX5 15 "MarkedNames$Row" "marks" "[I", Cond.fieldLink RX5 18 "MarkedNames$Row" "size" "[I", Cond.fieldLink RX5 21 "MarkedNames$Row" "use" "[I"]
def wsX3_readToken_r2 : List Cond := [Cond.fieldLink RX5 28 "MarkedNames$Row" "open" "I", Cond.methodLink RX5 31 yX5_closeBracket, Cond.instanceMethod yX5_closeBracket, Cond.selects RX5 yX5_closeBracket yX5_closeBracket, Cond.code yX5_closeBracket cX5_closeBracket 2 none, Cond.methodLink RX3 49 yX3_readNumber, Cond.instanceMethod yX3_readNumber, Cond.selects RX3 yX3_readNumber yX3_readNumber, Cond.code yX3_readNumber cX3_readNumber 6 (some .int), Cond.methodLink RX3 52 yX3_readOpen, Cond.instanceMethod yX3_readOpen, Cond.selects RX3 yX3_readOpen yX3_readOpen, Cond.code yX3_readOpen cX3_readOpen 1 (some .int), Cond.methodLink RX3 56 yX3_readClose, Cond.instanceMethod yX3_readClose, Cond.selects RX3 yX3_readClose yX3_readClose, Cond.code yX3_readClose cX3_readClose 1 (some .int), Cond.methodLink RX3 59 yX3_readDots, Cond.instanceMethod yX3_readDots, Cond.selects RX3 yX3_readDots yX3_readDots, Cond.code yX3_readDots cX3_readDots 3 (some .int), Cond.methodLink RX3 67 yX5_wordAt, Cond.instanceMethod yX5_wordAt, Cond.selects RX5 yX5_wordAt yX5_wordAt]
def wsX3_readToken_r3 : List Cond := [Cond.code yX5_wordAt cX5_wordAt 2 (some .int)]
def wsX3_readToken : List Cond := .code yX3_readToken cX3_readToken 5 (some .int) :: ((wsX3_readToken_r1 ++ (wsX3_readToken_r2 ++ wsX3_readToken_r3)) ++ wsX30 ++ wsX50)
def wsX3_read_r1 : List Cond := [Cond.fieldLink RX3 9 "MarkedNames$Reader" "row" "LMarkedNames$Row;", Cond.fieldLink RX3 20 "MarkedNames$Reader" "depth" "I", Cond.methodLink RX3 24 Lib.Math.min.name, Cond.static Lib.Math.min.name, Cond.initialized "java/lang/Math", Cond.code Lib.Math.min.name Lib.Math.min.code 2 (some .int), Cond.constant RX3 30 (1000000), Cond.methodLink RX3 15 yX5_restart, Cond.instanceMethod yX5_restart, Cond.selects RX5 yX5_restart yX5_restart, Cond.initialized RX5, Cond.code yX5_restart cX5_restart 1 none, Cond.fieldLink RX5 24 "MarkedNames$Row" "top" "I", Cond.fieldLink RX5 28 "MarkedNames$Row" "open" "I", Cond.methodLink RX3 31 yX3_readToken, Cond.instanceMethod yX3_readToken, Cond.selects RX3 yX3_readToken yX3_readToken, Cond.initialized RX3, Cond.code yX3_readToken cX3_readToken 5 (some .int), Cond.methodLink RX3 35 yX3_isWhole, Cond.instanceMethod yX3_isWhole, Cond.selects RX3 yX3_isWhole yX3_isWhole, Cond.code yX3_isWhole cX3_isWhole 1 (some .boolean), Cond.methodLink RX3 42 yX3_runLength]
def wsX3_read_r2 : List Cond := [Cond.static yX3_runLength, Cond.code yX3_runLength cX3_runLength 7 (some .int), Cond.methodLink RX3 46 yX3_readName, Cond.instanceMethod yX3_readName, Cond.selects RX3 yX3_readName yX3_readName, Cond.code yX3_readName cX3_readName 6 (some .int), Cond.methodLink RX3 63 yX5_add, Cond.instanceMethod yX5_add, Cond.selects RX5 yX5_add yX5_add, Cond.code yX5_add cX5_add 3 none, Cond.fieldLink RX5 9 "MarkedNames$Row" "word" "[I", Cond.fieldLink RX5 15 "MarkedNames$Row" "marks" "[I", Cond.fieldLink RX5 18 "MarkedNames$Row" "size" "[I", Cond.fieldLink RX5 21 "MarkedNames$Row" "use" "[I", Cond.methodLink RX5 31 yX5_closeBracket, Cond.instanceMethod yX5_closeBracket, Cond.selects RX5 yX5_closeBracket yX5_closeBracket, Cond.code yX5_closeBracket cX5_closeBracket 2 none, Cond.methodLink RX3 49 yX3_readNumber, Cond.instanceMethod yX3_readNumber, Cond.selects RX3 yX3_readNumber yX3_readNumber, Cond.code yX3_readNumber cX3_readNumber 6 (some .int), Cond.methodLink RX3 52 yX3_readOpen, Cond.instanceMethod yX3_readOpen]
def wsX3_read_r3 : List Cond := [Cond.selects RX3 yX3_readOpen yX3_readOpen, Cond.code yX3_readOpen cX3_readOpen 1 (some .int), Cond.methodLink RX3 56 yX3_readClose, Cond.instanceMethod yX3_readClose, Cond.selects RX3 yX3_readClose yX3_readClose, Cond.code yX3_readClose cX3_readClose 1 (some .int), Cond.methodLink RX3 59 yX3_readDots, Cond.instanceMethod yX3_readDots, Cond.selects RX3 yX3_readDots yX3_readDots, Cond.code yX3_readDots cX3_readDots 3 (some .int), Cond.methodLink RX3 67 yX5_wordAt, Cond.instanceMethod yX5_wordAt, Cond.selects RX5 yX5_wordAt yX5_wordAt, Cond.code yX5_wordAt cX5_wordAt 2 (some .int)]
def wsX3_read : List Cond := .code yX3_read cX3_read 7 (some .int) :: ((wsX3_read_r1 ++ (wsX3_read_r2 ++ wsX3_read_r3)) ++ wsX30 ++ wsX50)
def wsX5_init : List Cond := .code yX5_init cX5_init 1 none :: ([.methodLink RX5 3 objectInit, .instanceMethod objectInit, .code objectInit ⟨#[0xb1]⟩ 1 none, .arrayClass .int, .fieldLink RX5 9 "MarkedNames$Row" "word" "[I", .fieldLink RX5 15 "MarkedNames$Row" "marks" "[I", .fieldLink RX5 18 "MarkedNames$Row" "size" "[I", .fieldLink RX5 21 "MarkedNames$Row" "use" "[I", .fieldLink RX5 24 "MarkedNames$Row" "top" "I", .fieldLink RX5 28 "MarkedNames$Row" "open" "I"] ++ wsX50)
def wsX5_keep : List Cond := .code yX5_keep cX5_keep 5 (some .int) :: ([.fieldLink RX5 9 "MarkedNames$Row" "word" "[I", .methodLink RX5 51 arraycopyName, .native arraycopyName, .static arraycopyName, .initialized "java/lang/System", .fieldLink RX5 15 "MarkedNames$Row" "marks" "[I", .fieldLink RX5 18 "MarkedNames$Row" "size" "[I", .fieldLink RX5 21 "MarkedNames$Row" "use" "[I", .methodLink RX5 45 yX5_after, .instanceMethod yX5_after, .selects RX5 yX5_after yX5_after, .initialized RX5, .code yX5_after cX5_after 2 (some .int), .fieldLink RX5 24 "MarkedNames$Row" "top" "I"] ++ wsX50)
def wsX6_init : List Cond := .code yX6_init cX6_init 2 none :: ([.methodLink RX6 3 objectInit, .instanceMethod objectInit, .code objectInit ⟨#[0xb1]⟩ 1 none, .fieldLink RX6 9 "MarkedNames$RuleCheck" "row" "LMarkedNames$Row;"] ++ wsX60)
def wsX7_init : List Cond := .code yX7_init cX7_init 2 none :: ([.methodLink RX7 3 objectInit, .instanceMethod objectInit, .code objectInit ⟨#[0xb1]⟩ 1 none, .arrayClass .int, .fieldLink RX7 9 "MarkedNames$Table" "name" "[I", .fieldLink RX7 15 "MarkedNames$Table" "marks" "[I", .fieldLink RX7 18 "MarkedNames$Table" "kind" "[I", .fieldLink RX7 21 "MarkedNames$Table" "value" "[I", .methodLink RX7 27 Lib.Math.min.name, .static Lib.Math.min.name, .initialized "java/lang/Math", .code Lib.Math.min.name Lib.Math.min.code 2 (some .int), .fieldLink RX7 33 "MarkedNames$Table" "length" "I"] ++ wsX70)
def wsX7_ownSlot : List Cond := .code yX7_ownSlot cX7_ownSlot 4 (some .int) :: ([.fieldLink RX7 37 "MarkedNames$Table" "ownNames" "I", .fieldLink RX7 9 "MarkedNames$Table" "name" "[I"] ++ wsX70)
def wsX7_bindOwn : List Cond := .code yX7_bindOwn cX7_bindOwn 4 none :: ([.fieldLink RX7 37 "MarkedNames$Table" "ownNames" "I", .methodLink RX7 40 Lib.Math.max.name, .static Lib.Math.max.name, .initialized "java/lang/Math", .code Lib.Math.max.name Lib.Math.max.code 2 (some .int), .fieldLink RX7 33 "MarkedNames$Table" "length" "I", .methodLink RX7 43 yX7_bind, .instanceMethod yX7_bind, .selects RX7 yX7_bind yX7_bind, .initialized RX7, .code yX7_bind cX7_bind 5 (some .boolean), .fieldLink RX7 9 "MarkedNames$Table" "name" "[I", .fieldLink RX7 15 "MarkedNames$Table" "marks" "[I", .fieldLink RX7 18 "MarkedNames$Table" "kind" "[I", .fieldLink RX7 21 "MarkedNames$Table" "value" "[I", .methodLink RX7 47 yX7_forgetExpansion, .instanceMethod yX7_forgetExpansion, .selects RX7 yX7_forgetExpansion yX7_forgetExpansion, .code yX7_forgetExpansion cX7_forgetExpansion 1 none] ++ wsX70)
def wsX8_init_r1 : List Cond := [Cond.methodLink RX8 3 objectInit, Cond.instanceMethod objectInit, Cond.code objectInit ⟨#[0xb1]⟩ 1 none, Cond.arrayClass .int, Cond.fieldLink RX8 9 "MarkedNames" "typed" "[I", Cond.classLink RX8 13 RX5, Cond.instantiable RX5 6, Cond.initialized RX5, Cond.fieldLink RX8 16 "MarkedNames" "row" "LMarkedNames$Row;", Cond.classLink RX8 20 RX3, Cond.instantiable RX3 2, Cond.initialized RX3, Cond.fieldLink RX8 25 "MarkedNames" "reader" "LMarkedNames$Reader;", Cond.classLink RX8 29 RX6, Cond.instantiable RX6 1, Cond.initialized RX6, Cond.fieldLink RX8 32 "MarkedNames" "check" "LMarkedNames$RuleCheck;", Cond.classLink RX8 36 RX7, Cond.instantiable RX7 6, Cond.initialized RX7, Cond.fieldLink RX8 39 "MarkedNames" "table" "LMarkedNames$Table;", Cond.classLink RX8 43 RX2, Cond.instantiable RX2 3, Cond.initialized RX2]
def wsX8_init_r2 : List Cond := [Cond.fieldLink RX8 46 "MarkedNames" "outcome" "LMarkedNames$Outcome;", Cond.classLink RX8 50 RX0, Cond.instantiable RX0 9, Cond.initialized RX0, Cond.fieldLink RX8 55 "MarkedNames" "expander" "LMarkedNames$Expander;", Cond.instanceMethod yX5_init, Cond.code yX5_init cX5_init 1 none, Cond.methodLink RX5 3 objectInit, Cond.fieldLink RX5 9 "MarkedNames$Row" "word" "[I", Cond.fieldLink RX5 15 "MarkedNames$Row" "marks" "[I", Cond.fieldLink RX5 18 "MarkedNames$Row" "size" "[I", Cond.fieldLink RX5 21 "MarkedNames$Row" "use" "[I", Cond.fieldLink RX5 24 "MarkedNames$Row" "top" "I", Cond.fieldLink RX5 28 "MarkedNames$Row" "open" "I", Cond.methodLink RX8 22 yX3_init, Cond.instanceMethod yX3_init, Cond.code yX3_init cX3_init 2 none, Cond.methodLink RX3 3 objectInit, Cond.fieldLink RX3 9 "MarkedNames$Reader" "row" "LMarkedNames$Row;", Cond.methodLink RX8 31 yX6_init, Cond.instanceMethod yX6_init, Cond.code yX6_init cX6_init 2 none, Cond.methodLink RX6 3 objectInit, Cond.fieldLink RX6 9 "MarkedNames$RuleCheck" "row" "LMarkedNames$Row;"]
def wsX8_init_r3 : List Cond := [Cond.methodLink RX8 38 yX7_init, Cond.instanceMethod yX7_init, Cond.code yX7_init cX7_init 2 none, Cond.methodLink RX7 3 objectInit, Cond.fieldLink RX7 9 "MarkedNames$Table" "name" "[I", Cond.fieldLink RX7 15 "MarkedNames$Table" "marks" "[I", Cond.fieldLink RX7 18 "MarkedNames$Table" "kind" "[I", Cond.fieldLink RX7 21 "MarkedNames$Table" "value" "[I", Cond.methodLink RX7 27 Lib.Math.min.name, Cond.static Lib.Math.min.name, Cond.initialized "java/lang/Math", Cond.code Lib.Math.min.name Lib.Math.min.code 2 (some .int), Cond.fieldLink RX7 33 "MarkedNames$Table" "length" "I", Cond.instanceMethod yX2_init, Cond.code yX2_init cX2_init 1 none, Cond.methodLink RX2 3 objectInit, Cond.fieldLink RX2 9 "MarkedNames$Outcome" "text" "[I", Cond.methodLink RX8 52 yX0_init, Cond.instanceMethod yX0_init, Cond.code yX0_init cX0_init 5 none, Cond.methodLink RX0 3 objectInit, Cond.fieldLink RX0 9 "MarkedNames$Expander" "row" "LMarkedNames$Row;", Cond.fieldLink RX0 15 "MarkedNames$Expander" "check" "LMarkedNames$RuleCheck;", Cond.fieldLink RX0 19 "MarkedNames$Expander" "table" "LMarkedNames$Table;"]
def wsX8_init_r4 : List Cond := [Cond.fieldLink RX0 23 "MarkedNames$Expander" "outcome" "LMarkedNames$Outcome;", Cond.classLink RX0 27 RX1, Cond.instantiable RX1 6, Cond.initialized RX1, Cond.fieldLink RX0 32 "MarkedNames$Expander" "filler" "LMarkedNames$Filler;", Cond.methodLink RX0 29 yX1_init, Cond.instanceMethod yX1_init, Cond.code yX1_init cX1_init 3 none, Cond.methodLink RX1 3 objectInit, Cond.classLink RX1 9 RX4, Cond.instantiable RX4 4, Cond.initialized RX4, Cond.fieldLink RX1 12 "MarkedNames$Filler" "rounds" "LMarkedNames$Rounds;", Cond.fieldLink RX1 18 "MarkedNames$Filler" "row" "LMarkedNames$Row;", Cond.fieldLink RX1 22 "MarkedNames$Filler" "outcome" "LMarkedNames$Outcome;", Cond.instanceMethod yX4_init, Cond.code yX4_init cX4_init 1 none, Cond.methodLink RX4 3 objectInit, Cond.fieldLink RX4 9 "MarkedNames$Rounds" "held" "[I", Cond.fieldLink RX4 15 "MarkedNames$Rounds" "round" "[I", Cond.fieldLink RX4 18 "MarkedNames$Rounds" "rounds" "[I"]
def wsX8_init : List Cond := .code yX8_init cX8_init 1 none :: ((wsX8_init_r1 ++ (wsX8_init_r2 ++ (wsX8_init_r3 ++ wsX8_init_r4))) ++ wsX80 ++ wsX50 ++ wsX30 ++ wsX60 ++ wsX70 ++ wsX20 ++ wsX00 ++ wsX10 ++ wsX40)
def wsX8_appendTyped : List Cond := .code yX8_appendTyped cX8_appendTyped 2 none :: ([.fieldLink RX8 59 "MarkedNames" "typedLength" "I", .fieldLink RX8 9 "MarkedNames" "typed" "[I"] ++ wsX80)
def wsX8_type : List Cond := .code yX8_type cX8_type 5 (some .boolean) :: ([.fieldLink RX8 59 "MarkedNames" "typedLength" "I", .methodLink RX8 63 yX8_appendTyped, .instanceMethod yX8_appendTyped, .selects RX8 yX8_appendTyped yX8_appendTyped, .initialized RX8, .code yX8_appendTyped cX8_appendTyped 2 none, .fieldLink RX8 9 "MarkedNames" "typed" "[I"] ++ wsX80)
def wsX8_takeTyped_r1 : List Cond := [Cond.fieldLink RX8 25 "MarkedNames" "reader" "LMarkedNames$Reader;", Cond.fieldLink RX8 9 "MarkedNames" "typed" "[I", Cond.fieldLink RX8 59 "MarkedNames" "typedLength" "I", Cond.methodLink RX8 124 yX3_read, Cond.instanceMethod yX3_read, Cond.selects RX3 yX3_read yX3_read, Cond.initialized RX3, Cond.code yX3_read cX3_read 7 (some .int), Cond.fieldLink RX3 9 "MarkedNames$Reader" "row" "LMarkedNames$Row;", Cond.fieldLink RX3 20 "MarkedNames$Reader" "depth" "I", Cond.methodLink RX3 24 Lib.Math.min.name, Cond.static Lib.Math.min.name, Cond.initialized "java/lang/Math", Cond.code Lib.Math.min.name Lib.Math.min.code 2 (some .int), Cond.constant RX3 30 (1000000), Cond.methodLink RX3 15 yX5_restart, Cond.instanceMethod yX5_restart, Cond.selects RX5 yX5_restart yX5_restart, Cond.initialized RX5, Cond.code yX5_restart cX5_restart 1 none, Cond.fieldLink RX5 24 "MarkedNames$Row" "top" "I", Cond.fieldLink RX5 28 "MarkedNames$Row" "open" "I", Cond.methodLink RX3 31 yX3_readToken, Cond.instanceMethod yX3_readToken]
def wsX8_takeTyped_r2 : List Cond := [Cond.selects RX3 yX3_readToken yX3_readToken, Cond.code yX3_readToken cX3_readToken 5 (some .int), Cond.methodLink RX3 35 yX3_isWhole, Cond.instanceMethod yX3_isWhole, Cond.selects RX3 yX3_isWhole yX3_isWhole, Cond.code yX3_isWhole cX3_isWhole 1 (some .boolean), Cond.methodLink RX3 42 yX3_runLength, Cond.static yX3_runLength, Cond.code yX3_runLength cX3_runLength 7 (some .int), Cond.methodLink RX3 46 yX3_readName, Cond.instanceMethod yX3_readName, Cond.selects RX3 yX3_readName yX3_readName, Cond.code yX3_readName cX3_readName 6 (some .int), Cond.methodLink RX3 63 yX5_add, Cond.instanceMethod yX5_add, Cond.selects RX5 yX5_add yX5_add, Cond.code yX5_add cX5_add 3 none, Cond.fieldLink RX5 9 "MarkedNames$Row" "word" "[I", Cond.fieldLink RX5 15 "MarkedNames$Row" "marks" "[I", Cond.fieldLink RX5 18 "MarkedNames$Row" "size" "[I", Cond.fieldLink RX5 21 "MarkedNames$Row" "use" "[I", Cond.methodLink RX5 31 yX5_closeBracket, Cond.instanceMethod yX5_closeBracket, Cond.selects RX5 yX5_closeBracket yX5_closeBracket]
def wsX8_takeTyped_r3 : List Cond := [Cond.code yX5_closeBracket cX5_closeBracket 2 none, Cond.methodLink RX3 49 yX3_readNumber, Cond.instanceMethod yX3_readNumber, Cond.selects RX3 yX3_readNumber yX3_readNumber, Cond.code yX3_readNumber cX3_readNumber 6 (some .int), Cond.methodLink RX3 52 yX3_readOpen, Cond.instanceMethod yX3_readOpen, Cond.selects RX3 yX3_readOpen yX3_readOpen, Cond.code yX3_readOpen cX3_readOpen 1 (some .int), Cond.methodLink RX3 56 yX3_readClose, Cond.instanceMethod yX3_readClose, Cond.selects RX3 yX3_readClose yX3_readClose, Cond.code yX3_readClose cX3_readClose 1 (some .int), Cond.methodLink RX3 59 yX3_readDots, Cond.instanceMethod yX3_readDots, Cond.selects RX3 yX3_readDots yX3_readDots, Cond.code yX3_readDots cX3_readDots 3 (some .int), Cond.methodLink RX3 67 yX5_wordAt, Cond.instanceMethod yX5_wordAt, Cond.selects RX5 yX5_wordAt yX5_wordAt, Cond.code yX5_wordAt cX5_wordAt 2 (some .int)]
def wsX8_takeTyped : List Cond := .code yX8_takeTyped cX8_takeTyped 2 (some .int) :: ((wsX8_takeTyped_r1 ++ (wsX8_takeTyped_r2 ++ wsX8_takeTyped_r3)) ++ wsX80 ++ wsX30 ++ wsX50)
def wsX8_rules_r1 : List Cond := [Cond.fieldLink RX8 32 "MarkedNames" "check" "LMarkedNames$RuleCheck;", Cond.fieldLink RX8 16 "MarkedNames" "row" "LMarkedNames$Row;", Cond.fieldLink RX8 39 "MarkedNames" "table" "LMarkedNames$Table;", Cond.methodLink RX8 67 yX8_takeTyped, Cond.instanceMethod yX8_takeTyped, Cond.selects RX8 yX8_takeTyped yX8_takeTyped, Cond.initialized RX8, Cond.code yX8_takeTyped cX8_takeTyped 2 (some .int), Cond.fieldLink RX8 25 "MarkedNames" "reader" "LMarkedNames$Reader;", Cond.fieldLink RX8 9 "MarkedNames" "typed" "[I", Cond.fieldLink RX8 59 "MarkedNames" "typedLength" "I", Cond.methodLink RX8 124 yX3_read, Cond.instanceMethod yX3_read, Cond.selects RX3 yX3_read yX3_read, Cond.initialized RX3, Cond.code yX3_read cX3_read 7 (some .int), Cond.fieldLink RX3 9 "MarkedNames$Reader" "row" "LMarkedNames$Row;", Cond.fieldLink RX3 20 "MarkedNames$Reader" "depth" "I", Cond.methodLink RX3 24 Lib.Math.min.name, Cond.static Lib.Math.min.name, Cond.initialized "java/lang/Math", Cond.code Lib.Math.min.name Lib.Math.min.code 2 (some .int), Cond.constant RX3 30 (1000000), Cond.methodLink RX3 15 yX5_restart]
def wsX8_rules_r2 : List Cond := [Cond.instanceMethod yX5_restart, Cond.selects RX5 yX5_restart yX5_restart, Cond.initialized RX5, Cond.code yX5_restart cX5_restart 1 none, Cond.fieldLink RX5 24 "MarkedNames$Row" "top" "I", Cond.fieldLink RX5 28 "MarkedNames$Row" "open" "I", Cond.methodLink RX3 31 yX3_readToken, Cond.instanceMethod yX3_readToken, Cond.selects RX3 yX3_readToken yX3_readToken, Cond.code yX3_readToken cX3_readToken 5 (some .int), Cond.methodLink RX3 35 yX3_isWhole, Cond.instanceMethod yX3_isWhole, Cond.selects RX3 yX3_isWhole yX3_isWhole, Cond.code yX3_isWhole cX3_isWhole 1 (some .boolean), Cond.methodLink RX3 42 yX3_runLength, Cond.static yX3_runLength, Cond.code yX3_runLength cX3_runLength 7 (some .int), Cond.methodLink RX3 46 yX3_readName, Cond.instanceMethod yX3_readName, Cond.selects RX3 yX3_readName yX3_readName, Cond.code yX3_readName cX3_readName 6 (some .int), Cond.methodLink RX3 63 yX5_add, Cond.instanceMethod yX5_add, Cond.selects RX5 yX5_add yX5_add]
def wsX8_rules_r3 : List Cond := [Cond.code yX5_add cX5_add 3 none, Cond.fieldLink RX5 9 "MarkedNames$Row" "word" "[I", Cond.fieldLink RX5 15 "MarkedNames$Row" "marks" "[I", Cond.fieldLink RX5 18 "MarkedNames$Row" "size" "[I", Cond.fieldLink RX5 21 "MarkedNames$Row" "use" "[I", Cond.methodLink RX5 31 yX5_closeBracket, Cond.instanceMethod yX5_closeBracket, Cond.selects RX5 yX5_closeBracket yX5_closeBracket, Cond.code yX5_closeBracket cX5_closeBracket 2 none, Cond.methodLink RX3 49 yX3_readNumber, Cond.instanceMethod yX3_readNumber, Cond.selects RX3 yX3_readNumber yX3_readNumber, Cond.code yX3_readNumber cX3_readNumber 6 (some .int), Cond.methodLink RX3 52 yX3_readOpen, Cond.instanceMethod yX3_readOpen, Cond.selects RX3 yX3_readOpen yX3_readOpen, Cond.code yX3_readOpen cX3_readOpen 1 (some .int), Cond.methodLink RX3 56 yX3_readClose, Cond.instanceMethod yX3_readClose, Cond.selects RX3 yX3_readClose yX3_readClose, Cond.code yX3_readClose cX3_readClose 1 (some .int), Cond.methodLink RX3 59 yX3_readDots, Cond.instanceMethod yX3_readDots, Cond.selects RX3 yX3_readDots yX3_readDots]
def wsX8_rules_r4 : List Cond := [Cond.code yX3_readDots cX3_readDots 3 (some .int), Cond.methodLink RX3 67 yX5_wordAt, Cond.instanceMethod yX5_wordAt, Cond.selects RX5 yX5_wordAt yX5_wordAt, Cond.code yX5_wordAt cX5_wordAt 2 (some .int), Cond.methodLink RX8 71 yX6_isNameWithRules, Cond.instanceMethod yX6_isNameWithRules, Cond.selects RX6 yX6_isNameWithRules yX6_isNameWithRules, Cond.initialized RX6, Cond.code yX6_isNameWithRules cX6_isNameWithRules 5 (some .boolean), Cond.fieldLink RX6 9 "MarkedNames$RuleCheck" "row" "LMarkedNames$Row;", Cond.methodLink RX6 15 yX5_plainLength, Cond.instanceMethod yX5_plainLength, Cond.selects RX5 yX5_plainLength yX5_plainLength, Cond.code yX5_plainLength cX5_plainLength 2 (some .int), Cond.methodLink RX5 34 yX5_wordAt, Cond.methodLink RX5 38 yX5_hasDots, Cond.instanceMethod yX5_hasDots, Cond.selects RX5 yX5_hasDots yX5_hasDots, Cond.code yX5_hasDots cX5_hasDots 4 (some .boolean), Cond.methodLink RX5 42 yX5_itemsFrom, Cond.instanceMethod yX5_itemsFrom, Cond.selects RX5 yX5_itemsFrom yX5_itemsFrom, Cond.code yX5_itemsFrom cX5_itemsFrom 5 (some .int)]
def wsX8_rules_r5 : List Cond := [Cond.methodLink RX6 21 yX5_wordAt, Cond.static yX8_isName, Cond.code yX8_isName cX8_isName 1 (some .boolean), Cond.methodLink RX6 28 yX6_isRule, Cond.instanceMethod yX6_isRule, Cond.selects RX6 yX6_isRule yX6_isRule, Cond.code yX6_isRule cX6_isRule 4 (some .boolean), Cond.methodLink RX6 31 yX5_after, Cond.instanceMethod yX5_after, Cond.selects RX5 yX5_after yX5_after, Cond.code yX5_after cX5_after 2 (some .int), Cond.methodLink RX6 34 yX6_isPattern, Cond.instanceMethod yX6_isPattern, Cond.selects RX6 yX6_isPattern yX6_isPattern, Cond.code yX6_isPattern cX6_isPattern 7 (some .boolean), Cond.methodLink RX6 45 yX5_isHeld, Cond.instanceMethod yX5_isHeld, Cond.selects RX5 yX5_isHeld yX5_isHeld, Cond.code yX5_isHeld cX5_isHeld 3 (some .boolean), Cond.static yX8_isTree, Cond.code yX8_isTree cX8_isTree 1 (some .boolean), Cond.methodLink RX6 51 yX5_holders, Cond.instanceMethod yX5_holders, Cond.selects RX5 yX5_holders yX5_holders]
def wsX8_rules_r6 : List Cond := [Cond.code yX5_holders cX5_holders 6 (some .int), Cond.methodLink RX6 55 yX5_findName, Cond.instanceMethod yX5_findName, Cond.selects RX5 yX5_findName yX5_findName, Cond.code yX5_findName cX5_findName 5 (some .int), Cond.methodLink RX6 37 yX6_linkUses, Cond.instanceMethod yX6_linkUses, Cond.selects RX6 yX6_linkUses yX6_linkUses, Cond.code yX6_linkUses cX6_linkUses 6 none, Cond.methodLink RX6 59 yX5_setVariable, Cond.instanceMethod yX5_setVariable, Cond.selects RX5 yX5_setVariable yX5_setVariable, Cond.code yX5_setVariable cX5_setVariable 3 none, Cond.methodLink RX6 41 yX6_isTemplate, Cond.instanceMethod yX6_isTemplate, Cond.selects RX6 yX6_isTemplate yX6_isTemplate, Cond.code yX6_isTemplate cX6_isTemplate 6 (some .boolean), Cond.methodLink RX6 62 yX5_variableAt, Cond.instanceMethod yX5_variableAt, Cond.selects RX5 yX5_variableAt yX5_variableAt, Cond.code yX5_variableAt cX5_variableAt 2 (some .int), Cond.methodLink RX6 65 yX5_hasUse, Cond.instanceMethod yX5_hasUse, Cond.selects RX5 yX5_hasUse yX5_hasUse]
def wsX8_rules_r7 : List Cond := [Cond.code yX5_hasUse cX5_hasUse 3 (some .boolean), Cond.methodLink RX8 75 yX5_wordAt, Cond.methodLink RX8 79 yX7_ownSlot, Cond.instanceMethod yX7_ownSlot, Cond.selects RX7 yX7_ownSlot yX7_ownSlot, Cond.initialized RX7, Cond.code yX7_ownSlot cX7_ownSlot 4 (some .int), Cond.fieldLink RX7 37 "MarkedNames$Table" "ownNames" "I", Cond.fieldLink RX7 9 "MarkedNames$Table" "name" "[I", Cond.methodLink RX8 82 yX5_keep, Cond.instanceMethod yX5_keep, Cond.selects RX5 yX5_keep yX5_keep, Cond.code yX5_keep cX5_keep 5 (some .int), Cond.methodLink RX5 51 arraycopyName, Cond.native arraycopyName, Cond.static arraycopyName, Cond.initialized "java/lang/System", Cond.methodLink RX5 45 yX5_after, Cond.methodLink RX8 86 yX7_bindOwn, Cond.instanceMethod yX7_bindOwn, Cond.selects RX7 yX7_bindOwn yX7_bindOwn, Cond.code yX7_bindOwn cX7_bindOwn 4 none, Cond.methodLink RX7 40 Lib.Math.max.name, Cond.static Lib.Math.max.name]
def wsX8_rules_r8 : List Cond := [Cond.code Lib.Math.max.name Lib.Math.max.code 2 (some .int), Cond.fieldLink RX7 33 "MarkedNames$Table" "length" "I", Cond.methodLink RX7 43 yX7_bind, Cond.instanceMethod yX7_bind, Cond.selects RX7 yX7_bind yX7_bind, Cond.code yX7_bind cX7_bind 5 (some .boolean), Cond.fieldLink RX7 15 "MarkedNames$Table" "marks" "[I", Cond.fieldLink RX7 18 "MarkedNames$Table" "kind" "[I", Cond.fieldLink RX7 21 "MarkedNames$Table" "value" "[I", Cond.methodLink RX7 47 yX7_forgetExpansion, Cond.instanceMethod yX7_forgetExpansion, Cond.selects RX7 yX7_forgetExpansion yX7_forgetExpansion, Cond.code yX7_forgetExpansion cX7_forgetExpansion 1 none]
def wsX8_rules : List Cond := .code yX8_rules cX8_rules 4 (some .int) :: ((wsX8_rules_r1 ++ (wsX8_rules_r2 ++ (wsX8_rules_r3 ++ (wsX8_rules_r4 ++ (wsX8_rules_r5 ++ (wsX8_rules_r6 ++ (wsX8_rules_r7 ++ wsX8_rules_r8))))))) ++ wsX80 ++ wsX70 ++ wsX30 ++ wsX50 ++ wsX60)
def wsX8_expand_r1 : List Cond := [Cond.fieldLink RX8 46 "MarkedNames" "outcome" "LMarkedNames$Outcome;", Cond.fieldLink RX8 55 "MarkedNames" "expander" "LMarkedNames$Expander;", Cond.methodLink RX8 67 yX8_takeTyped, Cond.instanceMethod yX8_takeTyped, Cond.selects RX8 yX8_takeTyped yX8_takeTyped, Cond.initialized RX8, Cond.code yX8_takeTyped cX8_takeTyped 2 (some .int), Cond.fieldLink RX8 25 "MarkedNames" "reader" "LMarkedNames$Reader;", Cond.fieldLink RX8 9 "MarkedNames" "typed" "[I", Cond.fieldLink RX8 59 "MarkedNames" "typedLength" "I", Cond.methodLink RX8 124 yX3_read, Cond.instanceMethod yX3_read, Cond.selects RX3 yX3_read yX3_read, Cond.initialized RX3, Cond.code yX3_read cX3_read 7 (some .int), Cond.fieldLink RX3 9 "MarkedNames$Reader" "row" "LMarkedNames$Row;", Cond.fieldLink RX3 20 "MarkedNames$Reader" "depth" "I", Cond.methodLink RX3 24 Lib.Math.min.name, Cond.static Lib.Math.min.name, Cond.initialized "java/lang/Math", Cond.code Lib.Math.min.name Lib.Math.min.code 2 (some .int), Cond.constant RX3 30 (1000000), Cond.methodLink RX3 15 yX5_restart, Cond.instanceMethod yX5_restart]
def wsX8_expand_r2 : List Cond := [Cond.selects RX5 yX5_restart yX5_restart, Cond.initialized RX5, Cond.code yX5_restart cX5_restart 1 none, Cond.fieldLink RX5 24 "MarkedNames$Row" "top" "I", Cond.fieldLink RX5 28 "MarkedNames$Row" "open" "I", Cond.methodLink RX3 31 yX3_readToken, Cond.instanceMethod yX3_readToken, Cond.selects RX3 yX3_readToken yX3_readToken, Cond.code yX3_readToken cX3_readToken 5 (some .int), Cond.methodLink RX3 35 yX3_isWhole, Cond.instanceMethod yX3_isWhole, Cond.selects RX3 yX3_isWhole yX3_isWhole, Cond.code yX3_isWhole cX3_isWhole 1 (some .boolean), Cond.methodLink RX3 42 yX3_runLength, Cond.static yX3_runLength, Cond.code yX3_runLength cX3_runLength 7 (some .int), Cond.methodLink RX3 46 yX3_readName, Cond.instanceMethod yX3_readName, Cond.selects RX3 yX3_readName yX3_readName, Cond.code yX3_readName cX3_readName 6 (some .int), Cond.methodLink RX3 63 yX5_add, Cond.instanceMethod yX5_add, Cond.selects RX5 yX5_add yX5_add, Cond.code yX5_add cX5_add 3 none]
def wsX8_expand_r3 : List Cond := [Cond.fieldLink RX5 9 "MarkedNames$Row" "word" "[I", Cond.fieldLink RX5 15 "MarkedNames$Row" "marks" "[I", Cond.fieldLink RX5 18 "MarkedNames$Row" "size" "[I", Cond.fieldLink RX5 21 "MarkedNames$Row" "use" "[I", Cond.methodLink RX5 31 yX5_closeBracket, Cond.instanceMethod yX5_closeBracket, Cond.selects RX5 yX5_closeBracket yX5_closeBracket, Cond.code yX5_closeBracket cX5_closeBracket 2 none, Cond.methodLink RX3 49 yX3_readNumber, Cond.instanceMethod yX3_readNumber, Cond.selects RX3 yX3_readNumber yX3_readNumber, Cond.code yX3_readNumber cX3_readNumber 6 (some .int), Cond.methodLink RX3 52 yX3_readOpen, Cond.instanceMethod yX3_readOpen, Cond.selects RX3 yX3_readOpen yX3_readOpen, Cond.code yX3_readOpen cX3_readOpen 1 (some .int), Cond.methodLink RX3 56 yX3_readClose, Cond.instanceMethod yX3_readClose, Cond.selects RX3 yX3_readClose yX3_readClose, Cond.code yX3_readClose cX3_readClose 1 (some .int), Cond.methodLink RX3 59 yX3_readDots, Cond.instanceMethod yX3_readDots, Cond.selects RX3 yX3_readDots yX3_readDots, Cond.code yX3_readDots cX3_readDots 3 (some .int)]
def wsX8_expand_r4 : List Cond := [Cond.methodLink RX3 67 yX5_wordAt, Cond.instanceMethod yX5_wordAt, Cond.selects RX5 yX5_wordAt yX5_wordAt, Cond.code yX5_wordAt cX5_wordAt 2 (some .int), Cond.methodLink RX8 93 yX2_clear, Cond.instanceMethod yX2_clear, Cond.selects RX2 yX2_clear yX2_clear, Cond.initialized RX2, Cond.code yX2_clear cX2_clear 1 none, Cond.fieldLink RX2 15 "MarkedNames$Outcome" "length" "I", Cond.fieldLink RX2 19 "MarkedNames$Outcome" "error" "I", Cond.methodLink RX8 96 yX0_start, Cond.instanceMethod yX0_start, Cond.selects RX0 yX0_start yX0_start, Cond.initialized RX0, Cond.code yX0_start cX0_start 2 none, Cond.fieldLink RX0 36 "MarkedNames$Expander" "scopes" "I", Cond.fieldLink RX0 40 "MarkedNames$Expander" "bindings" "I", Cond.fieldLink RX0 43 "MarkedNames$Expander" "variables" "I", Cond.fieldLink RX0 46 "MarkedNames$Expander" "fuel" "I", Cond.fieldLink RX0 19 "MarkedNames$Expander" "table" "LMarkedNames$Table;", Cond.methodLink RX0 49 yX7_forgetExpansion, Cond.instanceMethod yX7_forgetExpansion, Cond.selects RX7 yX7_forgetExpansion yX7_forgetExpansion]
def wsX8_expand_r5 : List Cond := [Cond.initialized RX7, Cond.code yX7_forgetExpansion cX7_forgetExpansion 1 none, Cond.fieldLink RX7 37 "MarkedNames$Table" "ownNames" "I", Cond.fieldLink RX7 33 "MarkedNames$Table" "length" "I", Cond.methodLink RX8 99 yX0_expandTree, Cond.instanceMethod yX0_expandTree, Cond.selects RX0 yX0_expandTree yX0_expandTree, Cond.code yX0_expandTree cX0_expandTree 4 none, Cond.fieldLink RX0 23 "MarkedNames$Expander" "outcome" "LMarkedNames$Outcome;", Cond.fieldLink RX0 9 "MarkedNames$Expander" "row" "LMarkedNames$Row;", Cond.methodLink RX0 59 yX5_wordAt, Cond.methodLink RX0 65 yX0_expandList, Cond.instanceMethod yX0_expandList, Cond.selects RX0 yX0_expandList yX0_expandList, Cond.static yX8_isName, Cond.code yX8_isName cX8_isName 1 (some .boolean), Cond.methodLink RX0 73 yX0_expandName, Cond.instanceMethod yX0_expandName, Cond.selects RX0 yX0_expandName yX0_expandName, Cond.code yX0_expandName cX0_expandName 4 none, Cond.methodLink RX0 93 yX0_meaningOf, Cond.instanceMethod yX0_meaningOf, Cond.selects RX0 yX0_meaningOf yX0_meaningOf, Cond.code yX0_meaningOf cX0_meaningOf 3 (some .int)]
def wsX8_expand_r6 : List Cond := [Cond.methodLink RX0 86 yX5_marksAt, Cond.instanceMethod yX5_marksAt, Cond.selects RX5 yX5_marksAt yX5_marksAt, Cond.code yX5_marksAt cX5_marksAt 2 (some .int), Cond.methodLink RX0 89 yX7_meaning, Cond.instanceMethod yX7_meaning, Cond.selects RX7 yX7_meaning yX7_meaning, Cond.code yX7_meaning cX7_meaning 6 (some .int), Cond.fieldLink RX7 9 "MarkedNames$Table" "name" "[I", Cond.fieldLink RX7 15 "MarkedNames$Table" "marks" "[I", Cond.methodLink RX7 50 yJ6_bitCount_0f7a4, Cond.static yJ6_bitCount_0f7a4, Cond.initialized RJ6, Cond.code yJ6_bitCount_0f7a4 cJ6_bitCount_0f7a4 1 (some .int), Cond.constant RJ6 265 (1431655765), Cond.constant RJ6 266 (858993459), Cond.constant RJ6 267 (252645135), Cond.methodLink RX7 56 yX7_holdsAllOthers, Cond.instanceMethod yX7_holdsAllOthers, Cond.selects RX7 yX7_holdsAllOthers yX7_holdsAllOthers, Cond.code yX7_holdsAllOthers cX7_holdsAllOthers 5 (some .boolean), Cond.methodLink RX0 83 yX2_fail, Cond.instanceMethod yX2_fail, Cond.selects RX2 yX2_fail yX2_fail]
def wsX8_expand_r7 : List Cond := [Cond.code yX2_fail cX2_fail 2 none, Cond.methodLink RX0 96 yX7_kindOf, Cond.instanceMethod yX7_kindOf, Cond.selects RX7 yX7_kindOf yX7_kindOf, Cond.code yX7_kindOf cX7_kindOf 2 (some .int), Cond.fieldLink RX7 18 "MarkedNames$Table" "kind" "[I", Cond.methodLink RX0 99 yX2_putName, Cond.instanceMethod yX2_putName, Cond.selects RX2 yX2_putName yX2_putName, Cond.code yX2_putName cX2_putName 3 none, Cond.methodLink RX2 22 yX2_put, Cond.instanceMethod yX2_put, Cond.selects RX2 yX2_put yX2_put, Cond.code yX2_put cX2_put 2 none, Cond.fieldLink RX2 9 "MarkedNames$Outcome" "text" "[I", Cond.methodLink RX0 102 yX7_valueOf, Cond.instanceMethod yX7_valueOf, Cond.selects RX7 yX7_valueOf yX7_valueOf, Cond.code yX7_valueOf cX7_valueOf 2 (some .int), Cond.fieldLink RX7 21 "MarkedNames$Table" "value" "[I", Cond.methodLink RX0 105 yX2_putVariable, Cond.instanceMethod yX2_putVariable, Cond.selects RX2 yX2_putVariable yX2_putVariable, Cond.code yX2_putVariable cX2_putVariable 2 none]
def wsX8_expand_r8 : List Cond := [Cond.methodLink RX2 26 yX2_putNumber, Cond.instanceMethod yX2_putNumber, Cond.selects RX2 yX2_putNumber yX2_putNumber, Cond.code yX2_putNumber cX2_putNumber 2 none, Cond.static yX8_isNumber, Cond.code yX8_isNumber cX8_isNumber 1 (some .boolean), Cond.methodLink RX0 80 yX2_putNumber, Cond.code yX0_expandByRules cX0_expandByRules 7 none, Cond.fieldLink RX0 32 "MarkedNames$Expander" "filler" "LMarkedNames$Filler;", Cond.methodLink RX0 145 yX0_newScope, Cond.instanceMethod yX0_newScope, Cond.selects RX0 yX0_newScope yX0_newScope, Cond.code yX0_newScope cX0_newScope 1 (some .int), Cond.methodLink RX0 149 yX5_turnScope, Cond.instanceMethod yX5_turnScope, Cond.selects RX5 yX5_turnScope yX5_turnScope, Cond.code yX5_turnScope cX5_turnScope 5 none, Cond.methodLink RX5 45 yX5_after, Cond.instanceMethod yX5_after, Cond.selects RX5 yX5_after yX5_after, Cond.code yX5_after cX5_after 2 (some .int), Cond.methodLink RX0 177 yX1_firstRule, Cond.instanceMethod yX1_firstRule, Cond.selects RX1 yX1_firstRule yX1_firstRule]
def wsX8_expand_r9 : List Cond := [Cond.initialized RX1, Cond.code yX1_firstRule cX1_firstRule 6 (some .int), Cond.fieldLink RX1 18 "MarkedNames$Filler" "row" "LMarkedNames$Row;", Cond.methodLink RX1 26 yX5_plainLength, Cond.instanceMethod yX5_plainLength, Cond.selects RX5 yX5_plainLength yX5_plainLength, Cond.code yX5_plainLength cX5_plainLength 2 (some .int), Cond.methodLink RX5 34 yX5_wordAt, Cond.methodLink RX5 38 yX5_hasDots, Cond.instanceMethod yX5_hasDots, Cond.selects RX5 yX5_hasDots yX5_hasDots, Cond.code yX5_hasDots cX5_hasDots 4 (some .boolean), Cond.methodLink RX5 42 yX5_itemsFrom, Cond.instanceMethod yX5_itemsFrom, Cond.selects RX5 yX5_itemsFrom yX5_itemsFrom, Cond.code yX5_itemsFrom cX5_itemsFrom 5 (some .int), Cond.methodLink RX1 32 yX1_matches, Cond.instanceMethod yX1_matches, Cond.selects RX1 yX1_matches yX1_matches, Cond.code yX1_matches cX1_matches 8 (some .boolean), Cond.fieldLink RX1 12 "MarkedNames$Filler" "rounds" "LMarkedNames$Rounds;", Cond.constant RX1 45 (1000000), Cond.methodLink RX1 39 yX1_hasRoomFor, Cond.instanceMethod yX1_hasRoomFor]
def wsX8_expand_r10 : List Cond := [Cond.selects RX1 yX1_hasRoomFor yX1_hasRoomFor, Cond.code yX1_hasRoomFor cX1_hasRoomFor 5 (some .boolean), Cond.methodLink RX1 53 yX5_itemsFrom, Cond.methodLink RX1 69 yX5_hasDots, Cond.methodLink RX1 42 yX4_clear, Cond.instanceMethod yX4_clear, Cond.selects RX4 yX4_clear yX4_clear, Cond.initialized RX4, Cond.code yX4_clear cX4_clear 1 none, Cond.fieldLink RX4 21 "MarkedNames$Rounds" "depth" "I", Cond.methodLink RX1 36 yX5_after, Cond.methodLink RX1 46 yX5_isHeld, Cond.instanceMethod yX5_isHeld, Cond.selects RX5 yX5_isHeld yX5_isHeld, Cond.code yX5_isHeld cX5_isHeld 3 (some .boolean), Cond.methodLink RX1 50 yX4_isIn, Cond.instanceMethod yX4_isIn, Cond.selects RX4 yX4_isIn yX4_isIn, Cond.code yX4_isIn cX4_isIn 2 (some .boolean), Cond.fieldLink RX4 9 "MarkedNames$Rounds" "held" "[I", Cond.methodLink RX4 25 yX4_hasInner, Cond.instanceMethod yX4_hasInner, Cond.selects RX4 yX4_hasInner yX4_hasInner, Cond.code yX4_hasInner cX4_hasInner 1 (some .boolean)]
def wsX8_expand_r11 : List Cond := [Cond.methodLink RX1 56 yX4_enter, Cond.instanceMethod yX4_enter, Cond.selects RX4 yX4_enter yX4_enter, Cond.code yX4_enter cX4_enter 3 none, Cond.fieldLink RX4 15 "MarkedNames$Rounds" "round" "[I", Cond.fieldLink RX4 18 "MarkedNames$Rounds" "rounds" "[I", Cond.methodLink RX1 60 yX5_wordAt, Cond.methodLink RX1 63 yX4_leave, Cond.instanceMethod yX4_leave, Cond.selects RX4 yX4_leave yX4_leave, Cond.code yX4_leave cX4_leave 2 (some .int), Cond.methodLink RX0 180 yX1_fill, Cond.instanceMethod yX1_fill, Cond.selects RX1 yX1_fill yX1_fill, Cond.code yX1_fill cX1_fill 8 (some .int), Cond.fieldLink RX1 72 "MarkedNames$Filler" "pattern" "I", Cond.fieldLink RX1 76 "MarkedNames$Filler" "matched" "I", Cond.fieldLink RX1 79 "MarkedNames$Filler" "filled" "I", Cond.fieldLink RX1 22 "MarkedNames$Filler" "outcome" "LMarkedNames$Outcome;", Cond.methodLink RX1 82 yX5_startTree, Cond.instanceMethod yX5_startTree, Cond.selects RX5 yX5_startTree yX5_startTree, Cond.code yX5_startTree cX5_startTree 1 (some .int), Cond.methodLink RX1 91 yX1_roundsFor]
def wsX8_expand_r12 : List Cond := [Cond.instanceMethod yX1_roundsFor, Cond.selects RX1 yX1_roundsFor yX1_roundsFor, Cond.code yX1_roundsFor cX1_roundsFor 7 (some .int), Cond.methodLink RX1 111 Lib.Math.max.name, Cond.static Lib.Math.max.name, Cond.code Lib.Math.max.name Lib.Math.max.code 2 (some .int), Cond.methodLink RX1 98 yX5_variableAt, Cond.instanceMethod yX5_variableAt, Cond.selects RX5 yX5_variableAt yX5_variableAt, Cond.code yX5_variableAt cX5_variableAt 2 (some .int), Cond.methodLink RX1 104 yX1_matchOf, Cond.instanceMethod yX1_matchOf, Cond.selects RX1 yX1_matchOf yX1_matchOf, Cond.code yX1_matchOf cX1_matchOf 9 (some .int), Cond.methodLink RX1 125 yX4_roundOf, Cond.instanceMethod yX4_roundOf, Cond.selects RX4 yX4_roundOf yX4_roundOf, Cond.code yX4_roundOf cX4_roundOf 2 (some .int), Cond.methodLink RX1 108 yX2_fail, Cond.methodLink RX1 94 yX1_fillToken, Cond.instanceMethod yX1_fillToken, Cond.selects RX1 yX1_fillToken yX1_fillToken, Cond.code yX1_fillToken cX1_fillToken 6 none, Cond.static yX8_isTree]
def wsX8_expand_r13 : List Cond := [Cond.code yX8_isTree cX8_isTree 1 (some .boolean), Cond.methodLink RX1 119 yX5_marksAt, Cond.methodLink RX1 122 yX5_add, Cond.methodLink RX0 133 yX0_expandTree, Cond.code yX0_expandEach cX0_expandEach 6 none, Cond.methodLink RX0 127 yX5_itemsFrom, Cond.methodLink RX0 130 yX2_put, Cond.methodLink RX0 136 yX5_after, Cond.code yX0_expandFn cX0_expandFn 9 none, Cond.methodLink RX0 139 yX5_plainLength, Cond.methodLink RX0 142 yX0_areNames, Cond.instanceMethod yX0_areNames, Cond.selects RX0 yX0_areNames yX0_areNames, Cond.code yX0_areNames cX0_areNames 4 (some .boolean), Cond.methodLink RX0 152 yX0_bindVariable, Cond.instanceMethod yX0_bindVariable, Cond.selects RX0 yX0_bindVariable yX0_bindVariable, Cond.code yX0_bindVariable cX0_bindVariable 3 none, Cond.methodLink RX0 159 yX5_findName, Cond.instanceMethod yX5_findName, Cond.selects RX5 yX5_findName yX5_findName, Cond.code yX5_findName cX5_findName 5 (some .int), Cond.methodLink RX0 163 yX0_bind, Cond.instanceMethod yX0_bind]
def wsX8_expand_r14 : List Cond := [Cond.selects RX0 yX0_bind yX0_bind, Cond.code yX0_bind cX0_bind 4 (some .boolean), Cond.methodLink RX0 183 yX7_bind, Cond.instanceMethod yX7_bind, Cond.selects RX7 yX7_bind yX7_bind, Cond.code yX7_bind cX7_bind 5 (some .boolean), Cond.methodLink RX0 155 yX0_putVariables, Cond.instanceMethod yX0_putVariables, Cond.selects RX0 yX0_putVariables yX0_putVariables, Cond.code yX0_putVariables cX0_putVariables 4 none, Cond.constant RX0 158 (91758), Cond.code yX0_expandIf cX0_expandIf 5 none, Cond.constant RX0 167 (92518), Cond.code yX0_expandList cX0_expandList 5 none, Cond.methodLink RX0 108 yX0_expandFn, Cond.instanceMethod yX0_expandFn, Cond.selects RX0 yX0_expandFn yX0_expandFn, Cond.methodLink RX0 111 yX0_expandIf, Cond.instanceMethod yX0_expandIf, Cond.selects RX0 yX0_expandIf yX0_expandIf, Cond.methodLink RX0 114 yX0_expandQ, Cond.instanceMethod yX0_expandQ, Cond.selects RX0 yX0_expandQ yX0_expandQ, Cond.code yX0_expandQ cX0_expandQ 2 none]
def wsX8_expand_r15 : List Cond := [Cond.methodLink RX0 168 yX2_putTree, Cond.instanceMethod yX2_putTree, Cond.selects RX2 yX2_putTree yX2_putTree, Cond.code yX2_putTree cX2_putTree 5 none, Cond.methodLink RX2 39 yX5_after, Cond.methodLink RX2 45 yX5_wordAt, Cond.methodLink RX2 48 yX2_putWord, Cond.instanceMethod yX2_putWord, Cond.selects RX2 yX2_putWord yX2_putWord, Cond.code yX2_putWord cX2_putWord 2 none, Cond.methodLink RX2 33 yX2_putName, Cond.methodLink RX0 117 yX0_expandLs, Cond.instanceMethod yX0_expandLs, Cond.selects RX0 yX0_expandLs yX0_expandLs, Cond.methodLink RX0 120 yX0_expandByRules, Cond.instanceMethod yX0_expandByRules, Cond.selects RX0 yX0_expandByRules yX0_expandByRules, Cond.methodLink RX0 124 yX0_expandEach, Cond.instanceMethod yX0_expandEach, Cond.selects RX0 yX0_expandEach yX0_expandEach, Cond.code yX0_expandLs cX0_expandLs 6 none, Cond.fieldLink RX0 15 "MarkedNames$Expander" "check" "LMarkedNames$RuleCheck;", Cond.methodLink RX0 172 yX6_isNameWithRules, Cond.instanceMethod yX6_isNameWithRules]
def wsX8_expand_r16 : List Cond := [Cond.selects RX6 yX6_isNameWithRules yX6_isNameWithRules, Cond.initialized RX6, Cond.code yX6_isNameWithRules cX6_isNameWithRules 5 (some .boolean), Cond.fieldLink RX6 9 "MarkedNames$RuleCheck" "row" "LMarkedNames$Row;", Cond.methodLink RX6 15 yX5_plainLength, Cond.methodLink RX6 21 yX5_wordAt, Cond.methodLink RX6 28 yX6_isRule, Cond.instanceMethod yX6_isRule, Cond.selects RX6 yX6_isRule yX6_isRule, Cond.code yX6_isRule cX6_isRule 4 (some .boolean), Cond.methodLink RX6 31 yX5_after, Cond.methodLink RX6 34 yX6_isPattern, Cond.instanceMethod yX6_isPattern, Cond.selects RX6 yX6_isPattern yX6_isPattern, Cond.code yX6_isPattern cX6_isPattern 7 (some .boolean), Cond.methodLink RX6 45 yX5_isHeld, Cond.methodLink RX6 51 yX5_holders, Cond.instanceMethod yX5_holders, Cond.selects RX5 yX5_holders yX5_holders, Cond.code yX5_holders cX5_holders 6 (some .int), Cond.methodLink RX6 55 yX5_findName, Cond.methodLink RX6 37 yX6_linkUses, Cond.instanceMethod yX6_linkUses, Cond.selects RX6 yX6_linkUses yX6_linkUses]
def wsX8_expand_r17 : List Cond := [Cond.code yX6_linkUses cX6_linkUses 6 none, Cond.methodLink RX6 59 yX5_setVariable, Cond.instanceMethod yX5_setVariable, Cond.selects RX5 yX5_setVariable yX5_setVariable, Cond.code yX5_setVariable cX5_setVariable 3 none, Cond.methodLink RX6 41 yX6_isTemplate, Cond.instanceMethod yX6_isTemplate, Cond.selects RX6 yX6_isTemplate yX6_isTemplate, Cond.code yX6_isTemplate cX6_isTemplate 6 (some .boolean), Cond.methodLink RX6 62 yX5_variableAt, Cond.methodLink RX6 65 yX5_hasUse, Cond.instanceMethod yX5_hasUse, Cond.selects RX5 yX5_hasUse yX5_hasUse, Cond.code yX5_hasUse cX5_hasUse 3 (some .boolean)]
def wsX8_expand : List Cond := .code yX8_expand cX8_expand 3 (some .int) :: ((wsX8_expand_r1 ++ (wsX8_expand_r2 ++ (wsX8_expand_r3 ++ (wsX8_expand_r4 ++ (wsX8_expand_r5 ++ (wsX8_expand_r6 ++ (wsX8_expand_r7 ++ (wsX8_expand_r8 ++ (wsX8_expand_r9 ++ (wsX8_expand_r10 ++ (wsX8_expand_r11 ++ (wsX8_expand_r12 ++ (wsX8_expand_r13 ++ (wsX8_expand_r14 ++ (wsX8_expand_r15 ++ (wsX8_expand_r16 ++ wsX8_expand_r17)))))))))))))))) ++ wsX80 ++ wsX20 ++ wsX30 ++ wsX50 ++ wsX00 ++ wsX70 ++ wsX10 ++ wsX40 ++ wsX60)
def wsX8_at : List Cond := .code yX8_at cX8_at 2 (some .int) :: ([.fieldLink RX8 46 "MarkedNames" "outcome" "LMarkedNames$Outcome;", .methodLink RX8 109 yX2_charAt, .instanceMethod yX2_charAt, .selects RX2 yX2_charAt yX2_charAt, .initialized RX2, .code yX2_charAt cX2_charAt 2 (some .int), .fieldLink RX2 15 "MarkedNames$Outcome" "length" "I", .fieldLink RX2 9 "MarkedNames$Outcome" "text" "[I"] ++ wsX80 ++ wsX20)
def wsX8_count : List Cond := .code yX8_count cX8_count 2 (some .int) :: ([.fieldLink RX8 55 "MarkedNames" "expander" "LMarkedNames$Expander;"] ++ wsX80 ++ wsX00)
def wsX9_init : List Cond := .code yX9_init cX9_init 1 none :: ([.methodLink RX9 1 objectInit, .instanceMethod objectInit, .code objectInit ⟨#[0xb1]⟩ 1 none, .arrayClass .int, .fieldLink RX9 7 "MarkedNamesModel" "typed" "[I", .fieldLink RX9 13 "MarkedNamesModel" "row" "[I", .fieldLink RX9 16 "MarkedNamesModel" "set" "[I", .fieldLink RX9 19 "MarkedNamesModel" "kept" "[I", .fieldLink RX9 22 "MarkedNamesModel" "keptSet" "[I", .fieldLink RX9 25 "MarkedNamesModel" "ownName" "[I", .fieldLink RX9 28 "MarkedNamesModel" "ownEnd" "[I", .fieldLink RX9 31 "MarkedNamesModel" "name" "[I", .fieldLink RX9 34 "MarkedNamesModel" "scopes" "[I", .fieldLink RX9 37 "MarkedNamesModel" "meaning" "[I", .fieldLink RX9 40 "MarkedNamesModel" "from" "[I", .fieldLink RX9 43 "MarkedNamesModel" "to" "[I", .fieldLink RX9 46 "MarkedNamesModel" "made" "[I", .fieldLink RX9 49 "MarkedNamesModel" "madeSet" "[I", .fieldLink RX9 52 "MarkedNamesModel" "left" "[I", .fieldLink RX9 55 "MarkedNamesModel" "right" "[I", .fieldLink RX9 58 "MarkedNamesModel" "begins" "[I", .fieldLink RX9 61 "MarkedNamesModel" "rounds" "[I", .fieldLink RX9 64 "MarkedNamesModel" "round" "[I", .fieldLink RX9 67 "MarkedNamesModel" "text" "[I"] ++ wsX90)
def wsX9_type : List Cond := .code yX9_type cX9_type 5 (some .boolean) :: ([.fieldLink RX9 70 "MarkedNamesModel" "length" "I", .fieldLink RX9 7 "MarkedNamesModel" "typed" "[I"] ++ wsX90)
def wsX9_look : List Cond := .code yX9_look cX9_look 2 (some .int) :: ([.fieldLink RX9 70 "MarkedNamesModel" "length" "I", .fieldLink RX9 7 "MarkedNamesModel" "typed" "[I"] ++ wsX90)
def wsX9_isLetter : List Cond := .code yX9_isLetter cX9_isLetter 1 (some .boolean) :: ([])
def wsX9_isDigit : List Cond := .code yX9_isDigit cX9_isDigit 1 (some .boolean) :: ([])
def wsX9_run : List Cond := .code yX9_run cX9_run 4 (some .int) :: ([.fieldLink RX9 70 "MarkedNamesModel" "length" "I", .methodLink RX9 74 yX9_look, .instanceMethod yX9_look, .selects RX9 yX9_look yX9_look, .initialized RX9, .code yX9_look cX9_look 2 (some .int), .fieldLink RX9 7 "MarkedNamesModel" "typed" "[I", .methodLink RX9 78 yX9_isLetter, .static yX9_isLetter, .code yX9_isLetter cX9_isLetter 1 (some .boolean), .methodLink RX9 82 yX9_isDigit, .static yX9_isDigit, .code yX9_isDigit cX9_isDigit 1 (some .boolean)] ++ wsX90)
def wsX9_token : List Cond := .code yX9_token cX9_token 3 (some .int) :: ([.methodLink RX9 74 yX9_look, .instanceMethod yX9_look, .selects RX9 yX9_look yX9_look, .initialized RX9, .code yX9_look cX9_look 2 (some .int), .fieldLink RX9 70 "MarkedNamesModel" "length" "I", .fieldLink RX9 7 "MarkedNamesModel" "typed" "[I", .methodLink RX9 78 yX9_isLetter, .static yX9_isLetter, .code yX9_isLetter cX9_isLetter 1 (some .boolean), .methodLink RX9 85 yX9_run, .instanceMethod yX9_run, .selects RX9 yX9_run yX9_run, .code yX9_run cX9_run 4 (some .int), .methodLink RX9 82 yX9_isDigit, .static yX9_isDigit, .code yX9_isDigit cX9_isDigit 1 (some .boolean)] ++ wsX90)
def wsX9_code : List Cond := .code yX9_code cX9_code 6 (some .int) :: ([.constant RX9 88 (65536), .constant RX9 89 (131072), .constant RX9 90 (327680), .constant RX9 91 (393216), .constant RX9 92 (40000), .methodLink RX9 74 yX9_look, .instanceMethod yX9_look, .selects RX9 yX9_look yX9_look, .initialized RX9, .code yX9_look cX9_look 2 (some .int), .fieldLink RX9 70 "MarkedNamesModel" "length" "I", .fieldLink RX9 7 "MarkedNamesModel" "typed" "[I", .methodLink RX9 82 yX9_isDigit, .static yX9_isDigit, .code yX9_isDigit cX9_isDigit 1 (some .boolean), .methodLink RX9 78 yX9_isLetter, .static yX9_isLetter, .code yX9_isLetter cX9_isLetter 1 (some .boolean)] ++ wsX90)
def wsX9_fits : List Cond := .code yX9_fits cX9_fits 4 (some .boolean) :: ([])
def wsX9_read_r1 : List Cond := [Cond.fieldLink RX9 70 "MarkedNamesModel" "length" "I", Cond.constant RX9 88 (65536), Cond.fieldLink RX9 13 "MarkedNamesModel" "row" "[I", Cond.fieldLink RX9 104 "MarkedNamesModel" "head" "I", Cond.fieldLink RX9 16 "MarkedNamesModel" "set" "[I", Cond.methodLink RX9 74 yX9_look, Cond.instanceMethod yX9_look, Cond.selects RX9 yX9_look yX9_look, Cond.initialized RX9, Cond.code yX9_look cX9_look 2 (some .int), Cond.fieldLink RX9 7 "MarkedNamesModel" "typed" "[I", Cond.methodLink RX9 93 yX9_token, Cond.instanceMethod yX9_token, Cond.selects RX9 yX9_token yX9_token, Cond.code yX9_token cX9_token 3 (some .int), Cond.methodLink RX9 78 yX9_isLetter, Cond.static yX9_isLetter, Cond.code yX9_isLetter cX9_isLetter 1 (some .boolean), Cond.methodLink RX9 85 yX9_run, Cond.instanceMethod yX9_run, Cond.selects RX9 yX9_run yX9_run, Cond.code yX9_run cX9_run 4 (some .int), Cond.methodLink RX9 82 yX9_isDigit, Cond.static yX9_isDigit]
def wsX9_read_r2 : List Cond := [Cond.code yX9_isDigit cX9_isDigit 1 (some .boolean), Cond.methodLink RX9 96 yX9_code, Cond.instanceMethod yX9_code, Cond.selects RX9 yX9_code yX9_code, Cond.code yX9_code cX9_code 6 (some .int), Cond.constant RX9 89 (131072), Cond.constant RX9 90 (327680), Cond.constant RX9 91 (393216), Cond.constant RX9 92 (40000), Cond.methodLink RX9 100 yX9_fits, Cond.static yX9_fits, Cond.code yX9_fits cX9_fits 4 (some .boolean)]
def wsX9_read : List Cond := .code yX9_read cX9_read 8 (some .int) :: ((wsX9_read_r1 ++ wsX9_read_r2) ++ wsX90)
def wsX9_kind : List Cond := .code yX9_kind cX9_kind 2 (some .int) :: ([.constant RX9 88 (65536)])
def wsX9_what : List Cond := .code yX9_what cX9_what 2 (some .int) :: ([.constant RX9 88 (65536)])
def wsX9_end : List Cond := .code yX9_end cX9_end 5 (some .int) :: ([.methodLink RX9 107 yX9_kind, .static yX9_kind, .initialized RX9, .code yX9_kind cX9_kind 2 (some .int), .constant RX9 88 (65536)])
def wsX9_count : List Cond := .code yX9_count cX9_count 5 (some .int) :: ([.methodLink RX9 107 yX9_kind, .static yX9_kind, .initialized RX9, .code yX9_kind cX9_kind 2 (some .int), .constant RX9 88 (65536), .methodLink RX9 111 yX9_end, .static yX9_end, .code yX9_end cX9_end 5 (some .int)])
def wsX9_dots : List Cond := .code yX9_dots cX9_dots 5 (some .int) :: ([.methodLink RX9 107 yX9_kind, .static yX9_kind, .initialized RX9, .code yX9_kind cX9_kind 2 (some .int), .constant RX9 88 (65536), .methodLink RX9 111 yX9_end, .static yX9_end, .code yX9_end cX9_end 5 (some .int)])
def wsX9_isPlain : List Cond := .code yX9_isPlain cX9_isPlain 3 (some .boolean) :: ([.methodLink RX9 107 yX9_kind, .static yX9_kind, .initialized RX9, .code yX9_kind cX9_kind 2 (some .int), .constant RX9 88 (65536), .methodLink RX9 114 yX9_count, .static yX9_count, .code yX9_count cX9_count 5 (some .int), .methodLink RX9 111 yX9_end, .static yX9_end, .code yX9_end cX9_end 5 (some .int), .methodLink RX9 117 yX9_dots, .static yX9_dots, .code yX9_dots cX9_dots 5 (some .int)])
def wsX9_heldBy : List Cond := .code yX9_heldBy cX9_heldBy 8 (some .int) :: ([.fieldLink RX9 19 "MarkedNamesModel" "kept" "[I", .methodLink RX9 107 yX9_kind, .static yX9_kind, .initialized RX9, .code yX9_kind cX9_kind 2 (some .int), .constant RX9 88 (65536), .methodLink RX9 111 yX9_end, .static yX9_end, .code yX9_end cX9_end 5 (some .int)] ++ wsX90)
def wsX9_variable : List Cond := .code yX9_variable cX9_variable 6 (some .int) :: ([.fieldLink RX9 19 "MarkedNamesModel" "kept" "[I", .fieldLink RX9 22 "MarkedNamesModel" "keptSet" "[I", .methodLink RX9 111 yX9_end, .static yX9_end, .initialized RX9, .code yX9_end cX9_end 5 (some .int), .methodLink RX9 107 yX9_kind, .static yX9_kind, .code yX9_kind cX9_kind 2 (some .int), .constant RX9 88 (65536)] ++ wsX90)
def wsX9_isPattern : List Cond := .code yX9_isPattern cX9_isPattern 6 (some .boolean) :: ([.fieldLink RX9 19 "MarkedNamesModel" "kept" "[I", .fieldLink RX9 22 "MarkedNamesModel" "keptSet" "[I", .methodLink RX9 107 yX9_kind, .static yX9_kind, .initialized RX9, .code yX9_kind cX9_kind 2 (some .int), .constant RX9 88 (65536), .methodLink RX9 114 yX9_count, .static yX9_count, .code yX9_count cX9_count 5 (some .int), .methodLink RX9 111 yX9_end, .static yX9_end, .code yX9_end cX9_end 5 (some .int), .methodLink RX9 120 yX9_heldBy, .instanceMethod yX9_heldBy, .selects RX9 yX9_heldBy yX9_heldBy, .code yX9_heldBy cX9_heldBy 8 (some .int), .methodLink RX9 124 yX9_variable, .instanceMethod yX9_variable, .selects RX9 yX9_variable yX9_variable, .code yX9_variable cX9_variable 6 (some .int)] ++ wsX90)
def wsX9_uses : List Cond := .code yX9_uses cX9_uses 6 (some .int) :: ([.fieldLink RX9 19 "MarkedNamesModel" "kept" "[I", .fieldLink RX9 22 "MarkedNamesModel" "keptSet" "[I", .methodLink RX9 107 yX9_kind, .static yX9_kind, .initialized RX9, .code yX9_kind cX9_kind 2 (some .int), .constant RX9 88 (65536), .methodLink RX9 124 yX9_variable, .instanceMethod yX9_variable, .selects RX9 yX9_variable yX9_variable, .code yX9_variable cX9_variable 6 (some .int), .methodLink RX9 111 yX9_end, .static yX9_end, .code yX9_end cX9_end 5 (some .int)] ++ wsX90)
def wsX9_isTemplate : List Cond := .code yX9_isTemplate cX9_isTemplate 8 (some .boolean) :: ([.fieldLink RX9 19 "MarkedNamesModel" "kept" "[I", .fieldLink RX9 22 "MarkedNamesModel" "keptSet" "[I", .methodLink RX9 111 yX9_end, .static yX9_end, .initialized RX9, .code yX9_end cX9_end 5 (some .int), .methodLink RX9 107 yX9_kind, .static yX9_kind, .code yX9_kind cX9_kind 2 (some .int), .constant RX9 88 (65536), .methodLink RX9 124 yX9_variable, .instanceMethod yX9_variable, .selects RX9 yX9_variable yX9_variable, .code yX9_variable cX9_variable 6 (some .int), .methodLink RX9 120 yX9_heldBy, .instanceMethod yX9_heldBy, .selects RX9 yX9_heldBy yX9_heldBy, .code yX9_heldBy cX9_heldBy 8 (some .int), .methodLink RX9 127 yX9_uses, .instanceMethod yX9_uses, .selects RX9 yX9_uses yX9_uses, .code yX9_uses cX9_uses 6 (some .int)] ++ wsX90)
def wsX9_areRules_r1 : List Cond := [Cond.fieldLink RX9 19 "MarkedNamesModel" "kept" "[I", Cond.methodLink RX9 107 yX9_kind, Cond.static yX9_kind, Cond.initialized RX9, Cond.code yX9_kind cX9_kind 2 (some .int), Cond.constant RX9 88 (65536), Cond.methodLink RX9 130 yX9_isPlain, Cond.static yX9_isPlain, Cond.code yX9_isPlain cX9_isPlain 3 (some .boolean), Cond.methodLink RX9 114 yX9_count, Cond.static yX9_count, Cond.code yX9_count cX9_count 5 (some .int), Cond.methodLink RX9 111 yX9_end, Cond.static yX9_end, Cond.code yX9_end cX9_end 5 (some .int), Cond.methodLink RX9 117 yX9_dots, Cond.static yX9_dots, Cond.code yX9_dots cX9_dots 5 (some .int), Cond.methodLink RX9 134 yX9_isPattern, Cond.instanceMethod yX9_isPattern, Cond.selects RX9 yX9_isPattern yX9_isPattern, Cond.code yX9_isPattern cX9_isPattern 6 (some .boolean), Cond.fieldLink RX9 22 "MarkedNamesModel" "keptSet" "[I", Cond.methodLink RX9 120 yX9_heldBy]
def wsX9_areRules_r2 : List Cond := [Cond.instanceMethod yX9_heldBy, Cond.selects RX9 yX9_heldBy yX9_heldBy, Cond.code yX9_heldBy cX9_heldBy 8 (some .int), Cond.methodLink RX9 124 yX9_variable, Cond.instanceMethod yX9_variable, Cond.selects RX9 yX9_variable yX9_variable, Cond.code yX9_variable cX9_variable 6 (some .int), Cond.methodLink RX9 137 yX9_isTemplate, Cond.instanceMethod yX9_isTemplate, Cond.selects RX9 yX9_isTemplate yX9_isTemplate, Cond.code yX9_isTemplate cX9_isTemplate 8 (some .boolean), Cond.methodLink RX9 127 yX9_uses, Cond.instanceMethod yX9_uses, Cond.selects RX9 yX9_uses yX9_uses, Cond.code yX9_uses cX9_uses 6 (some .int)]
def wsX9_areRules : List Cond := .code yX9_areRules cX9_areRules 4 (some .boolean) :: ((wsX9_areRules_r1 ++ wsX9_areRules_r2) ++ wsX90)
def wsX9_keep : List Cond := .code yX9_keep cX9_keep 5 (some .int) :: ([.fieldLink RX9 19 "MarkedNamesModel" "kept" "[I", .fieldLink RX9 13 "MarkedNamesModel" "row" "[I", .fieldLink RX9 22 "MarkedNamesModel" "keptSet" "[I", .fieldLink RX9 16 "MarkedNamesModel" "set" "[I"] ++ wsX90)
def wsX9_core : List Cond := .code yX9_core cX9_core 1 (some .int) :: ([])
def wsX9_rules_r1 : List Cond := [Cond.fieldLink RX9 70 "MarkedNamesModel" "length" "I", Cond.fieldLink RX9 13 "MarkedNamesModel" "row" "[I", Cond.fieldLink RX9 104 "MarkedNamesModel" "head" "I", Cond.constant RX9 92 (40000), Cond.fieldLink RX9 157 "MarkedNamesModel" "own" "I", Cond.fieldLink RX9 25 "MarkedNamesModel" "ownName" "[I", Cond.fieldLink RX9 28 "MarkedNamesModel" "ownEnd" "[I", Cond.methodLink RX9 141 yX9_read, Cond.instanceMethod yX9_read, Cond.selects RX9 yX9_read yX9_read, Cond.initialized RX9, Cond.code yX9_read cX9_read 8 (some .int), Cond.constant RX9 88 (65536), Cond.fieldLink RX9 16 "MarkedNamesModel" "set" "[I", Cond.methodLink RX9 74 yX9_look, Cond.instanceMethod yX9_look, Cond.selects RX9 yX9_look yX9_look, Cond.code yX9_look cX9_look 2 (some .int), Cond.fieldLink RX9 7 "MarkedNamesModel" "typed" "[I", Cond.methodLink RX9 93 yX9_token, Cond.instanceMethod yX9_token, Cond.selects RX9 yX9_token yX9_token, Cond.code yX9_token cX9_token 3 (some .int), Cond.methodLink RX9 78 yX9_isLetter]
def wsX9_rules_r2 : List Cond := [Cond.static yX9_isLetter, Cond.code yX9_isLetter cX9_isLetter 1 (some .boolean), Cond.methodLink RX9 85 yX9_run, Cond.instanceMethod yX9_run, Cond.selects RX9 yX9_run yX9_run, Cond.code yX9_run cX9_run 4 (some .int), Cond.methodLink RX9 82 yX9_isDigit, Cond.static yX9_isDigit, Cond.code yX9_isDigit cX9_isDigit 1 (some .boolean), Cond.methodLink RX9 96 yX9_code, Cond.instanceMethod yX9_code, Cond.selects RX9 yX9_code yX9_code, Cond.code yX9_code cX9_code 6 (some .int), Cond.constant RX9 89 (131072), Cond.constant RX9 90 (327680), Cond.constant RX9 91 (393216), Cond.methodLink RX9 100 yX9_fits, Cond.static yX9_fits, Cond.code yX9_fits cX9_fits 4 (some .boolean), Cond.methodLink RX9 107 yX9_kind, Cond.static yX9_kind, Cond.code yX9_kind cX9_kind 2 (some .int), Cond.methodLink RX9 117 yX9_dots, Cond.static yX9_dots]
def wsX9_rules_r3 : List Cond := [Cond.code yX9_dots cX9_dots 5 (some .int), Cond.methodLink RX9 111 yX9_end, Cond.static yX9_end, Cond.code yX9_end cX9_end 5 (some .int), Cond.methodLink RX9 145 yX9_keep, Cond.instanceMethod yX9_keep, Cond.selects RX9 yX9_keep yX9_keep, Cond.code yX9_keep cX9_keep 5 (some .int), Cond.fieldLink RX9 19 "MarkedNamesModel" "kept" "[I", Cond.fieldLink RX9 22 "MarkedNamesModel" "keptSet" "[I", Cond.methodLink RX9 148 yX9_areRules, Cond.instanceMethod yX9_areRules, Cond.selects RX9 yX9_areRules yX9_areRules, Cond.code yX9_areRules cX9_areRules 4 (some .boolean), Cond.methodLink RX9 130 yX9_isPlain, Cond.static yX9_isPlain, Cond.code yX9_isPlain cX9_isPlain 3 (some .boolean), Cond.methodLink RX9 114 yX9_count, Cond.static yX9_count, Cond.code yX9_count cX9_count 5 (some .int), Cond.methodLink RX9 134 yX9_isPattern, Cond.instanceMethod yX9_isPattern, Cond.selects RX9 yX9_isPattern yX9_isPattern, Cond.code yX9_isPattern cX9_isPattern 6 (some .boolean)]
def wsX9_rules_r4 : List Cond := [Cond.methodLink RX9 120 yX9_heldBy, Cond.instanceMethod yX9_heldBy, Cond.selects RX9 yX9_heldBy yX9_heldBy, Cond.code yX9_heldBy cX9_heldBy 8 (some .int), Cond.methodLink RX9 124 yX9_variable, Cond.instanceMethod yX9_variable, Cond.selects RX9 yX9_variable yX9_variable, Cond.code yX9_variable cX9_variable 6 (some .int), Cond.methodLink RX9 137 yX9_isTemplate, Cond.instanceMethod yX9_isTemplate, Cond.selects RX9 yX9_isTemplate yX9_isTemplate, Cond.code yX9_isTemplate cX9_isTemplate 8 (some .boolean), Cond.methodLink RX9 127 yX9_uses, Cond.instanceMethod yX9_uses, Cond.selects RX9 yX9_uses yX9_uses, Cond.code yX9_uses cX9_uses 6 (some .int), Cond.methodLink RX9 151 yX9_what, Cond.static yX9_what, Cond.code yX9_what cX9_what 2 (some .int), Cond.methodLink RX9 154 yX9_core, Cond.static yX9_core, Cond.code yX9_core cX9_core 1 (some .int)]
def wsX9_rules : List Cond := .code yX9_rules cX9_rules 5 (some .int) :: ((wsX9_rules_r1 ++ (wsX9_rules_r2 ++ (wsX9_rules_r3 ++ wsX9_rules_r4))) ++ wsX90)
def wsX9_fails : List Cond := .code yX9_fails cX9_fails 2 none :: ([.fieldLink RX9 178 "MarkedNamesModel" "error" "I"] ++ wsX90)
def wsX9_bind : List Cond := .code yX9_bind cX9_bind 6 none :: ([.fieldLink RX9 160 "MarkedNamesModel" "bindings" "I", .fieldLink RX9 31 "MarkedNamesModel" "name" "[I", .fieldLink RX9 34 "MarkedNamesModel" "scopes" "[I", .fieldLink RX9 37 "MarkedNamesModel" "meaning" "[I", .fieldLink RX9 40 "MarkedNamesModel" "from" "[I", .fieldLink RX9 43 "MarkedNamesModel" "to" "[I", .methodLink RX9 163 yX9_fails, .instanceMethod yX9_fails, .selects RX9 yX9_fails yX9_fails, .initialized RX9, .code yX9_fails cX9_fails 2 none, .fieldLink RX9 178 "MarkedNamesModel" "error" "I"] ++ wsX90)
def wsX9_beginning : List Cond := .code yX9_beginning cX9_beginning 2 none :: ([.fieldLink RX9 160 "MarkedNamesModel" "bindings" "I", .constant RX9 171 (40043), .constant RX9 172 (40042), .constant RX9 173 (40061), .constant RX9 174 (40060), .fieldLink RX9 157 "MarkedNamesModel" "own" "I", .fieldLink RX9 25 "MarkedNamesModel" "ownName" "[I", .fieldLink RX9 28 "MarkedNamesModel" "ownEnd" "[I", .fieldLink RX9 175 "MarkedNamesModel" "atFirst" "I", .methodLink RX9 167 yX9_bind, .instanceMethod yX9_bind, .selects RX9 yX9_bind yX9_bind, .initialized RX9, .code yX9_bind cX9_bind 6 none, .fieldLink RX9 31 "MarkedNamesModel" "name" "[I", .fieldLink RX9 34 "MarkedNamesModel" "scopes" "[I", .fieldLink RX9 37 "MarkedNamesModel" "meaning" "[I", .fieldLink RX9 40 "MarkedNamesModel" "from" "[I", .fieldLink RX9 43 "MarkedNamesModel" "to" "[I", .methodLink RX9 163 yX9_fails, .instanceMethod yX9_fails, .selects RX9 yX9_fails yX9_fails, .code yX9_fails cX9_fails 2 none, .fieldLink RX9 178 "MarkedNamesModel" "error" "I"] ++ wsX90)
def wsX9_means : List Cond := .code yX9_means cX9_means 8 (some .int) :: ([.fieldLink RX9 160 "MarkedNamesModel" "bindings" "I", .fieldLink RX9 31 "MarkedNamesModel" "name" "[I", .fieldLink RX9 34 "MarkedNamesModel" "scopes" "[I"] ++ wsX90)
def wsX9_scope : List Cond := .code yX9_scope cX9_scope 1 (some .int) :: ([.fieldLink RX9 181 "MarkedNamesModel" "scopesMade" "I", .methodLink RX9 163 yX9_fails, .instanceMethod yX9_fails, .selects RX9 yX9_fails yX9_fails, .initialized RX9, .code yX9_fails cX9_fails 2 none, .fieldLink RX9 178 "MarkedNamesModel" "error" "I"] ++ wsX90)
def wsX9_put : List Cond := .code yX9_put cX9_put 2 none :: ([.fieldLink RX9 178 "MarkedNamesModel" "error" "I", .fieldLink RX9 184 "MarkedNamesModel" "size" "I", .fieldLink RX9 67 "MarkedNamesModel" "text" "[I", .methodLink RX9 163 yX9_fails, .instanceMethod yX9_fails, .selects RX9 yX9_fails yX9_fails, .initialized RX9, .code yX9_fails cX9_fails 2 none] ++ wsX90)
def wsX9_space : List Cond := .code yX9_space cX9_space 1 none :: ([.fieldLink RX9 187 "MarkedNamesModel" "gap" "Z", .methodLink RX9 191 yX9_put, .instanceMethod yX9_put, .selects RX9 yX9_put yX9_put, .initialized RX9, .code yX9_put cX9_put 2 none, .fieldLink RX9 178 "MarkedNamesModel" "error" "I", .fieldLink RX9 184 "MarkedNamesModel" "size" "I", .fieldLink RX9 67 "MarkedNamesModel" "text" "[I", .methodLink RX9 163 yX9_fails, .instanceMethod yX9_fails, .selects RX9 yX9_fails yX9_fails, .code yX9_fails cX9_fails 2 none] ++ wsX90)
def wsX9_putNumber : List Cond := .code yX9_putNumber cX9_putNumber 2 none :: ([.methodLink RX9 191 yX9_put, .instanceMethod yX9_put, .selects RX9 yX9_put yX9_put, .initialized RX9, .code yX9_put cX9_put 2 none, .fieldLink RX9 178 "MarkedNamesModel" "error" "I", .fieldLink RX9 184 "MarkedNamesModel" "size" "I", .fieldLink RX9 67 "MarkedNamesModel" "text" "[I", .methodLink RX9 163 yX9_fails, .instanceMethod yX9_fails, .selects RX9 yX9_fails yX9_fails, .code yX9_fails cX9_fails 2 none] ++ wsX90)
def wsX9_putName : List Cond := .code yX9_putName cX9_putName 2 none :: ([.constant RX9 92 (40000), .methodLink RX9 191 yX9_put, .instanceMethod yX9_put, .selects RX9 yX9_put yX9_put, .initialized RX9, .code yX9_put cX9_put 2 none, .fieldLink RX9 178 "MarkedNamesModel" "error" "I", .fieldLink RX9 184 "MarkedNamesModel" "size" "I", .fieldLink RX9 67 "MarkedNamesModel" "text" "[I", .methodLink RX9 163 yX9_fails, .instanceMethod yX9_fails, .selects RX9 yX9_fails yX9_fails, .code yX9_fails cX9_fails 2 none] ++ wsX90)
def wsX9_putOpen : List Cond := .code yX9_putOpen cX9_putOpen 1 none :: ([.fieldLink RX9 187 "MarkedNamesModel" "gap" "Z", .methodLink RX9 194 yX9_space, .instanceMethod yX9_space, .selects RX9 yX9_space yX9_space, .initialized RX9, .code yX9_space cX9_space 1 none, .methodLink RX9 191 yX9_put, .instanceMethod yX9_put, .selects RX9 yX9_put yX9_put, .code yX9_put cX9_put 2 none, .fieldLink RX9 178 "MarkedNamesModel" "error" "I", .fieldLink RX9 184 "MarkedNamesModel" "size" "I", .fieldLink RX9 67 "MarkedNamesModel" "text" "[I", .methodLink RX9 163 yX9_fails, .instanceMethod yX9_fails, .selects RX9 yX9_fails yX9_fails, .code yX9_fails cX9_fails 2 none] ++ wsX90)
def wsX9_putClose : List Cond := .code yX9_putClose cX9_putClose 1 none :: ([.fieldLink RX9 187 "MarkedNamesModel" "gap" "Z", .methodLink RX9 191 yX9_put, .instanceMethod yX9_put, .selects RX9 yX9_put yX9_put, .initialized RX9, .code yX9_put cX9_put 2 none, .fieldLink RX9 178 "MarkedNamesModel" "error" "I", .fieldLink RX9 184 "MarkedNamesModel" "size" "I", .fieldLink RX9 67 "MarkedNamesModel" "text" "[I", .methodLink RX9 163 yX9_fails, .instanceMethod yX9_fails, .selects RX9 yX9_fails yX9_fails, .code yX9_fails cX9_fails 2 none] ++ wsX90)
def wsX9_putVariable : List Cond := .code yX9_putVariable cX9_putVariable 2 none :: ([.methodLink RX9 194 yX9_space, .instanceMethod yX9_space, .selects RX9 yX9_space yX9_space, .initialized RX9, .code yX9_space cX9_space 1 none, .fieldLink RX9 187 "MarkedNamesModel" "gap" "Z", .methodLink RX9 191 yX9_put, .instanceMethod yX9_put, .selects RX9 yX9_put yX9_put, .code yX9_put cX9_put 2 none, .fieldLink RX9 178 "MarkedNamesModel" "error" "I", .fieldLink RX9 184 "MarkedNamesModel" "size" "I", .fieldLink RX9 67 "MarkedNamesModel" "text" "[I", .methodLink RX9 163 yX9_fails, .instanceMethod yX9_fails, .selects RX9 yX9_fails yX9_fails, .code yX9_fails cX9_fails 2 none, .methodLink RX9 197 yX9_putNumber, .instanceMethod yX9_putNumber, .selects RX9 yX9_putNumber yX9_putNumber, .code yX9_putNumber cX9_putNumber 2 none] ++ wsX90)
def wsX9_putToken_r1 : List Cond := [Cond.fieldLink RX9 13 "MarkedNamesModel" "row" "[I", Cond.methodLink RX9 107 yX9_kind, Cond.static yX9_kind, Cond.initialized RX9, Cond.code yX9_kind cX9_kind 2 (some .int), Cond.constant RX9 88 (65536), Cond.methodLink RX9 200 yX9_putOpen, Cond.instanceMethod yX9_putOpen, Cond.selects RX9 yX9_putOpen yX9_putOpen, Cond.code yX9_putOpen cX9_putOpen 1 none, Cond.fieldLink RX9 187 "MarkedNamesModel" "gap" "Z", Cond.methodLink RX9 194 yX9_space, Cond.instanceMethod yX9_space, Cond.selects RX9 yX9_space yX9_space, Cond.code yX9_space cX9_space 1 none, Cond.methodLink RX9 191 yX9_put, Cond.instanceMethod yX9_put, Cond.selects RX9 yX9_put yX9_put, Cond.code yX9_put cX9_put 2 none, Cond.fieldLink RX9 178 "MarkedNamesModel" "error" "I", Cond.fieldLink RX9 184 "MarkedNamesModel" "size" "I", Cond.fieldLink RX9 67 "MarkedNamesModel" "text" "[I", Cond.methodLink RX9 163 yX9_fails, Cond.instanceMethod yX9_fails]
def wsX9_putToken_r2 : List Cond := [Cond.selects RX9 yX9_fails yX9_fails, Cond.code yX9_fails cX9_fails 2 none, Cond.methodLink RX9 203 yX9_putClose, Cond.instanceMethod yX9_putClose, Cond.selects RX9 yX9_putClose yX9_putClose, Cond.code yX9_putClose cX9_putClose 1 none, Cond.methodLink RX9 151 yX9_what, Cond.static yX9_what, Cond.code yX9_what cX9_what 2 (some .int), Cond.methodLink RX9 206 yX9_putName, Cond.instanceMethod yX9_putName, Cond.selects RX9 yX9_putName yX9_putName, Cond.code yX9_putName cX9_putName 2 none, Cond.constant RX9 92 (40000), Cond.methodLink RX9 197 yX9_putNumber, Cond.instanceMethod yX9_putNumber, Cond.selects RX9 yX9_putNumber yX9_putNumber, Cond.code yX9_putNumber cX9_putNumber 2 none]
def wsX9_putToken : List Cond := .code yX9_putToken cX9_putToken 3 none :: ((wsX9_putToken_r1 ++ wsX9_putToken_r2) ++ wsX90)
def wsX9_pairs : List Cond := .code yX9_pairs cX9_pairs 12 (some .int) :: ([.fieldLink RX9 13 "MarkedNamesModel" "row" "[I", .fieldLink RX9 19 "MarkedNamesModel" "kept" "[I", .fieldLink RX9 52 "MarkedNamesModel" "left" "[I", .fieldLink RX9 55 "MarkedNamesModel" "right" "[I", .methodLink RX9 107 yX9_kind, .static yX9_kind, .initialized RX9, .code yX9_kind cX9_kind 2 (some .int), .constant RX9 88 (65536), .methodLink RX9 117 yX9_dots, .static yX9_dots, .code yX9_dots cX9_dots 5 (some .int), .methodLink RX9 111 yX9_end, .static yX9_end, .code yX9_end cX9_end 5 (some .int), .methodLink RX9 114 yX9_count, .static yX9_count, .code yX9_count cX9_count 5 (some .int)] ++ wsX90)
def wsX9_matches : List Cond := .code yX9_matches cX9_matches 7 (some .boolean) :: ([.fieldLink RX9 52 "MarkedNamesModel" "left" "[I", .fieldLink RX9 55 "MarkedNamesModel" "right" "[I", .fieldLink RX9 19 "MarkedNamesModel" "kept" "[I", .fieldLink RX9 13 "MarkedNamesModel" "row" "[I", .methodLink RX9 209 yX9_pairs, .instanceMethod yX9_pairs, .selects RX9 yX9_pairs yX9_pairs, .initialized RX9, .code yX9_pairs cX9_pairs 12 (some .int), .methodLink RX9 107 yX9_kind, .static yX9_kind, .code yX9_kind cX9_kind 2 (some .int), .constant RX9 88 (65536), .methodLink RX9 117 yX9_dots, .static yX9_dots, .code yX9_dots cX9_dots 5 (some .int), .methodLink RX9 111 yX9_end, .static yX9_end, .code yX9_end cX9_end 5 (some .int), .methodLink RX9 114 yX9_count, .static yX9_count, .code yX9_count cX9_count 5 (some .int)] ++ wsX90)
def wsX9_walk : List Cond := .code yX9_walk cX9_walk 13 (some .int) :: ([.fieldLink RX9 19 "MarkedNamesModel" "kept" "[I", .fieldLink RX9 13 "MarkedNamesModel" "row" "[I", .fieldLink RX9 64 "MarkedNamesModel" "round" "[I", .methodLink RX9 111 yX9_end, .static yX9_end, .initialized RX9, .code yX9_end cX9_end 5 (some .int), .methodLink RX9 107 yX9_kind, .static yX9_kind, .code yX9_kind cX9_kind 2 (some .int), .constant RX9 88 (65536)] ++ wsX90)
def wsX9_add : List Cond := .code yX9_add cX9_add 4 none :: ([.constant RX9 88 (65536), .fieldLink RX9 213 "MarkedNamesModel" "trees" "I", .fieldLink RX9 46 "MarkedNamesModel" "made" "[I", .fieldLink RX9 216 "MarkedNamesModel" "many" "I", .fieldLink RX9 49 "MarkedNamesModel" "madeSet" "[I", .methodLink RX9 163 yX9_fails, .instanceMethod yX9_fails, .selects RX9 yX9_fails yX9_fails, .initialized RX9, .code yX9_fails cX9_fails 2 none, .fieldLink RX9 178 "MarkedNamesModel" "error" "I"] ++ wsX90)
def wsX9_roundsOf : List Cond := .code yX9_roundsOf cX9_roundsOf 9 (some .int) :: ([.fieldLink RX9 19 "MarkedNamesModel" "kept" "[I", .fieldLink RX9 22 "MarkedNamesModel" "keptSet" "[I", .fieldLink RX9 219 "MarkedNamesModel" "held" "I", .methodLink RX9 107 yX9_kind, .static yX9_kind, .initialized RX9, .code yX9_kind cX9_kind 2 (some .int), .constant RX9 88 (65536), .methodLink RX9 124 yX9_variable, .instanceMethod yX9_variable, .selects RX9 yX9_variable yX9_variable, .code yX9_variable cX9_variable 6 (some .int), .methodLink RX9 111 yX9_end, .static yX9_end, .code yX9_end cX9_end 5 (some .int), .methodLink RX9 222 yX9_walk, .instanceMethod yX9_walk, .selects RX9 yX9_walk yX9_walk, .code yX9_walk cX9_walk 13 (some .int), .fieldLink RX9 13 "MarkedNamesModel" "row" "[I", .fieldLink RX9 64 "MarkedNamesModel" "round" "[I"] ++ wsX90)
def wsX9_hold_r1 : List Cond := [Cond.fieldLink RX9 19 "MarkedNamesModel" "kept" "[I", Cond.fieldLink RX9 58 "MarkedNamesModel" "begins" "[I", Cond.fieldLink RX9 219 "MarkedNamesModel" "held" "I", Cond.fieldLink RX9 61 "MarkedNamesModel" "rounds" "[I", Cond.fieldLink RX9 64 "MarkedNamesModel" "round" "[I", Cond.methodLink RX9 111 yX9_end, Cond.static yX9_end, Cond.initialized RX9, Cond.code yX9_end cX9_end 5 (some .int), Cond.methodLink RX9 107 yX9_kind, Cond.static yX9_kind, Cond.code yX9_kind cX9_kind 2 (some .int), Cond.constant RX9 88 (65536), Cond.methodLink RX9 226 yX9_roundsOf, Cond.instanceMethod yX9_roundsOf, Cond.selects RX9 yX9_roundsOf yX9_roundsOf, Cond.code yX9_roundsOf cX9_roundsOf 9 (some .int), Cond.fieldLink RX9 22 "MarkedNamesModel" "keptSet" "[I", Cond.methodLink RX9 124 yX9_variable, Cond.instanceMethod yX9_variable, Cond.selects RX9 yX9_variable yX9_variable, Cond.code yX9_variable cX9_variable 6 (some .int), Cond.methodLink RX9 222 yX9_walk, Cond.instanceMethod yX9_walk]
def wsX9_hold_r2 : List Cond := [Cond.selects RX9 yX9_walk yX9_walk, Cond.code yX9_walk cX9_walk 13 (some .int), Cond.fieldLink RX9 13 "MarkedNamesModel" "row" "[I", Cond.methodLink RX9 163 yX9_fails, Cond.instanceMethod yX9_fails, Cond.selects RX9 yX9_fails yX9_fails, Cond.code yX9_fails cX9_fails 2 none, Cond.fieldLink RX9 178 "MarkedNamesModel" "error" "I"]
def wsX9_hold : List Cond := .code yX9_hold cX9_hold 6 (some .int) :: ((wsX9_hold_r1 ++ wsX9_hold_r2) ++ wsX90)
def wsX9_isHeld : List Cond := .code yX9_isHeld cX9_isHeld 2 (some .boolean) :: ([.fieldLink RX9 219 "MarkedNamesModel" "held" "I", .fieldLink RX9 58 "MarkedNamesModel" "begins" "[I"] ++ wsX90)
def wsX9_again : List Cond := .code yX9_again cX9_again 2 (some .int) :: ([.fieldLink RX9 64 "MarkedNamesModel" "round" "[I", .fieldLink RX9 219 "MarkedNamesModel" "held" "I", .fieldLink RX9 61 "MarkedNamesModel" "rounds" "[I", .fieldLink RX9 58 "MarkedNamesModel" "begins" "[I"] ++ wsX90)
def wsX9_bring : List Cond := .code yX9_bring cX9_bring 4 none :: ([.fieldLink RX9 13 "MarkedNamesModel" "row" "[I", .fieldLink RX9 178 "MarkedNamesModel" "error" "I", .fieldLink RX9 16 "MarkedNamesModel" "set" "[I", .methodLink RX9 111 yX9_end, .static yX9_end, .initialized RX9, .code yX9_end cX9_end 5 (some .int), .methodLink RX9 107 yX9_kind, .static yX9_kind, .code yX9_kind cX9_kind 2 (some .int), .constant RX9 88 (65536), .methodLink RX9 238 yX9_add, .instanceMethod yX9_add, .selects RX9 yX9_add yX9_add, .code yX9_add cX9_add 4 none, .fieldLink RX9 213 "MarkedNamesModel" "trees" "I", .fieldLink RX9 46 "MarkedNamesModel" "made" "[I", .fieldLink RX9 216 "MarkedNamesModel" "many" "I", .fieldLink RX9 49 "MarkedNamesModel" "madeSet" "[I", .methodLink RX9 163 yX9_fails, .instanceMethod yX9_fails, .selects RX9 yX9_fails yX9_fails, .code yX9_fails cX9_fails 2 none] ++ wsX90)
def wsX9_fill_r1 : List Cond := [Cond.fieldLink RX9 19 "MarkedNamesModel" "kept" "[I", Cond.fieldLink RX9 216 "MarkedNamesModel" "many" "I", Cond.fieldLink RX9 213 "MarkedNamesModel" "trees" "I", Cond.fieldLink RX9 219 "MarkedNamesModel" "held" "I", Cond.fieldLink RX9 178 "MarkedNamesModel" "error" "I", Cond.fieldLink RX9 22 "MarkedNamesModel" "keptSet" "[I", Cond.methodLink RX9 111 yX9_end, Cond.static yX9_end, Cond.initialized RX9, Cond.code yX9_end cX9_end 5 (some .int), Cond.methodLink RX9 107 yX9_kind, Cond.static yX9_kind, Cond.code yX9_kind cX9_kind 2 (some .int), Cond.constant RX9 88 (65536), Cond.methodLink RX9 229 yX9_again, Cond.instanceMethod yX9_again, Cond.selects RX9 yX9_again yX9_again, Cond.code yX9_again cX9_again 2 (some .int), Cond.fieldLink RX9 64 "MarkedNamesModel" "round" "[I", Cond.fieldLink RX9 61 "MarkedNamesModel" "rounds" "[I", Cond.fieldLink RX9 58 "MarkedNamesModel" "begins" "[I", Cond.methodLink RX9 232 yX9_isHeld, Cond.instanceMethod yX9_isHeld, Cond.selects RX9 yX9_isHeld yX9_isHeld]
def wsX9_fill_r2 : List Cond := [Cond.code yX9_isHeld cX9_isHeld 2 (some .boolean), Cond.methodLink RX9 235 yX9_hold, Cond.instanceMethod yX9_hold, Cond.selects RX9 yX9_hold yX9_hold, Cond.code yX9_hold cX9_hold 6 (some .int), Cond.methodLink RX9 226 yX9_roundsOf, Cond.instanceMethod yX9_roundsOf, Cond.selects RX9 yX9_roundsOf yX9_roundsOf, Cond.code yX9_roundsOf cX9_roundsOf 9 (some .int), Cond.methodLink RX9 124 yX9_variable, Cond.instanceMethod yX9_variable, Cond.selects RX9 yX9_variable yX9_variable, Cond.code yX9_variable cX9_variable 6 (some .int), Cond.methodLink RX9 222 yX9_walk, Cond.instanceMethod yX9_walk, Cond.selects RX9 yX9_walk yX9_walk, Cond.code yX9_walk cX9_walk 13 (some .int), Cond.fieldLink RX9 13 "MarkedNamesModel" "row" "[I", Cond.methodLink RX9 163 yX9_fails, Cond.instanceMethod yX9_fails, Cond.selects RX9 yX9_fails yX9_fails, Cond.code yX9_fails cX9_fails 2 none, Cond.methodLink RX9 238 yX9_add, Cond.instanceMethod yX9_add]
def wsX9_fill_r3 : List Cond := [Cond.selects RX9 yX9_add yX9_add, Cond.code yX9_add cX9_add 4 none, Cond.fieldLink RX9 46 "MarkedNamesModel" "made" "[I", Cond.fieldLink RX9 49 "MarkedNamesModel" "madeSet" "[I", Cond.methodLink RX9 242 yX9_bring, Cond.instanceMethod yX9_bring, Cond.selects RX9 yX9_bring yX9_bring, Cond.code yX9_bring cX9_bring 4 none, Cond.fieldLink RX9 16 "MarkedNamesModel" "set" "[I"]
def wsX9_fill : List Cond := .code yX9_fill cX9_fill 8 none :: ((wsX9_fill_r1 ++ (wsX9_fill_r2 ++ wsX9_fill_r3)) ++ wsX90)
def wsX9_turn : List Cond := .code yX9_turn cX9_turn 7 none :: ([.methodLink RX9 107 yX9_kind, .static yX9_kind, .initialized RX9, .code yX9_kind cX9_kind 2 (some .int), .constant RX9 88 (65536)])
def wsX9_give : List Cond := .code yX9_give cX9_give 5 none :: ([.fieldLink RX9 16 "MarkedNamesModel" "set" "[I", .fieldLink RX9 13 "MarkedNamesModel" "row" "[I", .methodLink RX9 107 yX9_kind, .static yX9_kind, .initialized RX9, .code yX9_kind cX9_kind 2 (some .int), .constant RX9 88 (65536)] ++ wsX90)
def wsX9_use_r1 : List Cond := [Cond.fieldLink RX9 245 "MarkedNamesModel" "fuelLeft" "I", Cond.fieldLink RX9 178 "MarkedNamesModel" "error" "I", Cond.fieldLink RX9 13 "MarkedNamesModel" "row" "[I", Cond.fieldLink RX9 104 "MarkedNamesModel" "head" "I", Cond.fieldLink RX9 16 "MarkedNamesModel" "set" "[I", Cond.fieldLink RX9 40 "MarkedNamesModel" "from" "[I", Cond.fieldLink RX9 43 "MarkedNamesModel" "to" "[I", Cond.fieldLink RX9 19 "MarkedNamesModel" "kept" "[I", Cond.fieldLink RX9 46 "MarkedNamesModel" "made" "[I", Cond.fieldLink RX9 49 "MarkedNamesModel" "madeSet" "[I", Cond.fieldLink RX9 216 "MarkedNamesModel" "many" "I", Cond.methodLink RX9 163 yX9_fails, Cond.instanceMethod yX9_fails, Cond.selects RX9 yX9_fails yX9_fails, Cond.initialized RX9, Cond.code yX9_fails cX9_fails 2 none, Cond.methodLink RX9 248 yX9_scope, Cond.instanceMethod yX9_scope, Cond.selects RX9 yX9_scope yX9_scope, Cond.code yX9_scope cX9_scope 1 (some .int), Cond.fieldLink RX9 181 "MarkedNamesModel" "scopesMade" "I", Cond.methodLink RX9 111 yX9_end, Cond.static yX9_end, Cond.code yX9_end cX9_end 5 (some .int)]
def wsX9_use_r2 : List Cond := [Cond.methodLink RX9 107 yX9_kind, Cond.static yX9_kind, Cond.code yX9_kind cX9_kind 2 (some .int), Cond.constant RX9 88 (65536), Cond.methodLink RX9 251 yX9_turn, Cond.instanceMethod yX9_turn, Cond.selects RX9 yX9_turn yX9_turn, Cond.code yX9_turn cX9_turn 7 none, Cond.methodLink RX9 255 yX9_matches, Cond.instanceMethod yX9_matches, Cond.selects RX9 yX9_matches yX9_matches, Cond.code yX9_matches cX9_matches 7 (some .boolean), Cond.fieldLink RX9 52 "MarkedNamesModel" "left" "[I", Cond.fieldLink RX9 55 "MarkedNamesModel" "right" "[I", Cond.methodLink RX9 209 yX9_pairs, Cond.instanceMethod yX9_pairs, Cond.selects RX9 yX9_pairs yX9_pairs, Cond.code yX9_pairs cX9_pairs 12 (some .int), Cond.methodLink RX9 117 yX9_dots, Cond.static yX9_dots, Cond.code yX9_dots cX9_dots 5 (some .int), Cond.methodLink RX9 114 yX9_count, Cond.static yX9_count, Cond.code yX9_count cX9_count 5 (some .int)]
def wsX9_use_r3 : List Cond := [Cond.methodLink RX9 258 yX9_fill, Cond.instanceMethod yX9_fill, Cond.selects RX9 yX9_fill yX9_fill, Cond.code yX9_fill cX9_fill 8 none, Cond.fieldLink RX9 213 "MarkedNamesModel" "trees" "I", Cond.fieldLink RX9 219 "MarkedNamesModel" "held" "I", Cond.fieldLink RX9 22 "MarkedNamesModel" "keptSet" "[I", Cond.methodLink RX9 229 yX9_again, Cond.instanceMethod yX9_again, Cond.selects RX9 yX9_again yX9_again, Cond.code yX9_again cX9_again 2 (some .int), Cond.fieldLink RX9 64 "MarkedNamesModel" "round" "[I", Cond.fieldLink RX9 61 "MarkedNamesModel" "rounds" "[I", Cond.fieldLink RX9 58 "MarkedNamesModel" "begins" "[I", Cond.methodLink RX9 232 yX9_isHeld, Cond.instanceMethod yX9_isHeld, Cond.selects RX9 yX9_isHeld yX9_isHeld, Cond.code yX9_isHeld cX9_isHeld 2 (some .boolean), Cond.methodLink RX9 235 yX9_hold, Cond.instanceMethod yX9_hold, Cond.selects RX9 yX9_hold yX9_hold, Cond.code yX9_hold cX9_hold 6 (some .int), Cond.methodLink RX9 226 yX9_roundsOf, Cond.instanceMethod yX9_roundsOf]
def wsX9_use_r4 : List Cond := [Cond.selects RX9 yX9_roundsOf yX9_roundsOf, Cond.code yX9_roundsOf cX9_roundsOf 9 (some .int), Cond.methodLink RX9 124 yX9_variable, Cond.instanceMethod yX9_variable, Cond.selects RX9 yX9_variable yX9_variable, Cond.code yX9_variable cX9_variable 6 (some .int), Cond.methodLink RX9 222 yX9_walk, Cond.instanceMethod yX9_walk, Cond.selects RX9 yX9_walk yX9_walk, Cond.code yX9_walk cX9_walk 13 (some .int), Cond.methodLink RX9 238 yX9_add, Cond.instanceMethod yX9_add, Cond.selects RX9 yX9_add yX9_add, Cond.code yX9_add cX9_add 4 none, Cond.methodLink RX9 242 yX9_bring, Cond.instanceMethod yX9_bring, Cond.selects RX9 yX9_bring yX9_bring, Cond.code yX9_bring cX9_bring 4 none]
def wsX9_use : List Cond := .code yX9_use cX9_use 6 none :: ((wsX9_use_r1 ++ (wsX9_use_r2 ++ (wsX9_use_r3 ++ wsX9_use_r4))) ++ wsX90)
def wsX9_function_r1 : List Cond := [Cond.fieldLink RX9 13 "MarkedNamesModel" "row" "[I", Cond.fieldLink RX9 104 "MarkedNamesModel" "head" "I", Cond.fieldLink RX9 178 "MarkedNamesModel" "error" "I", Cond.fieldLink RX9 265 "MarkedNamesModel" "variables" "I", Cond.fieldLink RX9 16 "MarkedNamesModel" "set" "[I", Cond.fieldLink RX9 271 "MarkedNamesModel" "deep" "I", Cond.methodLink RX9 111 yX9_end, Cond.static yX9_end, Cond.initialized RX9, Cond.code yX9_end cX9_end 5 (some .int), Cond.methodLink RX9 107 yX9_kind, Cond.static yX9_kind, Cond.code yX9_kind cX9_kind 2 (some .int), Cond.constant RX9 88 (65536), Cond.methodLink RX9 130 yX9_isPlain, Cond.static yX9_isPlain, Cond.code yX9_isPlain cX9_isPlain 3 (some .boolean), Cond.methodLink RX9 114 yX9_count, Cond.static yX9_count, Cond.code yX9_count cX9_count 5 (some .int), Cond.methodLink RX9 117 yX9_dots, Cond.static yX9_dots, Cond.code yX9_dots cX9_dots 5 (some .int), Cond.methodLink RX9 163 yX9_fails]
def wsX9_function_r2 : List Cond := [Cond.instanceMethod yX9_fails, Cond.selects RX9 yX9_fails yX9_fails, Cond.code yX9_fails cX9_fails 2 none, Cond.methodLink RX9 248 yX9_scope, Cond.instanceMethod yX9_scope, Cond.selects RX9 yX9_scope yX9_scope, Cond.code yX9_scope cX9_scope 1 (some .int), Cond.fieldLink RX9 181 "MarkedNamesModel" "scopesMade" "I", Cond.methodLink RX9 261 yX9_give, Cond.instanceMethod yX9_give, Cond.selects RX9 yX9_give yX9_give, Cond.code yX9_give cX9_give 5 none, Cond.methodLink RX9 151 yX9_what, Cond.static yX9_what, Cond.code yX9_what cX9_what 2 (some .int), Cond.methodLink RX9 167 yX9_bind, Cond.instanceMethod yX9_bind, Cond.selects RX9 yX9_bind yX9_bind, Cond.code yX9_bind cX9_bind 6 none, Cond.fieldLink RX9 160 "MarkedNamesModel" "bindings" "I", Cond.fieldLink RX9 31 "MarkedNamesModel" "name" "[I", Cond.fieldLink RX9 34 "MarkedNamesModel" "scopes" "[I", Cond.fieldLink RX9 37 "MarkedNamesModel" "meaning" "[I", Cond.fieldLink RX9 40 "MarkedNamesModel" "from" "[I"]
def wsX9_function_r3 : List Cond := [Cond.fieldLink RX9 43 "MarkedNamesModel" "to" "[I", Cond.methodLink RX9 200 yX9_putOpen, Cond.instanceMethod yX9_putOpen, Cond.selects RX9 yX9_putOpen yX9_putOpen, Cond.code yX9_putOpen cX9_putOpen 1 none, Cond.fieldLink RX9 187 "MarkedNamesModel" "gap" "Z", Cond.methodLink RX9 194 yX9_space, Cond.instanceMethod yX9_space, Cond.selects RX9 yX9_space yX9_space, Cond.code yX9_space cX9_space 1 none, Cond.methodLink RX9 191 yX9_put, Cond.instanceMethod yX9_put, Cond.selects RX9 yX9_put yX9_put, Cond.code yX9_put cX9_put 2 none, Cond.fieldLink RX9 184 "MarkedNamesModel" "size" "I", Cond.fieldLink RX9 67 "MarkedNamesModel" "text" "[I", Cond.methodLink RX9 206 yX9_putName, Cond.instanceMethod yX9_putName, Cond.selects RX9 yX9_putName yX9_putName, Cond.code yX9_putName cX9_putName 2 none, Cond.constant RX9 92 (40000), Cond.methodLink RX9 268 yX9_putVariable, Cond.instanceMethod yX9_putVariable, Cond.selects RX9 yX9_putVariable yX9_putVariable]
def wsX9_function_r4 : List Cond := [Cond.code yX9_putVariable cX9_putVariable 2 none, Cond.methodLink RX9 197 yX9_putNumber, Cond.instanceMethod yX9_putNumber, Cond.selects RX9 yX9_putNumber yX9_putNumber, Cond.code yX9_putNumber cX9_putNumber 2 none, Cond.methodLink RX9 203 yX9_putClose, Cond.instanceMethod yX9_putClose, Cond.selects RX9 yX9_putClose yX9_putClose, Cond.code yX9_putClose cX9_putClose 1 none]
def wsX9_function : List Cond := .code yX9_function cX9_function 9 none :: ((wsX9_function_r1 ++ (wsX9_function_r2 ++ (wsX9_function_r3 ++ wsX9_function_r4))) ++ wsX90)
def wsX9_local_r1 : List Cond := [Cond.fieldLink RX9 13 "MarkedNamesModel" "row" "[I", Cond.fieldLink RX9 104 "MarkedNamesModel" "head" "I", Cond.fieldLink RX9 274 "MarkedNamesModel" "keptEnd" "I", Cond.fieldLink RX9 178 "MarkedNamesModel" "error" "I", Cond.fieldLink RX9 16 "MarkedNamesModel" "set" "[I", Cond.constant RX9 277 (458752), Cond.fieldLink RX9 271 "MarkedNamesModel" "deep" "I", Cond.methodLink RX9 111 yX9_end, Cond.static yX9_end, Cond.initialized RX9, Cond.code yX9_end cX9_end 5 (some .int), Cond.methodLink RX9 107 yX9_kind, Cond.static yX9_kind, Cond.code yX9_kind cX9_kind 2 (some .int), Cond.constant RX9 88 (65536), Cond.methodLink RX9 130 yX9_isPlain, Cond.static yX9_isPlain, Cond.code yX9_isPlain cX9_isPlain 3 (some .boolean), Cond.methodLink RX9 114 yX9_count, Cond.static yX9_count, Cond.code yX9_count cX9_count 5 (some .int), Cond.methodLink RX9 117 yX9_dots, Cond.static yX9_dots, Cond.code yX9_dots cX9_dots 5 (some .int)]
def wsX9_local_r2 : List Cond := [Cond.methodLink RX9 145 yX9_keep, Cond.instanceMethod yX9_keep, Cond.selects RX9 yX9_keep yX9_keep, Cond.code yX9_keep cX9_keep 5 (some .int), Cond.fieldLink RX9 19 "MarkedNamesModel" "kept" "[I", Cond.fieldLink RX9 22 "MarkedNamesModel" "keptSet" "[I", Cond.methodLink RX9 148 yX9_areRules, Cond.instanceMethod yX9_areRules, Cond.selects RX9 yX9_areRules yX9_areRules, Cond.code yX9_areRules cX9_areRules 4 (some .boolean), Cond.methodLink RX9 134 yX9_isPattern, Cond.instanceMethod yX9_isPattern, Cond.selects RX9 yX9_isPattern yX9_isPattern, Cond.code yX9_isPattern cX9_isPattern 6 (some .boolean), Cond.methodLink RX9 120 yX9_heldBy, Cond.instanceMethod yX9_heldBy, Cond.selects RX9 yX9_heldBy yX9_heldBy, Cond.code yX9_heldBy cX9_heldBy 8 (some .int), Cond.methodLink RX9 124 yX9_variable, Cond.instanceMethod yX9_variable, Cond.selects RX9 yX9_variable yX9_variable, Cond.code yX9_variable cX9_variable 6 (some .int), Cond.methodLink RX9 137 yX9_isTemplate, Cond.instanceMethod yX9_isTemplate]
def wsX9_local_r3 : List Cond := [Cond.selects RX9 yX9_isTemplate yX9_isTemplate, Cond.code yX9_isTemplate cX9_isTemplate 8 (some .boolean), Cond.methodLink RX9 127 yX9_uses, Cond.instanceMethod yX9_uses, Cond.selects RX9 yX9_uses yX9_uses, Cond.code yX9_uses cX9_uses 6 (some .int), Cond.methodLink RX9 163 yX9_fails, Cond.instanceMethod yX9_fails, Cond.selects RX9 yX9_fails yX9_fails, Cond.code yX9_fails cX9_fails 2 none, Cond.methodLink RX9 248 yX9_scope, Cond.instanceMethod yX9_scope, Cond.selects RX9 yX9_scope yX9_scope, Cond.code yX9_scope cX9_scope 1 (some .int), Cond.fieldLink RX9 181 "MarkedNamesModel" "scopesMade" "I", Cond.methodLink RX9 261 yX9_give, Cond.instanceMethod yX9_give, Cond.selects RX9 yX9_give yX9_give, Cond.code yX9_give cX9_give 5 none, Cond.methodLink RX9 151 yX9_what, Cond.static yX9_what, Cond.code yX9_what cX9_what 2 (some .int), Cond.methodLink RX9 167 yX9_bind, Cond.instanceMethod yX9_bind]
def wsX9_local_r4 : List Cond := [Cond.selects RX9 yX9_bind yX9_bind, Cond.code yX9_bind cX9_bind 6 none, Cond.fieldLink RX9 160 "MarkedNamesModel" "bindings" "I", Cond.fieldLink RX9 31 "MarkedNamesModel" "name" "[I", Cond.fieldLink RX9 34 "MarkedNamesModel" "scopes" "[I", Cond.fieldLink RX9 37 "MarkedNamesModel" "meaning" "[I", Cond.fieldLink RX9 40 "MarkedNamesModel" "from" "[I", Cond.fieldLink RX9 43 "MarkedNamesModel" "to" "[I"]
def wsX9_local : List Cond := .code yX9_local cX9_local 8 none :: ((wsX9_local_r1 ++ (wsX9_local_r2 ++ (wsX9_local_r3 ++ wsX9_local_r4))) ++ wsX90)
def wsX9_form_r1 : List Cond := [Cond.fieldLink RX9 13 "MarkedNamesModel" "row" "[I", Cond.fieldLink RX9 104 "MarkedNamesModel" "head" "I", Cond.fieldLink RX9 271 "MarkedNamesModel" "deep" "I", Cond.fieldLink RX9 178 "MarkedNamesModel" "error" "I", Cond.methodLink RX9 278 yX9_function, Cond.instanceMethod yX9_function, Cond.selects RX9 yX9_function yX9_function, Cond.initialized RX9, Cond.code yX9_function cX9_function 9 none, Cond.fieldLink RX9 265 "MarkedNamesModel" "variables" "I", Cond.fieldLink RX9 16 "MarkedNamesModel" "set" "[I", Cond.methodLink RX9 111 yX9_end, Cond.static yX9_end, Cond.code yX9_end cX9_end 5 (some .int), Cond.methodLink RX9 107 yX9_kind, Cond.static yX9_kind, Cond.code yX9_kind cX9_kind 2 (some .int), Cond.constant RX9 88 (65536), Cond.methodLink RX9 130 yX9_isPlain, Cond.static yX9_isPlain, Cond.code yX9_isPlain cX9_isPlain 3 (some .boolean), Cond.methodLink RX9 114 yX9_count, Cond.static yX9_count, Cond.code yX9_count cX9_count 5 (some .int)]
def wsX9_form_r2 : List Cond := [Cond.methodLink RX9 117 yX9_dots, Cond.static yX9_dots, Cond.code yX9_dots cX9_dots 5 (some .int), Cond.methodLink RX9 163 yX9_fails, Cond.instanceMethod yX9_fails, Cond.selects RX9 yX9_fails yX9_fails, Cond.code yX9_fails cX9_fails 2 none, Cond.methodLink RX9 248 yX9_scope, Cond.instanceMethod yX9_scope, Cond.selects RX9 yX9_scope yX9_scope, Cond.code yX9_scope cX9_scope 1 (some .int), Cond.fieldLink RX9 181 "MarkedNamesModel" "scopesMade" "I", Cond.methodLink RX9 261 yX9_give, Cond.instanceMethod yX9_give, Cond.selects RX9 yX9_give yX9_give, Cond.code yX9_give cX9_give 5 none, Cond.methodLink RX9 151 yX9_what, Cond.static yX9_what, Cond.code yX9_what cX9_what 2 (some .int), Cond.methodLink RX9 167 yX9_bind, Cond.instanceMethod yX9_bind, Cond.selects RX9 yX9_bind yX9_bind, Cond.code yX9_bind cX9_bind 6 none, Cond.fieldLink RX9 160 "MarkedNamesModel" "bindings" "I"]
def wsX9_form_r3 : List Cond := [Cond.fieldLink RX9 31 "MarkedNamesModel" "name" "[I", Cond.fieldLink RX9 34 "MarkedNamesModel" "scopes" "[I", Cond.fieldLink RX9 37 "MarkedNamesModel" "meaning" "[I", Cond.fieldLink RX9 40 "MarkedNamesModel" "from" "[I", Cond.fieldLink RX9 43 "MarkedNamesModel" "to" "[I", Cond.methodLink RX9 200 yX9_putOpen, Cond.instanceMethod yX9_putOpen, Cond.selects RX9 yX9_putOpen yX9_putOpen, Cond.code yX9_putOpen cX9_putOpen 1 none, Cond.fieldLink RX9 187 "MarkedNamesModel" "gap" "Z", Cond.methodLink RX9 194 yX9_space, Cond.instanceMethod yX9_space, Cond.selects RX9 yX9_space yX9_space, Cond.code yX9_space cX9_space 1 none, Cond.methodLink RX9 191 yX9_put, Cond.instanceMethod yX9_put, Cond.selects RX9 yX9_put yX9_put, Cond.code yX9_put cX9_put 2 none, Cond.fieldLink RX9 184 "MarkedNamesModel" "size" "I", Cond.fieldLink RX9 67 "MarkedNamesModel" "text" "[I", Cond.methodLink RX9 206 yX9_putName, Cond.instanceMethod yX9_putName, Cond.selects RX9 yX9_putName yX9_putName, Cond.code yX9_putName cX9_putName 2 none]
def wsX9_form_r4 : List Cond := [Cond.constant RX9 92 (40000), Cond.methodLink RX9 268 yX9_putVariable, Cond.instanceMethod yX9_putVariable, Cond.selects RX9 yX9_putVariable yX9_putVariable, Cond.code yX9_putVariable cX9_putVariable 2 none, Cond.methodLink RX9 197 yX9_putNumber, Cond.instanceMethod yX9_putNumber, Cond.selects RX9 yX9_putNumber yX9_putNumber, Cond.code yX9_putNumber cX9_putNumber 2 none, Cond.methodLink RX9 203 yX9_putClose, Cond.instanceMethod yX9_putClose, Cond.selects RX9 yX9_putClose yX9_putClose, Cond.code yX9_putClose cX9_putClose 1 none, Cond.methodLink RX9 281 yX9_local, Cond.instanceMethod yX9_local, Cond.selects RX9 yX9_local yX9_local, Cond.code yX9_local cX9_local 8 none, Cond.fieldLink RX9 274 "MarkedNamesModel" "keptEnd" "I", Cond.constant RX9 277 (458752), Cond.methodLink RX9 145 yX9_keep, Cond.instanceMethod yX9_keep, Cond.selects RX9 yX9_keep yX9_keep, Cond.code yX9_keep cX9_keep 5 (some .int), Cond.fieldLink RX9 19 "MarkedNamesModel" "kept" "[I"]
def wsX9_form_r5 : List Cond := [Cond.fieldLink RX9 22 "MarkedNamesModel" "keptSet" "[I", Cond.methodLink RX9 148 yX9_areRules, Cond.instanceMethod yX9_areRules, Cond.selects RX9 yX9_areRules yX9_areRules, Cond.code yX9_areRules cX9_areRules 4 (some .boolean), Cond.methodLink RX9 134 yX9_isPattern, Cond.instanceMethod yX9_isPattern, Cond.selects RX9 yX9_isPattern yX9_isPattern, Cond.code yX9_isPattern cX9_isPattern 6 (some .boolean), Cond.methodLink RX9 120 yX9_heldBy, Cond.instanceMethod yX9_heldBy, Cond.selects RX9 yX9_heldBy yX9_heldBy, Cond.code yX9_heldBy cX9_heldBy 8 (some .int), Cond.methodLink RX9 124 yX9_variable, Cond.instanceMethod yX9_variable, Cond.selects RX9 yX9_variable yX9_variable, Cond.code yX9_variable cX9_variable 6 (some .int), Cond.methodLink RX9 137 yX9_isTemplate, Cond.instanceMethod yX9_isTemplate, Cond.selects RX9 yX9_isTemplate yX9_isTemplate, Cond.code yX9_isTemplate cX9_isTemplate 8 (some .boolean), Cond.methodLink RX9 127 yX9_uses, Cond.instanceMethod yX9_uses, Cond.selects RX9 yX9_uses yX9_uses]
def wsX9_form_r6 : List Cond := [Cond.code yX9_uses cX9_uses 6 (some .int), Cond.methodLink RX9 284 yX9_putToken, Cond.instanceMethod yX9_putToken, Cond.selects RX9 yX9_putToken yX9_putToken, Cond.code yX9_putToken cX9_putToken 3 none]
def wsX9_form : List Cond := .code yX9_form cX9_form 4 none :: ((wsX9_form_r1 ++ (wsX9_form_r2 ++ (wsX9_form_r3 ++ (wsX9_form_r4 ++ (wsX9_form_r5 ++ wsX9_form_r6))))) ++ wsX90)
def wsX9_list_r1 : List Cond := [Cond.fieldLink RX9 271 "MarkedNamesModel" "deep" "I", Cond.fieldLink RX9 13 "MarkedNamesModel" "row" "[I", Cond.fieldLink RX9 104 "MarkedNamesModel" "head" "I", Cond.fieldLink RX9 16 "MarkedNamesModel" "set" "[I", Cond.fieldLink RX9 37 "MarkedNamesModel" "meaning" "[I", Cond.fieldLink RX9 40 "MarkedNamesModel" "from" "[I", Cond.methodLink RX9 163 yX9_fails, Cond.instanceMethod yX9_fails, Cond.selects RX9 yX9_fails yX9_fails, Cond.initialized RX9, Cond.code yX9_fails cX9_fails 2 none, Cond.fieldLink RX9 178 "MarkedNamesModel" "error" "I", Cond.methodLink RX9 107 yX9_kind, Cond.static yX9_kind, Cond.code yX9_kind cX9_kind 2 (some .int), Cond.constant RX9 88 (65536), Cond.methodLink RX9 151 yX9_what, Cond.static yX9_what, Cond.code yX9_what cX9_what 2 (some .int), Cond.methodLink RX9 287 yX9_means, Cond.instanceMethod yX9_means, Cond.selects RX9 yX9_means yX9_means, Cond.code yX9_means cX9_means 8 (some .int), Cond.fieldLink RX9 160 "MarkedNamesModel" "bindings" "I"]
def wsX9_list_r2 : List Cond := [Cond.fieldLink RX9 31 "MarkedNamesModel" "name" "[I", Cond.fieldLink RX9 34 "MarkedNamesModel" "scopes" "[I", Cond.methodLink RX9 290 yX9_form, Cond.instanceMethod yX9_form, Cond.selects RX9 yX9_form yX9_form, Cond.code yX9_form cX9_form 4 none, Cond.methodLink RX9 278 yX9_function, Cond.instanceMethod yX9_function, Cond.selects RX9 yX9_function yX9_function, Cond.code yX9_function cX9_function 9 none, Cond.fieldLink RX9 265 "MarkedNamesModel" "variables" "I", Cond.methodLink RX9 111 yX9_end, Cond.static yX9_end, Cond.code yX9_end cX9_end 5 (some .int), Cond.methodLink RX9 130 yX9_isPlain, Cond.static yX9_isPlain, Cond.code yX9_isPlain cX9_isPlain 3 (some .boolean), Cond.methodLink RX9 114 yX9_count, Cond.static yX9_count, Cond.code yX9_count cX9_count 5 (some .int), Cond.methodLink RX9 117 yX9_dots, Cond.static yX9_dots, Cond.code yX9_dots cX9_dots 5 (some .int), Cond.methodLink RX9 248 yX9_scope]
def wsX9_list_r3 : List Cond := [Cond.instanceMethod yX9_scope, Cond.selects RX9 yX9_scope yX9_scope, Cond.code yX9_scope cX9_scope 1 (some .int), Cond.fieldLink RX9 181 "MarkedNamesModel" "scopesMade" "I", Cond.methodLink RX9 261 yX9_give, Cond.instanceMethod yX9_give, Cond.selects RX9 yX9_give yX9_give, Cond.code yX9_give cX9_give 5 none, Cond.methodLink RX9 167 yX9_bind, Cond.instanceMethod yX9_bind, Cond.selects RX9 yX9_bind yX9_bind, Cond.code yX9_bind cX9_bind 6 none, Cond.fieldLink RX9 43 "MarkedNamesModel" "to" "[I", Cond.methodLink RX9 200 yX9_putOpen, Cond.instanceMethod yX9_putOpen, Cond.selects RX9 yX9_putOpen yX9_putOpen, Cond.code yX9_putOpen cX9_putOpen 1 none, Cond.fieldLink RX9 187 "MarkedNamesModel" "gap" "Z", Cond.methodLink RX9 194 yX9_space, Cond.instanceMethod yX9_space, Cond.selects RX9 yX9_space yX9_space, Cond.code yX9_space cX9_space 1 none, Cond.methodLink RX9 191 yX9_put, Cond.instanceMethod yX9_put]
def wsX9_list_r4 : List Cond := [Cond.selects RX9 yX9_put yX9_put, Cond.code yX9_put cX9_put 2 none, Cond.fieldLink RX9 184 "MarkedNamesModel" "size" "I", Cond.fieldLink RX9 67 "MarkedNamesModel" "text" "[I", Cond.methodLink RX9 206 yX9_putName, Cond.instanceMethod yX9_putName, Cond.selects RX9 yX9_putName yX9_putName, Cond.code yX9_putName cX9_putName 2 none, Cond.constant RX9 92 (40000), Cond.methodLink RX9 268 yX9_putVariable, Cond.instanceMethod yX9_putVariable, Cond.selects RX9 yX9_putVariable yX9_putVariable, Cond.code yX9_putVariable cX9_putVariable 2 none, Cond.methodLink RX9 197 yX9_putNumber, Cond.instanceMethod yX9_putNumber, Cond.selects RX9 yX9_putNumber yX9_putNumber, Cond.code yX9_putNumber cX9_putNumber 2 none, Cond.methodLink RX9 203 yX9_putClose, Cond.instanceMethod yX9_putClose, Cond.selects RX9 yX9_putClose yX9_putClose, Cond.code yX9_putClose cX9_putClose 1 none, Cond.methodLink RX9 281 yX9_local, Cond.instanceMethod yX9_local, Cond.selects RX9 yX9_local yX9_local]
def wsX9_list_r5 : List Cond := [Cond.code yX9_local cX9_local 8 none, Cond.fieldLink RX9 274 "MarkedNamesModel" "keptEnd" "I", Cond.constant RX9 277 (458752), Cond.methodLink RX9 145 yX9_keep, Cond.instanceMethod yX9_keep, Cond.selects RX9 yX9_keep yX9_keep, Cond.code yX9_keep cX9_keep 5 (some .int), Cond.fieldLink RX9 19 "MarkedNamesModel" "kept" "[I", Cond.fieldLink RX9 22 "MarkedNamesModel" "keptSet" "[I", Cond.methodLink RX9 148 yX9_areRules, Cond.instanceMethod yX9_areRules, Cond.selects RX9 yX9_areRules yX9_areRules, Cond.code yX9_areRules cX9_areRules 4 (some .boolean), Cond.methodLink RX9 134 yX9_isPattern, Cond.instanceMethod yX9_isPattern, Cond.selects RX9 yX9_isPattern yX9_isPattern, Cond.code yX9_isPattern cX9_isPattern 6 (some .boolean), Cond.methodLink RX9 120 yX9_heldBy, Cond.instanceMethod yX9_heldBy, Cond.selects RX9 yX9_heldBy yX9_heldBy, Cond.code yX9_heldBy cX9_heldBy 8 (some .int), Cond.methodLink RX9 124 yX9_variable, Cond.instanceMethod yX9_variable, Cond.selects RX9 yX9_variable yX9_variable]
def wsX9_list_r6 : List Cond := [Cond.code yX9_variable cX9_variable 6 (some .int), Cond.methodLink RX9 137 yX9_isTemplate, Cond.instanceMethod yX9_isTemplate, Cond.selects RX9 yX9_isTemplate yX9_isTemplate, Cond.code yX9_isTemplate cX9_isTemplate 8 (some .boolean), Cond.methodLink RX9 127 yX9_uses, Cond.instanceMethod yX9_uses, Cond.selects RX9 yX9_uses yX9_uses, Cond.code yX9_uses cX9_uses 6 (some .int), Cond.methodLink RX9 284 yX9_putToken, Cond.instanceMethod yX9_putToken, Cond.selects RX9 yX9_putToken yX9_putToken, Cond.code yX9_putToken cX9_putToken 3 none, Cond.methodLink RX9 293 yX9_use, Cond.instanceMethod yX9_use, Cond.selects RX9 yX9_use yX9_use, Cond.code yX9_use cX9_use 6 none, Cond.fieldLink RX9 245 "MarkedNamesModel" "fuelLeft" "I", Cond.fieldLink RX9 46 "MarkedNamesModel" "made" "[I", Cond.fieldLink RX9 49 "MarkedNamesModel" "madeSet" "[I", Cond.fieldLink RX9 216 "MarkedNamesModel" "many" "I", Cond.methodLink RX9 251 yX9_turn, Cond.instanceMethod yX9_turn, Cond.selects RX9 yX9_turn yX9_turn]
def wsX9_list_r7 : List Cond := [Cond.code yX9_turn cX9_turn 7 none, Cond.methodLink RX9 255 yX9_matches, Cond.instanceMethod yX9_matches, Cond.selects RX9 yX9_matches yX9_matches, Cond.code yX9_matches cX9_matches 7 (some .boolean), Cond.fieldLink RX9 52 "MarkedNamesModel" "left" "[I", Cond.fieldLink RX9 55 "MarkedNamesModel" "right" "[I", Cond.methodLink RX9 209 yX9_pairs, Cond.instanceMethod yX9_pairs, Cond.selects RX9 yX9_pairs yX9_pairs, Cond.code yX9_pairs cX9_pairs 12 (some .int), Cond.methodLink RX9 258 yX9_fill, Cond.instanceMethod yX9_fill, Cond.selects RX9 yX9_fill yX9_fill, Cond.code yX9_fill cX9_fill 8 none, Cond.fieldLink RX9 213 "MarkedNamesModel" "trees" "I", Cond.fieldLink RX9 219 "MarkedNamesModel" "held" "I", Cond.methodLink RX9 229 yX9_again, Cond.instanceMethod yX9_again, Cond.selects RX9 yX9_again yX9_again, Cond.code yX9_again cX9_again 2 (some .int), Cond.fieldLink RX9 64 "MarkedNamesModel" "round" "[I", Cond.fieldLink RX9 61 "MarkedNamesModel" "rounds" "[I", Cond.fieldLink RX9 58 "MarkedNamesModel" "begins" "[I"]
def wsX9_list_r8 : List Cond := [Cond.methodLink RX9 232 yX9_isHeld, Cond.instanceMethod yX9_isHeld, Cond.selects RX9 yX9_isHeld yX9_isHeld, Cond.code yX9_isHeld cX9_isHeld 2 (some .boolean), Cond.methodLink RX9 235 yX9_hold, Cond.instanceMethod yX9_hold, Cond.selects RX9 yX9_hold yX9_hold, Cond.code yX9_hold cX9_hold 6 (some .int), Cond.methodLink RX9 226 yX9_roundsOf, Cond.instanceMethod yX9_roundsOf, Cond.selects RX9 yX9_roundsOf yX9_roundsOf, Cond.code yX9_roundsOf cX9_roundsOf 9 (some .int), Cond.methodLink RX9 222 yX9_walk, Cond.instanceMethod yX9_walk, Cond.selects RX9 yX9_walk yX9_walk, Cond.code yX9_walk cX9_walk 13 (some .int), Cond.methodLink RX9 238 yX9_add, Cond.instanceMethod yX9_add, Cond.selects RX9 yX9_add yX9_add, Cond.code yX9_add cX9_add 4 none, Cond.methodLink RX9 242 yX9_bring, Cond.instanceMethod yX9_bring, Cond.selects RX9 yX9_bring yX9_bring, Cond.code yX9_bring cX9_bring 4 none]
def wsX9_list : List Cond := .code yX9_list cX9_list 3 none :: ((wsX9_list_r1 ++ (wsX9_list_r2 ++ (wsX9_list_r3 ++ (wsX9_list_r4 ++ (wsX9_list_r5 ++ (wsX9_list_r6 ++ (wsX9_list_r7 ++ wsX9_list_r8))))))) ++ wsX90)
def wsX9_word_r1 : List Cond := [Cond.fieldLink RX9 13 "MarkedNamesModel" "row" "[I", Cond.fieldLink RX9 104 "MarkedNamesModel" "head" "I", Cond.fieldLink RX9 16 "MarkedNamesModel" "set" "[I", Cond.fieldLink RX9 37 "MarkedNamesModel" "meaning" "[I", Cond.fieldLink RX9 40 "MarkedNamesModel" "from" "[I", Cond.methodLink RX9 151 yX9_what, Cond.static yX9_what, Cond.initialized RX9, Cond.code yX9_what cX9_what 2 (some .int), Cond.constant RX9 88 (65536), Cond.methodLink RX9 287 yX9_means, Cond.instanceMethod yX9_means, Cond.selects RX9 yX9_means yX9_means, Cond.code yX9_means cX9_means 8 (some .int), Cond.fieldLink RX9 160 "MarkedNamesModel" "bindings" "I", Cond.fieldLink RX9 31 "MarkedNamesModel" "name" "[I", Cond.fieldLink RX9 34 "MarkedNamesModel" "scopes" "[I", Cond.methodLink RX9 163 yX9_fails, Cond.instanceMethod yX9_fails, Cond.selects RX9 yX9_fails yX9_fails, Cond.code yX9_fails cX9_fails 2 none, Cond.fieldLink RX9 178 "MarkedNamesModel" "error" "I", Cond.methodLink RX9 194 yX9_space, Cond.instanceMethod yX9_space]
def wsX9_word_r2 : List Cond := [Cond.selects RX9 yX9_space yX9_space, Cond.code yX9_space cX9_space 1 none, Cond.fieldLink RX9 187 "MarkedNamesModel" "gap" "Z", Cond.methodLink RX9 191 yX9_put, Cond.instanceMethod yX9_put, Cond.selects RX9 yX9_put yX9_put, Cond.code yX9_put cX9_put 2 none, Cond.fieldLink RX9 184 "MarkedNamesModel" "size" "I", Cond.fieldLink RX9 67 "MarkedNamesModel" "text" "[I", Cond.methodLink RX9 206 yX9_putName, Cond.instanceMethod yX9_putName, Cond.selects RX9 yX9_putName yX9_putName, Cond.code yX9_putName cX9_putName 2 none, Cond.constant RX9 92 (40000), Cond.methodLink RX9 268 yX9_putVariable, Cond.instanceMethod yX9_putVariable, Cond.selects RX9 yX9_putVariable yX9_putVariable, Cond.code yX9_putVariable cX9_putVariable 2 none, Cond.methodLink RX9 197 yX9_putNumber, Cond.instanceMethod yX9_putNumber, Cond.selects RX9 yX9_putNumber yX9_putNumber, Cond.code yX9_putNumber cX9_putNumber 2 none]
def wsX9_word : List Cond := .code yX9_word cX9_word 2 none :: ((wsX9_word_r1 ++ wsX9_word_r2) ++ wsX90)
def wsX9_step_r1 : List Cond := [Cond.fieldLink RX9 13 "MarkedNamesModel" "row" "[I", Cond.fieldLink RX9 104 "MarkedNamesModel" "head" "I", Cond.fieldLink RX9 187 "MarkedNamesModel" "gap" "Z", Cond.fieldLink RX9 178 "MarkedNamesModel" "error" "I", Cond.fieldLink RX9 271 "MarkedNamesModel" "deep" "I", Cond.methodLink RX9 107 yX9_kind, Cond.static yX9_kind, Cond.initialized RX9, Cond.code yX9_kind cX9_kind 2 (some .int), Cond.constant RX9 88 (65536), Cond.methodLink RX9 191 yX9_put, Cond.instanceMethod yX9_put, Cond.selects RX9 yX9_put yX9_put, Cond.code yX9_put cX9_put 2 none, Cond.fieldLink RX9 184 "MarkedNamesModel" "size" "I", Cond.fieldLink RX9 67 "MarkedNamesModel" "text" "[I", Cond.methodLink RX9 163 yX9_fails, Cond.instanceMethod yX9_fails, Cond.selects RX9 yX9_fails yX9_fails, Cond.code yX9_fails cX9_fails 2 none, Cond.methodLink RX9 296 yX9_list, Cond.instanceMethod yX9_list, Cond.selects RX9 yX9_list yX9_list, Cond.code yX9_list cX9_list 3 none]
def wsX9_step_r2 : List Cond := [Cond.fieldLink RX9 16 "MarkedNamesModel" "set" "[I", Cond.fieldLink RX9 37 "MarkedNamesModel" "meaning" "[I", Cond.fieldLink RX9 40 "MarkedNamesModel" "from" "[I", Cond.methodLink RX9 151 yX9_what, Cond.static yX9_what, Cond.code yX9_what cX9_what 2 (some .int), Cond.methodLink RX9 287 yX9_means, Cond.instanceMethod yX9_means, Cond.selects RX9 yX9_means yX9_means, Cond.code yX9_means cX9_means 8 (some .int), Cond.fieldLink RX9 160 "MarkedNamesModel" "bindings" "I", Cond.fieldLink RX9 31 "MarkedNamesModel" "name" "[I", Cond.fieldLink RX9 34 "MarkedNamesModel" "scopes" "[I", Cond.methodLink RX9 290 yX9_form, Cond.instanceMethod yX9_form, Cond.selects RX9 yX9_form yX9_form, Cond.code yX9_form cX9_form 4 none, Cond.methodLink RX9 278 yX9_function, Cond.instanceMethod yX9_function, Cond.selects RX9 yX9_function yX9_function, Cond.code yX9_function cX9_function 9 none, Cond.fieldLink RX9 265 "MarkedNamesModel" "variables" "I", Cond.methodLink RX9 111 yX9_end, Cond.static yX9_end]
def wsX9_step_r3 : List Cond := [Cond.code yX9_end cX9_end 5 (some .int), Cond.methodLink RX9 130 yX9_isPlain, Cond.static yX9_isPlain, Cond.code yX9_isPlain cX9_isPlain 3 (some .boolean), Cond.methodLink RX9 114 yX9_count, Cond.static yX9_count, Cond.code yX9_count cX9_count 5 (some .int), Cond.methodLink RX9 117 yX9_dots, Cond.static yX9_dots, Cond.code yX9_dots cX9_dots 5 (some .int), Cond.methodLink RX9 248 yX9_scope, Cond.instanceMethod yX9_scope, Cond.selects RX9 yX9_scope yX9_scope, Cond.code yX9_scope cX9_scope 1 (some .int), Cond.fieldLink RX9 181 "MarkedNamesModel" "scopesMade" "I", Cond.methodLink RX9 261 yX9_give, Cond.instanceMethod yX9_give, Cond.selects RX9 yX9_give yX9_give, Cond.code yX9_give cX9_give 5 none, Cond.methodLink RX9 167 yX9_bind, Cond.instanceMethod yX9_bind, Cond.selects RX9 yX9_bind yX9_bind, Cond.code yX9_bind cX9_bind 6 none, Cond.fieldLink RX9 43 "MarkedNamesModel" "to" "[I"]
def wsX9_step_r4 : List Cond := [Cond.methodLink RX9 200 yX9_putOpen, Cond.instanceMethod yX9_putOpen, Cond.selects RX9 yX9_putOpen yX9_putOpen, Cond.code yX9_putOpen cX9_putOpen 1 none, Cond.methodLink RX9 194 yX9_space, Cond.instanceMethod yX9_space, Cond.selects RX9 yX9_space yX9_space, Cond.code yX9_space cX9_space 1 none, Cond.methodLink RX9 206 yX9_putName, Cond.instanceMethod yX9_putName, Cond.selects RX9 yX9_putName yX9_putName, Cond.code yX9_putName cX9_putName 2 none, Cond.constant RX9 92 (40000), Cond.methodLink RX9 268 yX9_putVariable, Cond.instanceMethod yX9_putVariable, Cond.selects RX9 yX9_putVariable yX9_putVariable, Cond.code yX9_putVariable cX9_putVariable 2 none, Cond.methodLink RX9 197 yX9_putNumber, Cond.instanceMethod yX9_putNumber, Cond.selects RX9 yX9_putNumber yX9_putNumber, Cond.code yX9_putNumber cX9_putNumber 2 none, Cond.methodLink RX9 203 yX9_putClose, Cond.instanceMethod yX9_putClose, Cond.selects RX9 yX9_putClose yX9_putClose]
def wsX9_step_r5 : List Cond := [Cond.code yX9_putClose cX9_putClose 1 none, Cond.methodLink RX9 281 yX9_local, Cond.instanceMethod yX9_local, Cond.selects RX9 yX9_local yX9_local, Cond.code yX9_local cX9_local 8 none, Cond.fieldLink RX9 274 "MarkedNamesModel" "keptEnd" "I", Cond.constant RX9 277 (458752), Cond.methodLink RX9 145 yX9_keep, Cond.instanceMethod yX9_keep, Cond.selects RX9 yX9_keep yX9_keep, Cond.code yX9_keep cX9_keep 5 (some .int), Cond.fieldLink RX9 19 "MarkedNamesModel" "kept" "[I", Cond.fieldLink RX9 22 "MarkedNamesModel" "keptSet" "[I", Cond.methodLink RX9 148 yX9_areRules, Cond.instanceMethod yX9_areRules, Cond.selects RX9 yX9_areRules yX9_areRules, Cond.code yX9_areRules cX9_areRules 4 (some .boolean), Cond.methodLink RX9 134 yX9_isPattern, Cond.instanceMethod yX9_isPattern, Cond.selects RX9 yX9_isPattern yX9_isPattern, Cond.code yX9_isPattern cX9_isPattern 6 (some .boolean), Cond.methodLink RX9 120 yX9_heldBy, Cond.instanceMethod yX9_heldBy, Cond.selects RX9 yX9_heldBy yX9_heldBy]
def wsX9_step_r6 : List Cond := [Cond.code yX9_heldBy cX9_heldBy 8 (some .int), Cond.methodLink RX9 124 yX9_variable, Cond.instanceMethod yX9_variable, Cond.selects RX9 yX9_variable yX9_variable, Cond.code yX9_variable cX9_variable 6 (some .int), Cond.methodLink RX9 137 yX9_isTemplate, Cond.instanceMethod yX9_isTemplate, Cond.selects RX9 yX9_isTemplate yX9_isTemplate, Cond.code yX9_isTemplate cX9_isTemplate 8 (some .boolean), Cond.methodLink RX9 127 yX9_uses, Cond.instanceMethod yX9_uses, Cond.selects RX9 yX9_uses yX9_uses, Cond.code yX9_uses cX9_uses 6 (some .int), Cond.methodLink RX9 284 yX9_putToken, Cond.instanceMethod yX9_putToken, Cond.selects RX9 yX9_putToken yX9_putToken, Cond.code yX9_putToken cX9_putToken 3 none, Cond.methodLink RX9 293 yX9_use, Cond.instanceMethod yX9_use, Cond.selects RX9 yX9_use yX9_use, Cond.code yX9_use cX9_use 6 none, Cond.fieldLink RX9 245 "MarkedNamesModel" "fuelLeft" "I", Cond.fieldLink RX9 46 "MarkedNamesModel" "made" "[I", Cond.fieldLink RX9 49 "MarkedNamesModel" "madeSet" "[I"]
def wsX9_step_r7 : List Cond := [Cond.fieldLink RX9 216 "MarkedNamesModel" "many" "I", Cond.methodLink RX9 251 yX9_turn, Cond.instanceMethod yX9_turn, Cond.selects RX9 yX9_turn yX9_turn, Cond.code yX9_turn cX9_turn 7 none, Cond.methodLink RX9 255 yX9_matches, Cond.instanceMethod yX9_matches, Cond.selects RX9 yX9_matches yX9_matches, Cond.code yX9_matches cX9_matches 7 (some .boolean), Cond.fieldLink RX9 52 "MarkedNamesModel" "left" "[I", Cond.fieldLink RX9 55 "MarkedNamesModel" "right" "[I", Cond.methodLink RX9 209 yX9_pairs, Cond.instanceMethod yX9_pairs, Cond.selects RX9 yX9_pairs yX9_pairs, Cond.code yX9_pairs cX9_pairs 12 (some .int), Cond.methodLink RX9 258 yX9_fill, Cond.instanceMethod yX9_fill, Cond.selects RX9 yX9_fill yX9_fill, Cond.code yX9_fill cX9_fill 8 none, Cond.fieldLink RX9 213 "MarkedNamesModel" "trees" "I", Cond.fieldLink RX9 219 "MarkedNamesModel" "held" "I", Cond.methodLink RX9 229 yX9_again, Cond.instanceMethod yX9_again, Cond.selects RX9 yX9_again yX9_again]
def wsX9_step_r8 : List Cond := [Cond.code yX9_again cX9_again 2 (some .int), Cond.fieldLink RX9 64 "MarkedNamesModel" "round" "[I", Cond.fieldLink RX9 61 "MarkedNamesModel" "rounds" "[I", Cond.fieldLink RX9 58 "MarkedNamesModel" "begins" "[I", Cond.methodLink RX9 232 yX9_isHeld, Cond.instanceMethod yX9_isHeld, Cond.selects RX9 yX9_isHeld yX9_isHeld, Cond.code yX9_isHeld cX9_isHeld 2 (some .boolean), Cond.methodLink RX9 235 yX9_hold, Cond.instanceMethod yX9_hold, Cond.selects RX9 yX9_hold yX9_hold, Cond.code yX9_hold cX9_hold 6 (some .int), Cond.methodLink RX9 226 yX9_roundsOf, Cond.instanceMethod yX9_roundsOf, Cond.selects RX9 yX9_roundsOf yX9_roundsOf, Cond.code yX9_roundsOf cX9_roundsOf 9 (some .int), Cond.methodLink RX9 222 yX9_walk, Cond.instanceMethod yX9_walk, Cond.selects RX9 yX9_walk yX9_walk, Cond.code yX9_walk cX9_walk 13 (some .int), Cond.methodLink RX9 238 yX9_add, Cond.instanceMethod yX9_add, Cond.selects RX9 yX9_add yX9_add, Cond.code yX9_add cX9_add 4 none]
def wsX9_step_r9 : List Cond := [Cond.methodLink RX9 242 yX9_bring, Cond.instanceMethod yX9_bring, Cond.selects RX9 yX9_bring yX9_bring, Cond.code yX9_bring cX9_bring 4 none, Cond.methodLink RX9 299 yX9_word, Cond.instanceMethod yX9_word, Cond.selects RX9 yX9_word yX9_word, Cond.code yX9_word cX9_word 2 none]
def wsX9_step : List Cond := .code yX9_step cX9_step 2 none :: ((wsX9_step_r1 ++ (wsX9_step_r2 ++ (wsX9_step_r3 ++ (wsX9_step_r4 ++ (wsX9_step_r5 ++ (wsX9_step_r6 ++ (wsX9_step_r7 ++ (wsX9_step_r8 ++ wsX9_step_r9)))))))) ++ wsX90)
def wsX9_expand_r1 : List Cond := [Cond.fieldLink RX9 70 "MarkedNamesModel" "length" "I", Cond.fieldLink RX9 184 "MarkedNamesModel" "size" "I", Cond.fieldLink RX9 187 "MarkedNamesModel" "gap" "Z", Cond.fieldLink RX9 271 "MarkedNamesModel" "deep" "I", Cond.fieldLink RX9 178 "MarkedNamesModel" "error" "I", Cond.fieldLink RX9 181 "MarkedNamesModel" "scopesMade" "I", Cond.fieldLink RX9 265 "MarkedNamesModel" "variables" "I", Cond.fieldLink RX9 245 "MarkedNamesModel" "fuelLeft" "I", Cond.fieldLink RX9 274 "MarkedNamesModel" "keptEnd" "I", Cond.fieldLink RX9 104 "MarkedNamesModel" "head" "I", Cond.methodLink RX9 141 yX9_read, Cond.instanceMethod yX9_read, Cond.selects RX9 yX9_read yX9_read, Cond.initialized RX9, Cond.code yX9_read cX9_read 8 (some .int), Cond.constant RX9 88 (65536), Cond.fieldLink RX9 13 "MarkedNamesModel" "row" "[I", Cond.fieldLink RX9 16 "MarkedNamesModel" "set" "[I", Cond.methodLink RX9 74 yX9_look, Cond.instanceMethod yX9_look, Cond.selects RX9 yX9_look yX9_look, Cond.code yX9_look cX9_look 2 (some .int), Cond.fieldLink RX9 7 "MarkedNamesModel" "typed" "[I", Cond.methodLink RX9 93 yX9_token]
def wsX9_expand_r2 : List Cond := [Cond.instanceMethod yX9_token, Cond.selects RX9 yX9_token yX9_token, Cond.code yX9_token cX9_token 3 (some .int), Cond.methodLink RX9 78 yX9_isLetter, Cond.static yX9_isLetter, Cond.code yX9_isLetter cX9_isLetter 1 (some .boolean), Cond.methodLink RX9 85 yX9_run, Cond.instanceMethod yX9_run, Cond.selects RX9 yX9_run yX9_run, Cond.code yX9_run cX9_run 4 (some .int), Cond.methodLink RX9 82 yX9_isDigit, Cond.static yX9_isDigit, Cond.code yX9_isDigit cX9_isDigit 1 (some .boolean), Cond.methodLink RX9 96 yX9_code, Cond.instanceMethod yX9_code, Cond.selects RX9 yX9_code yX9_code, Cond.code yX9_code cX9_code 6 (some .int), Cond.constant RX9 89 (131072), Cond.constant RX9 90 (327680), Cond.constant RX9 91 (393216), Cond.constant RX9 92 (40000), Cond.methodLink RX9 100 yX9_fits, Cond.static yX9_fits, Cond.code yX9_fits cX9_fits 4 (some .boolean)]
def wsX9_expand_r3 : List Cond := [Cond.methodLink RX9 302 yX9_beginning, Cond.instanceMethod yX9_beginning, Cond.selects RX9 yX9_beginning yX9_beginning, Cond.code yX9_beginning cX9_beginning 2 none, Cond.fieldLink RX9 160 "MarkedNamesModel" "bindings" "I", Cond.constant RX9 171 (40043), Cond.constant RX9 172 (40042), Cond.constant RX9 173 (40061), Cond.constant RX9 174 (40060), Cond.fieldLink RX9 157 "MarkedNamesModel" "own" "I", Cond.fieldLink RX9 25 "MarkedNamesModel" "ownName" "[I", Cond.fieldLink RX9 28 "MarkedNamesModel" "ownEnd" "[I", Cond.fieldLink RX9 175 "MarkedNamesModel" "atFirst" "I", Cond.methodLink RX9 167 yX9_bind, Cond.instanceMethod yX9_bind, Cond.selects RX9 yX9_bind yX9_bind, Cond.code yX9_bind cX9_bind 6 none, Cond.fieldLink RX9 31 "MarkedNamesModel" "name" "[I", Cond.fieldLink RX9 34 "MarkedNamesModel" "scopes" "[I", Cond.fieldLink RX9 37 "MarkedNamesModel" "meaning" "[I", Cond.fieldLink RX9 40 "MarkedNamesModel" "from" "[I", Cond.fieldLink RX9 43 "MarkedNamesModel" "to" "[I", Cond.methodLink RX9 163 yX9_fails, Cond.instanceMethod yX9_fails]
def wsX9_expand_r4 : List Cond := [Cond.selects RX9 yX9_fails yX9_fails, Cond.code yX9_fails cX9_fails 2 none, Cond.methodLink RX9 305 yX9_step, Cond.instanceMethod yX9_step, Cond.selects RX9 yX9_step yX9_step, Cond.code yX9_step cX9_step 2 none, Cond.methodLink RX9 107 yX9_kind, Cond.static yX9_kind, Cond.code yX9_kind cX9_kind 2 (some .int), Cond.methodLink RX9 191 yX9_put, Cond.instanceMethod yX9_put, Cond.selects RX9 yX9_put yX9_put, Cond.code yX9_put cX9_put 2 none, Cond.fieldLink RX9 67 "MarkedNamesModel" "text" "[I", Cond.methodLink RX9 296 yX9_list, Cond.instanceMethod yX9_list, Cond.selects RX9 yX9_list yX9_list, Cond.code yX9_list cX9_list 3 none, Cond.methodLink RX9 151 yX9_what, Cond.static yX9_what, Cond.code yX9_what cX9_what 2 (some .int), Cond.methodLink RX9 287 yX9_means, Cond.instanceMethod yX9_means, Cond.selects RX9 yX9_means yX9_means]
def wsX9_expand_r5 : List Cond := [Cond.code yX9_means cX9_means 8 (some .int), Cond.methodLink RX9 290 yX9_form, Cond.instanceMethod yX9_form, Cond.selects RX9 yX9_form yX9_form, Cond.code yX9_form cX9_form 4 none, Cond.methodLink RX9 278 yX9_function, Cond.instanceMethod yX9_function, Cond.selects RX9 yX9_function yX9_function, Cond.code yX9_function cX9_function 9 none, Cond.methodLink RX9 111 yX9_end, Cond.static yX9_end, Cond.code yX9_end cX9_end 5 (some .int), Cond.methodLink RX9 130 yX9_isPlain, Cond.static yX9_isPlain, Cond.code yX9_isPlain cX9_isPlain 3 (some .boolean), Cond.methodLink RX9 114 yX9_count, Cond.static yX9_count, Cond.code yX9_count cX9_count 5 (some .int), Cond.methodLink RX9 117 yX9_dots, Cond.static yX9_dots, Cond.code yX9_dots cX9_dots 5 (some .int), Cond.methodLink RX9 248 yX9_scope, Cond.instanceMethod yX9_scope, Cond.selects RX9 yX9_scope yX9_scope]
def wsX9_expand_r6 : List Cond := [Cond.code yX9_scope cX9_scope 1 (some .int), Cond.methodLink RX9 261 yX9_give, Cond.instanceMethod yX9_give, Cond.selects RX9 yX9_give yX9_give, Cond.code yX9_give cX9_give 5 none, Cond.methodLink RX9 200 yX9_putOpen, Cond.instanceMethod yX9_putOpen, Cond.selects RX9 yX9_putOpen yX9_putOpen, Cond.code yX9_putOpen cX9_putOpen 1 none, Cond.methodLink RX9 194 yX9_space, Cond.instanceMethod yX9_space, Cond.selects RX9 yX9_space yX9_space, Cond.code yX9_space cX9_space 1 none, Cond.methodLink RX9 206 yX9_putName, Cond.instanceMethod yX9_putName, Cond.selects RX9 yX9_putName yX9_putName, Cond.code yX9_putName cX9_putName 2 none, Cond.methodLink RX9 268 yX9_putVariable, Cond.instanceMethod yX9_putVariable, Cond.selects RX9 yX9_putVariable yX9_putVariable, Cond.code yX9_putVariable cX9_putVariable 2 none, Cond.methodLink RX9 197 yX9_putNumber, Cond.instanceMethod yX9_putNumber, Cond.selects RX9 yX9_putNumber yX9_putNumber]
def wsX9_expand_r7 : List Cond := [Cond.code yX9_putNumber cX9_putNumber 2 none, Cond.methodLink RX9 203 yX9_putClose, Cond.instanceMethod yX9_putClose, Cond.selects RX9 yX9_putClose yX9_putClose, Cond.code yX9_putClose cX9_putClose 1 none, Cond.methodLink RX9 281 yX9_local, Cond.instanceMethod yX9_local, Cond.selects RX9 yX9_local yX9_local, Cond.code yX9_local cX9_local 8 none, Cond.constant RX9 277 (458752), Cond.methodLink RX9 145 yX9_keep, Cond.instanceMethod yX9_keep, Cond.selects RX9 yX9_keep yX9_keep, Cond.code yX9_keep cX9_keep 5 (some .int), Cond.fieldLink RX9 19 "MarkedNamesModel" "kept" "[I", Cond.fieldLink RX9 22 "MarkedNamesModel" "keptSet" "[I", Cond.methodLink RX9 148 yX9_areRules, Cond.instanceMethod yX9_areRules, Cond.selects RX9 yX9_areRules yX9_areRules, Cond.code yX9_areRules cX9_areRules 4 (some .boolean), Cond.methodLink RX9 134 yX9_isPattern, Cond.instanceMethod yX9_isPattern, Cond.selects RX9 yX9_isPattern yX9_isPattern, Cond.code yX9_isPattern cX9_isPattern 6 (some .boolean)]
def wsX9_expand_r8 : List Cond := [Cond.methodLink RX9 120 yX9_heldBy, Cond.instanceMethod yX9_heldBy, Cond.selects RX9 yX9_heldBy yX9_heldBy, Cond.code yX9_heldBy cX9_heldBy 8 (some .int), Cond.methodLink RX9 124 yX9_variable, Cond.instanceMethod yX9_variable, Cond.selects RX9 yX9_variable yX9_variable, Cond.code yX9_variable cX9_variable 6 (some .int), Cond.methodLink RX9 137 yX9_isTemplate, Cond.instanceMethod yX9_isTemplate, Cond.selects RX9 yX9_isTemplate yX9_isTemplate, Cond.code yX9_isTemplate cX9_isTemplate 8 (some .boolean), Cond.methodLink RX9 127 yX9_uses, Cond.instanceMethod yX9_uses, Cond.selects RX9 yX9_uses yX9_uses, Cond.code yX9_uses cX9_uses 6 (some .int), Cond.methodLink RX9 284 yX9_putToken, Cond.instanceMethod yX9_putToken, Cond.selects RX9 yX9_putToken yX9_putToken, Cond.code yX9_putToken cX9_putToken 3 none, Cond.methodLink RX9 293 yX9_use, Cond.instanceMethod yX9_use, Cond.selects RX9 yX9_use yX9_use, Cond.code yX9_use cX9_use 6 none]
def wsX9_expand_r9 : List Cond := [Cond.fieldLink RX9 46 "MarkedNamesModel" "made" "[I", Cond.fieldLink RX9 49 "MarkedNamesModel" "madeSet" "[I", Cond.fieldLink RX9 216 "MarkedNamesModel" "many" "I", Cond.methodLink RX9 251 yX9_turn, Cond.instanceMethod yX9_turn, Cond.selects RX9 yX9_turn yX9_turn, Cond.code yX9_turn cX9_turn 7 none, Cond.methodLink RX9 255 yX9_matches, Cond.instanceMethod yX9_matches, Cond.selects RX9 yX9_matches yX9_matches, Cond.code yX9_matches cX9_matches 7 (some .boolean), Cond.fieldLink RX9 52 "MarkedNamesModel" "left" "[I", Cond.fieldLink RX9 55 "MarkedNamesModel" "right" "[I", Cond.methodLink RX9 209 yX9_pairs, Cond.instanceMethod yX9_pairs, Cond.selects RX9 yX9_pairs yX9_pairs, Cond.code yX9_pairs cX9_pairs 12 (some .int), Cond.methodLink RX9 258 yX9_fill, Cond.instanceMethod yX9_fill, Cond.selects RX9 yX9_fill yX9_fill, Cond.code yX9_fill cX9_fill 8 none, Cond.fieldLink RX9 213 "MarkedNamesModel" "trees" "I", Cond.fieldLink RX9 219 "MarkedNamesModel" "held" "I", Cond.methodLink RX9 229 yX9_again]
def wsX9_expand_r10 : List Cond := [Cond.instanceMethod yX9_again, Cond.selects RX9 yX9_again yX9_again, Cond.code yX9_again cX9_again 2 (some .int), Cond.fieldLink RX9 64 "MarkedNamesModel" "round" "[I", Cond.fieldLink RX9 61 "MarkedNamesModel" "rounds" "[I", Cond.fieldLink RX9 58 "MarkedNamesModel" "begins" "[I", Cond.methodLink RX9 232 yX9_isHeld, Cond.instanceMethod yX9_isHeld, Cond.selects RX9 yX9_isHeld yX9_isHeld, Cond.code yX9_isHeld cX9_isHeld 2 (some .boolean), Cond.methodLink RX9 235 yX9_hold, Cond.instanceMethod yX9_hold, Cond.selects RX9 yX9_hold yX9_hold, Cond.code yX9_hold cX9_hold 6 (some .int), Cond.methodLink RX9 226 yX9_roundsOf, Cond.instanceMethod yX9_roundsOf, Cond.selects RX9 yX9_roundsOf yX9_roundsOf, Cond.code yX9_roundsOf cX9_roundsOf 9 (some .int), Cond.methodLink RX9 222 yX9_walk, Cond.instanceMethod yX9_walk, Cond.selects RX9 yX9_walk yX9_walk, Cond.code yX9_walk cX9_walk 13 (some .int), Cond.methodLink RX9 238 yX9_add, Cond.instanceMethod yX9_add]
def wsX9_expand_r11 : List Cond := [Cond.selects RX9 yX9_add yX9_add, Cond.code yX9_add cX9_add 4 none, Cond.methodLink RX9 242 yX9_bring, Cond.instanceMethod yX9_bring, Cond.selects RX9 yX9_bring yX9_bring, Cond.code yX9_bring cX9_bring 4 none, Cond.methodLink RX9 299 yX9_word, Cond.instanceMethod yX9_word, Cond.selects RX9 yX9_word yX9_word, Cond.code yX9_word cX9_word 2 none]
def wsX9_expand : List Cond := .code yX9_expand cX9_expand 3 (some .int) :: ((wsX9_expand_r1 ++ (wsX9_expand_r2 ++ (wsX9_expand_r3 ++ (wsX9_expand_r4 ++ (wsX9_expand_r5 ++ (wsX9_expand_r6 ++ (wsX9_expand_r7 ++ (wsX9_expand_r8 ++ (wsX9_expand_r9 ++ (wsX9_expand_r10 ++ wsX9_expand_r11)))))))))) ++ wsX90)
def wsX9_at : List Cond := .code yX9_at cX9_at 2 (some .int) :: ([.fieldLink RX9 184 "MarkedNamesModel" "size" "I", .fieldLink RX9 67 "MarkedNamesModel" "text" "[I"] ++ wsX90)
def wsX9_count_ : List Cond := .code yX9_count_ cX9_count_ 2 (some .int) :: ([.fieldLink RX9 181 "MarkedNamesModel" "scopesMade" "I", .fieldLink RX9 160 "MarkedNamesModel" "bindings" "I", .fieldLink RX9 175 "MarkedNamesModel" "atFirst" "I", .fieldLink RX9 265 "MarkedNamesModel" "variables" "I", .fieldLink RX9 245 "MarkedNamesModel" "fuelLeft" "I"] ++ wsX90)
def wsJ9_max_7cf53 : List Cond := .code yJ9_max_7cf53 cJ9_max_7cf53 2 (some .int) :: ([])
def wsJ9_min_7cf53 : List Cond := .code yJ9_min_7cf53 cJ9_min_7cf53 2 (some .int) :: ([])
def wsL_law_r1 : List Cond := [Cond.classLink RL 7 RX8, Cond.instantiable RX8 8, Cond.initialized RX8, Cond.classLink RL 10 RX9, Cond.instantiable RX9 36, Cond.initialized RX9, Cond.methodLink RL 9 yX8_init, Cond.instanceMethod yX8_init, Cond.code yX8_init cX8_init 1 none, Cond.methodLink RX8 3 objectInit, Cond.instanceMethod objectInit, Cond.code objectInit ⟨#[0xb1]⟩ 1 none, Cond.arrayClass .int, Cond.fieldLink RX8 9 "MarkedNames" "typed" "[I", Cond.classLink RX8 13 RX5, Cond.instantiable RX5 6, Cond.initialized RX5, Cond.fieldLink RX8 16 "MarkedNames" "row" "LMarkedNames$Row;", Cond.classLink RX8 20 RX3, Cond.instantiable RX3 2, Cond.initialized RX3, Cond.fieldLink RX8 25 "MarkedNames" "reader" "LMarkedNames$Reader;", Cond.classLink RX8 29 RX6, Cond.instantiable RX6 1]
def wsL_law_r2 : List Cond := [Cond.initialized RX6, Cond.fieldLink RX8 32 "MarkedNames" "check" "LMarkedNames$RuleCheck;", Cond.classLink RX8 36 RX7, Cond.instantiable RX7 6, Cond.initialized RX7, Cond.fieldLink RX8 39 "MarkedNames" "table" "LMarkedNames$Table;", Cond.classLink RX8 43 RX2, Cond.instantiable RX2 3, Cond.initialized RX2, Cond.fieldLink RX8 46 "MarkedNames" "outcome" "LMarkedNames$Outcome;", Cond.classLink RX8 50 RX0, Cond.instantiable RX0 9, Cond.initialized RX0, Cond.fieldLink RX8 55 "MarkedNames" "expander" "LMarkedNames$Expander;", Cond.instanceMethod yX5_init, Cond.code yX5_init cX5_init 1 none, Cond.methodLink RX5 3 objectInit, Cond.fieldLink RX5 9 "MarkedNames$Row" "word" "[I", Cond.fieldLink RX5 15 "MarkedNames$Row" "marks" "[I", Cond.fieldLink RX5 18 "MarkedNames$Row" "size" "[I", Cond.fieldLink RX5 21 "MarkedNames$Row" "use" "[I", Cond.fieldLink RX5 24 "MarkedNames$Row" "top" "I", Cond.fieldLink RX5 28 "MarkedNames$Row" "open" "I", Cond.methodLink RX8 22 yX3_init]
def wsL_law_r3 : List Cond := [Cond.instanceMethod yX3_init, Cond.code yX3_init cX3_init 2 none, Cond.methodLink RX3 3 objectInit, Cond.fieldLink RX3 9 "MarkedNames$Reader" "row" "LMarkedNames$Row;", Cond.methodLink RX8 31 yX6_init, Cond.instanceMethod yX6_init, Cond.code yX6_init cX6_init 2 none, Cond.methodLink RX6 3 objectInit, Cond.fieldLink RX6 9 "MarkedNames$RuleCheck" "row" "LMarkedNames$Row;", Cond.methodLink RX8 38 yX7_init, Cond.instanceMethod yX7_init, Cond.code yX7_init cX7_init 2 none, Cond.methodLink RX7 3 objectInit, Cond.fieldLink RX7 9 "MarkedNames$Table" "name" "[I", Cond.fieldLink RX7 15 "MarkedNames$Table" "marks" "[I", Cond.fieldLink RX7 18 "MarkedNames$Table" "kind" "[I", Cond.fieldLink RX7 21 "MarkedNames$Table" "value" "[I", Cond.methodLink RX7 27 Lib.Math.min.name, Cond.static Lib.Math.min.name, Cond.initialized "java/lang/Math", Cond.code Lib.Math.min.name Lib.Math.min.code 2 (some .int), Cond.fieldLink RX7 33 "MarkedNames$Table" "length" "I", Cond.instanceMethod yX2_init, Cond.code yX2_init cX2_init 1 none]
def wsL_law_r4 : List Cond := [Cond.methodLink RX2 3 objectInit, Cond.fieldLink RX2 9 "MarkedNames$Outcome" "text" "[I", Cond.methodLink RX8 52 yX0_init, Cond.instanceMethod yX0_init, Cond.code yX0_init cX0_init 5 none, Cond.methodLink RX0 3 objectInit, Cond.fieldLink RX0 9 "MarkedNames$Expander" "row" "LMarkedNames$Row;", Cond.fieldLink RX0 15 "MarkedNames$Expander" "check" "LMarkedNames$RuleCheck;", Cond.fieldLink RX0 19 "MarkedNames$Expander" "table" "LMarkedNames$Table;", Cond.fieldLink RX0 23 "MarkedNames$Expander" "outcome" "LMarkedNames$Outcome;", Cond.classLink RX0 27 RX1, Cond.instantiable RX1 6, Cond.initialized RX1, Cond.fieldLink RX0 32 "MarkedNames$Expander" "filler" "LMarkedNames$Filler;", Cond.methodLink RX0 29 yX1_init, Cond.instanceMethod yX1_init, Cond.code yX1_init cX1_init 3 none, Cond.methodLink RX1 3 objectInit, Cond.classLink RX1 9 RX4, Cond.instantiable RX4 4, Cond.initialized RX4, Cond.fieldLink RX1 12 "MarkedNames$Filler" "rounds" "LMarkedNames$Rounds;", Cond.fieldLink RX1 18 "MarkedNames$Filler" "row" "LMarkedNames$Row;", Cond.fieldLink RX1 22 "MarkedNames$Filler" "outcome" "LMarkedNames$Outcome;"]
def wsL_law_r5 : List Cond := [Cond.instanceMethod yX4_init, Cond.code yX4_init cX4_init 1 none, Cond.methodLink RX4 3 objectInit, Cond.fieldLink RX4 9 "MarkedNames$Rounds" "held" "[I", Cond.fieldLink RX4 15 "MarkedNames$Rounds" "round" "[I", Cond.fieldLink RX4 18 "MarkedNames$Rounds" "rounds" "[I", Cond.methodLink RL 12 yX9_init, Cond.instanceMethod yX9_init, Cond.code yX9_init cX9_init 1 none, Cond.methodLink RX9 1 objectInit, Cond.fieldLink RX9 7 "MarkedNamesModel" "typed" "[I", Cond.fieldLink RX9 13 "MarkedNamesModel" "row" "[I", Cond.fieldLink RX9 16 "MarkedNamesModel" "set" "[I", Cond.fieldLink RX9 19 "MarkedNamesModel" "kept" "[I", Cond.fieldLink RX9 22 "MarkedNamesModel" "keptSet" "[I", Cond.fieldLink RX9 25 "MarkedNamesModel" "ownName" "[I", Cond.fieldLink RX9 28 "MarkedNamesModel" "ownEnd" "[I", Cond.fieldLink RX9 31 "MarkedNamesModel" "name" "[I", Cond.fieldLink RX9 34 "MarkedNamesModel" "scopes" "[I", Cond.fieldLink RX9 37 "MarkedNamesModel" "meaning" "[I", Cond.fieldLink RX9 40 "MarkedNamesModel" "from" "[I", Cond.fieldLink RX9 43 "MarkedNamesModel" "to" "[I", Cond.fieldLink RX9 46 "MarkedNamesModel" "made" "[I", Cond.fieldLink RX9 49 "MarkedNamesModel" "madeSet" "[I"]
def wsL_law_r6 : List Cond := [Cond.fieldLink RX9 52 "MarkedNamesModel" "left" "[I", Cond.fieldLink RX9 55 "MarkedNamesModel" "right" "[I", Cond.fieldLink RX9 58 "MarkedNamesModel" "begins" "[I", Cond.fieldLink RX9 61 "MarkedNamesModel" "rounds" "[I", Cond.fieldLink RX9 64 "MarkedNamesModel" "round" "[I", Cond.fieldLink RX9 67 "MarkedNamesModel" "text" "[I", Cond.methodLink RL 13 yX8_type, Cond.instanceMethod yX8_type, Cond.selects RX8 yX8_type yX8_type, Cond.code yX8_type cX8_type 5 (some .boolean), Cond.fieldLink RX8 59 "MarkedNames" "typedLength" "I", Cond.methodLink RX8 63 yX8_appendTyped, Cond.instanceMethod yX8_appendTyped, Cond.selects RX8 yX8_appendTyped yX8_appendTyped, Cond.code yX8_appendTyped cX8_appendTyped 2 none, Cond.methodLink RL 17 yX9_type, Cond.instanceMethod yX9_type, Cond.selects RX9 yX9_type yX9_type, Cond.code yX9_type cX9_type 5 (some .boolean), Cond.fieldLink RX9 70 "MarkedNamesModel" "length" "I", Cond.methodLink RL 18 yX8_rules, Cond.instanceMethod yX8_rules, Cond.selects RX8 yX8_rules yX8_rules, Cond.code yX8_rules cX8_rules 4 (some .int)]
def wsL_law_r7 : List Cond := [Cond.methodLink RX8 67 yX8_takeTyped, Cond.instanceMethod yX8_takeTyped, Cond.selects RX8 yX8_takeTyped yX8_takeTyped, Cond.code yX8_takeTyped cX8_takeTyped 2 (some .int), Cond.methodLink RX8 124 yX3_read, Cond.instanceMethod yX3_read, Cond.selects RX3 yX3_read yX3_read, Cond.code yX3_read cX3_read 7 (some .int), Cond.fieldLink RX3 20 "MarkedNames$Reader" "depth" "I", Cond.methodLink RX3 24 Lib.Math.min.name, Cond.constant RX3 30 (1000000), Cond.methodLink RX3 15 yX5_restart, Cond.instanceMethod yX5_restart, Cond.selects RX5 yX5_restart yX5_restart, Cond.code yX5_restart cX5_restart 1 none, Cond.methodLink RX3 31 yX3_readToken, Cond.instanceMethod yX3_readToken, Cond.selects RX3 yX3_readToken yX3_readToken, Cond.code yX3_readToken cX3_readToken 5 (some .int), Cond.methodLink RX3 35 yX3_isWhole, Cond.instanceMethod yX3_isWhole, Cond.selects RX3 yX3_isWhole yX3_isWhole, Cond.code yX3_isWhole cX3_isWhole 1 (some .boolean), Cond.methodLink RX3 42 yX3_runLength]
def wsL_law_r8 : List Cond := [Cond.static yX3_runLength, Cond.code yX3_runLength cX3_runLength 7 (some .int), Cond.methodLink RX3 46 yX3_readName, Cond.instanceMethod yX3_readName, Cond.selects RX3 yX3_readName yX3_readName, Cond.code yX3_readName cX3_readName 6 (some .int), Cond.methodLink RX3 63 yX5_add, Cond.instanceMethod yX5_add, Cond.selects RX5 yX5_add yX5_add, Cond.code yX5_add cX5_add 3 none, Cond.methodLink RX5 31 yX5_closeBracket, Cond.instanceMethod yX5_closeBracket, Cond.selects RX5 yX5_closeBracket yX5_closeBracket, Cond.code yX5_closeBracket cX5_closeBracket 2 none, Cond.methodLink RX3 49 yX3_readNumber, Cond.instanceMethod yX3_readNumber, Cond.selects RX3 yX3_readNumber yX3_readNumber, Cond.code yX3_readNumber cX3_readNumber 6 (some .int), Cond.methodLink RX3 52 yX3_readOpen, Cond.instanceMethod yX3_readOpen, Cond.selects RX3 yX3_readOpen yX3_readOpen, Cond.code yX3_readOpen cX3_readOpen 1 (some .int), Cond.methodLink RX3 56 yX3_readClose, Cond.instanceMethod yX3_readClose]
def wsL_law_r9 : List Cond := [Cond.selects RX3 yX3_readClose yX3_readClose, Cond.code yX3_readClose cX3_readClose 1 (some .int), Cond.methodLink RX3 59 yX3_readDots, Cond.instanceMethod yX3_readDots, Cond.selects RX3 yX3_readDots yX3_readDots, Cond.code yX3_readDots cX3_readDots 3 (some .int), Cond.methodLink RX3 67 yX5_wordAt, Cond.instanceMethod yX5_wordAt, Cond.selects RX5 yX5_wordAt yX5_wordAt, Cond.code yX5_wordAt cX5_wordAt 2 (some .int), Cond.methodLink RX8 71 yX6_isNameWithRules, Cond.instanceMethod yX6_isNameWithRules, Cond.selects RX6 yX6_isNameWithRules yX6_isNameWithRules, Cond.code yX6_isNameWithRules cX6_isNameWithRules 5 (some .boolean), Cond.methodLink RX6 15 yX5_plainLength, Cond.instanceMethod yX5_plainLength, Cond.selects RX5 yX5_plainLength yX5_plainLength, Cond.code yX5_plainLength cX5_plainLength 2 (some .int), Cond.methodLink RX5 34 yX5_wordAt, Cond.methodLink RX5 38 yX5_hasDots, Cond.instanceMethod yX5_hasDots, Cond.selects RX5 yX5_hasDots yX5_hasDots, Cond.code yX5_hasDots cX5_hasDots 4 (some .boolean), Cond.methodLink RX5 42 yX5_itemsFrom]
def wsL_law_r10 : List Cond := [Cond.instanceMethod yX5_itemsFrom, Cond.selects RX5 yX5_itemsFrom yX5_itemsFrom, Cond.code yX5_itemsFrom cX5_itemsFrom 5 (some .int), Cond.methodLink RX6 21 yX5_wordAt, Cond.static yX8_isName, Cond.code yX8_isName cX8_isName 1 (some .boolean), Cond.methodLink RX6 28 yX6_isRule, Cond.instanceMethod yX6_isRule, Cond.selects RX6 yX6_isRule yX6_isRule, Cond.code yX6_isRule cX6_isRule 4 (some .boolean), Cond.methodLink RX6 31 yX5_after, Cond.instanceMethod yX5_after, Cond.selects RX5 yX5_after yX5_after, Cond.code yX5_after cX5_after 2 (some .int), Cond.methodLink RX6 34 yX6_isPattern, Cond.instanceMethod yX6_isPattern, Cond.selects RX6 yX6_isPattern yX6_isPattern, Cond.code yX6_isPattern cX6_isPattern 7 (some .boolean), Cond.methodLink RX6 45 yX5_isHeld, Cond.instanceMethod yX5_isHeld, Cond.selects RX5 yX5_isHeld yX5_isHeld, Cond.code yX5_isHeld cX5_isHeld 3 (some .boolean), Cond.static yX8_isTree, Cond.code yX8_isTree cX8_isTree 1 (some .boolean)]
def wsL_law_r11 : List Cond := [Cond.methodLink RX6 51 yX5_holders, Cond.instanceMethod yX5_holders, Cond.selects RX5 yX5_holders yX5_holders, Cond.code yX5_holders cX5_holders 6 (some .int), Cond.methodLink RX6 55 yX5_findName, Cond.instanceMethod yX5_findName, Cond.selects RX5 yX5_findName yX5_findName, Cond.code yX5_findName cX5_findName 5 (some .int), Cond.methodLink RX6 37 yX6_linkUses, Cond.instanceMethod yX6_linkUses, Cond.selects RX6 yX6_linkUses yX6_linkUses, Cond.code yX6_linkUses cX6_linkUses 6 none, Cond.methodLink RX6 59 yX5_setVariable, Cond.instanceMethod yX5_setVariable, Cond.selects RX5 yX5_setVariable yX5_setVariable, Cond.code yX5_setVariable cX5_setVariable 3 none, Cond.methodLink RX6 41 yX6_isTemplate, Cond.instanceMethod yX6_isTemplate, Cond.selects RX6 yX6_isTemplate yX6_isTemplate, Cond.code yX6_isTemplate cX6_isTemplate 6 (some .boolean), Cond.methodLink RX6 62 yX5_variableAt, Cond.instanceMethod yX5_variableAt, Cond.selects RX5 yX5_variableAt yX5_variableAt, Cond.code yX5_variableAt cX5_variableAt 2 (some .int)]
def wsL_law_r12 : List Cond := [Cond.methodLink RX6 65 yX5_hasUse, Cond.instanceMethod yX5_hasUse, Cond.selects RX5 yX5_hasUse yX5_hasUse, Cond.code yX5_hasUse cX5_hasUse 3 (some .boolean), Cond.methodLink RX8 75 yX5_wordAt, Cond.methodLink RX8 79 yX7_ownSlot, Cond.instanceMethod yX7_ownSlot, Cond.selects RX7 yX7_ownSlot yX7_ownSlot, Cond.code yX7_ownSlot cX7_ownSlot 4 (some .int), Cond.fieldLink RX7 37 "MarkedNames$Table" "ownNames" "I", Cond.methodLink RX8 82 yX5_keep, Cond.instanceMethod yX5_keep, Cond.selects RX5 yX5_keep yX5_keep, Cond.code yX5_keep cX5_keep 5 (some .int), Cond.methodLink RX5 51 arraycopyName, Cond.native arraycopyName, Cond.static arraycopyName, Cond.initialized "java/lang/System", Cond.methodLink RX5 45 yX5_after, Cond.methodLink RX8 86 yX7_bindOwn, Cond.instanceMethod yX7_bindOwn, Cond.selects RX7 yX7_bindOwn yX7_bindOwn, Cond.code yX7_bindOwn cX7_bindOwn 4 none, Cond.methodLink RX7 40 Lib.Math.max.name]
def wsL_law_r13 : List Cond := [Cond.static Lib.Math.max.name, Cond.code Lib.Math.max.name Lib.Math.max.code 2 (some .int), Cond.methodLink RX7 43 yX7_bind, Cond.instanceMethod yX7_bind, Cond.selects RX7 yX7_bind yX7_bind, Cond.code yX7_bind cX7_bind 5 (some .boolean), Cond.methodLink RX7 47 yX7_forgetExpansion, Cond.instanceMethod yX7_forgetExpansion, Cond.selects RX7 yX7_forgetExpansion yX7_forgetExpansion, Cond.code yX7_forgetExpansion cX7_forgetExpansion 1 none, Cond.methodLink RL 22 yX9_rules, Cond.instanceMethod yX9_rules, Cond.selects RX9 yX9_rules yX9_rules, Cond.code yX9_rules cX9_rules 5 (some .int), Cond.fieldLink RX9 104 "MarkedNamesModel" "head" "I", Cond.constant RX9 92 (40000), Cond.fieldLink RX9 157 "MarkedNamesModel" "own" "I", Cond.methodLink RX9 141 yX9_read, Cond.instanceMethod yX9_read, Cond.selects RX9 yX9_read yX9_read, Cond.code yX9_read cX9_read 8 (some .int), Cond.constant RX9 88 (65536), Cond.methodLink RX9 74 yX9_look, Cond.instanceMethod yX9_look]
def wsL_law_r14 : List Cond := [Cond.selects RX9 yX9_look yX9_look, Cond.code yX9_look cX9_look 2 (some .int), Cond.methodLink RX9 93 yX9_token, Cond.instanceMethod yX9_token, Cond.selects RX9 yX9_token yX9_token, Cond.code yX9_token cX9_token 3 (some .int), Cond.methodLink RX9 78 yX9_isLetter, Cond.static yX9_isLetter, Cond.code yX9_isLetter cX9_isLetter 1 (some .boolean), Cond.methodLink RX9 85 yX9_run, Cond.instanceMethod yX9_run, Cond.selects RX9 yX9_run yX9_run, Cond.code yX9_run cX9_run 4 (some .int), Cond.methodLink RX9 82 yX9_isDigit, Cond.static yX9_isDigit, Cond.code yX9_isDigit cX9_isDigit 1 (some .boolean), Cond.methodLink RX9 96 yX9_code, Cond.instanceMethod yX9_code, Cond.selects RX9 yX9_code yX9_code, Cond.code yX9_code cX9_code 6 (some .int), Cond.constant RX9 89 (131072), Cond.constant RX9 90 (327680), Cond.constant RX9 91 (393216), Cond.methodLink RX9 100 yX9_fits]
def wsL_law_r15 : List Cond := [Cond.static yX9_fits, Cond.code yX9_fits cX9_fits 4 (some .boolean), Cond.methodLink RX9 107 yX9_kind, Cond.static yX9_kind, Cond.code yX9_kind cX9_kind 2 (some .int), Cond.methodLink RX9 117 yX9_dots, Cond.static yX9_dots, Cond.code yX9_dots cX9_dots 5 (some .int), Cond.methodLink RX9 111 yX9_end, Cond.static yX9_end, Cond.code yX9_end cX9_end 5 (some .int), Cond.methodLink RX9 145 yX9_keep, Cond.instanceMethod yX9_keep, Cond.selects RX9 yX9_keep yX9_keep, Cond.code yX9_keep cX9_keep 5 (some .int), Cond.methodLink RX9 148 yX9_areRules, Cond.instanceMethod yX9_areRules, Cond.selects RX9 yX9_areRules yX9_areRules, Cond.code yX9_areRules cX9_areRules 4 (some .boolean), Cond.methodLink RX9 130 yX9_isPlain, Cond.static yX9_isPlain, Cond.code yX9_isPlain cX9_isPlain 3 (some .boolean), Cond.methodLink RX9 114 yX9_count, Cond.static yX9_count]
def wsL_law_r16 : List Cond := [Cond.code yX9_count cX9_count 5 (some .int), Cond.methodLink RX9 134 yX9_isPattern, Cond.instanceMethod yX9_isPattern, Cond.selects RX9 yX9_isPattern yX9_isPattern, Cond.code yX9_isPattern cX9_isPattern 6 (some .boolean), Cond.methodLink RX9 120 yX9_heldBy, Cond.instanceMethod yX9_heldBy, Cond.selects RX9 yX9_heldBy yX9_heldBy, Cond.code yX9_heldBy cX9_heldBy 8 (some .int), Cond.methodLink RX9 124 yX9_variable, Cond.instanceMethod yX9_variable, Cond.selects RX9 yX9_variable yX9_variable, Cond.code yX9_variable cX9_variable 6 (some .int), Cond.methodLink RX9 137 yX9_isTemplate, Cond.instanceMethod yX9_isTemplate, Cond.selects RX9 yX9_isTemplate yX9_isTemplate, Cond.code yX9_isTemplate cX9_isTemplate 8 (some .boolean), Cond.methodLink RX9 127 yX9_uses, Cond.instanceMethod yX9_uses, Cond.selects RX9 yX9_uses yX9_uses, Cond.code yX9_uses cX9_uses 6 (some .int), Cond.methodLink RX9 151 yX9_what, Cond.static yX9_what, Cond.code yX9_what cX9_what 2 (some .int)]
def wsL_law_r17 : List Cond := [Cond.methodLink RX9 154 yX9_core, Cond.static yX9_core, Cond.code yX9_core cX9_core 1 (some .int), Cond.methodLink RL 23 yX8_expand, Cond.instanceMethod yX8_expand, Cond.selects RX8 yX8_expand yX8_expand, Cond.code yX8_expand cX8_expand 3 (some .int), Cond.methodLink RX8 93 yX2_clear, Cond.instanceMethod yX2_clear, Cond.selects RX2 yX2_clear yX2_clear, Cond.code yX2_clear cX2_clear 1 none, Cond.fieldLink RX2 15 "MarkedNames$Outcome" "length" "I", Cond.fieldLink RX2 19 "MarkedNames$Outcome" "error" "I", Cond.methodLink RX8 96 yX0_start, Cond.instanceMethod yX0_start, Cond.selects RX0 yX0_start yX0_start, Cond.code yX0_start cX0_start 2 none, Cond.fieldLink RX0 36 "MarkedNames$Expander" "scopes" "I", Cond.fieldLink RX0 40 "MarkedNames$Expander" "bindings" "I", Cond.fieldLink RX0 43 "MarkedNames$Expander" "variables" "I", Cond.fieldLink RX0 46 "MarkedNames$Expander" "fuel" "I", Cond.methodLink RX0 49 yX7_forgetExpansion, Cond.methodLink RX8 99 yX0_expandTree, Cond.instanceMethod yX0_expandTree]
def wsL_law_r18 : List Cond := [Cond.selects RX0 yX0_expandTree yX0_expandTree, Cond.code yX0_expandTree cX0_expandTree 4 none, Cond.methodLink RX0 59 yX5_wordAt, Cond.methodLink RX0 65 yX0_expandList, Cond.instanceMethod yX0_expandList, Cond.selects RX0 yX0_expandList yX0_expandList, Cond.methodLink RX0 73 yX0_expandName, Cond.instanceMethod yX0_expandName, Cond.selects RX0 yX0_expandName yX0_expandName, Cond.code yX0_expandName cX0_expandName 4 none, Cond.methodLink RX0 93 yX0_meaningOf, Cond.instanceMethod yX0_meaningOf, Cond.selects RX0 yX0_meaningOf yX0_meaningOf, Cond.code yX0_meaningOf cX0_meaningOf 3 (some .int), Cond.methodLink RX0 86 yX5_marksAt, Cond.instanceMethod yX5_marksAt, Cond.selects RX5 yX5_marksAt yX5_marksAt, Cond.code yX5_marksAt cX5_marksAt 2 (some .int), Cond.methodLink RX0 89 yX7_meaning, Cond.instanceMethod yX7_meaning, Cond.selects RX7 yX7_meaning yX7_meaning, Cond.code yX7_meaning cX7_meaning 6 (some .int), Cond.methodLink RX7 50 yJ6_bitCount_0f7a4, Cond.static yJ6_bitCount_0f7a4]
def wsL_law_r19 : List Cond := [Cond.initialized RJ6, Cond.code yJ6_bitCount_0f7a4 cJ6_bitCount_0f7a4 1 (some .int), Cond.constant RJ6 265 (1431655765), Cond.constant RJ6 266 (858993459), Cond.constant RJ6 267 (252645135), Cond.methodLink RX7 56 yX7_holdsAllOthers, Cond.instanceMethod yX7_holdsAllOthers, Cond.selects RX7 yX7_holdsAllOthers yX7_holdsAllOthers, Cond.code yX7_holdsAllOthers cX7_holdsAllOthers 5 (some .boolean), Cond.methodLink RX0 83 yX2_fail, Cond.instanceMethod yX2_fail, Cond.selects RX2 yX2_fail yX2_fail, Cond.code yX2_fail cX2_fail 2 none, Cond.methodLink RX0 96 yX7_kindOf, Cond.instanceMethod yX7_kindOf, Cond.selects RX7 yX7_kindOf yX7_kindOf, Cond.code yX7_kindOf cX7_kindOf 2 (some .int), Cond.methodLink RX0 99 yX2_putName, Cond.instanceMethod yX2_putName, Cond.selects RX2 yX2_putName yX2_putName, Cond.code yX2_putName cX2_putName 3 none, Cond.methodLink RX2 22 yX2_put, Cond.instanceMethod yX2_put, Cond.selects RX2 yX2_put yX2_put]
def wsL_law_r20 : List Cond := [Cond.code yX2_put cX2_put 2 none, Cond.methodLink RX0 102 yX7_valueOf, Cond.instanceMethod yX7_valueOf, Cond.selects RX7 yX7_valueOf yX7_valueOf, Cond.code yX7_valueOf cX7_valueOf 2 (some .int), Cond.methodLink RX0 105 yX2_putVariable, Cond.instanceMethod yX2_putVariable, Cond.selects RX2 yX2_putVariable yX2_putVariable, Cond.code yX2_putVariable cX2_putVariable 2 none, Cond.methodLink RX2 26 yX2_putNumber, Cond.instanceMethod yX2_putNumber, Cond.selects RX2 yX2_putNumber yX2_putNumber, Cond.code yX2_putNumber cX2_putNumber 2 none, Cond.static yX8_isNumber, Cond.code yX8_isNumber cX8_isNumber 1 (some .boolean), Cond.methodLink RX0 80 yX2_putNumber, Cond.code yX0_expandByRules cX0_expandByRules 7 none, Cond.methodLink RX0 145 yX0_newScope, Cond.instanceMethod yX0_newScope, Cond.selects RX0 yX0_newScope yX0_newScope, Cond.code yX0_newScope cX0_newScope 1 (some .int), Cond.methodLink RX0 149 yX5_turnScope, Cond.instanceMethod yX5_turnScope, Cond.selects RX5 yX5_turnScope yX5_turnScope]
def wsL_law_r21 : List Cond := [Cond.code yX5_turnScope cX5_turnScope 5 none, Cond.methodLink RX0 177 yX1_firstRule, Cond.instanceMethod yX1_firstRule, Cond.selects RX1 yX1_firstRule yX1_firstRule, Cond.code yX1_firstRule cX1_firstRule 6 (some .int), Cond.methodLink RX1 26 yX5_plainLength, Cond.methodLink RX1 32 yX1_matches, Cond.instanceMethod yX1_matches, Cond.selects RX1 yX1_matches yX1_matches, Cond.code yX1_matches cX1_matches 8 (some .boolean), Cond.constant RX1 45 (1000000), Cond.methodLink RX1 39 yX1_hasRoomFor, Cond.instanceMethod yX1_hasRoomFor, Cond.selects RX1 yX1_hasRoomFor yX1_hasRoomFor, Cond.code yX1_hasRoomFor cX1_hasRoomFor 5 (some .boolean), Cond.methodLink RX1 53 yX5_itemsFrom, Cond.methodLink RX1 69 yX5_hasDots, Cond.methodLink RX1 42 yX4_clear, Cond.instanceMethod yX4_clear, Cond.selects RX4 yX4_clear yX4_clear, Cond.code yX4_clear cX4_clear 1 none, Cond.fieldLink RX4 21 "MarkedNames$Rounds" "depth" "I", Cond.methodLink RX1 36 yX5_after, Cond.methodLink RX1 46 yX5_isHeld]
def wsL_law_r22 : List Cond := [Cond.methodLink RX1 50 yX4_isIn, Cond.instanceMethod yX4_isIn, Cond.selects RX4 yX4_isIn yX4_isIn, Cond.code yX4_isIn cX4_isIn 2 (some .boolean), Cond.methodLink RX4 25 yX4_hasInner, Cond.instanceMethod yX4_hasInner, Cond.selects RX4 yX4_hasInner yX4_hasInner, Cond.code yX4_hasInner cX4_hasInner 1 (some .boolean), Cond.methodLink RX1 56 yX4_enter, Cond.instanceMethod yX4_enter, Cond.selects RX4 yX4_enter yX4_enter, Cond.code yX4_enter cX4_enter 3 none, Cond.methodLink RX1 60 yX5_wordAt, Cond.methodLink RX1 63 yX4_leave, Cond.instanceMethod yX4_leave, Cond.selects RX4 yX4_leave yX4_leave, Cond.code yX4_leave cX4_leave 2 (some .int), Cond.methodLink RX0 180 yX1_fill, Cond.instanceMethod yX1_fill, Cond.selects RX1 yX1_fill yX1_fill, Cond.code yX1_fill cX1_fill 8 (some .int), Cond.fieldLink RX1 72 "MarkedNames$Filler" "pattern" "I", Cond.fieldLink RX1 76 "MarkedNames$Filler" "matched" "I", Cond.fieldLink RX1 79 "MarkedNames$Filler" "filled" "I"]
def wsL_law_r23 : List Cond := [Cond.methodLink RX1 82 yX5_startTree, Cond.instanceMethod yX5_startTree, Cond.selects RX5 yX5_startTree yX5_startTree, Cond.code yX5_startTree cX5_startTree 1 (some .int), Cond.methodLink RX1 91 yX1_roundsFor, Cond.instanceMethod yX1_roundsFor, Cond.selects RX1 yX1_roundsFor yX1_roundsFor, Cond.code yX1_roundsFor cX1_roundsFor 7 (some .int), Cond.methodLink RX1 111 Lib.Math.max.name, Cond.methodLink RX1 98 yX5_variableAt, Cond.methodLink RX1 104 yX1_matchOf, Cond.instanceMethod yX1_matchOf, Cond.selects RX1 yX1_matchOf yX1_matchOf, Cond.code yX1_matchOf cX1_matchOf 9 (some .int), Cond.methodLink RX1 125 yX4_roundOf, Cond.instanceMethod yX4_roundOf, Cond.selects RX4 yX4_roundOf yX4_roundOf, Cond.code yX4_roundOf cX4_roundOf 2 (some .int), Cond.methodLink RX1 108 yX2_fail, Cond.methodLink RX1 94 yX1_fillToken, Cond.instanceMethod yX1_fillToken, Cond.selects RX1 yX1_fillToken yX1_fillToken, Cond.code yX1_fillToken cX1_fillToken 6 none, Cond.methodLink RX1 119 yX5_marksAt]
def wsL_law_r24 : List Cond := [Cond.methodLink RX1 122 yX5_add, Cond.methodLink RX0 133 yX0_expandTree, Cond.code yX0_expandEach cX0_expandEach 6 none, Cond.methodLink RX0 127 yX5_itemsFrom, Cond.methodLink RX0 130 yX2_put, Cond.methodLink RX0 136 yX5_after, Cond.code yX0_expandFn cX0_expandFn 9 none, Cond.methodLink RX0 139 yX5_plainLength, Cond.methodLink RX0 142 yX0_areNames, Cond.instanceMethod yX0_areNames, Cond.selects RX0 yX0_areNames yX0_areNames, Cond.code yX0_areNames cX0_areNames 4 (some .boolean), Cond.methodLink RX0 152 yX0_bindVariable, Cond.instanceMethod yX0_bindVariable, Cond.selects RX0 yX0_bindVariable yX0_bindVariable, Cond.code yX0_bindVariable cX0_bindVariable 3 none, Cond.methodLink RX0 159 yX5_findName, Cond.methodLink RX0 163 yX0_bind, Cond.instanceMethod yX0_bind, Cond.selects RX0 yX0_bind yX0_bind, Cond.code yX0_bind cX0_bind 4 (some .boolean), Cond.methodLink RX0 183 yX7_bind, Cond.methodLink RX0 155 yX0_putVariables, Cond.instanceMethod yX0_putVariables]
def wsL_law_r25 : List Cond := [Cond.selects RX0 yX0_putVariables yX0_putVariables, Cond.code yX0_putVariables cX0_putVariables 4 none, Cond.constant RX0 158 (91758), Cond.code yX0_expandIf cX0_expandIf 5 none, Cond.constant RX0 167 (92518), Cond.code yX0_expandList cX0_expandList 5 none, Cond.methodLink RX0 108 yX0_expandFn, Cond.instanceMethod yX0_expandFn, Cond.selects RX0 yX0_expandFn yX0_expandFn, Cond.methodLink RX0 111 yX0_expandIf, Cond.instanceMethod yX0_expandIf, Cond.selects RX0 yX0_expandIf yX0_expandIf, Cond.methodLink RX0 114 yX0_expandQ, Cond.instanceMethod yX0_expandQ, Cond.selects RX0 yX0_expandQ yX0_expandQ, Cond.code yX0_expandQ cX0_expandQ 2 none, Cond.methodLink RX0 168 yX2_putTree, Cond.instanceMethod yX2_putTree, Cond.selects RX2 yX2_putTree yX2_putTree, Cond.code yX2_putTree cX2_putTree 5 none, Cond.methodLink RX2 39 yX5_after, Cond.methodLink RX2 45 yX5_wordAt, Cond.methodLink RX2 48 yX2_putWord, Cond.instanceMethod yX2_putWord]
def wsL_law_r26 : List Cond := [Cond.selects RX2 yX2_putWord yX2_putWord, Cond.code yX2_putWord cX2_putWord 2 none, Cond.methodLink RX2 33 yX2_putName, Cond.methodLink RX0 117 yX0_expandLs, Cond.instanceMethod yX0_expandLs, Cond.selects RX0 yX0_expandLs yX0_expandLs, Cond.methodLink RX0 120 yX0_expandByRules, Cond.instanceMethod yX0_expandByRules, Cond.selects RX0 yX0_expandByRules yX0_expandByRules, Cond.methodLink RX0 124 yX0_expandEach, Cond.instanceMethod yX0_expandEach, Cond.selects RX0 yX0_expandEach yX0_expandEach, Cond.code yX0_expandLs cX0_expandLs 6 none, Cond.methodLink RX0 172 yX6_isNameWithRules, Cond.methodLink RL 27 yX9_expand, Cond.instanceMethod yX9_expand, Cond.selects RX9 yX9_expand yX9_expand, Cond.code yX9_expand cX9_expand 3 (some .int), Cond.fieldLink RX9 184 "MarkedNamesModel" "size" "I", Cond.fieldLink RX9 187 "MarkedNamesModel" "gap" "Z", Cond.fieldLink RX9 271 "MarkedNamesModel" "deep" "I", Cond.fieldLink RX9 178 "MarkedNamesModel" "error" "I", Cond.fieldLink RX9 181 "MarkedNamesModel" "scopesMade" "I", Cond.fieldLink RX9 265 "MarkedNamesModel" "variables" "I"]
def wsL_law_r27 : List Cond := [Cond.fieldLink RX9 245 "MarkedNamesModel" "fuelLeft" "I", Cond.fieldLink RX9 274 "MarkedNamesModel" "keptEnd" "I", Cond.methodLink RX9 302 yX9_beginning, Cond.instanceMethod yX9_beginning, Cond.selects RX9 yX9_beginning yX9_beginning, Cond.code yX9_beginning cX9_beginning 2 none, Cond.fieldLink RX9 160 "MarkedNamesModel" "bindings" "I", Cond.constant RX9 171 (40043), Cond.constant RX9 172 (40042), Cond.constant RX9 173 (40061), Cond.constant RX9 174 (40060), Cond.fieldLink RX9 175 "MarkedNamesModel" "atFirst" "I", Cond.methodLink RX9 167 yX9_bind, Cond.instanceMethod yX9_bind, Cond.selects RX9 yX9_bind yX9_bind, Cond.code yX9_bind cX9_bind 6 none, Cond.methodLink RX9 163 yX9_fails, Cond.instanceMethod yX9_fails, Cond.selects RX9 yX9_fails yX9_fails, Cond.code yX9_fails cX9_fails 2 none, Cond.methodLink RX9 305 yX9_step, Cond.instanceMethod yX9_step, Cond.selects RX9 yX9_step yX9_step, Cond.code yX9_step cX9_step 2 none]
def wsL_law_r28 : List Cond := [Cond.methodLink RX9 191 yX9_put, Cond.instanceMethod yX9_put, Cond.selects RX9 yX9_put yX9_put, Cond.code yX9_put cX9_put 2 none, Cond.methodLink RX9 296 yX9_list, Cond.instanceMethod yX9_list, Cond.selects RX9 yX9_list yX9_list, Cond.code yX9_list cX9_list 3 none, Cond.methodLink RX9 287 yX9_means, Cond.instanceMethod yX9_means, Cond.selects RX9 yX9_means yX9_means, Cond.code yX9_means cX9_means 8 (some .int), Cond.methodLink RX9 290 yX9_form, Cond.instanceMethod yX9_form, Cond.selects RX9 yX9_form yX9_form, Cond.code yX9_form cX9_form 4 none, Cond.methodLink RX9 278 yX9_function, Cond.instanceMethod yX9_function, Cond.selects RX9 yX9_function yX9_function, Cond.code yX9_function cX9_function 9 none, Cond.methodLink RX9 248 yX9_scope, Cond.instanceMethod yX9_scope, Cond.selects RX9 yX9_scope yX9_scope, Cond.code yX9_scope cX9_scope 1 (some .int)]
def wsL_law_r29 : List Cond := [Cond.methodLink RX9 261 yX9_give, Cond.instanceMethod yX9_give, Cond.selects RX9 yX9_give yX9_give, Cond.code yX9_give cX9_give 5 none, Cond.methodLink RX9 200 yX9_putOpen, Cond.instanceMethod yX9_putOpen, Cond.selects RX9 yX9_putOpen yX9_putOpen, Cond.code yX9_putOpen cX9_putOpen 1 none, Cond.methodLink RX9 194 yX9_space, Cond.instanceMethod yX9_space, Cond.selects RX9 yX9_space yX9_space, Cond.code yX9_space cX9_space 1 none, Cond.methodLink RX9 206 yX9_putName, Cond.instanceMethod yX9_putName, Cond.selects RX9 yX9_putName yX9_putName, Cond.code yX9_putName cX9_putName 2 none, Cond.methodLink RX9 268 yX9_putVariable, Cond.instanceMethod yX9_putVariable, Cond.selects RX9 yX9_putVariable yX9_putVariable, Cond.code yX9_putVariable cX9_putVariable 2 none, Cond.methodLink RX9 197 yX9_putNumber, Cond.instanceMethod yX9_putNumber, Cond.selects RX9 yX9_putNumber yX9_putNumber, Cond.code yX9_putNumber cX9_putNumber 2 none]
def wsL_law_r30 : List Cond := [Cond.methodLink RX9 203 yX9_putClose, Cond.instanceMethod yX9_putClose, Cond.selects RX9 yX9_putClose yX9_putClose, Cond.code yX9_putClose cX9_putClose 1 none, Cond.methodLink RX9 281 yX9_local, Cond.instanceMethod yX9_local, Cond.selects RX9 yX9_local yX9_local, Cond.code yX9_local cX9_local 8 none, Cond.constant RX9 277 (458752), Cond.methodLink RX9 284 yX9_putToken, Cond.instanceMethod yX9_putToken, Cond.selects RX9 yX9_putToken yX9_putToken, Cond.code yX9_putToken cX9_putToken 3 none, Cond.methodLink RX9 293 yX9_use, Cond.instanceMethod yX9_use, Cond.selects RX9 yX9_use yX9_use, Cond.code yX9_use cX9_use 6 none, Cond.fieldLink RX9 216 "MarkedNamesModel" "many" "I", Cond.methodLink RX9 251 yX9_turn, Cond.instanceMethod yX9_turn, Cond.selects RX9 yX9_turn yX9_turn, Cond.code yX9_turn cX9_turn 7 none, Cond.methodLink RX9 255 yX9_matches, Cond.instanceMethod yX9_matches]
def wsL_law_r31 : List Cond := [Cond.selects RX9 yX9_matches yX9_matches, Cond.code yX9_matches cX9_matches 7 (some .boolean), Cond.methodLink RX9 209 yX9_pairs, Cond.instanceMethod yX9_pairs, Cond.selects RX9 yX9_pairs yX9_pairs, Cond.code yX9_pairs cX9_pairs 12 (some .int), Cond.methodLink RX9 258 yX9_fill, Cond.instanceMethod yX9_fill, Cond.selects RX9 yX9_fill yX9_fill, Cond.code yX9_fill cX9_fill 8 none, Cond.fieldLink RX9 213 "MarkedNamesModel" "trees" "I", Cond.fieldLink RX9 219 "MarkedNamesModel" "held" "I", Cond.methodLink RX9 229 yX9_again, Cond.instanceMethod yX9_again, Cond.selects RX9 yX9_again yX9_again, Cond.code yX9_again cX9_again 2 (some .int), Cond.methodLink RX9 232 yX9_isHeld, Cond.instanceMethod yX9_isHeld, Cond.selects RX9 yX9_isHeld yX9_isHeld, Cond.code yX9_isHeld cX9_isHeld 2 (some .boolean), Cond.methodLink RX9 235 yX9_hold, Cond.instanceMethod yX9_hold, Cond.selects RX9 yX9_hold yX9_hold, Cond.code yX9_hold cX9_hold 6 (some .int)]
def wsL_law_r32 : List Cond := [Cond.methodLink RX9 226 yX9_roundsOf, Cond.instanceMethod yX9_roundsOf, Cond.selects RX9 yX9_roundsOf yX9_roundsOf, Cond.code yX9_roundsOf cX9_roundsOf 9 (some .int), Cond.methodLink RX9 222 yX9_walk, Cond.instanceMethod yX9_walk, Cond.selects RX9 yX9_walk yX9_walk, Cond.code yX9_walk cX9_walk 13 (some .int), Cond.methodLink RX9 238 yX9_add, Cond.instanceMethod yX9_add, Cond.selects RX9 yX9_add yX9_add, Cond.code yX9_add cX9_add 4 none, Cond.methodLink RX9 242 yX9_bring, Cond.instanceMethod yX9_bring, Cond.selects RX9 yX9_bring yX9_bring, Cond.code yX9_bring cX9_bring 4 none, Cond.methodLink RX9 299 yX9_word, Cond.instanceMethod yX9_word, Cond.selects RX9 yX9_word yX9_word, Cond.code yX9_word cX9_word 2 none, Cond.methodLink RL 28 yX8_at, Cond.instanceMethod yX8_at, Cond.selects RX8 yX8_at yX8_at, Cond.code yX8_at cX8_at 2 (some .int)]
def wsL_law_r33 : List Cond := [Cond.methodLink RX8 109 yX2_charAt, Cond.instanceMethod yX2_charAt, Cond.selects RX2 yX2_charAt yX2_charAt, Cond.code yX2_charAt cX2_charAt 2 (some .int), Cond.methodLink RL 31 yX9_at, Cond.instanceMethod yX9_at, Cond.selects RX9 yX9_at yX9_at, Cond.code yX9_at cX9_at 2 (some .int), Cond.methodLink RL 32 yX8_count, Cond.instanceMethod yX8_count, Cond.selects RX8 yX8_count yX8_count, Cond.code yX8_count cX8_count 2 (some .int), Cond.methodLink RL 35 yX9_count_, Cond.instanceMethod yX9_count_, Cond.selects RX9 yX9_count_ yX9_count_, Cond.code yX9_count_ cX9_count_ 2 (some .int)]
def wsL_law : List Cond := (wsL_law_r1 ++ (wsL_law_r2 ++ (wsL_law_r3 ++ (wsL_law_r4 ++ (wsL_law_r5 ++ (wsL_law_r6 ++ (wsL_law_r7 ++ (wsL_law_r8 ++ (wsL_law_r9 ++ (wsL_law_r10 ++ (wsL_law_r11 ++ (wsL_law_r12 ++ (wsL_law_r13 ++ (wsL_law_r14 ++ (wsL_law_r15 ++ (wsL_law_r16 ++ (wsL_law_r17 ++ (wsL_law_r18 ++ (wsL_law_r19 ++ (wsL_law_r20 ++ (wsL_law_r21 ++ (wsL_law_r22 ++ (wsL_law_r23 ++ (wsL_law_r24 ++ (wsL_law_r25 ++ (wsL_law_r26 ++ (wsL_law_r27 ++ (wsL_law_r28 ++ (wsL_law_r29 ++ (wsL_law_r30 ++ (wsL_law_r31 ++ (wsL_law_r32 ++ wsL_law_r33)))))))))))))))))))))))))))))))) ++ wsX80 ++ wsX90 ++ wsX50 ++ wsX30 ++ wsX60 ++ wsX70 ++ wsX20 ++ wsX00 ++ wsX10 ++ wsX40 ++ ([] : List Cond)
abbrev vwCl : List vw_C := [(RX0, TX0, 9), (RX1, TX1, 6), (RX2, TX2, 3), (RX3, TX3, 2), (RX4, TX4, 4), (RX5, TX5, 6), (RX6, TX6, 1), (RX7, TX7, 6), (RX8, TX8, 8), (RX9, TX9, 36)]
end
section
-- 02: the bundle mV over W (heap, frame and locals hidden), a row an instruction; contracts mKi, mKv (int and void)
abbrev mS : Type := (Nat → Int32) × (Nat → Nat → Int32)
def mSet (u : mS) (k : Nat) (v : Int32) : mS := (upd u.1 k v, u.2)
def mPut (u : mS) (k i : Nat) (v : Int32) : mS := (u.1, fun j => if j = k then upd (u.2 k) i v else u.2 j)
def mCpy (u : mS) (k sp dp n : Nat) : mS := (u.1, fun j => if j = k then va_cpy (u.2 k) (u.2 k) sp dp n else u.2 j)
def mRm (k : Nat) : Room := { frames := k, cells := 0, slots := 0, locals := 64 * k }
def mC (p : Program) (s : State) (m : MethodId) (args : Array Value) (meth : Method) (c : Code) (cc : ByteArray) (nL : Nat) (Ts : List Cond) (own : String) (ret : Option FieldType) (D : va_G) (cl : List vw_C) (tys : List (ClassId × FieldType)) (A : Nat → Prop) : Prop :=
  p.tables.exec = Jvm.exec ∧ c.code = cc ∧ c.maxLocals = nL ∧ s.vm.findClass own = some m.cls ∧ (∀ w ∈ Ts, w.before args s = true) ∧ meth.sig.returnType = ret ∧ meth.locks = false ∧ va_K D cl tys s ∧ ∀ q : Nat, s.heap.size ≤ q → A q
def mV (p : Program) (l : Launch) (e : Env) (R : Room) (s : State) (m : MethodId) (args : Array Value) (below : List Frame) (meth : Method) (c : Code) (nL : Nat) (D : va_G) (cl : List vw_C) (A : Nat → Prop) (cells slots : Nat) (Q : State → Prop) (ws : va_W) (pc : Nat) (lv : List (Nat × Value)) (st : List Value) : Prop :=
  ∀ (H : Heap) (locs : List Loc) (ls : Array Slot), va_P D cl ws H → va_D A ws → va_S A s.heap H locs → lv_has ls nL lv → W p l e R s m args below meth c H locs cells slots Q (F0 m pc ls st)
/-- what else holds at a method's start (nest words, statics): kept over calls -/
def mEok (E : (Nat → Prop) → State → Prop) : Prop :=
  (∀ (A B : Nat → Prop) (s U : State), E A s → (∀ q, B q → A q) → s.WarmedH U.vm → (∀ q : Nat, q < s.heap.size → ¬ A q → U.heap[q]? = s.heap[q]?) → E B U) ∧
  ∀ (A : Nat → Prop) (U : State) (g : JFrame) (mk : MethodId) (a : Array Value), E A U → E A (U.calling g mk a)
def mPc (E : (Nat → Prop) → State → Prop) (D : va_G) (cl : List vw_C) (tys : List (ClassId × FieldType)) (f : mS → va_W) (av : List Value) (u : mS) (sz : Nat) : Array Value → State → Prop :=
  va_Pc av (fun U => U.heap.size = sz ∧ va_P D cl (f u) U.heap ∧ va_K D cl tys U ∧ va_D (fun _ => True) (f u) ∧ E (va_A (f u) sz) U)
def mB (D : va_G) (cl : List vw_C) (tys : List (ClassId × FieldType)) (f : mS → va_W) (A : Nat → Prop) : mS → State → Prop := fun u t => va_P D cl (f u) t.heap ∧ va_K D cl tys t ∧ va_D A (f u)
def mKi (l : Launch) (y : MethodName) (ws : List Cond) (k : Nat) (E : (Nat → Prop) → State → Prop) (D : va_G) (cl : List vw_C) (tys : List (ClassId × FieldType)) (f : mS → va_W) (av : List Value) (u : mS) (post : Int32 → mS → Prop) : Prop :=
  ∀ sz : Nat, Met l y ws (mRm k) (mPc E D cl tys f av u sz) (va_Qi post (mB D cl tys f (va_A (f u) sz)) (va_A (f u) sz)) 0 0 (va_A (f u) sz)
def mKv (l : Launch) (y : MethodName) (ws : List Cond) (k : Nat) (E : (Nat → Prop) → State → Prop) (D : va_G) (cl : List vw_C) (tys : List (ClassId × FieldType)) (f : mS → va_W) (av : List Value) (u : mS) (post : mS → Prop) : Prop :=
  ∀ sz : Nat, Met l y ws (mRm k) (mPc E D cl tys f av u sz) (va_Qv post (mB D cl tys f (va_A (f u) sz)) (va_A (f u) sz)) 0 0 (va_A (f u) sz)
def mQi (below : List Frame) (args : Array Value) (s : State) (D : va_G) (cl : List vw_C) (tys : List (ClassId × FieldType)) (f : mS → va_W) (A : Nat → Prop) (post : Int32 → mS → Prop) : State → Prop := MQ below (va_Qi post (mB D cl tys f A) A) args s 0 0 A
def mQv (below : List Frame) (args : Array Value) (s : State) (D : va_G) (cl : List vw_C) (tys : List (ClassId × FieldType)) (f : mS → va_W) (A : Nat → Prop) (post : mS → Prop) : State → Prop := MQ below (va_Qv post (mB D cl tys f A) A) args s 0 0 A
theorem mRm_le {k lev mx : Nat} (h : k + 1 ≤ lev) (hm : mx ≤ 45) : (mRm k).frames + 1 ≤ (mRm lev).frames ∧ 8 + (mx + 11) + (mRm k).locals ≤ (mRm lev).locals := by
  simp only [mRm]; omega
section MV
variable {p : Program} {l : Launch} {e : Env} {R : Room} {s : State} {m : MethodId} {args : Array Value} {below : List Frame} {meth : Method} {c : Code} {cells slots : Nat} {Q : State → Prop}
variable {cc : ByteArray} {nL : Nat} {Ts : List Cond} {own : String} {ret : Option FieldType} {D : va_G} {cl : List vw_C} {tys : List (ClassId × FieldType)} {A : Nat → Prop} {ws : va_W} {pc : Nat} {lv : List (Nat × Value)} {st : List Value}
theorem mv_iconst (C : mC p s m args meth c cc nL Ts own ret D cl tys A) {n : Int} {v : Int32} (hd : decode cc pc = .ok (.iconst n, 1)) (hv : Int32.ofInt n = v) (k : mV p l e R s m args below meth c nL D cl A cells slots Q (ws) (pc + 1) (lv) (.int v :: st)) : mV p l e R s m args below meth c nL D cl A cells slots Q (ws) (pc) (lv) (st) := fun H locs ls hP hD hS hl => lv_iconst C.1 C.2.1 hd hv (k H locs ls hP hD hS hl)
theorem mv_bipush (C : mC p s m args meth c cc nL Ts own ret D cl tys A) {n : Int} {v : Int32} (hd : decode cc pc = .ok (.bipush n, 2)) (hv : (Int8.ofInt n).toInt32 = v) (k : mV p l e R s m args below meth c nL D cl A cells slots Q (ws) (pc + 2) (lv) (.int v :: st)) : mV p l e R s m args below meth c nL D cl A cells slots Q (ws) (pc) (lv) (st) := fun H locs ls hP hD hS hl => lv_bipush C.1 C.2.1 hd hv (k H locs ls hP hD hS hl)
theorem mv_sipush (C : mC p s m args meth c cc nL Ts own ret D cl tys A) {n : Int} {v : Int32} (hd : decode cc pc = .ok (.sipush n, 3)) (hv : (Int16.ofInt n).toInt32 = v) (k : mV p l e R s m args below meth c nL D cl A cells slots Q (ws) (pc + 3) (lv) (.int v :: st)) : mV p l e R s m args below meth c nL D cl A cells slots Q (ws) (pc) (lv) (st) := fun H locs ls hP hD hS hl => lv_sipush C.1 C.2.1 hd hv (k H locs ls hP hD hS hl)
theorem mv_iload_n (C : mC p s m args meth c cc nL Ts own ret D cl tys A) {j : Fin 4} {i : Nat} {x : Int32} (hd : decode cc pc = .ok (.iload_n j, 1)) (hi : (j : Nat) = i) (kk : Nat) (hk : lv[kk]? = some (i, .int x)) (k : mV p l e R s m args below meth c nL D cl A cells slots Q (ws) (pc + 1) (lv) (.int x :: st)) : mV p l e R s m args below meth c nL D cl A cells slots Q (ws) (pc) (lv) (st) := fun H locs ls hP hD hS hl => lv_iload_n C.1 C.2.1 hd hi (lv_at hl kk hk) (k H locs ls hP hD hS hl)
theorem mv_iload (C : mC p s m args meth c cc nL Ts own ret D cl tys A) {i : Nat} {x : Int32} (hd : decode cc pc = .ok (.iload i, 2)) (kk : Nat) (hk : lv[kk]? = some (i, .int x)) (k : mV p l e R s m args below meth c nL D cl A cells slots Q (ws) (pc + 2) (lv) (.int x :: st)) : mV p l e R s m args below meth c nL D cl A cells slots Q (ws) (pc) (lv) (st) := fun H locs ls hP hD hS hl => lv_iload C.1 C.2.1 hd (lv_at hl kk hk) (k H locs ls hP hD hS hl)
theorem mv_aload_n (C : mC p s m args meth c cc nL Ts own ret D cl tys A) {j : Fin 4} {i : Nat} {x : Nat} (hd : decode cc pc = .ok (.aload_n j, 1)) (hi : (j : Nat) = i) (kk : Nat) (hk : lv[kk]? = some (i, .ref x)) (k : mV p l e R s m args below meth c nL D cl A cells slots Q (ws) (pc + 1) (lv) (.ref x :: st)) : mV p l e R s m args below meth c nL D cl A cells slots Q (ws) (pc) (lv) (st) := fun H locs ls hP hD hS hl => lv_aload_n C.1 C.2.1 hd hi (lv_at hl kk hk) (k H locs ls hP hD hS hl)
theorem mv_aload (C : mC p s m args meth c cc nL Ts own ret D cl tys A) {i : Nat} {x : Nat} (hd : decode cc pc = .ok (.aload i, 2)) (kk : Nat) (hk : lv[kk]? = some (i, .ref x)) (k : mV p l e R s m args below meth c nL D cl A cells slots Q (ws) (pc + 2) (lv) (.ref x :: st)) : mV p l e R s m args below meth c nL D cl A cells slots Q (ws) (pc) (lv) (st) := fun H locs ls hP hD hS hl => lv_aload C.1 C.2.1 hd (lv_at hl kk hk) (k H locs ls hP hD hS hl)
theorem mv_istore_n (C : mC p s m args meth c cc nL Ts own ret D cl tys A) {j : Fin 4} {i : Nat} {x : Int32} {lv1 : List (Nat × Value)} (hd : decode cc pc = .ok (.istore_n j, 1)) (hi : (j : Nat) = i) (hn : i < nL) (hlv : (i, Value.int x) :: lv.filter (fun q => !(q.1 == i) && !(q.1 + 1 == i && q.2.category == 2)) = lv1) (k : mV p l e R s m args below meth c nL D cl A cells slots Q (ws) (pc + 1) (lv1) (st)) : mV p l e R s m args below meth c nL D cl A cells slots Q (ws) (pc) (lv) (.int x :: st) := fun H locs ls hP hD hS hl => lv_istore_n C.1 C.2.1 hd hi hl hn hlv (fun ls1 hl1 => k H locs ls1 hP hD hS hl1)
theorem mv_istore (C : mC p s m args meth c cc nL Ts own ret D cl tys A) {i : Nat} {x : Int32} {lv1 : List (Nat × Value)} (hd : decode cc pc = .ok (.istore i, 2))  (hn : i < nL) (hlv : (i, Value.int x) :: lv.filter (fun q => !(q.1 == i) && !(q.1 + 1 == i && q.2.category == 2)) = lv1) (k : mV p l e R s m args below meth c nL D cl A cells slots Q (ws) (pc + 2) (lv1) (st)) : mV p l e R s m args below meth c nL D cl A cells slots Q (ws) (pc) (lv) (.int x :: st) := fun H locs ls hP hD hS hl => lv_istore C.1 C.2.1 hd  hl hn hlv (fun ls1 hl1 => k H locs ls1 hP hD hS hl1)
theorem mv_astore_n (C : mC p s m args meth c cc nL Ts own ret D cl tys A) {j : Fin 4} {i : Nat} {x : Nat} {lv1 : List (Nat × Value)} (hd : decode cc pc = .ok (.astore_n j, 1)) (hi : (j : Nat) = i) (hn : i < nL) (hlv : (i, Value.ref x) :: lv.filter (fun q => !(q.1 == i) && !(q.1 + 1 == i && q.2.category == 2)) = lv1) (k : mV p l e R s m args below meth c nL D cl A cells slots Q (ws) (pc + 1) (lv1) (st)) : mV p l e R s m args below meth c nL D cl A cells slots Q (ws) (pc) (lv) (.ref x :: st) := fun H locs ls hP hD hS hl => lv_astore_n C.1 C.2.1 hd hi hl hn hlv (fun ls1 hl1 => k H locs ls1 hP hD hS hl1)
theorem mv_astore (C : mC p s m args meth c cc nL Ts own ret D cl tys A) {i : Nat} {x : Nat} {lv1 : List (Nat × Value)} (hd : decode cc pc = .ok (.astore i, 2))  (hn : i < nL) (hlv : (i, Value.ref x) :: lv.filter (fun q => !(q.1 == i) && !(q.1 + 1 == i && q.2.category == 2)) = lv1) (k : mV p l e R s m args below meth c nL D cl A cells slots Q (ws) (pc + 2) (lv1) (st)) : mV p l e R s m args below meth c nL D cl A cells slots Q (ws) (pc) (lv) (.ref x :: st) := fun H locs ls hP hD hS hl => lv_astore C.1 C.2.1 hd  hl hn hlv (fun ls1 hl1 => k H locs ls1 hP hD hS hl1)
theorem mv_iinc (C : mC p s m args meth c cc nL Ts own ret D cl tys A) {i : Nat} {n : Int} {x v : Int32} {lv1 : List (Nat × Value)} (hd : decode cc pc = .ok (.iinc i n, 3)) (kk : Nat) (hk : lv[kk]? = some (i, .int x)) (hv : x + Int32.ofInt n = v) (hn : i < nL) (hlv : (i, Value.int v) :: lv.filter (fun q => !(q.1 == i) && !(q.1 + 1 == i && q.2.category == 2)) = lv1) (k : mV p l e R s m args below meth c nL D cl A cells slots Q (ws) (pc + 3) (lv1) (st)) : mV p l e R s m args below meth c nL D cl A cells slots Q (ws) (pc) (lv) (st) := fun H locs ls hP hD hS hl => lv_iinc C.1 C.2.1 hd hl hk hv hn hlv (fun ls1 hl1 => k H locs ls1 hP hD hS hl1)
theorem mv_iadd (C : mC p s m args meth c cc nL Ts own ret D cl tys A) {x y : Int32} (hd : decode cc pc = .ok (.iadd, 1))  (k : mV p l e R s m args below meth c nL D cl A cells slots Q (ws) (pc + 1) (lv) (.int (x + y) :: st)) : mV p l e R s m args below meth c nL D cl A cells slots Q (ws) (pc) (lv) (.int y :: .int x :: st) := fun H locs ls hP hD hS hl => lv_iadd C.1 C.2.1 hd  (k H locs ls hP hD hS hl)
theorem mv_isub (C : mC p s m args meth c cc nL Ts own ret D cl tys A) {x y : Int32} (hd : decode cc pc = .ok (.isub, 1))  (k : mV p l e R s m args below meth c nL D cl A cells slots Q (ws) (pc + 1) (lv) (.int (x - y) :: st)) : mV p l e R s m args below meth c nL D cl A cells slots Q (ws) (pc) (lv) (.int y :: .int x :: st) := fun H locs ls hP hD hS hl => lv_isub C.1 C.2.1 hd  (k H locs ls hP hD hS hl)
theorem mv_imul (C : mC p s m args meth c cc nL Ts own ret D cl tys A) {x y : Int32} (hd : decode cc pc = .ok (.imul, 1))  (k : mV p l e R s m args below meth c nL D cl A cells slots Q (ws) (pc + 1) (lv) (.int (x * y) :: st)) : mV p l e R s m args below meth c nL D cl A cells slots Q (ws) (pc) (lv) (.int y :: .int x :: st) := fun H locs ls hP hD hS hl => lv_imul C.1 C.2.1 hd  (k H locs ls hP hD hS hl)
theorem mv_iand (C : mC p s m args meth c cc nL Ts own ret D cl tys A) {x y : Int32} (hd : decode cc pc = .ok (.iand, 1))  (k : mV p l e R s m args below meth c nL D cl A cells slots Q (ws) (pc + 1) (lv) (.int (x &&& y) :: st)) : mV p l e R s m args below meth c nL D cl A cells slots Q (ws) (pc) (lv) (.int y :: .int x :: st) := fun H locs ls hP hD hS hl => lv_iand C.1 C.2.1 hd  (k H locs ls hP hD hS hl)
theorem mv_ior (C : mC p s m args meth c cc nL Ts own ret D cl tys A) {x y : Int32} (hd : decode cc pc = .ok (.ior, 1))  (k : mV p l e R s m args below meth c nL D cl A cells slots Q (ws) (pc + 1) (lv) (.int (x ||| y) :: st)) : mV p l e R s m args below meth c nL D cl A cells slots Q (ws) (pc) (lv) (.int y :: .int x :: st) := fun H locs ls hP hD hS hl => lv_ior C.1 C.2.1 hd  (k H locs ls hP hD hS hl)
theorem mv_ixor (C : mC p s m args meth c cc nL Ts own ret D cl tys A) {x y : Int32} (hd : decode cc pc = .ok (.ixor, 1))  (k : mV p l e R s m args below meth c nL D cl A cells slots Q (ws) (pc + 1) (lv) (.int (x ^^^ y) :: st)) : mV p l e R s m args below meth c nL D cl A cells slots Q (ws) (pc) (lv) (.int y :: .int x :: st) := fun H locs ls hP hD hS hl => lv_ixor C.1 C.2.1 hd  (k H locs ls hP hD hS hl)
theorem mv_ishl (C : mC p s m args meth c cc nL Ts own ret D cl tys A) {x y : Int32} (hd : decode cc pc = .ok (.ishl, 1))  (k : mV p l e R s m args below meth c nL D cl A cells slots Q (ws) (pc + 1) (lv) (.int (x <<< (y &&& 31)) :: st)) : mV p l e R s m args below meth c nL D cl A cells slots Q (ws) (pc) (lv) (.int y :: .int x :: st) := fun H locs ls hP hD hS hl => lv_ishl C.1 C.2.1 hd  (k H locs ls hP hD hS hl)
theorem mv_ishr (C : mC p s m args meth c cc nL Ts own ret D cl tys A) {x y : Int32} (hd : decode cc pc = .ok (.ishr, 1))  (k : mV p l e R s m args below meth c nL D cl A cells slots Q (ws) (pc + 1) (lv) (.int (x >>> (y &&& 31)) :: st)) : mV p l e R s m args below meth c nL D cl A cells slots Q (ws) (pc) (lv) (.int y :: .int x :: st) := fun H locs ls hP hD hS hl => lv_ishr C.1 C.2.1 hd  (k H locs ls hP hD hS hl)
theorem mv_idiv (C : mC p s m args meth c cc nL Ts own ret D cl tys A) {x y : Int32} (hd : decode cc pc = .ok (.idiv, 1)) (hne : ¬ y = 0) (k : mV p l e R s m args below meth c nL D cl A cells slots Q (ws) (pc + 1) (lv) (.int (x / y) :: st)) : mV p l e R s m args below meth c nL D cl A cells slots Q (ws) (pc) (lv) (.int y :: .int x :: st) := fun H locs ls hP hD hS hl => lv_idiv C.1 C.2.1 hd hne (k H locs ls hP hD hS hl)
theorem mv_irem (C : mC p s m args meth c cc nL Ts own ret D cl tys A) {x y : Int32} (hd : decode cc pc = .ok (.irem, 1)) (hne : ¬ y = 0) (k : mV p l e R s m args below meth c nL D cl A cells slots Q (ws) (pc + 1) (lv) (.int (x - x / y * y) :: st)) : mV p l e R s m args below meth c nL D cl A cells slots Q (ws) (pc) (lv) (.int y :: .int x :: st) := fun H locs ls hP hD hS hl => lv_irem C.1 C.2.1 hd hne (k H locs ls hP hD hS hl)
theorem mv_ineg (C : mC p s m args meth c cc nL Ts own ret D cl tys A) {x : Int32} (hd : decode cc pc = .ok (.ineg, 1))  (k : mV p l e R s m args below meth c nL D cl A cells slots Q (ws) (pc + 1) (lv) (.int (-x) :: st)) : mV p l e R s m args below meth c nL D cl A cells slots Q (ws) (pc) (lv) (.int x :: st) := fun H locs ls hP hD hS hl => lv_ineg C.1 C.2.1 hd  (k H locs ls hP hD hS hl)
theorem mv_iushr (C : mC p s m args meth c cc nL Ts own ret D cl tys A) {x y : Int32} (hd : decode cc pc = .ok (.iushr, 1))  (k : mV p l e R s m args below meth c nL D cl A cells slots Q (ws) (pc + 1) (lv) (.int ((x.toUInt32 >>> (y.toUInt32 &&& Int32.toUInt32 31)).toInt32) :: st)) : mV p l e R s m args below meth c nL D cl A cells slots Q (ws) (pc) (lv) (.int y :: .int x :: st) := fun H locs ls hP hD hS hl => lv_iushr C.1 C.2.1 hd rfl (k H locs ls hP hD hS hl)
theorem mv_dup (C : mC p s m args meth c cc nL Ts own ret D cl tys A) {a : Value} (hd : decode cc pc = .ok (.dup, 1)) (ha : a.category = 1) (k : mV p l e R s m args below meth c nL D cl A cells slots Q (ws) (pc + 1) (lv) (a :: a :: st)) : mV p l e R s m args below meth c nL D cl A cells slots Q (ws) (pc) (lv) (a :: st) := fun H locs ls hP hD hS hl => lv_dup C.1 C.2.1 hd ha (k H locs ls hP hD hS hl)
theorem mv_pop (C : mC p s m args meth c cc nL Ts own ret D cl tys A) {a : Value} (hd : decode cc pc = .ok (.pop, 1)) (ha : a.category = 1) (k : mV p l e R s m args below meth c nL D cl A cells slots Q (ws) (pc + 1) (lv) (st)) : mV p l e R s m args below meth c nL D cl A cells slots Q (ws) (pc) (lv) (a :: st) := fun H locs ls hP hD hS hl => lv_pop C.1 C.2.1 hd ha (k H locs ls hP hD hS hl)
theorem mv_dup_x1 (C : mC p s m args meth c cc nL Ts own ret D cl tys A) {a b : Value} (hd : decode cc pc = .ok (.dup_x1, 1)) (ha : a.category = 1) (hb : b.category = 1) (k : mV p l e R s m args below meth c nL D cl A cells slots Q (ws) (pc + 1) (lv) (a :: b :: a :: st)) : mV p l e R s m args below meth c nL D cl A cells slots Q (ws) (pc) (lv) (a :: b :: st) := fun H locs ls hP hD hS hl => lv_dup_x1 C.1 C.2.1 hd ha hb (k H locs ls hP hD hS hl)
theorem mv_dup2 (C : mC p s m args meth c cc nL Ts own ret D cl tys A) {a b : Value} (hd : decode cc pc = .ok (.dup2, 1)) (ha : a.category = 1) (hb : b.category = 1) (k : mV p l e R s m args below meth c nL D cl A cells slots Q (ws) (pc + 1) (lv) (a :: b :: a :: b :: st)) : mV p l e R s m args below meth c nL D cl A cells slots Q (ws) (pc) (lv) (a :: b :: st) := fun H locs ls hP hD hS hl => lv_dup2_11 C.1 C.2.1 hd ha hb (k H locs ls hP hD hS hl)
theorem mv_if_eq (C : mC p s m args meth c cc nL Ts own ret D cl tys A) {x : Int32} {off : Int} {tgt : Nat} (hd : decode cc pc = .ok (.ifCond .eq off, 3)) (ht : (pc : Int) + off = (tgt : Int)) (kt : x = 0 → mV p l e R s m args below meth c nL D cl A cells slots Q (ws) (tgt) (lv) (st)) (kf : ¬ x = 0 → mV p l e R s m args below meth c nL D cl A cells slots Q (ws) (pc + 3) (lv) (st)) : mV p l e R s m args below meth c nL D cl A cells slots Q (ws) (pc) (lv) (.int x :: st) := fun H locs ls hP hD hS hl => lv_if_eq C.1 C.2.1 hd ht (fun h => kt h H locs ls hP hD hS hl) (fun h => kf h H locs ls hP hD hS hl)
theorem mv_if_ne (C : mC p s m args meth c cc nL Ts own ret D cl tys A) {x : Int32} {off : Int} {tgt : Nat} (hd : decode cc pc = .ok (.ifCond .ne off, 3)) (ht : (pc : Int) + off = (tgt : Int)) (kt : ¬ x = 0 → mV p l e R s m args below meth c nL D cl A cells slots Q (ws) (tgt) (lv) (st)) (kf : x = 0 → mV p l e R s m args below meth c nL D cl A cells slots Q (ws) (pc + 3) (lv) (st)) : mV p l e R s m args below meth c nL D cl A cells slots Q (ws) (pc) (lv) (.int x :: st) := fun H locs ls hP hD hS hl => lv_if_ne C.1 C.2.1 hd ht (fun h => kt h H locs ls hP hD hS hl) (fun h => kf h H locs ls hP hD hS hl)
theorem mv_if_lt (C : mC p s m args meth c cc nL Ts own ret D cl tys A) {x : Int32} {off : Int} {tgt : Nat} (hd : decode cc pc = .ok (.ifCond .lt off, 3)) (ht : (pc : Int) + off = (tgt : Int)) (kt : x < 0 → mV p l e R s m args below meth c nL D cl A cells slots Q (ws) (tgt) (lv) (st)) (kf : ¬ x < 0 → mV p l e R s m args below meth c nL D cl A cells slots Q (ws) (pc + 3) (lv) (st)) : mV p l e R s m args below meth c nL D cl A cells slots Q (ws) (pc) (lv) (.int x :: st) := fun H locs ls hP hD hS hl => lv_if_lt C.1 C.2.1 hd ht (fun h => kt h H locs ls hP hD hS hl) (fun h => kf h H locs ls hP hD hS hl)
theorem mv_if_ge (C : mC p s m args meth c cc nL Ts own ret D cl tys A) {x : Int32} {off : Int} {tgt : Nat} (hd : decode cc pc = .ok (.ifCond .ge off, 3)) (ht : (pc : Int) + off = (tgt : Int)) (kt : 0 ≤ x → mV p l e R s m args below meth c nL D cl A cells slots Q (ws) (tgt) (lv) (st)) (kf : ¬ 0 ≤ x → mV p l e R s m args below meth c nL D cl A cells slots Q (ws) (pc + 3) (lv) (st)) : mV p l e R s m args below meth c nL D cl A cells slots Q (ws) (pc) (lv) (.int x :: st) := fun H locs ls hP hD hS hl => lv_if_ge C.1 C.2.1 hd ht (fun h => kt h H locs ls hP hD hS hl) (fun h => kf h H locs ls hP hD hS hl)
theorem mv_if_gt (C : mC p s m args meth c cc nL Ts own ret D cl tys A) {x : Int32} {off : Int} {tgt : Nat} (hd : decode cc pc = .ok (.ifCond .gt off, 3)) (ht : (pc : Int) + off = (tgt : Int)) (kt : 0 < x → mV p l e R s m args below meth c nL D cl A cells slots Q (ws) (tgt) (lv) (st)) (kf : ¬ 0 < x → mV p l e R s m args below meth c nL D cl A cells slots Q (ws) (pc + 3) (lv) (st)) : mV p l e R s m args below meth c nL D cl A cells slots Q (ws) (pc) (lv) (.int x :: st) := fun H locs ls hP hD hS hl => lv_if_gt C.1 C.2.1 hd ht (fun h => kt h H locs ls hP hD hS hl) (fun h => kf h H locs ls hP hD hS hl)
theorem mv_if_le (C : mC p s m args meth c cc nL Ts own ret D cl tys A) {x : Int32} {off : Int} {tgt : Nat} (hd : decode cc pc = .ok (.ifCond .le off, 3)) (ht : (pc : Int) + off = (tgt : Int)) (kt : x ≤ 0 → mV p l e R s m args below meth c nL D cl A cells slots Q (ws) (tgt) (lv) (st)) (kf : ¬ x ≤ 0 → mV p l e R s m args below meth c nL D cl A cells slots Q (ws) (pc + 3) (lv) (st)) : mV p l e R s m args below meth c nL D cl A cells slots Q (ws) (pc) (lv) (.int x :: st) := fun H locs ls hP hD hS hl => lv_if_le C.1 C.2.1 hd ht (fun h => kt h H locs ls hP hD hS hl) (fun h => kf h H locs ls hP hD hS hl)
theorem mv_icmp_eq (C : mC p s m args meth c cc nL Ts own ret D cl tys A) {x y : Int32} {off : Int} {tgt : Nat} (hd : decode cc pc = .ok (.if_icmp .eq off, 3)) (ht : (pc : Int) + off = (tgt : Int)) (kt : x = y → mV p l e R s m args below meth c nL D cl A cells slots Q (ws) (tgt) (lv) (st)) (kf : ¬ x = y → mV p l e R s m args below meth c nL D cl A cells slots Q (ws) (pc + 3) (lv) (st)) : mV p l e R s m args below meth c nL D cl A cells slots Q (ws) (pc) (lv) (.int y :: .int x :: st) := fun H locs ls hP hD hS hl => lv_icmp_eq C.1 C.2.1 hd ht (fun h => kt h H locs ls hP hD hS hl) (fun h => kf h H locs ls hP hD hS hl)
theorem mv_icmp_ne (C : mC p s m args meth c cc nL Ts own ret D cl tys A) {x y : Int32} {off : Int} {tgt : Nat} (hd : decode cc pc = .ok (.if_icmp .ne off, 3)) (ht : (pc : Int) + off = (tgt : Int)) (kt : ¬ x = y → mV p l e R s m args below meth c nL D cl A cells slots Q (ws) (tgt) (lv) (st)) (kf : x = y → mV p l e R s m args below meth c nL D cl A cells slots Q (ws) (pc + 3) (lv) (st)) : mV p l e R s m args below meth c nL D cl A cells slots Q (ws) (pc) (lv) (.int y :: .int x :: st) := fun H locs ls hP hD hS hl => lv_icmp_ne C.1 C.2.1 hd ht (fun h => kt h H locs ls hP hD hS hl) (fun h => kf h H locs ls hP hD hS hl)
theorem mv_icmp_lt (C : mC p s m args meth c cc nL Ts own ret D cl tys A) {x y : Int32} {off : Int} {tgt : Nat} (hd : decode cc pc = .ok (.if_icmp .lt off, 3)) (ht : (pc : Int) + off = (tgt : Int)) (kt : x < y → mV p l e R s m args below meth c nL D cl A cells slots Q (ws) (tgt) (lv) (st)) (kf : ¬ x < y → mV p l e R s m args below meth c nL D cl A cells slots Q (ws) (pc + 3) (lv) (st)) : mV p l e R s m args below meth c nL D cl A cells slots Q (ws) (pc) (lv) (.int y :: .int x :: st) := fun H locs ls hP hD hS hl => lv_icmp_lt C.1 C.2.1 hd ht (fun h => kt h H locs ls hP hD hS hl) (fun h => kf h H locs ls hP hD hS hl)
theorem mv_icmp_ge (C : mC p s m args meth c cc nL Ts own ret D cl tys A) {x y : Int32} {off : Int} {tgt : Nat} (hd : decode cc pc = .ok (.if_icmp .ge off, 3)) (ht : (pc : Int) + off = (tgt : Int)) (kt : y ≤ x → mV p l e R s m args below meth c nL D cl A cells slots Q (ws) (tgt) (lv) (st)) (kf : ¬ y ≤ x → mV p l e R s m args below meth c nL D cl A cells slots Q (ws) (pc + 3) (lv) (st)) : mV p l e R s m args below meth c nL D cl A cells slots Q (ws) (pc) (lv) (.int y :: .int x :: st) := fun H locs ls hP hD hS hl => lv_icmp_ge C.1 C.2.1 hd ht (fun h => kt h H locs ls hP hD hS hl) (fun h => kf h H locs ls hP hD hS hl)
theorem mv_icmp_gt (C : mC p s m args meth c cc nL Ts own ret D cl tys A) {x y : Int32} {off : Int} {tgt : Nat} (hd : decode cc pc = .ok (.if_icmp .gt off, 3)) (ht : (pc : Int) + off = (tgt : Int)) (kt : y < x → mV p l e R s m args below meth c nL D cl A cells slots Q (ws) (tgt) (lv) (st)) (kf : ¬ y < x → mV p l e R s m args below meth c nL D cl A cells slots Q (ws) (pc + 3) (lv) (st)) : mV p l e R s m args below meth c nL D cl A cells slots Q (ws) (pc) (lv) (.int y :: .int x :: st) := fun H locs ls hP hD hS hl => lv_icmp_gt C.1 C.2.1 hd ht (fun h => kt h H locs ls hP hD hS hl) (fun h => kf h H locs ls hP hD hS hl)
theorem mv_icmp_le (C : mC p s m args meth c cc nL Ts own ret D cl tys A) {x y : Int32} {off : Int} {tgt : Nat} (hd : decode cc pc = .ok (.if_icmp .le off, 3)) (ht : (pc : Int) + off = (tgt : Int)) (kt : x ≤ y → mV p l e R s m args below meth c nL D cl A cells slots Q (ws) (tgt) (lv) (st)) (kf : ¬ x ≤ y → mV p l e R s m args below meth c nL D cl A cells slots Q (ws) (pc + 3) (lv) (st)) : mV p l e R s m args below meth c nL D cl A cells slots Q (ws) (pc) (lv) (.int y :: .int x :: st) := fun H locs ls hP hD hS hl => lv_icmp_le C.1 C.2.1 hd ht (fun h => kt h H locs ls hP hD hS hl) (fun h => kf h H locs ls hP hD hS hl)
theorem mv_goto (C : mC p s m args meth c cc nL Ts own ret D cl tys A) {off : Int} {tgt : Nat} (hd : decode cc pc = .ok (.goto off, 3)) (ht : (pc : Int) + off = (tgt : Int)) (k : mV p l e R s m args below meth c nL D cl A cells slots Q (ws) (tgt) (lv) (st)) : mV p l e R s m args below meth c nL D cl A cells slots Q (ws) (pc) (lv) (st) := fun H locs ls hP hD hS hl => lv_goto C.1 C.2.1 hd ht (k H locs ls hP hD hS hl)
theorem mv_ldc (C : mC p s m args meth c cc nL Ts own ret D cl tys A) {index : Nat} {v : Int32} (hc : Jvm.Cond.constant own index v ∈ Ts) (hd : decode cc pc = .ok (.ldc index, 2)) (k : mV p l e R s m args below meth c nL D cl A cells slots Q (ws) (pc + 2) (lv) (.int v :: st)) : mV p l e R s m args below meth c nL D cl A cells slots Q (ws) (pc) (lv) (st) := fun H locs ls hP hD hS hl => lv_ldc C.1 C.2.1 C.2.2.2.1 (C.2.2.2.2.1 _ hc) hd (k H locs ls hP hD hS hl)
theorem mv_lookup (C : mC p s m args meth c cc nL Ts own ret D cl tys A) {dflt : Int} {ps : Array (Int × Int)} {len : Nat} {x : Int32} {off : Int} {tgt : Nat} (hd : decode cc pc = .ok (.lookupswitch dflt ps, len)) (hp : (ps.toList.zip (ps.toList.drop 1)).all (fun (a, next) => a.1 < next.1) = true) (ho : Op.lookupswitch.offset ps.toList dflt x.toInt = off) (ht : (pc : Int) + off = (tgt : Int)) (k : mV p l e R s m args below meth c nL D cl A cells slots Q (ws) (tgt) (lv) (st)) : mV p l e R s m args below meth c nL D cl A cells slots Q (ws) (pc) (lv) (.int x :: st) := fun H locs ls hP hD hS hl => lv_lookup C.1 C.2.1 hd hp ho ht (k H locs ls hP hD hS hl)
theorem mv_tableOut (C : mC p s m args meth c cc nL Ts own ret D cl tys A) {dflt lo hi : Int} {offs : Array Int} {len : Nat} {x : Int32} {tgt : Nat} (hd : decode cc pc = .ok (.tableswitch dflt lo hi offs, len)) (h : x.toInt < lo ∨ hi < x.toInt) (ht : (pc : Int) + dflt = (tgt : Int)) (k : mV p l e R s m args below meth c nL D cl A cells slots Q (ws) (tgt) (lv) (st)) : mV p l e R s m args below meth c nL D cl A cells slots Q (ws) (pc) (lv) (.int x :: st) := fun H locs ls hP hD hS hl => lv_tableOut C.1 C.2.1 hd h ht (k H locs ls hP hD hS hl)
theorem mv_tableIn (C : mC p s m args meth c cc nL Ts own ret D cl tys A) {dflt lo hi : Int} {offs : Array Int} {len : Nat} {x : Int32} {off : Int} {tgt : Nat} (hd : decode cc pc = .ok (.tableswitch dflt lo hi offs, len)) (h1 : ¬ x.toInt < lo) (h2 : ¬ hi < x.toInt) (ho : offs[(x.toInt - lo).toNat]? = some off) (ht : (pc : Int) + off = (tgt : Int)) (k : mV p l e R s m args below meth c nL D cl A cells slots Q (ws) (tgt) (lv) (st)) : mV p l e R s m args below meth c nL D cl A cells slots Q (ws) (pc) (lv) (.int x :: st) := fun H locs ls hP hD hS hl => lv_tableIn C.1 C.2.1 hd h1 h2 ho ht (k H locs ls hP hD hS hl)
theorem mv_topi {x : Int32} (k : ∀ y : Int32, y = x → mV p l e R s m args below meth c nL D cl A cells slots Q (ws) (pc) (lv) (.int y :: st)) : mV p l e R s m args below meth c nL D cl A cells slots Q (ws) (pc) (lv) (.int x :: st) := k x rfl
theorem mv_sub {lv1 : List (Nat × Value)} (ks : List Nat) (h : lv_pick lv ks = lv1) (k : mV p l e R s m args below meth c nL D cl A cells slots Q (ws) (pc) (lv1) (st)) : mV p l e R s m args below meth c nL D cl A cells slots Q (ws) (pc) (lv) (st) := fun H locs ls hP hD hS hl => k H locs ls hP hD hS (lv_sub hl ks h)
theorem mv_ws {ws1 : va_W} (h : ws = ws1) (k : mV p l e R s m args below meth c nL D cl A cells slots Q (ws1) (pc) (lv) (st)) : mV p l e R s m args below meth c nL D cl A cells slots Q (ws) (pc) (lv) (st) := by rw [h]; exact k
theorem mv_nm {f : mS → va_W} {x : mS} (k : ∀ z : mS, z = x → mV p l e R s m args below meth c nL D cl A cells slots Q (f z) (pc) (lv) (st)) : mV p l e R s m args below meth c nL D cl A cells slots Q (f x) (pc) (lv) (st) := k x rfl
theorem mv_get (C : mC p s m args meth c cc nL Ts own ret D cl tys A) {ref C0 : String} {T : u_T} {N ci index a : Nat} {fs : List Value} {v : Value} (hin : ∀ w ∈ u_ws C0 T N, w ∈ Ts) (q0 : Nat) (he : ws[q0]? = some (a, .inr (ci, fs))) (hc : cl[ci]? = some (C0, T, N)) (k : Nat) (hk : k < N) (hlink : Cond.fieldLink own index ref (T k).2.1 (T k).2.2.1 ∈ Ts) (hsame : (T k).1 = ref) (hv : fs[k]? = some v) (hd : decode cc pc = .ok (.getfield index, 3)) (kk : mV p l e R s m args below meth c nL D cl A cells slots Q (ws) (pc + 3) (lv) (v :: st)) : mV p l e R s m args below meth c nL D cl A cells slots Q (ws) (pc) (lv) (.ref a :: st) := by
  subst hsame
  exact fun H locs ls hP hD hS hl => va_get C.1 C.2.1 C.2.2.2.2.1 hin C.2.2.2.1 C.2.2.2.2.2.2.2.1 hP q0 he hc k hk (C.2.2.2.2.1 _ hlink) (fun _ h9 => h9) hv hd (kk H locs ls hP hD hS hl)
theorem mv_put (C : mC p s m args meth c cc nL Ts own ret D cl tys A) {ref C0 : String} {T : u_T} {N ci index a : Nat} {fs : List Value} {v : Value} {ty : FieldType} {ws1 : va_W} (hin : ∀ w ∈ u_ws C0 T N, w ∈ Ts) (ty0 : Nat → FieldType) (hty : ∀ k, k < N → parseFieldDescriptor (T k).2.2.1 = some (ty0 k)) (hnm : ∀ a, a < N → ∀ b, b < N → a ≠ b → (T a).2.1 ≠ (T b).2.1) (q0 : Nat) (he : ws[q0]? = some (a, .inr (ci, fs))) (hc : cl[ci]? = some (C0, T, N)) (k : Nat) (hk : k < N) (hlink : Cond.fieldLink own index ref (T k).2.1 (T k).2.2.1 ∈ Ts) (hsame : (T k).1 = ref) (hfin : (T k).2.2.2 = false) (htk : ty0 k = ty) (hn : narrow ty v = v) (hfit : fits ty v = true) (hlen : k < fs.length) (hset : ws.set q0 (a, .inr (ci, fs.set k v)) = ws1) (hd : decode cc pc = .ok (.putfield index, 3)) (kk : mV p l e R s m args below meth c nL D cl A cells slots Q (ws1) (pc + 3) (lv) (st)) : mV p l e R s m args below meth c nL D cl A cells slots Q (ws) (pc) (lv) (v :: .ref a :: st) := by
  subst hsame
  subst hset
  exact fun H locs ls hP hD hS hl => va_put C.1 C.2.1 C.2.2.2.2.1 hin ty0 hty hnm C.2.2.2.1 C.2.2.2.2.2.2.2.1 hP hD hS q0 he hc k hk (C.2.2.2.2.1 _ hlink) (fun _ h9 => h9) hfin (by rw [hty k hk, htk]) hn hfit hlen hd (fun H1 locs1 hP1 hD1 hS1 => kk H1 locs1 ls hP1 hD1 hS1 hl)
theorem mv_getN (C : mC p s m args meth c cc nL Ts own ret D cl tys A) {ref C0 : String} {T : u_T} {N ci index a : Nat} {host : String} {fs : List Value} {v : Value} (hin : ∀ w ∈ u_ws C0 T N, w ∈ Ts) (q0 : Nat) (he : ws[q0]? = some (a, .inr (ci, fs))) (hc : cl[ci]? = some (C0, T, N)) (k : Nat) (hk : k < N) (hlink : va_Nw (.fieldLinkNest own index ref (T k).2.1 (T k).2.2.1 host) s) (hsame : (T k).1 = ref) (hv : fs[k]? = some v) (hd : decode cc pc = .ok (.getfield index, 3)) (kk : mV p l e R s m args below meth c nL D cl A cells slots Q (ws) (pc + 3) (lv) (v :: st)) : mV p l e R s m args below meth c nL D cl A cells slots Q (ws) (pc) (lv) (.ref a :: st) := by
  subst hsame
  exact fun H locs ls hP hD hS hl => va_getN C.1 C.2.1 C.2.2.2.2.1 hin C.2.2.2.1 C.2.2.2.2.2.2.2.1 hP q0 he hc k hk (va_Nw.use rfl hlink) (fun _ h9 => h9) hv hd (kk H locs ls hP hD hS hl)
theorem mv_putN (C : mC p s m args meth c cc nL Ts own ret D cl tys A) {ref C0 : String} {T : u_T} {N ci index a : Nat} {host : String} {fs : List Value} {v : Value} {ty : FieldType} {ws1 : va_W} (hin : ∀ w ∈ u_ws C0 T N, w ∈ Ts) (ty0 : Nat → FieldType) (hty : ∀ k, k < N → parseFieldDescriptor (T k).2.2.1 = some (ty0 k)) (hnm : ∀ a, a < N → ∀ b, b < N → a ≠ b → (T a).2.1 ≠ (T b).2.1) (q0 : Nat) (he : ws[q0]? = some (a, .inr (ci, fs))) (hc : cl[ci]? = some (C0, T, N)) (k : Nat) (hk : k < N) (hlink : va_Nw (.fieldLinkNest own index ref (T k).2.1 (T k).2.2.1 host) s) (hsame : (T k).1 = ref) (hfin : (T k).2.2.2 = false) (htk : ty0 k = ty) (hn : narrow ty v = v) (hfit : fits ty v = true) (hlen : k < fs.length) (hset : ws.set q0 (a, .inr (ci, fs.set k v)) = ws1) (hd : decode cc pc = .ok (.putfield index, 3)) (kk : mV p l e R s m args below meth c nL D cl A cells slots Q (ws1) (pc + 3) (lv) (st)) : mV p l e R s m args below meth c nL D cl A cells slots Q (ws) (pc) (lv) (v :: .ref a :: st) := by
  subst hsame
  subst hset
  exact fun H locs ls hP hD hS hl => va_putN C.1 C.2.1 C.2.2.2.2.1 hin ty0 hty hnm C.2.2.2.1 C.2.2.2.2.2.2.2.1 hP hD hS q0 he hc k hk (va_Nw.use rfl hlink) (fun _ h9 => h9) hfin (by rw [hty k hk, htk]) hn hfit hlen hd (fun H1 locs1 hP1 hD1 hS1 => kk H1 locs1 ls hP1 hD1 hS1 hl)
theorem mv_putF (C : mC p s m args meth c cc nL Ts own ret D cl tys A) (hinit : meth.name = "<init>") {ref C0 : String} {T : u_T} {N ci index a : Nat} {fs : List Value} {v : Value} {ty : FieldType} {ws1 : va_W} (hin : ∀ w ∈ u_ws C0 T N, w ∈ Ts) (ty0 : Nat → FieldType) (hty : ∀ k, k < N → parseFieldDescriptor (T k).2.2.1 = some (ty0 k)) (hnm : ∀ a, a < N → ∀ b, b < N → a ≠ b → (T a).2.1 ≠ (T b).2.1) (q0 : Nat) (he : ws[q0]? = some (a, .inr (ci, fs))) (hc : cl[ci]? = some (C0, T, N)) (k : Nat) (hk : k < N) (hlink : Cond.fieldLink own index ref (T k).2.1 (T k).2.2.1 ∈ Ts) (hsame : (T k).1 = ref) (hfin : (T k).2.2.2 = true) (hdecl : ref = own) (htk : ty0 k = ty) (hn : narrow ty v = v) (hfit : fits ty v = true) (hlen : k < fs.length) (hset : ws.set q0 (a, .inr (ci, fs.set k v)) = ws1) (hd : decode cc pc = .ok (.putfield index, 3)) (kk : mV p l e R s m args below meth c nL D cl A cells slots Q (ws1) (pc + 3) (lv) (st)) : mV p l e R s m args below meth c nL D cl A cells slots Q (ws) (pc) (lv) (v :: .ref a :: st) := by
  subst hsame
  subst hset
  exact fun H locs ls hP hD hS hl => va_putF C.1 C.2.1 C.2.2.2.2.1 hin ty0 hty hnm C.2.2.2.1 C.2.2.2.2.2.2.2.1 hP hD hS q0 he hc k hk (C.2.2.2.2.1 _ hlink) (fun _ h9 => h9) hfin hinit hdecl (by rw [hty k hk, htk]) hn hfit hlen hd (fun H1 locs1 hP1 hD1 hS1 => kk H1 locs1 ls hP1 hD1 hS1 hl)
theorem mv_iald (C : mC p s m args meth c cc nL Ts own ret D cl tys A) {a n : Nat} {cA : ClassId} {f : Nat → Int32} {i : Int32} (q0 t0 : Nat) (ha : ws[q0]? = some (a, .inl (cA, n, .inl f))) (ht : tys[t0]? = some (cA, .int)) (hin : vp_in i n) (hd : decode cc pc = .ok (.iaload, 1)) (kk : mV p l e R s m args below meth c nL D cl A cells slots Q (ws) (pc + 1) (lv) (.int (f i.toNatClampNeg) :: st)) : mV p l e R s m args below meth c nL D cl A cells slots Q (ws) (pc) (lv) (.int i :: .ref a :: st) := fun H locs ls hP hD hS hl => va_iald C.1 C.2.1 C.2.2.2.2.2.2.2.1 hP q0 t0 ha ht hin hd (kk H locs ls hP hD hS hl)
theorem mv_iast (C : mC p s m args meth c cc nL Ts own ret D cl tys A) {a n : Nat} {cA : ClassId} {f : Nat → Int32} {i x : Int32} {ws1 : va_W} (q0 t0 : Nat) (ha : ws[q0]? = some (a, .inl (cA, n, .inl f))) (ht : tys[t0]? = some (cA, .int)) (hin : vp_in i n) (hset : ws.set q0 (a, .inl (cA, n, .inl (upd f i.toNatClampNeg x))) = ws1) (hd : decode cc pc = .ok (.iastore, 1)) (kk : mV p l e R s m args below meth c nL D cl A cells slots Q (ws1) (pc + 1) (lv) (st)) : mV p l e R s m args below meth c nL D cl A cells slots Q (ws) (pc) (lv) (.int x :: .int i :: .ref a :: st) := by
  subst hset
  exact fun H locs ls hP hD hS hl => va_iast C.1 C.2.1 C.2.2.2.2.2.2.2.1 hP hD hS q0 t0 ha ht hin hd (fun H1 locs1 hP1 hD1 hS1 => kk H1 locs1 ls hP1 hD1 hS1 hl)
theorem mv_alen (C : mC p s m args meth c cc nL Ts own ret D cl tys A) {a n : Nat} {cA : ClassId} {f : Nat → Int32} {v : Int32} (q0 t0 : Nat) (ha : ws[q0]? = some (a, .inl (cA, n, .inl f))) (ht : tys[t0]? = some (cA, .int)) (hv : Int32.ofNat n = v) (hd : decode cc pc = .ok (.arraylength, 1)) (kk : mV p l e R s m args below meth c nL D cl A cells slots Q (ws) (pc + 1) (lv) (.int v :: st)) : mV p l e R s m args below meth c nL D cl A cells slots Q (ws) (pc) (lv) (.ref a :: st) := fun H locs ls hP hD hS hl => va_alen C.1 C.2.1 C.2.2.2.2.2.2.2.1 hP q0 t0 ha ht hv hd (kk H locs ls hP hD hS hl)
theorem mv_gets (C : mC p s m args meth c cc nL Ts own ret D cl tys A) {C0 n d : String} {v : Value} {index : Nat} (hZ : va_Z C0 n d v A s s.heap) (hlink : Cond.fieldLink own index C0 n d ∈ Ts) (hd : decode cc pc = .ok (.getstatic index, 3)) (kk : mV p l e R s m args below meth c nL D cl A cells slots Q (ws) (pc + 3) (lv) (v :: st)) : mV p l e R s m args below meth c nL D cl A cells slots Q (ws) (pc) (lv) (st) := fun H locs ls hP hD hS hl => va_gets C.1 C.2.1 hZ hS C.2.2.2.1 (C.2.2.2.2.1 _ hlink) (fun _ h9 => h9) hd (kk H locs ls hP hD hS hl)
theorem mv_getsN (C : mC p s m args meth c cc nL Ts own ret D cl tys A) {C0 n d host : String} {v : Value} {index : Nat} (hZ : va_Z C0 n d v A s s.heap) (hlink : va_Nw (.fieldLinkNest own index C0 n d host) s) (hd : decode cc pc = .ok (.getstatic index, 3)) (kk : mV p l e R s m args below meth c nL D cl A cells slots Q (ws) (pc + 3) (lv) (v :: st)) : mV p l e R s m args below meth c nL D cl A cells slots Q (ws) (pc) (lv) (st) := fun H locs ls hP hD hS hl => va_getsN C.1 C.2.1 hZ hS C.2.2.2.1 (va_Nw.use rfl hlink) (fun _ h9 => h9) hd (kk H locs ls hP hD hS hl)
theorem mv_ti (C : mC p s m args meth c cc nL Ts own ret D cl tys A) {t N : Nat} {f : Nat → Value} {i : Int32} {v : Value} (hT : va_T .int t N f A s s.heap) (hin : vp_in i N) (hv : f i.toNatClampNeg = v) (hd : decode cc pc = .ok (.iaload, 1)) (kk : mV p l e R s m args below meth c nL D cl A cells slots Q (ws) (pc + 1) (lv) (v :: st)) : mV p l e R s m args below meth c nL D cl A cells slots Q (ws) (pc) (lv) (.int i :: .ref t :: st) := fun H locs ls hP hD hS hl => va_ti C.1 C.2.1 hT hS hin hv hd (kk H locs ls hP hD hS hl)
theorem mv_tlen (C : mC p s m args meth c cc nL Ts own ret D cl tys A) {t N : Nat} {f : Nat → Value} {v : Int32} (hT : va_T .int t N f A s s.heap) (hv : Int32.ofNat N = v) (hd : decode cc pc = .ok (.arraylength, 1)) (kk : mV p l e R s m args below meth c nL D cl A cells slots Q (ws) (pc + 1) (lv) (.int v :: st)) : mV p l e R s m args below meth c nL D cl A cells slots Q (ws) (pc) (lv) (.ref t :: st) := fun H locs ls hP hD hS hl => va_tlen C.1 C.2.1 hT hS hv hd (kk H locs ls hP hD hS hl)
theorem mv_mmax (C : mC p s m args meth c cc nL Ts own ret D cl tys A) {index : Nat} {x y : Int32} (hlink : Cond.methodLink own index Lib.Math.max.name ∈ Ts) (hstat : Cond.static Lib.Math.max.name ∈ Ts) (hini : Cond.initialized "java/lang/Math" ∈ Ts) (hcode : Cond.code Lib.Math.max.name Lib.Math.max.code 2 (some .int) ∈ Ts) (hframes : 1 ≤ R.frames) (hlocals : (st.map fun v => v.category).sum + 13 ≤ R.locals) (hc : cells ≤ R.cells) (hs : slots ≤ R.slots) (hd : decode cc pc = .ok (.invokestatic index, 3)) (kk : mV p l e R s m args below meth c nL D cl A cells slots Q (ws) (pc + 3) (lv) (.int (if x < y then y else x) :: st)) : mV p l e R s m args below meth c nL D cl A cells slots Q (ws) (pc) (lv) (.int y :: .int x :: st) := fun H locs ls hP hD hS hl => va_mmax C.1 C.2.1 (C.2.2.1.trans hl.1.symm) C.2.2.2.1 (C.2.2.2.2.1 _ hlink) (C.2.2.2.2.1 _ hstat) (C.2.2.2.2.1 _ hini) (C.2.2.2.2.1 _ hcode) hframes hlocals hc hs hd (kk H locs ls hP hD hS hl)
theorem mv_mmin (C : mC p s m args meth c cc nL Ts own ret D cl tys A) {index : Nat} {x y : Int32} (hlink : Cond.methodLink own index Lib.Math.min.name ∈ Ts) (hstat : Cond.static Lib.Math.min.name ∈ Ts) (hini : Cond.initialized "java/lang/Math" ∈ Ts) (hcode : Cond.code Lib.Math.min.name Lib.Math.min.code 2 (some .int) ∈ Ts) (hframes : 1 ≤ R.frames) (hlocals : (st.map fun v => v.category).sum + 13 ≤ R.locals) (hc : cells ≤ R.cells) (hs : slots ≤ R.slots) (hd : decode cc pc = .ok (.invokestatic index, 3)) (kk : mV p l e R s m args below meth c nL D cl A cells slots Q (ws) (pc + 3) (lv) (.int (if y < x then y else x) :: st)) : mV p l e R s m args below meth c nL D cl A cells slots Q (ws) (pc) (lv) (.int y :: .int x :: st) := fun H locs ls hP hD hS hl => va_mmin C.1 C.2.1 (C.2.2.1.trans hl.1.symm) C.2.2.2.1 (C.2.2.2.2.1 _ hlink) (C.2.2.2.2.1 _ hstat) (C.2.2.2.2.1 _ hini) (C.2.2.2.2.1 _ hcode) hframes hlocals hc hs hd (kk H locs ls hP hD hS hl)
theorem mv_iret (C : mC p s m args meth c cc nL Ts own (some .int) D cl tys A) {f : mS → va_W} {u : mS} {post : Int32 → mS → Prop} {v : Int32} (hd : decode cc pc = .ok (.ireturn, 1)) (hp : post v u) : mV p l e R s m args below meth c nL D cl A 0 0 (mQi below args s D cl tys f A post) (f u) pc lv [.int v] := fun H locs ls hP hD hS hl => W.iret (v := v) C.1 C.2.1 C.2.2.2.2.2.1 (fun t ht hW => ⟨⟨v, u, rfl, hp, by rw [ht]; exact hP, va_K.moved hW.alike C.2.2.2.2.2.2.2.1, hD⟩, hS.F ht⟩) hS.2.2 hd C.2.2.2.2.2.2.1
theorem mv_zret (C : mC p s m args meth c cc nL Ts own (some .boolean) D cl tys A) {f : mS → va_W} {u : mS} {post : Int32 → mS → Prop} {v : Int32} (hd : decode cc pc = .ok (.ireturn, 1)) (h01 : v = 0 ∨ v = 1) (hp : post v u) : mV p l e R s m args below meth c nL D cl A 0 0 (mQi below args s D cl tys f A (fun r w => (r = 0 ∨ r = 1) ∧ post r w)) (f u) pc lv [.int v] := fun H locs ls hP hD hS hl => W.zret (v := v) C.1 C.2.1 C.2.2.2.2.2.1 (by rcases h01 with rfl | rfl <;> rfl) (fun t ht hW => ⟨⟨v, u, rfl, ⟨h01, hp⟩, by rw [ht]; exact hP, va_K.moved hW.alike C.2.2.2.2.2.2.2.1, hD⟩, hS.F ht⟩) hS.2.2 hd C.2.2.2.2.2.2.1
theorem mv_vret (C : mC p s m args meth c cc nL Ts own none D cl tys A) {f : mS → va_W} {u : mS} {post : mS → Prop} (hd : decode cc pc = .ok (.return_, 1)) (hp : post u) : mV p l e R s m args below meth c nL D cl A 0 0 (mQv below args s D cl tys f A post) (f u) pc lv [] := fun H locs ls hP hD hS hl => W.vret C.1 C.2.1 C.2.2.2.2.2.1 (fun t ht hW => ⟨⟨u, rfl, hp, by rw [ht]; exact hP, va_K.moved hW.alike C.2.2.2.2.2.2.2.1, hD⟩, hS.F ht⟩) hS.2.2 hd C.2.2.2.2.2.2.1
theorem mfree {f : va_W} {H0 H : Heap} {locs : List Loc} (hD : va_D A f) (hS : va_S A H0 H locs) (hA : ∀ q : Nat, H0.size ≤ q → A q) : ∀ q, va_A f H.size q → A q := by
  intro q h
  rcases h with ⟨k, e, h⟩ | h
  · exact hD.2 k (q, e) h
  · exact hA q (Nat.le_trans hS.1 h)
theorem mblind {E : (Nat → Prop) → State → Prop} (hE : mEok E) {f : mS → va_W} {av : List Value} {u : mS} {sz : Nat} : FrameBlind (mPc E D cl tys f av u sz) := by
  intro a U g mk q
  obtain ⟨q0, q1, qP, qK, qD, qE⟩ := q
  exact ⟨q0, q1, qP, va_K.moved (u := U) (U := U.calling g mk a) (Vm.Alike.refl U.vm) qK, qD, hE.2 _ U g mk a qE⟩
theorem mpre {E : (Nat → Prop) → State → Prop} (hE : mEok E) (hs : E A s) (hK : va_K D cl tys s) (hA : ∀ q : Nat, s.heap.size ≤ q → A q) {f : mS → va_W} {av : List Value} {u : mS} {H : Heap} {locs : List Loc} (hP : va_P D cl (f u) H) (hD : va_D A (f u)) (hS : va_S A s.heap H locs) : ∀ U : State, U.heap = H → s.WarmedH U.vm → mPc E D cl tys f av u H.size av.toArray U := by
  intro U hU hW
  exact ⟨rfl, by rw [hU], by rw [hU]; exact hP, va_K.moved hW.alike hK, hD.weaken (fun _ _ _ _ => trivial), hE.1 A _ s U hs (mfree hD hS hA) hW (fun q h1 h2 => by rw [hU]; exact hS.2.1 q h1 h2)⟩
theorem mv_callVi (C : mC p s m args meth c cc nL Ts own ret D cl tys A) {E : (Nat → Prop) → State → Prop} (hE : mEok E) (hs : E A s) {f : mS → va_W} {u : mS} {As rest : List Value} {y : MethodName} {bytes : ByteArray} {maxL index kl n : Nat} {rt : Option FieldType} {wsy : List Cond} {post : Int32 → mS → Prop} {C0 : String} {T : u_T} {N ci b : Nat} {fs : List Value} (q0 : Nat) (he : (f u)[q0]? = some (b, .inr (ci, fs))) (hc : cl[ci]? = some (C0, T, N)) (hM : mKi l y wsy kl E D cl tys f (.ref b :: As) u post) (cw : CallW R s args own C0 index y bytes maxL rt wsy (mRm kl) 0 0 n) (hst : st = As.reverse ++ .ref b :: rest) (hn : As.length = n) (hW : (rest.map fun v => v.category).sum ≤ 8) (hd : decode cc pc = .ok (.invokevirtual index, 3)) (hf : cells ≤ R.cells ∧ slots ≤ R.slots) (kk : ∀ (r : Int32) (w : mS), post r w → mV p l e R s m args below meth c nL D cl A cells slots Q (f w) (pc + 3) (lv) (.int r :: rest)) : mV p l e R s m args below meth c nL D cl A cells slots Q (f u) (pc) (lv) (st) := by
  subst hst
  exact fun H locs ls hP hD hS hl => va_calli (va_runV (As := As) (rest := rest) ⟨C.1, C.2.1, C.2.2.1, C.2.2.2.1, C.2.2.2.2.1⟩ (hM H.size) cw ⟨mblind hE, va_recv (ci := ci) (q0 := q0) C.2.2.2.2.2.2.2.1 hP hc he, mpre hE hs C.2.2.2.2.2.2.2.1 C.2.2.2.2.2.2.2.2 hP hD hS⟩ rfl hn hl.1 rfl (lv_room hW) hd hf) hS (fun q _ h => mfree hD hS C.2.2.2.2.2.2.2.2 q h) (mfree hD hS C.2.2.2.2.2.2.2.2) (fun r w t H1 locs1 ht hvm hw hB hz1 hk1 hS1 => kk r w hw H1 locs1 ls (by rw [← ht]; exact hB.1) (hB.2.2.weaken (fun k q _ h => mfree hD hS C.2.2.2.2.2.2.2.2 q.1 h)) hS1 hl)
theorem mv_callVv (C : mC p s m args meth c cc nL Ts own ret D cl tys A) {E : (Nat → Prop) → State → Prop} (hE : mEok E) (hs : E A s) {f : mS → va_W} {u : mS} {As rest : List Value} {y : MethodName} {bytes : ByteArray} {maxL index kl n : Nat} {rt : Option FieldType} {wsy : List Cond} {post : mS → Prop} {C0 : String} {T : u_T} {N ci b : Nat} {fs : List Value} (q0 : Nat) (he : (f u)[q0]? = some (b, .inr (ci, fs))) (hc : cl[ci]? = some (C0, T, N)) (hM : mKv l y wsy kl E D cl tys f (.ref b :: As) u post) (cw : CallW R s args own C0 index y bytes maxL rt wsy (mRm kl) 0 0 n) (hst : st = As.reverse ++ .ref b :: rest) (hn : As.length = n) (hW : (rest.map fun v => v.category).sum ≤ 8) (hd : decode cc pc = .ok (.invokevirtual index, 3)) (hf : cells ≤ R.cells ∧ slots ≤ R.slots) (kk : ∀ (w : mS), post w → mV p l e R s m args below meth c nL D cl A cells slots Q (f w) (pc + 3) (lv) (rest)) : mV p l e R s m args below meth c nL D cl A cells slots Q (f u) (pc) (lv) (st) := by
  subst hst
  exact fun H locs ls hP hD hS hl => va_callv (va_runV (As := As) (rest := rest) ⟨C.1, C.2.1, C.2.2.1, C.2.2.2.1, C.2.2.2.2.1⟩ (hM H.size) cw ⟨mblind hE, va_recv (ci := ci) (q0 := q0) C.2.2.2.2.2.2.2.1 hP hc he, mpre hE hs C.2.2.2.2.2.2.2.1 C.2.2.2.2.2.2.2.2 hP hD hS⟩ rfl hn hl.1 rfl (lv_room hW) hd hf) hS (fun q _ h => mfree hD hS C.2.2.2.2.2.2.2.2 q h) (mfree hD hS C.2.2.2.2.2.2.2.2) (fun w t H1 locs1 ht hvm hw hB hz1 hk1 hS1 => kk w hw H1 locs1 ls (by rw [← ht]; exact hB.1) (hB.2.2.weaken (fun k q _ h => mfree hD hS C.2.2.2.2.2.2.2.2 q.1 h)) hS1 hl)
theorem mv_callVNi (C : mC p s m args meth c cc nL Ts own ret D cl tys A) {E : (Nat → Prop) → State → Prop} (hE : mEok E) (hs : E A s) {f : mS → va_W} {u : mS} {As rest : List Value} {y : MethodName} {bytes : ByteArray} {maxL index kl n : Nat} {rt : Option FieldType} {wsy : List Cond} {post : Int32 → mS → Prop} {host : String} {C0 : String} {T : u_T} {N ci b : Nat} {fs : List Value} (q0 : Nat) (he : (f u)[q0]? = some (b, .inr (ci, fs))) (hc : cl[ci]? = some (C0, T, N)) (hM : mKi l y wsy kl E D cl tys f (.ref b :: As) u post) (cw : va_CN R s args own index y host bytes maxL rt wsy (mRm kl) 0 0 n ∧ (Cond.instanceMethod y).before args s = true ∧ (Cond.selects C0 y y).before args s = true) (hst : st = As.reverse ++ .ref b :: rest) (hn : As.length = n) (hW : (rest.map fun v => v.category).sum ≤ 8) (hd : decode cc pc = .ok (.invokevirtual index, 3)) (hf : cells ≤ R.cells ∧ slots ≤ R.slots) (kk : ∀ (r : Int32) (w : mS), post r w → mV p l e R s m args below meth c nL D cl A cells slots Q (f w) (pc + 3) (lv) (.int r :: rest)) : mV p l e R s m args below meth c nL D cl A cells slots Q (f u) (pc) (lv) (st) := by
  subst hst
  exact fun H locs ls hP hD hS hl => va_calli (va_runVN (As := As) (rest := rest) ⟨C.1, C.2.1, C.2.2.1, C.2.2.2.1, C.2.2.2.2.1⟩ (hM H.size) cw ⟨mblind hE, va_recv (ci := ci) (q0 := q0) C.2.2.2.2.2.2.2.1 hP hc he, mpre hE hs C.2.2.2.2.2.2.2.1 C.2.2.2.2.2.2.2.2 hP hD hS⟩ rfl hn hl.1 rfl (lv_room hW) hd hf) hS (fun q _ h => mfree hD hS C.2.2.2.2.2.2.2.2 q h) (mfree hD hS C.2.2.2.2.2.2.2.2) (fun r w t H1 locs1 ht hvm hw hB hz1 hk1 hS1 => kk r w hw H1 locs1 ls (by rw [← ht]; exact hB.1) (hB.2.2.weaken (fun k q _ h => mfree hD hS C.2.2.2.2.2.2.2.2 q.1 h)) hS1 hl)
theorem mv_callVNv (C : mC p s m args meth c cc nL Ts own ret D cl tys A) {E : (Nat → Prop) → State → Prop} (hE : mEok E) (hs : E A s) {f : mS → va_W} {u : mS} {As rest : List Value} {y : MethodName} {bytes : ByteArray} {maxL index kl n : Nat} {rt : Option FieldType} {wsy : List Cond} {post : mS → Prop} {host : String} {C0 : String} {T : u_T} {N ci b : Nat} {fs : List Value} (q0 : Nat) (he : (f u)[q0]? = some (b, .inr (ci, fs))) (hc : cl[ci]? = some (C0, T, N)) (hM : mKv l y wsy kl E D cl tys f (.ref b :: As) u post) (cw : va_CN R s args own index y host bytes maxL rt wsy (mRm kl) 0 0 n ∧ (Cond.instanceMethod y).before args s = true ∧ (Cond.selects C0 y y).before args s = true) (hst : st = As.reverse ++ .ref b :: rest) (hn : As.length = n) (hW : (rest.map fun v => v.category).sum ≤ 8) (hd : decode cc pc = .ok (.invokevirtual index, 3)) (hf : cells ≤ R.cells ∧ slots ≤ R.slots) (kk : ∀ (w : mS), post w → mV p l e R s m args below meth c nL D cl A cells slots Q (f w) (pc + 3) (lv) (rest)) : mV p l e R s m args below meth c nL D cl A cells slots Q (f u) (pc) (lv) (st) := by
  subst hst
  exact fun H locs ls hP hD hS hl => va_callv (va_runVN (As := As) (rest := rest) ⟨C.1, C.2.1, C.2.2.1, C.2.2.2.1, C.2.2.2.2.1⟩ (hM H.size) cw ⟨mblind hE, va_recv (ci := ci) (q0 := q0) C.2.2.2.2.2.2.2.1 hP hc he, mpre hE hs C.2.2.2.2.2.2.2.1 C.2.2.2.2.2.2.2.2 hP hD hS⟩ rfl hn hl.1 rfl (lv_room hW) hd hf) hS (fun q _ h => mfree hD hS C.2.2.2.2.2.2.2.2 q h) (mfree hD hS C.2.2.2.2.2.2.2.2) (fun w t H1 locs1 ht hvm hw hB hz1 hk1 hS1 => kk w hw H1 locs1 ls (by rw [← ht]; exact hB.1) (hB.2.2.weaken (fun k q _ h => mfree hD hS C.2.2.2.2.2.2.2.2 q.1 h)) hS1 hl)
theorem mv_callSi (C : mC p s m args meth c cc nL Ts own ret D cl tys A) {E : (Nat → Prop) → State → Prop} (hE : mEok E) (hs : E A s) {f : mS → va_W} {u : mS} {As rest : List Value} {y : MethodName} {bytes : ByteArray} {maxL index kl n : Nat} {rt : Option FieldType} {wsy : List Cond} {post : Int32 → mS → Prop} (hM : mKi l y wsy kl E D cl tys f As u post) (cw : CallB R s args own index y bytes maxL rt wsy (mRm kl) 0 0 n ∧ (Cond.static y).before args s = true) (hst : st = As.reverse ++ rest) (hn : As.length = n) (hW : (rest.map fun v => v.category).sum ≤ 8) (hd : decode cc pc = .ok (.invokestatic index, 3)) (hf : cells ≤ R.cells ∧ slots ≤ R.slots) (kk : ∀ (r : Int32) (w : mS), post r w → mV p l e R s m args below meth c nL D cl A cells slots Q (f w) (pc + 3) (lv) (.int r :: rest)) : mV p l e R s m args below meth c nL D cl A cells slots Q (f u) (pc) (lv) (st) := by
  subst hst
  exact fun H locs ls hP hD hS hl => va_calli (va_runS (As := As) (rest := rest) ⟨C.1, C.2.1, C.2.2.1, C.2.2.2.1, C.2.2.2.2.1⟩ (hM H.size) cw ⟨mblind hE, mpre hE hs C.2.2.2.2.2.2.2.1 C.2.2.2.2.2.2.2.2 hP hD hS⟩ rfl hn hl.1 rfl (lv_room hW) hd hf) hS (fun q _ h => mfree hD hS C.2.2.2.2.2.2.2.2 q h) (mfree hD hS C.2.2.2.2.2.2.2.2) (fun r w t H1 locs1 ht hvm hw hB hz1 hk1 hS1 => kk r w hw H1 locs1 ls (by rw [← ht]; exact hB.1) (hB.2.2.weaken (fun k q _ h => mfree hD hS C.2.2.2.2.2.2.2.2 q.1 h)) hS1 hl)
theorem mv_callSv (C : mC p s m args meth c cc nL Ts own ret D cl tys A) {E : (Nat → Prop) → State → Prop} (hE : mEok E) (hs : E A s) {f : mS → va_W} {u : mS} {As rest : List Value} {y : MethodName} {bytes : ByteArray} {maxL index kl n : Nat} {rt : Option FieldType} {wsy : List Cond} {post : mS → Prop} (hM : mKv l y wsy kl E D cl tys f As u post) (cw : CallB R s args own index y bytes maxL rt wsy (mRm kl) 0 0 n ∧ (Cond.static y).before args s = true) (hst : st = As.reverse ++ rest) (hn : As.length = n) (hW : (rest.map fun v => v.category).sum ≤ 8) (hd : decode cc pc = .ok (.invokestatic index, 3)) (hf : cells ≤ R.cells ∧ slots ≤ R.slots) (kk : ∀ (w : mS), post w → mV p l e R s m args below meth c nL D cl A cells slots Q (f w) (pc + 3) (lv) (rest)) : mV p l e R s m args below meth c nL D cl A cells slots Q (f u) (pc) (lv) (st) := by
  subst hst
  exact fun H locs ls hP hD hS hl => va_callv (va_runS (As := As) (rest := rest) ⟨C.1, C.2.1, C.2.2.1, C.2.2.2.1, C.2.2.2.2.1⟩ (hM H.size) cw ⟨mblind hE, mpre hE hs C.2.2.2.2.2.2.2.1 C.2.2.2.2.2.2.2.2 hP hD hS⟩ rfl hn hl.1 rfl (lv_room hW) hd hf) hS (fun q _ h => mfree hD hS C.2.2.2.2.2.2.2.2 q h) (mfree hD hS C.2.2.2.2.2.2.2.2) (fun w t H1 locs1 ht hvm hw hB hz1 hk1 hS1 => kk w hw H1 locs1 ls (by rw [← ht]; exact hB.1) (hB.2.2.weaken (fun k q _ h => mfree hD hS C.2.2.2.2.2.2.2.2 q.1 h)) hS1 hl)
theorem mv_callSNi (C : mC p s m args meth c cc nL Ts own ret D cl tys A) {E : (Nat → Prop) → State → Prop} (hE : mEok E) (hs : E A s) {f : mS → va_W} {u : mS} {As rest : List Value} {y : MethodName} {bytes : ByteArray} {maxL index kl n : Nat} {rt : Option FieldType} {wsy : List Cond} {post : Int32 → mS → Prop} {host : String} (hM : mKi l y wsy kl E D cl tys f As u post) (cw : va_CN R s args own index y host bytes maxL rt wsy (mRm kl) 0 0 n ∧ (Cond.static y).before args s = true ∧ True) (hst : st = As.reverse ++ rest) (hn : As.length = n) (hW : (rest.map fun v => v.category).sum ≤ 8) (hd : decode cc pc = .ok (.invokestatic index, 3)) (hf : cells ≤ R.cells ∧ slots ≤ R.slots) (kk : ∀ (r : Int32) (w : mS), post r w → mV p l e R s m args below meth c nL D cl A cells slots Q (f w) (pc + 3) (lv) (.int r :: rest)) : mV p l e R s m args below meth c nL D cl A cells slots Q (f u) (pc) (lv) (st) := by
  subst hst
  exact fun H locs ls hP hD hS hl => va_calli (va_runSN (As := As) (rest := rest) ⟨C.1, C.2.1, C.2.2.1, C.2.2.2.1, C.2.2.2.2.1⟩ (hM H.size) cw ⟨mblind hE, mpre hE hs C.2.2.2.2.2.2.2.1 C.2.2.2.2.2.2.2.2 hP hD hS⟩ rfl hn hl.1 rfl (lv_room hW) hd hf) hS (fun q _ h => mfree hD hS C.2.2.2.2.2.2.2.2 q h) (mfree hD hS C.2.2.2.2.2.2.2.2) (fun r w t H1 locs1 ht hvm hw hB hz1 hk1 hS1 => kk r w hw H1 locs1 ls (by rw [← ht]; exact hB.1) (hB.2.2.weaken (fun k q _ h => mfree hD hS C.2.2.2.2.2.2.2.2 q.1 h)) hS1 hl)
theorem mv_callSNv (C : mC p s m args meth c cc nL Ts own ret D cl tys A) {E : (Nat → Prop) → State → Prop} (hE : mEok E) (hs : E A s) {f : mS → va_W} {u : mS} {As rest : List Value} {y : MethodName} {bytes : ByteArray} {maxL index kl n : Nat} {rt : Option FieldType} {wsy : List Cond} {post : mS → Prop} {host : String} (hM : mKv l y wsy kl E D cl tys f As u post) (cw : va_CN R s args own index y host bytes maxL rt wsy (mRm kl) 0 0 n ∧ (Cond.static y).before args s = true ∧ True) (hst : st = As.reverse ++ rest) (hn : As.length = n) (hW : (rest.map fun v => v.category).sum ≤ 8) (hd : decode cc pc = .ok (.invokestatic index, 3)) (hf : cells ≤ R.cells ∧ slots ≤ R.slots) (kk : ∀ (w : mS), post w → mV p l e R s m args below meth c nL D cl A cells slots Q (f w) (pc + 3) (lv) (rest)) : mV p l e R s m args below meth c nL D cl A cells slots Q (f u) (pc) (lv) (st) := by
  subst hst
  exact fun H locs ls hP hD hS hl => va_callv (va_runSN (As := As) (rest := rest) ⟨C.1, C.2.1, C.2.2.1, C.2.2.2.1, C.2.2.2.2.1⟩ (hM H.size) cw ⟨mblind hE, mpre hE hs C.2.2.2.2.2.2.2.1 C.2.2.2.2.2.2.2.2 hP hD hS⟩ rfl hn hl.1 rfl (lv_room hW) hd hf) hS (fun q _ h => mfree hD hS C.2.2.2.2.2.2.2.2 q h) (mfree hD hS C.2.2.2.2.2.2.2.2) (fun w t H1 locs1 ht hvm hw hB hz1 hk1 hS1 => kk w hw H1 locs1 ls (by rw [← ht]; exact hB.1) (hB.2.2.weaken (fun k q _ h => mfree hD hS C.2.2.2.2.2.2.2.2 q.1 h)) hS1 hl)
end MV
def mL1 {A1 : Type} (F : (A1 → Prop) → A1 → Prop) : Nat → A1 → Prop
  | 0, _ => False
  | k + 1, a1 => F (mL1 F k) a1
theorem mL1_of {A1 : Type} {F : (A1 → Prop) → A1 → Prop} {G : A1 → Prop} (h : ∀ K : A1 → Prop, (∀ (a1 : A1), K a1 → G a1) → ∀ (a1 : A1), F K a1 → G a1) : ∀ (k : Nat) (a1 : A1), mL1 F k a1 → G a1
  | 0, _, hw => hw.elim
  | k + 1, a1, hw => h (mL1 F k) (mL1_of h k) a1 hw
theorem mL1_in {A1 : Type} {F : (A1 → Prop) → A1 → Prop} (I : A1 → Prop) (μ : A1 → Nat) (h : ∀ (K : A1 → Prop) (a1 : A1), I a1 → (∀ (b1 : A1), I b1 → μ b1 < μ a1 → K b1) → F K a1) : ∀ (a1 : A1), I a1 → ∃ k, mL1 F k a1 := by
  have key : ∀ (k : Nat) (a1 : A1), I a1 → μ a1 < k → mL1 F k a1 := by
    intro k
    induction k with
    | zero => intro a1 _ hk; omega
    | succ k ih => intro a1 hI hk; exact h _ a1 hI (fun b1 hI2 hk2 => ih b1 hI2 (by omega))
  intro a1 hI
  exact ⟨μ a1 + 1, key _ a1 hI (Nat.lt_succ_self _)⟩
def mL2 {A1 A2 : Type} (F : (A1 → A2 → Prop) → A1 → A2 → Prop) : Nat → A1 → A2 → Prop
  | 0, _, _ => False
  | k + 1, a1, a2 => F (mL2 F k) a1 a2
theorem mL2_of {A1 A2 : Type} {F : (A1 → A2 → Prop) → A1 → A2 → Prop} {G : A1 → A2 → Prop} (h : ∀ K : A1 → A2 → Prop, (∀ (a1 : A1) (a2 : A2), K a1 a2 → G a1 a2) → ∀ (a1 : A1) (a2 : A2), F K a1 a2 → G a1 a2) : ∀ (k : Nat) (a1 : A1) (a2 : A2), mL2 F k a1 a2 → G a1 a2
  | 0, _, _, hw => hw.elim
  | k + 1, a1, a2, hw => h (mL2 F k) (mL2_of h k) a1 a2 hw
theorem mL2_in {A1 A2 : Type} {F : (A1 → A2 → Prop) → A1 → A2 → Prop} (I : A1 → A2 → Prop) (μ : A1 → A2 → Nat) (h : ∀ (K : A1 → A2 → Prop) (a1 : A1) (a2 : A2), I a1 a2 → (∀ (b1 : A1) (b2 : A2), I b1 b2 → μ b1 b2 < μ a1 a2 → K b1 b2) → F K a1 a2) : ∀ (a1 : A1) (a2 : A2), I a1 a2 → ∃ k, mL2 F k a1 a2 := by
  have key : ∀ (k : Nat) (a1 : A1) (a2 : A2), I a1 a2 → μ a1 a2 < k → mL2 F k a1 a2 := by
    intro k
    induction k with
    | zero => intro a1 a2 _ hk; omega
    | succ k ih => intro a1 a2 hI hk; exact h _ a1 a2 hI (fun b1 b2 hI2 hk2 => ih b1 b2 hI2 (by omega))
  intro a1 a2 hI
  exact ⟨μ a1 a2 + 1, key _ a1 a2 hI (Nat.lt_succ_self _)⟩
def mL3 {A1 A2 A3 : Type} (F : (A1 → A2 → A3 → Prop) → A1 → A2 → A3 → Prop) : Nat → A1 → A2 → A3 → Prop
  | 0, _, _, _ => False
  | k + 1, a1, a2, a3 => F (mL3 F k) a1 a2 a3
theorem mL3_of {A1 A2 A3 : Type} {F : (A1 → A2 → A3 → Prop) → A1 → A2 → A3 → Prop} {G : A1 → A2 → A3 → Prop} (h : ∀ K : A1 → A2 → A3 → Prop, (∀ (a1 : A1) (a2 : A2) (a3 : A3), K a1 a2 a3 → G a1 a2 a3) → ∀ (a1 : A1) (a2 : A2) (a3 : A3), F K a1 a2 a3 → G a1 a2 a3) : ∀ (k : Nat) (a1 : A1) (a2 : A2) (a3 : A3), mL3 F k a1 a2 a3 → G a1 a2 a3
  | 0, _, _, _, hw => hw.elim
  | k + 1, a1, a2, a3, hw => h (mL3 F k) (mL3_of h k) a1 a2 a3 hw
theorem mL3_in {A1 A2 A3 : Type} {F : (A1 → A2 → A3 → Prop) → A1 → A2 → A3 → Prop} (I : A1 → A2 → A3 → Prop) (μ : A1 → A2 → A3 → Nat) (h : ∀ (K : A1 → A2 → A3 → Prop) (a1 : A1) (a2 : A2) (a3 : A3), I a1 a2 a3 → (∀ (b1 : A1) (b2 : A2) (b3 : A3), I b1 b2 b3 → μ b1 b2 b3 < μ a1 a2 a3 → K b1 b2 b3) → F K a1 a2 a3) : ∀ (a1 : A1) (a2 : A2) (a3 : A3), I a1 a2 a3 → ∃ k, mL3 F k a1 a2 a3 := by
  have key : ∀ (k : Nat) (a1 : A1) (a2 : A2) (a3 : A3), I a1 a2 a3 → μ a1 a2 a3 < k → mL3 F k a1 a2 a3 := by
    intro k
    induction k with
    | zero => intro a1 a2 a3 _ hk; omega
    | succ k ih => intro a1 a2 a3 hI hk; exact h _ a1 a2 a3 hI (fun b1 b2 b3 hI2 hk2 => ih b1 b2 b3 hI2 (by omega))
  intro a1 a2 a3 hI
  exact ⟨μ a1 a2 a3 + 1, key _ a1 a2 a3 hI (Nat.lt_succ_self _)⟩
def mL4 {A1 A2 A3 A4 : Type} (F : (A1 → A2 → A3 → A4 → Prop) → A1 → A2 → A3 → A4 → Prop) : Nat → A1 → A2 → A3 → A4 → Prop
  | 0, _, _, _, _ => False
  | k + 1, a1, a2, a3, a4 => F (mL4 F k) a1 a2 a3 a4
theorem mL4_of {A1 A2 A3 A4 : Type} {F : (A1 → A2 → A3 → A4 → Prop) → A1 → A2 → A3 → A4 → Prop} {G : A1 → A2 → A3 → A4 → Prop} (h : ∀ K : A1 → A2 → A3 → A4 → Prop, (∀ (a1 : A1) (a2 : A2) (a3 : A3) (a4 : A4), K a1 a2 a3 a4 → G a1 a2 a3 a4) → ∀ (a1 : A1) (a2 : A2) (a3 : A3) (a4 : A4), F K a1 a2 a3 a4 → G a1 a2 a3 a4) : ∀ (k : Nat) (a1 : A1) (a2 : A2) (a3 : A3) (a4 : A4), mL4 F k a1 a2 a3 a4 → G a1 a2 a3 a4
  | 0, _, _, _, _, hw => hw.elim
  | k + 1, a1, a2, a3, a4, hw => h (mL4 F k) (mL4_of h k) a1 a2 a3 a4 hw
theorem mL4_in {A1 A2 A3 A4 : Type} {F : (A1 → A2 → A3 → A4 → Prop) → A1 → A2 → A3 → A4 → Prop} (I : A1 → A2 → A3 → A4 → Prop) (μ : A1 → A2 → A3 → A4 → Nat) (h : ∀ (K : A1 → A2 → A3 → A4 → Prop) (a1 : A1) (a2 : A2) (a3 : A3) (a4 : A4), I a1 a2 a3 a4 → (∀ (b1 : A1) (b2 : A2) (b3 : A3) (b4 : A4), I b1 b2 b3 b4 → μ b1 b2 b3 b4 < μ a1 a2 a3 a4 → K b1 b2 b3 b4) → F K a1 a2 a3 a4) : ∀ (a1 : A1) (a2 : A2) (a3 : A3) (a4 : A4), I a1 a2 a3 a4 → ∃ k, mL4 F k a1 a2 a3 a4 := by
  have key : ∀ (k : Nat) (a1 : A1) (a2 : A2) (a3 : A3) (a4 : A4), I a1 a2 a3 a4 → μ a1 a2 a3 a4 < k → mL4 F k a1 a2 a3 a4 := by
    intro k
    induction k with
    | zero => intro a1 a2 a3 a4 _ hk; omega
    | succ k ih => intro a1 a2 a3 a4 hI hk; exact h _ a1 a2 a3 a4 hI (fun b1 b2 b3 b4 hI2 hk2 => ih b1 b2 b3 b4 hI2 (by omega))
  intro a1 a2 a3 a4 hI
  exact ⟨μ a1 a2 a3 a4 + 1, key _ a1 a2 a3 a4 hI (Nat.lt_succ_self _)⟩
def mL5 {A1 A2 A3 A4 A5 : Type} (F : (A1 → A2 → A3 → A4 → A5 → Prop) → A1 → A2 → A3 → A4 → A5 → Prop) : Nat → A1 → A2 → A3 → A4 → A5 → Prop
  | 0, _, _, _, _, _ => False
  | k + 1, a1, a2, a3, a4, a5 => F (mL5 F k) a1 a2 a3 a4 a5
theorem mL5_of {A1 A2 A3 A4 A5 : Type} {F : (A1 → A2 → A3 → A4 → A5 → Prop) → A1 → A2 → A3 → A4 → A5 → Prop} {G : A1 → A2 → A3 → A4 → A5 → Prop} (h : ∀ K : A1 → A2 → A3 → A4 → A5 → Prop, (∀ (a1 : A1) (a2 : A2) (a3 : A3) (a4 : A4) (a5 : A5), K a1 a2 a3 a4 a5 → G a1 a2 a3 a4 a5) → ∀ (a1 : A1) (a2 : A2) (a3 : A3) (a4 : A4) (a5 : A5), F K a1 a2 a3 a4 a5 → G a1 a2 a3 a4 a5) : ∀ (k : Nat) (a1 : A1) (a2 : A2) (a3 : A3) (a4 : A4) (a5 : A5), mL5 F k a1 a2 a3 a4 a5 → G a1 a2 a3 a4 a5
  | 0, _, _, _, _, _, hw => hw.elim
  | k + 1, a1, a2, a3, a4, a5, hw => h (mL5 F k) (mL5_of h k) a1 a2 a3 a4 a5 hw
theorem mL5_in {A1 A2 A3 A4 A5 : Type} {F : (A1 → A2 → A3 → A4 → A5 → Prop) → A1 → A2 → A3 → A4 → A5 → Prop} (I : A1 → A2 → A3 → A4 → A5 → Prop) (μ : A1 → A2 → A3 → A4 → A5 → Nat) (h : ∀ (K : A1 → A2 → A3 → A4 → A5 → Prop) (a1 : A1) (a2 : A2) (a3 : A3) (a4 : A4) (a5 : A5), I a1 a2 a3 a4 a5 → (∀ (b1 : A1) (b2 : A2) (b3 : A3) (b4 : A4) (b5 : A5), I b1 b2 b3 b4 b5 → μ b1 b2 b3 b4 b5 < μ a1 a2 a3 a4 a5 → K b1 b2 b3 b4 b5) → F K a1 a2 a3 a4 a5) : ∀ (a1 : A1) (a2 : A2) (a3 : A3) (a4 : A4) (a5 : A5), I a1 a2 a3 a4 a5 → ∃ k, mL5 F k a1 a2 a3 a4 a5 := by
  have key : ∀ (k : Nat) (a1 : A1) (a2 : A2) (a3 : A3) (a4 : A4) (a5 : A5), I a1 a2 a3 a4 a5 → μ a1 a2 a3 a4 a5 < k → mL5 F k a1 a2 a3 a4 a5 := by
    intro k
    induction k with
    | zero => intro a1 a2 a3 a4 a5 _ hk; omega
    | succ k ih => intro a1 a2 a3 a4 a5 hI hk; exact h _ a1 a2 a3 a4 a5 hI (fun b1 b2 b3 b4 b5 hI2 hk2 => ih b1 b2 b3 b4 b5 hI2 (by omega))
  intro a1 a2 a3 a4 a5 hI
  exact ⟨μ a1 a2 a3 a4 a5 + 1, key _ a1 a2 a3 a4 a5 hI (Nat.lt_succ_self _)⟩
def mL6 {A1 A2 A3 A4 A5 A6 : Type} (F : (A1 → A2 → A3 → A4 → A5 → A6 → Prop) → A1 → A2 → A3 → A4 → A5 → A6 → Prop) : Nat → A1 → A2 → A3 → A4 → A5 → A6 → Prop
  | 0, _, _, _, _, _, _ => False
  | k + 1, a1, a2, a3, a4, a5, a6 => F (mL6 F k) a1 a2 a3 a4 a5 a6
theorem mL6_of {A1 A2 A3 A4 A5 A6 : Type} {F : (A1 → A2 → A3 → A4 → A5 → A6 → Prop) → A1 → A2 → A3 → A4 → A5 → A6 → Prop} {G : A1 → A2 → A3 → A4 → A5 → A6 → Prop} (h : ∀ K : A1 → A2 → A3 → A4 → A5 → A6 → Prop, (∀ (a1 : A1) (a2 : A2) (a3 : A3) (a4 : A4) (a5 : A5) (a6 : A6), K a1 a2 a3 a4 a5 a6 → G a1 a2 a3 a4 a5 a6) → ∀ (a1 : A1) (a2 : A2) (a3 : A3) (a4 : A4) (a5 : A5) (a6 : A6), F K a1 a2 a3 a4 a5 a6 → G a1 a2 a3 a4 a5 a6) : ∀ (k : Nat) (a1 : A1) (a2 : A2) (a3 : A3) (a4 : A4) (a5 : A5) (a6 : A6), mL6 F k a1 a2 a3 a4 a5 a6 → G a1 a2 a3 a4 a5 a6
  | 0, _, _, _, _, _, _, hw => hw.elim
  | k + 1, a1, a2, a3, a4, a5, a6, hw => h (mL6 F k) (mL6_of h k) a1 a2 a3 a4 a5 a6 hw
theorem mL6_in {A1 A2 A3 A4 A5 A6 : Type} {F : (A1 → A2 → A3 → A4 → A5 → A6 → Prop) → A1 → A2 → A3 → A4 → A5 → A6 → Prop} (I : A1 → A2 → A3 → A4 → A5 → A6 → Prop) (μ : A1 → A2 → A3 → A4 → A5 → A6 → Nat) (h : ∀ (K : A1 → A2 → A3 → A4 → A5 → A6 → Prop) (a1 : A1) (a2 : A2) (a3 : A3) (a4 : A4) (a5 : A5) (a6 : A6), I a1 a2 a3 a4 a5 a6 → (∀ (b1 : A1) (b2 : A2) (b3 : A3) (b4 : A4) (b5 : A5) (b6 : A6), I b1 b2 b3 b4 b5 b6 → μ b1 b2 b3 b4 b5 b6 < μ a1 a2 a3 a4 a5 a6 → K b1 b2 b3 b4 b5 b6) → F K a1 a2 a3 a4 a5 a6) : ∀ (a1 : A1) (a2 : A2) (a3 : A3) (a4 : A4) (a5 : A5) (a6 : A6), I a1 a2 a3 a4 a5 a6 → ∃ k, mL6 F k a1 a2 a3 a4 a5 a6 := by
  have key : ∀ (k : Nat) (a1 : A1) (a2 : A2) (a3 : A3) (a4 : A4) (a5 : A5) (a6 : A6), I a1 a2 a3 a4 a5 a6 → μ a1 a2 a3 a4 a5 a6 < k → mL6 F k a1 a2 a3 a4 a5 a6 := by
    intro k
    induction k with
    | zero => intro a1 a2 a3 a4 a5 a6 _ hk; omega
    | succ k ih => intro a1 a2 a3 a4 a5 a6 hI hk; exact h _ a1 a2 a3 a4 a5 a6 hI (fun b1 b2 b3 b4 b5 b6 hI2 hk2 => ih b1 b2 b3 b4 b5 b6 hI2 (by omega))
  intro a1 a2 a3 a4 a5 a6 hI
  exact ⟨μ a1 a2 a3 a4 a5 a6 + 1, key _ a1 a2 a3 a4 a5 a6 hI (Nat.lt_succ_self _)⟩
def mL7 {A1 A2 A3 A4 A5 A6 A7 : Type} (F : (A1 → A2 → A3 → A4 → A5 → A6 → A7 → Prop) → A1 → A2 → A3 → A4 → A5 → A6 → A7 → Prop) : Nat → A1 → A2 → A3 → A4 → A5 → A6 → A7 → Prop
  | 0, _, _, _, _, _, _, _ => False
  | k + 1, a1, a2, a3, a4, a5, a6, a7 => F (mL7 F k) a1 a2 a3 a4 a5 a6 a7
theorem mL7_of {A1 A2 A3 A4 A5 A6 A7 : Type} {F : (A1 → A2 → A3 → A4 → A5 → A6 → A7 → Prop) → A1 → A2 → A3 → A4 → A5 → A6 → A7 → Prop} {G : A1 → A2 → A3 → A4 → A5 → A6 → A7 → Prop} (h : ∀ K : A1 → A2 → A3 → A4 → A5 → A6 → A7 → Prop, (∀ (a1 : A1) (a2 : A2) (a3 : A3) (a4 : A4) (a5 : A5) (a6 : A6) (a7 : A7), K a1 a2 a3 a4 a5 a6 a7 → G a1 a2 a3 a4 a5 a6 a7) → ∀ (a1 : A1) (a2 : A2) (a3 : A3) (a4 : A4) (a5 : A5) (a6 : A6) (a7 : A7), F K a1 a2 a3 a4 a5 a6 a7 → G a1 a2 a3 a4 a5 a6 a7) : ∀ (k : Nat) (a1 : A1) (a2 : A2) (a3 : A3) (a4 : A4) (a5 : A5) (a6 : A6) (a7 : A7), mL7 F k a1 a2 a3 a4 a5 a6 a7 → G a1 a2 a3 a4 a5 a6 a7
  | 0, _, _, _, _, _, _, _, hw => hw.elim
  | k + 1, a1, a2, a3, a4, a5, a6, a7, hw => h (mL7 F k) (mL7_of h k) a1 a2 a3 a4 a5 a6 a7 hw
theorem mL7_in {A1 A2 A3 A4 A5 A6 A7 : Type} {F : (A1 → A2 → A3 → A4 → A5 → A6 → A7 → Prop) → A1 → A2 → A3 → A4 → A5 → A6 → A7 → Prop} (I : A1 → A2 → A3 → A4 → A5 → A6 → A7 → Prop) (μ : A1 → A2 → A3 → A4 → A5 → A6 → A7 → Nat) (h : ∀ (K : A1 → A2 → A3 → A4 → A5 → A6 → A7 → Prop) (a1 : A1) (a2 : A2) (a3 : A3) (a4 : A4) (a5 : A5) (a6 : A6) (a7 : A7), I a1 a2 a3 a4 a5 a6 a7 → (∀ (b1 : A1) (b2 : A2) (b3 : A3) (b4 : A4) (b5 : A5) (b6 : A6) (b7 : A7), I b1 b2 b3 b4 b5 b6 b7 → μ b1 b2 b3 b4 b5 b6 b7 < μ a1 a2 a3 a4 a5 a6 a7 → K b1 b2 b3 b4 b5 b6 b7) → F K a1 a2 a3 a4 a5 a6 a7) : ∀ (a1 : A1) (a2 : A2) (a3 : A3) (a4 : A4) (a5 : A5) (a6 : A6) (a7 : A7), I a1 a2 a3 a4 a5 a6 a7 → ∃ k, mL7 F k a1 a2 a3 a4 a5 a6 a7 := by
  have key : ∀ (k : Nat) (a1 : A1) (a2 : A2) (a3 : A3) (a4 : A4) (a5 : A5) (a6 : A6) (a7 : A7), I a1 a2 a3 a4 a5 a6 a7 → μ a1 a2 a3 a4 a5 a6 a7 < k → mL7 F k a1 a2 a3 a4 a5 a6 a7 := by
    intro k
    induction k with
    | zero => intro a1 a2 a3 a4 a5 a6 a7 _ hk; omega
    | succ k ih => intro a1 a2 a3 a4 a5 a6 a7 hI hk; exact h _ a1 a2 a3 a4 a5 a6 a7 hI (fun b1 b2 b3 b4 b5 b6 b7 hI2 hk2 => ih b1 b2 b3 b4 b5 b6 b7 hI2 (by omega))
  intro a1 a2 a3 a4 a5 a6 a7 hI
  exact ⟨μ a1 a2 a3 a4 a5 a6 a7 + 1, key _ a1 a2 a3 a4 a5 a6 a7 hI (Nat.lt_succ_self _)⟩
def mL8 {A1 A2 A3 A4 A5 A6 A7 A8 : Type} (F : (A1 → A2 → A3 → A4 → A5 → A6 → A7 → A8 → Prop) → A1 → A2 → A3 → A4 → A5 → A6 → A7 → A8 → Prop) : Nat → A1 → A2 → A3 → A4 → A5 → A6 → A7 → A8 → Prop
  | 0, _, _, _, _, _, _, _, _ => False
  | k + 1, a1, a2, a3, a4, a5, a6, a7, a8 => F (mL8 F k) a1 a2 a3 a4 a5 a6 a7 a8
theorem mL8_of {A1 A2 A3 A4 A5 A6 A7 A8 : Type} {F : (A1 → A2 → A3 → A4 → A5 → A6 → A7 → A8 → Prop) → A1 → A2 → A3 → A4 → A5 → A6 → A7 → A8 → Prop} {G : A1 → A2 → A3 → A4 → A5 → A6 → A7 → A8 → Prop} (h : ∀ K : A1 → A2 → A3 → A4 → A5 → A6 → A7 → A8 → Prop, (∀ (a1 : A1) (a2 : A2) (a3 : A3) (a4 : A4) (a5 : A5) (a6 : A6) (a7 : A7) (a8 : A8), K a1 a2 a3 a4 a5 a6 a7 a8 → G a1 a2 a3 a4 a5 a6 a7 a8) → ∀ (a1 : A1) (a2 : A2) (a3 : A3) (a4 : A4) (a5 : A5) (a6 : A6) (a7 : A7) (a8 : A8), F K a1 a2 a3 a4 a5 a6 a7 a8 → G a1 a2 a3 a4 a5 a6 a7 a8) : ∀ (k : Nat) (a1 : A1) (a2 : A2) (a3 : A3) (a4 : A4) (a5 : A5) (a6 : A6) (a7 : A7) (a8 : A8), mL8 F k a1 a2 a3 a4 a5 a6 a7 a8 → G a1 a2 a3 a4 a5 a6 a7 a8
  | 0, _, _, _, _, _, _, _, _, hw => hw.elim
  | k + 1, a1, a2, a3, a4, a5, a6, a7, a8, hw => h (mL8 F k) (mL8_of h k) a1 a2 a3 a4 a5 a6 a7 a8 hw
theorem mL8_in {A1 A2 A3 A4 A5 A6 A7 A8 : Type} {F : (A1 → A2 → A3 → A4 → A5 → A6 → A7 → A8 → Prop) → A1 → A2 → A3 → A4 → A5 → A6 → A7 → A8 → Prop} (I : A1 → A2 → A3 → A4 → A5 → A6 → A7 → A8 → Prop) (μ : A1 → A2 → A3 → A4 → A5 → A6 → A7 → A8 → Nat) (h : ∀ (K : A1 → A2 → A3 → A4 → A5 → A6 → A7 → A8 → Prop) (a1 : A1) (a2 : A2) (a3 : A3) (a4 : A4) (a5 : A5) (a6 : A6) (a7 : A7) (a8 : A8), I a1 a2 a3 a4 a5 a6 a7 a8 → (∀ (b1 : A1) (b2 : A2) (b3 : A3) (b4 : A4) (b5 : A5) (b6 : A6) (b7 : A7) (b8 : A8), I b1 b2 b3 b4 b5 b6 b7 b8 → μ b1 b2 b3 b4 b5 b6 b7 b8 < μ a1 a2 a3 a4 a5 a6 a7 a8 → K b1 b2 b3 b4 b5 b6 b7 b8) → F K a1 a2 a3 a4 a5 a6 a7 a8) : ∀ (a1 : A1) (a2 : A2) (a3 : A3) (a4 : A4) (a5 : A5) (a6 : A6) (a7 : A7) (a8 : A8), I a1 a2 a3 a4 a5 a6 a7 a8 → ∃ k, mL8 F k a1 a2 a3 a4 a5 a6 a7 a8 := by
  have key : ∀ (k : Nat) (a1 : A1) (a2 : A2) (a3 : A3) (a4 : A4) (a5 : A5) (a6 : A6) (a7 : A7) (a8 : A8), I a1 a2 a3 a4 a5 a6 a7 a8 → μ a1 a2 a3 a4 a5 a6 a7 a8 < k → mL8 F k a1 a2 a3 a4 a5 a6 a7 a8 := by
    intro k
    induction k with
    | zero => intro a1 a2 a3 a4 a5 a6 a7 a8 _ hk; omega
    | succ k ih => intro a1 a2 a3 a4 a5 a6 a7 a8 hI hk; exact h _ a1 a2 a3 a4 a5 a6 a7 a8 hI (fun b1 b2 b3 b4 b5 b6 b7 b8 hI2 hk2 => ih b1 b2 b3 b4 b5 b6 b7 b8 hI2 (by omega))
  intro a1 a2 a3 a4 a5 a6 a7 a8 hI
  exact ⟨μ a1 a2 a3 a4 a5 a6 a7 a8 + 1, key _ a1 a2 a3 a4 a5 a6 a7 a8 hI (Nat.lt_succ_self _)⟩
def mL9 {A1 A2 A3 A4 A5 A6 A7 A8 A9 : Type} (F : (A1 → A2 → A3 → A4 → A5 → A6 → A7 → A8 → A9 → Prop) → A1 → A2 → A3 → A4 → A5 → A6 → A7 → A8 → A9 → Prop) : Nat → A1 → A2 → A3 → A4 → A5 → A6 → A7 → A8 → A9 → Prop
  | 0, _, _, _, _, _, _, _, _, _ => False
  | k + 1, a1, a2, a3, a4, a5, a6, a7, a8, a9 => F (mL9 F k) a1 a2 a3 a4 a5 a6 a7 a8 a9
theorem mL9_of {A1 A2 A3 A4 A5 A6 A7 A8 A9 : Type} {F : (A1 → A2 → A3 → A4 → A5 → A6 → A7 → A8 → A9 → Prop) → A1 → A2 → A3 → A4 → A5 → A6 → A7 → A8 → A9 → Prop} {G : A1 → A2 → A3 → A4 → A5 → A6 → A7 → A8 → A9 → Prop} (h : ∀ K : A1 → A2 → A3 → A4 → A5 → A6 → A7 → A8 → A9 → Prop, (∀ (a1 : A1) (a2 : A2) (a3 : A3) (a4 : A4) (a5 : A5) (a6 : A6) (a7 : A7) (a8 : A8) (a9 : A9), K a1 a2 a3 a4 a5 a6 a7 a8 a9 → G a1 a2 a3 a4 a5 a6 a7 a8 a9) → ∀ (a1 : A1) (a2 : A2) (a3 : A3) (a4 : A4) (a5 : A5) (a6 : A6) (a7 : A7) (a8 : A8) (a9 : A9), F K a1 a2 a3 a4 a5 a6 a7 a8 a9 → G a1 a2 a3 a4 a5 a6 a7 a8 a9) : ∀ (k : Nat) (a1 : A1) (a2 : A2) (a3 : A3) (a4 : A4) (a5 : A5) (a6 : A6) (a7 : A7) (a8 : A8) (a9 : A9), mL9 F k a1 a2 a3 a4 a5 a6 a7 a8 a9 → G a1 a2 a3 a4 a5 a6 a7 a8 a9
  | 0, _, _, _, _, _, _, _, _, _, hw => hw.elim
  | k + 1, a1, a2, a3, a4, a5, a6, a7, a8, a9, hw => h (mL9 F k) (mL9_of h k) a1 a2 a3 a4 a5 a6 a7 a8 a9 hw
theorem mL9_in {A1 A2 A3 A4 A5 A6 A7 A8 A9 : Type} {F : (A1 → A2 → A3 → A4 → A5 → A6 → A7 → A8 → A9 → Prop) → A1 → A2 → A3 → A4 → A5 → A6 → A7 → A8 → A9 → Prop} (I : A1 → A2 → A3 → A4 → A5 → A6 → A7 → A8 → A9 → Prop) (μ : A1 → A2 → A3 → A4 → A5 → A6 → A7 → A8 → A9 → Nat) (h : ∀ (K : A1 → A2 → A3 → A4 → A5 → A6 → A7 → A8 → A9 → Prop) (a1 : A1) (a2 : A2) (a3 : A3) (a4 : A4) (a5 : A5) (a6 : A6) (a7 : A7) (a8 : A8) (a9 : A9), I a1 a2 a3 a4 a5 a6 a7 a8 a9 → (∀ (b1 : A1) (b2 : A2) (b3 : A3) (b4 : A4) (b5 : A5) (b6 : A6) (b7 : A7) (b8 : A8) (b9 : A9), I b1 b2 b3 b4 b5 b6 b7 b8 b9 → μ b1 b2 b3 b4 b5 b6 b7 b8 b9 < μ a1 a2 a3 a4 a5 a6 a7 a8 a9 → K b1 b2 b3 b4 b5 b6 b7 b8 b9) → F K a1 a2 a3 a4 a5 a6 a7 a8 a9) : ∀ (a1 : A1) (a2 : A2) (a3 : A3) (a4 : A4) (a5 : A5) (a6 : A6) (a7 : A7) (a8 : A8) (a9 : A9), I a1 a2 a3 a4 a5 a6 a7 a8 a9 → ∃ k, mL9 F k a1 a2 a3 a4 a5 a6 a7 a8 a9 := by
  have key : ∀ (k : Nat) (a1 : A1) (a2 : A2) (a3 : A3) (a4 : A4) (a5 : A5) (a6 : A6) (a7 : A7) (a8 : A8) (a9 : A9), I a1 a2 a3 a4 a5 a6 a7 a8 a9 → μ a1 a2 a3 a4 a5 a6 a7 a8 a9 < k → mL9 F k a1 a2 a3 a4 a5 a6 a7 a8 a9 := by
    intro k
    induction k with
    | zero => intro a1 a2 a3 a4 a5 a6 a7 a8 a9 _ hk; omega
    | succ k ih => intro a1 a2 a3 a4 a5 a6 a7 a8 a9 hI hk; exact h _ a1 a2 a3 a4 a5 a6 a7 a8 a9 hI (fun b1 b2 b3 b4 b5 b6 b7 b8 b9 hI2 hk2 => ih b1 b2 b3 b4 b5 b6 b7 b8 b9 hI2 (by omega))
  intro a1 a2 a3 a4 a5 a6 a7 a8 a9 hI
  exact ⟨μ a1 a2 a3 a4 a5 a6 a7 a8 a9 + 1, key _ a1 a2 a3 a4 a5 a6 a7 a8 a9 hI (Nat.lt_succ_self _)⟩
def mL10 {A1 A2 A3 A4 A5 A6 A7 A8 A9 A10 : Type} (F : (A1 → A2 → A3 → A4 → A5 → A6 → A7 → A8 → A9 → A10 → Prop) → A1 → A2 → A3 → A4 → A5 → A6 → A7 → A8 → A9 → A10 → Prop) : Nat → A1 → A2 → A3 → A4 → A5 → A6 → A7 → A8 → A9 → A10 → Prop
  | 0, _, _, _, _, _, _, _, _, _, _ => False
  | k + 1, a1, a2, a3, a4, a5, a6, a7, a8, a9, a10 => F (mL10 F k) a1 a2 a3 a4 a5 a6 a7 a8 a9 a10
theorem mL10_of {A1 A2 A3 A4 A5 A6 A7 A8 A9 A10 : Type} {F : (A1 → A2 → A3 → A4 → A5 → A6 → A7 → A8 → A9 → A10 → Prop) → A1 → A2 → A3 → A4 → A5 → A6 → A7 → A8 → A9 → A10 → Prop} {G : A1 → A2 → A3 → A4 → A5 → A6 → A7 → A8 → A9 → A10 → Prop} (h : ∀ K : A1 → A2 → A3 → A4 → A5 → A6 → A7 → A8 → A9 → A10 → Prop, (∀ (a1 : A1) (a2 : A2) (a3 : A3) (a4 : A4) (a5 : A5) (a6 : A6) (a7 : A7) (a8 : A8) (a9 : A9) (a10 : A10), K a1 a2 a3 a4 a5 a6 a7 a8 a9 a10 → G a1 a2 a3 a4 a5 a6 a7 a8 a9 a10) → ∀ (a1 : A1) (a2 : A2) (a3 : A3) (a4 : A4) (a5 : A5) (a6 : A6) (a7 : A7) (a8 : A8) (a9 : A9) (a10 : A10), F K a1 a2 a3 a4 a5 a6 a7 a8 a9 a10 → G a1 a2 a3 a4 a5 a6 a7 a8 a9 a10) : ∀ (k : Nat) (a1 : A1) (a2 : A2) (a3 : A3) (a4 : A4) (a5 : A5) (a6 : A6) (a7 : A7) (a8 : A8) (a9 : A9) (a10 : A10), mL10 F k a1 a2 a3 a4 a5 a6 a7 a8 a9 a10 → G a1 a2 a3 a4 a5 a6 a7 a8 a9 a10
  | 0, _, _, _, _, _, _, _, _, _, _, hw => hw.elim
  | k + 1, a1, a2, a3, a4, a5, a6, a7, a8, a9, a10, hw => h (mL10 F k) (mL10_of h k) a1 a2 a3 a4 a5 a6 a7 a8 a9 a10 hw
theorem mL10_in {A1 A2 A3 A4 A5 A6 A7 A8 A9 A10 : Type} {F : (A1 → A2 → A3 → A4 → A5 → A6 → A7 → A8 → A9 → A10 → Prop) → A1 → A2 → A3 → A4 → A5 → A6 → A7 → A8 → A9 → A10 → Prop} (I : A1 → A2 → A3 → A4 → A5 → A6 → A7 → A8 → A9 → A10 → Prop) (μ : A1 → A2 → A3 → A4 → A5 → A6 → A7 → A8 → A9 → A10 → Nat) (h : ∀ (K : A1 → A2 → A3 → A4 → A5 → A6 → A7 → A8 → A9 → A10 → Prop) (a1 : A1) (a2 : A2) (a3 : A3) (a4 : A4) (a5 : A5) (a6 : A6) (a7 : A7) (a8 : A8) (a9 : A9) (a10 : A10), I a1 a2 a3 a4 a5 a6 a7 a8 a9 a10 → (∀ (b1 : A1) (b2 : A2) (b3 : A3) (b4 : A4) (b5 : A5) (b6 : A6) (b7 : A7) (b8 : A8) (b9 : A9) (b10 : A10), I b1 b2 b3 b4 b5 b6 b7 b8 b9 b10 → μ b1 b2 b3 b4 b5 b6 b7 b8 b9 b10 < μ a1 a2 a3 a4 a5 a6 a7 a8 a9 a10 → K b1 b2 b3 b4 b5 b6 b7 b8 b9 b10) → F K a1 a2 a3 a4 a5 a6 a7 a8 a9 a10) : ∀ (a1 : A1) (a2 : A2) (a3 : A3) (a4 : A4) (a5 : A5) (a6 : A6) (a7 : A7) (a8 : A8) (a9 : A9) (a10 : A10), I a1 a2 a3 a4 a5 a6 a7 a8 a9 a10 → ∃ k, mL10 F k a1 a2 a3 a4 a5 a6 a7 a8 a9 a10 := by
  have key : ∀ (k : Nat) (a1 : A1) (a2 : A2) (a3 : A3) (a4 : A4) (a5 : A5) (a6 : A6) (a7 : A7) (a8 : A8) (a9 : A9) (a10 : A10), I a1 a2 a3 a4 a5 a6 a7 a8 a9 a10 → μ a1 a2 a3 a4 a5 a6 a7 a8 a9 a10 < k → mL10 F k a1 a2 a3 a4 a5 a6 a7 a8 a9 a10 := by
    intro k
    induction k with
    | zero => intro a1 a2 a3 a4 a5 a6 a7 a8 a9 a10 _ hk; omega
    | succ k ih => intro a1 a2 a3 a4 a5 a6 a7 a8 a9 a10 hI hk; exact h _ a1 a2 a3 a4 a5 a6 a7 a8 a9 a10 hI (fun b1 b2 b3 b4 b5 b6 b7 b8 b9 b10 hI2 hk2 => ih b1 b2 b3 b4 b5 b6 b7 b8 b9 b10 hI2 (by omega))
  intro a1 a2 a3 a4 a5 a6 a7 a8 a9 a10 hI
  exact ⟨μ a1 a2 a3 a4 a5 a6 a7 a8 a9 a10 + 1, key _ a1 a2 a3 a4 a5 a6 a7 a8 a9 a10 hI (Nat.lt_succ_self _)⟩
def mL11 {A1 A2 A3 A4 A5 A6 A7 A8 A9 A10 A11 : Type} (F : (A1 → A2 → A3 → A4 → A5 → A6 → A7 → A8 → A9 → A10 → A11 → Prop) → A1 → A2 → A3 → A4 → A5 → A6 → A7 → A8 → A9 → A10 → A11 → Prop) : Nat → A1 → A2 → A3 → A4 → A5 → A6 → A7 → A8 → A9 → A10 → A11 → Prop
  | 0, _, _, _, _, _, _, _, _, _, _, _ => False
  | k + 1, a1, a2, a3, a4, a5, a6, a7, a8, a9, a10, a11 => F (mL11 F k) a1 a2 a3 a4 a5 a6 a7 a8 a9 a10 a11
theorem mL11_of {A1 A2 A3 A4 A5 A6 A7 A8 A9 A10 A11 : Type} {F : (A1 → A2 → A3 → A4 → A5 → A6 → A7 → A8 → A9 → A10 → A11 → Prop) → A1 → A2 → A3 → A4 → A5 → A6 → A7 → A8 → A9 → A10 → A11 → Prop} {G : A1 → A2 → A3 → A4 → A5 → A6 → A7 → A8 → A9 → A10 → A11 → Prop} (h : ∀ K : A1 → A2 → A3 → A4 → A5 → A6 → A7 → A8 → A9 → A10 → A11 → Prop, (∀ (a1 : A1) (a2 : A2) (a3 : A3) (a4 : A4) (a5 : A5) (a6 : A6) (a7 : A7) (a8 : A8) (a9 : A9) (a10 : A10) (a11 : A11), K a1 a2 a3 a4 a5 a6 a7 a8 a9 a10 a11 → G a1 a2 a3 a4 a5 a6 a7 a8 a9 a10 a11) → ∀ (a1 : A1) (a2 : A2) (a3 : A3) (a4 : A4) (a5 : A5) (a6 : A6) (a7 : A7) (a8 : A8) (a9 : A9) (a10 : A10) (a11 : A11), F K a1 a2 a3 a4 a5 a6 a7 a8 a9 a10 a11 → G a1 a2 a3 a4 a5 a6 a7 a8 a9 a10 a11) : ∀ (k : Nat) (a1 : A1) (a2 : A2) (a3 : A3) (a4 : A4) (a5 : A5) (a6 : A6) (a7 : A7) (a8 : A8) (a9 : A9) (a10 : A10) (a11 : A11), mL11 F k a1 a2 a3 a4 a5 a6 a7 a8 a9 a10 a11 → G a1 a2 a3 a4 a5 a6 a7 a8 a9 a10 a11
  | 0, _, _, _, _, _, _, _, _, _, _, _, hw => hw.elim
  | k + 1, a1, a2, a3, a4, a5, a6, a7, a8, a9, a10, a11, hw => h (mL11 F k) (mL11_of h k) a1 a2 a3 a4 a5 a6 a7 a8 a9 a10 a11 hw
theorem mL11_in {A1 A2 A3 A4 A5 A6 A7 A8 A9 A10 A11 : Type} {F : (A1 → A2 → A3 → A4 → A5 → A6 → A7 → A8 → A9 → A10 → A11 → Prop) → A1 → A2 → A3 → A4 → A5 → A6 → A7 → A8 → A9 → A10 → A11 → Prop} (I : A1 → A2 → A3 → A4 → A5 → A6 → A7 → A8 → A9 → A10 → A11 → Prop) (μ : A1 → A2 → A3 → A4 → A5 → A6 → A7 → A8 → A9 → A10 → A11 → Nat) (h : ∀ (K : A1 → A2 → A3 → A4 → A5 → A6 → A7 → A8 → A9 → A10 → A11 → Prop) (a1 : A1) (a2 : A2) (a3 : A3) (a4 : A4) (a5 : A5) (a6 : A6) (a7 : A7) (a8 : A8) (a9 : A9) (a10 : A10) (a11 : A11), I a1 a2 a3 a4 a5 a6 a7 a8 a9 a10 a11 → (∀ (b1 : A1) (b2 : A2) (b3 : A3) (b4 : A4) (b5 : A5) (b6 : A6) (b7 : A7) (b8 : A8) (b9 : A9) (b10 : A10) (b11 : A11), I b1 b2 b3 b4 b5 b6 b7 b8 b9 b10 b11 → μ b1 b2 b3 b4 b5 b6 b7 b8 b9 b10 b11 < μ a1 a2 a3 a4 a5 a6 a7 a8 a9 a10 a11 → K b1 b2 b3 b4 b5 b6 b7 b8 b9 b10 b11) → F K a1 a2 a3 a4 a5 a6 a7 a8 a9 a10 a11) : ∀ (a1 : A1) (a2 : A2) (a3 : A3) (a4 : A4) (a5 : A5) (a6 : A6) (a7 : A7) (a8 : A8) (a9 : A9) (a10 : A10) (a11 : A11), I a1 a2 a3 a4 a5 a6 a7 a8 a9 a10 a11 → ∃ k, mL11 F k a1 a2 a3 a4 a5 a6 a7 a8 a9 a10 a11 := by
  have key : ∀ (k : Nat) (a1 : A1) (a2 : A2) (a3 : A3) (a4 : A4) (a5 : A5) (a6 : A6) (a7 : A7) (a8 : A8) (a9 : A9) (a10 : A10) (a11 : A11), I a1 a2 a3 a4 a5 a6 a7 a8 a9 a10 a11 → μ a1 a2 a3 a4 a5 a6 a7 a8 a9 a10 a11 < k → mL11 F k a1 a2 a3 a4 a5 a6 a7 a8 a9 a10 a11 := by
    intro k
    induction k with
    | zero => intro a1 a2 a3 a4 a5 a6 a7 a8 a9 a10 a11 _ hk; omega
    | succ k ih => intro a1 a2 a3 a4 a5 a6 a7 a8 a9 a10 a11 hI hk; exact h _ a1 a2 a3 a4 a5 a6 a7 a8 a9 a10 a11 hI (fun b1 b2 b3 b4 b5 b6 b7 b8 b9 b10 b11 hI2 hk2 => ih b1 b2 b3 b4 b5 b6 b7 b8 b9 b10 b11 hI2 (by omega))
  intro a1 a2 a3 a4 a5 a6 a7 a8 a9 a10 a11 hI
  exact ⟨μ a1 a2 a3 a4 a5 a6 a7 a8 a9 a10 a11 + 1, key _ a1 a2 a3 a4 a5 a6 a7 a8 a9 a10 a11 hI (Nat.lt_succ_self _)⟩
def mL12 {A1 A2 A3 A4 A5 A6 A7 A8 A9 A10 A11 A12 : Type} (F : (A1 → A2 → A3 → A4 → A5 → A6 → A7 → A8 → A9 → A10 → A11 → A12 → Prop) → A1 → A2 → A3 → A4 → A5 → A6 → A7 → A8 → A9 → A10 → A11 → A12 → Prop) : Nat → A1 → A2 → A3 → A4 → A5 → A6 → A7 → A8 → A9 → A10 → A11 → A12 → Prop
  | 0, _, _, _, _, _, _, _, _, _, _, _, _ => False
  | k + 1, a1, a2, a3, a4, a5, a6, a7, a8, a9, a10, a11, a12 => F (mL12 F k) a1 a2 a3 a4 a5 a6 a7 a8 a9 a10 a11 a12
theorem mL12_of {A1 A2 A3 A4 A5 A6 A7 A8 A9 A10 A11 A12 : Type} {F : (A1 → A2 → A3 → A4 → A5 → A6 → A7 → A8 → A9 → A10 → A11 → A12 → Prop) → A1 → A2 → A3 → A4 → A5 → A6 → A7 → A8 → A9 → A10 → A11 → A12 → Prop} {G : A1 → A2 → A3 → A4 → A5 → A6 → A7 → A8 → A9 → A10 → A11 → A12 → Prop} (h : ∀ K : A1 → A2 → A3 → A4 → A5 → A6 → A7 → A8 → A9 → A10 → A11 → A12 → Prop, (∀ (a1 : A1) (a2 : A2) (a3 : A3) (a4 : A4) (a5 : A5) (a6 : A6) (a7 : A7) (a8 : A8) (a9 : A9) (a10 : A10) (a11 : A11) (a12 : A12), K a1 a2 a3 a4 a5 a6 a7 a8 a9 a10 a11 a12 → G a1 a2 a3 a4 a5 a6 a7 a8 a9 a10 a11 a12) → ∀ (a1 : A1) (a2 : A2) (a3 : A3) (a4 : A4) (a5 : A5) (a6 : A6) (a7 : A7) (a8 : A8) (a9 : A9) (a10 : A10) (a11 : A11) (a12 : A12), F K a1 a2 a3 a4 a5 a6 a7 a8 a9 a10 a11 a12 → G a1 a2 a3 a4 a5 a6 a7 a8 a9 a10 a11 a12) : ∀ (k : Nat) (a1 : A1) (a2 : A2) (a3 : A3) (a4 : A4) (a5 : A5) (a6 : A6) (a7 : A7) (a8 : A8) (a9 : A9) (a10 : A10) (a11 : A11) (a12 : A12), mL12 F k a1 a2 a3 a4 a5 a6 a7 a8 a9 a10 a11 a12 → G a1 a2 a3 a4 a5 a6 a7 a8 a9 a10 a11 a12
  | 0, _, _, _, _, _, _, _, _, _, _, _, _, hw => hw.elim
  | k + 1, a1, a2, a3, a4, a5, a6, a7, a8, a9, a10, a11, a12, hw => h (mL12 F k) (mL12_of h k) a1 a2 a3 a4 a5 a6 a7 a8 a9 a10 a11 a12 hw
theorem mL12_in {A1 A2 A3 A4 A5 A6 A7 A8 A9 A10 A11 A12 : Type} {F : (A1 → A2 → A3 → A4 → A5 → A6 → A7 → A8 → A9 → A10 → A11 → A12 → Prop) → A1 → A2 → A3 → A4 → A5 → A6 → A7 → A8 → A9 → A10 → A11 → A12 → Prop} (I : A1 → A2 → A3 → A4 → A5 → A6 → A7 → A8 → A9 → A10 → A11 → A12 → Prop) (μ : A1 → A2 → A3 → A4 → A5 → A6 → A7 → A8 → A9 → A10 → A11 → A12 → Nat) (h : ∀ (K : A1 → A2 → A3 → A4 → A5 → A6 → A7 → A8 → A9 → A10 → A11 → A12 → Prop) (a1 : A1) (a2 : A2) (a3 : A3) (a4 : A4) (a5 : A5) (a6 : A6) (a7 : A7) (a8 : A8) (a9 : A9) (a10 : A10) (a11 : A11) (a12 : A12), I a1 a2 a3 a4 a5 a6 a7 a8 a9 a10 a11 a12 → (∀ (b1 : A1) (b2 : A2) (b3 : A3) (b4 : A4) (b5 : A5) (b6 : A6) (b7 : A7) (b8 : A8) (b9 : A9) (b10 : A10) (b11 : A11) (b12 : A12), I b1 b2 b3 b4 b5 b6 b7 b8 b9 b10 b11 b12 → μ b1 b2 b3 b4 b5 b6 b7 b8 b9 b10 b11 b12 < μ a1 a2 a3 a4 a5 a6 a7 a8 a9 a10 a11 a12 → K b1 b2 b3 b4 b5 b6 b7 b8 b9 b10 b11 b12) → F K a1 a2 a3 a4 a5 a6 a7 a8 a9 a10 a11 a12) : ∀ (a1 : A1) (a2 : A2) (a3 : A3) (a4 : A4) (a5 : A5) (a6 : A6) (a7 : A7) (a8 : A8) (a9 : A9) (a10 : A10) (a11 : A11) (a12 : A12), I a1 a2 a3 a4 a5 a6 a7 a8 a9 a10 a11 a12 → ∃ k, mL12 F k a1 a2 a3 a4 a5 a6 a7 a8 a9 a10 a11 a12 := by
  have key : ∀ (k : Nat) (a1 : A1) (a2 : A2) (a3 : A3) (a4 : A4) (a5 : A5) (a6 : A6) (a7 : A7) (a8 : A8) (a9 : A9) (a10 : A10) (a11 : A11) (a12 : A12), I a1 a2 a3 a4 a5 a6 a7 a8 a9 a10 a11 a12 → μ a1 a2 a3 a4 a5 a6 a7 a8 a9 a10 a11 a12 < k → mL12 F k a1 a2 a3 a4 a5 a6 a7 a8 a9 a10 a11 a12 := by
    intro k
    induction k with
    | zero => intro a1 a2 a3 a4 a5 a6 a7 a8 a9 a10 a11 a12 _ hk; omega
    | succ k ih => intro a1 a2 a3 a4 a5 a6 a7 a8 a9 a10 a11 a12 hI hk; exact h _ a1 a2 a3 a4 a5 a6 a7 a8 a9 a10 a11 a12 hI (fun b1 b2 b3 b4 b5 b6 b7 b8 b9 b10 b11 b12 hI2 hk2 => ih b1 b2 b3 b4 b5 b6 b7 b8 b9 b10 b11 b12 hI2 (by omega))
  intro a1 a2 a3 a4 a5 a6 a7 a8 a9 a10 a11 a12 hI
  exact ⟨μ a1 a2 a3 a4 a5 a6 a7 a8 a9 a10 a11 a12 + 1, key _ a1 a2 a3 a4 a5 a6 a7 a8 a9 a10 a11 a12 hI (Nat.lt_succ_self _)⟩
theorem mne {x y : Int32} (h : ¬ x = y) : ¬ x.toInt = y.toInt := fun q => h (Int32.toInt_inj.mp q)
theorem mKi_of {l : Launch} {y : MethodName} {ws ws' : List Cond} {cc : ByteArray} {maxL lev : Nat} {E : (Nat → Prop) → State → Prop} {D : va_G} {cl : List vw_C} {tys : List (ClassId × FieldType)} {f : mS → va_W} {av : List Value} {u : mS} {post : Int32 → mS → Prop} {lv : List (Nat × Value)} {own : String} (hy : plainName y.cls = true) (hw : ws = Cond.code y cc maxL (some .int) :: ws') (ho : y.cls = own) (hlen : (lg_sl av).length ≤ maxL) (hlv : lv_args 0 av = lv)
    (body : ∀ (p : Program) (e : Env) (s : State) (m : MethodId) (args : Array Value) (below : List Frame) (meth : Method) (c : Code) (A : Nat → Prop), mC p s m args meth c cc maxL ws own (some .int) D cl tys A → E A s → mV p l e (mRm lev) s m args below meth c maxL D cl A 0 0 (mQi below args s D cl tys f A post) (f u) 0 lv []) : mKi l y ws lev E D cl tys f av u post := by
  intro sz
  subst ho
  refine Met.ofW (cc := cc) (maxL := maxL) (ret := (some .int)) hy hw ?_
  intro p e s m args below meth c s₁ B hml hv
  obtain ⟨rfl, hsz, hP, hK, hD0, hEs⟩ := hv
  subst hsz
  have hts := atoms_spec (ws := ws) B.pre
  have hown : s.vm.findClass y.cls = some m.cls := findClass_of_methodNamed B.named
  have hl := lv_entry av (n := maxL) hlen
  rw [lg_entry_eq]
  rw [hlv] at hl
  exact body p e s m av.toArray below meth c (va_A (f u) s.heap.size) ⟨B.exec, B.bytes, hml, hown, hts, B.returns, B.notSynchronized, hK, fun q h => Or.inr h⟩ hEs s.heap [] _ hP (hD0.self (sz := s.heap.size)) va_S.rf hl
theorem mKz_of {l : Launch} {y : MethodName} {ws ws' : List Cond} {cc : ByteArray} {maxL lev : Nat} {E : (Nat → Prop) → State → Prop} {D : va_G} {cl : List vw_C} {tys : List (ClassId × FieldType)} {f : mS → va_W} {av : List Value} {u : mS} {post : Int32 → mS → Prop} {lv : List (Nat × Value)} {own : String} (hy : plainName y.cls = true) (hw : ws = Cond.code y cc maxL (some .boolean) :: ws') (ho : y.cls = own) (hlen : (lg_sl av).length ≤ maxL) (hlv : lv_args 0 av = lv)
    (body : ∀ (p : Program) (e : Env) (s : State) (m : MethodId) (args : Array Value) (below : List Frame) (meth : Method) (c : Code) (A : Nat → Prop), mC p s m args meth c cc maxL ws own (some .boolean) D cl tys A → E A s → mV p l e (mRm lev) s m args below meth c maxL D cl A 0 0 (mQi below args s D cl tys f A (fun r w => (r = 0 ∨ r = 1) ∧ post r w)) (f u) 0 lv []) : mKi l y ws lev E D cl tys f av u (fun r w => (r = 0 ∨ r = 1) ∧ post r w) := by
  intro sz
  subst ho
  refine Met.ofW (cc := cc) (maxL := maxL) (ret := (some .boolean)) hy hw ?_
  intro p e s m args below meth c s₁ B hml hv
  obtain ⟨rfl, hsz, hP, hK, hD0, hEs⟩ := hv
  subst hsz
  have hts := atoms_spec (ws := ws) B.pre
  have hown : s.vm.findClass y.cls = some m.cls := findClass_of_methodNamed B.named
  have hl := lv_entry av (n := maxL) hlen
  rw [lg_entry_eq]
  rw [hlv] at hl
  exact body p e s m av.toArray below meth c (va_A (f u) s.heap.size) ⟨B.exec, B.bytes, hml, hown, hts, B.returns, B.notSynchronized, hK, fun q h => Or.inr h⟩ hEs s.heap [] _ hP (hD0.self (sz := s.heap.size)) va_S.rf hl
theorem mKv_of {l : Launch} {y : MethodName} {ws ws' : List Cond} {cc : ByteArray} {maxL lev : Nat} {E : (Nat → Prop) → State → Prop} {D : va_G} {cl : List vw_C} {tys : List (ClassId × FieldType)} {f : mS → va_W} {av : List Value} {u : mS} {post : mS → Prop} {lv : List (Nat × Value)} {own : String} (hy : plainName y.cls = true) (hw : ws = Cond.code y cc maxL none :: ws') (ho : y.cls = own) (hlen : (lg_sl av).length ≤ maxL) (hlv : lv_args 0 av = lv)
    (body : ∀ (p : Program) (e : Env) (s : State) (m : MethodId) (args : Array Value) (below : List Frame) (meth : Method) (c : Code) (A : Nat → Prop), mC p s m args meth c cc maxL ws own none D cl tys A → E A s → mV p l e (mRm lev) s m args below meth c maxL D cl A 0 0 (mQv below args s D cl tys f A post) (f u) 0 lv []) : mKv l y ws lev E D cl tys f av u post := by
  intro sz
  subst ho
  refine Met.ofW (cc := cc) (maxL := maxL) (ret := none) hy hw ?_
  intro p e s m args below meth c s₁ B hml hv
  obtain ⟨rfl, hsz, hP, hK, hD0, hEs⟩ := hv
  subst hsz
  have hts := atoms_spec (ws := ws) B.pre
  have hown : s.vm.findClass y.cls = some m.cls := findClass_of_methodNamed B.named
  have hl := lv_entry av (n := maxL) hlen
  rw [lg_entry_eq]
  rw [hlv] at hl
  exact body p e s m av.toArray below meth c (va_A (f u) s.heap.size) ⟨B.exec, B.bytes, hml, hown, hts, B.returns, B.notSynchronized, hK, fun q h => Or.inr h⟩ hEs s.heap [] _ hP (hD0.self (sz := s.heap.size)) va_S.rf hl
end
section
-- 02b: rows that p1 does not need
section MV2
variable {p : Program} {l : Launch} {e : Env} {R : Room} {s : State} {m : MethodId} {args : Array Value} {below : List Frame} {meth : Method} {c : Code} {cells slots : Nat} {Q : State → Prop}
variable {cc : ByteArray} {nL : Nat} {Ts : List Cond} {own : String} {ret : Option FieldType} {D : va_G} {cl : List vw_C} {tys : List (ClassId × FieldType)} {A : Nat → Prop} {ws : va_W} {pc : Nat} {lv : List (Nat × Value)} {st : List Value}
theorem mv_ldcw (C : mC p s m args meth c cc nL Ts own ret D cl tys A) {index : Nat} {v : Int32} (hc : Jvm.Cond.constant own index v ∈ Ts) (hd : decode cc pc = .ok (.ldc_w index, 3)) (k : mV p l e R s m args below meth c nL D cl A cells slots Q ws (pc + 3) lv (.int v :: st)) : mV p l e R s m args below meth c nL D cl A cells slots Q ws pc lv st := fun H locs ls hP hD hS hl => lv_ldcw C.1 C.2.1 C.2.2.2.1 (C.2.2.2.2.1 _ hc) hd (k H locs ls hP hD hS hl)
theorem mv_copyi (C : mC p s m args meth c cc nL Ts own ret D cl tys A) {index : Nat} (hlink : Cond.methodLink own index arraycopyName ∈ Ts) (hnat : Cond.native arraycopyName ∈ Ts) (hstat : Cond.static arraycopyName ∈ Ts) (hini : Cond.initialized "java/lang/System" ∈ Ts) {a n0 : Nat} {cA : ClassId} {f : Nat → Int32} {sp dp n : Int32} {ws1 : va_W} (q0 t0 : Nat) (ha : ws[q0]? = some (a, .inl (cA, n0, .inl f))) (ht : tys[t0]? = some (cA, .int)) (hin : (¬ sp < 0) ∧ (¬ dp < 0) ∧ (¬ n < 0) ∧ sp.toNatClampNeg + n.toNatClampNeg ≤ n0 ∧ dp.toNatClampNeg + n.toNatClampNeg ≤ n0) (hset : ws.set q0 (a, .inl (cA, n0, .inl (va_cpy f f sp.toNatClampNeg dp.toNatClampNeg n.toNatClampNeg))) = ws1) (hfr : 1 ≤ R.frames) (hlo : (st.map fun v => v.category).sum + 18 ≤ R.locals) (hd : decode cc pc = .ok (.invokestatic index, 3)) (kk : mV p l e R s m args below meth c nL D cl A cells slots Q ws1 (pc + 3) lv st) : mV p l e R s m args below meth c nL D cl A cells slots Q ws pc lv (.int n :: .int dp :: .ref a :: .int sp :: .ref a :: st) := by
  subst hset
  obtain ⟨h1, h2, h3, h4, h5⟩ := hin
  exact fun H locs ls hP hD hS hl => va_copyi C.1 C.2.1 (C.2.2.1.trans hl.1.symm) C.2.2.2.1 (C.2.2.2.2.1 _ hlink) (C.2.2.2.2.1 _ hnat) (C.2.2.2.2.1 _ hstat) (C.2.2.2.2.1 _ hini) C.2.2.2.2.2.2.2.1 hP hD hS q0 q0 t0 t0 ha ha ht ht rfl h1 h2 h3 h4 h5 (fun _ _ => rfl) hfr hlo hd (fun H1 locs1 hP1 hD1 hS1 => kk H1 locs1 ls hP1 hD1 hS1 hl)
end MV2
theorem goodIn_cons2 {big b : List Cond} {c : Cond} (ha : GoodIn big [c]) (hb : GoodIn big b) : GoodIn big (c :: b) := fun w h => (List.mem_cons.mp h).elim (fun e => ha w (by rw [e]; exact List.mem_cons_self)) (hb w)
end
section
def wA (cA : ClassId) (a : Nat → Nat) (u : mS) : va_W := [(a 0, .inr (8, [.ref (a 1), .int (u.1 0), .ref (a 2), .ref (a 7), .ref (a 8), .ref (a 9), .ref (a 14), .ref (a 16)])),
  (a 1, .inl (cA, 120, .inl (u.2 0))),
  (a 2, .inr (5, [.ref (a 3), .ref (a 4), .ref (a 5), .ref (a 6), .int (u.1 1), .int (u.1 2)])),
  (a 3, .inl (cA, 3000, .inl (u.2 1))),
  (a 4, .inl (cA, 3000, .inl (u.2 2))),
  (a 5, .inl (cA, 3000, .inl (u.2 3))),
  (a 6, .inl (cA, 3000, .inl (u.2 4))),
  (a 7, .inr (3, [.ref (a 2), .int (u.1 3)])),
  (a 8, .inr (6, [.ref (a 2)])),
  (a 9, .inr (7, [.ref (a 10), .ref (a 11), .ref (a 12), .ref (a 13), .int (u.1 4), .int (u.1 5)])),
  (a 10, .inl (cA, 40, .inl (u.2 5))),
  (a 11, .inl (cA, 40, .inl (u.2 6))),
  (a 12, .inl (cA, 40, .inl (u.2 7))),
  (a 13, .inl (cA, 40, .inl (u.2 8))),
  (a 14, .inr (2, [.ref (a 15), .int (u.1 6), .int (u.1 7)])),
  (a 15, .inl (cA, 200, .inl (u.2 9))),
  (a 16, .inr (0, [.ref (a 2), .ref (a 8), .ref (a 9), .ref (a 14), .ref (a 17), .int (u.1 8), .int (u.1 9), .int (u.1 10), .int (u.1 11)])),
  (a 17, .inr (1, [.ref (a 2), .ref (a 14), .ref (a 18), .int (u.1 12), .int (u.1 13), .int (u.1 14)])),
  (a 18, .inr (4, [.ref (a 19), .ref (a 20), .ref (a 21), .int (u.1 15)])),
  (a 19, .inl (cA, 2, .inl (u.2 10))),
  (a 20, .inl (cA, 2, .inl (u.2 11))),
  (a 21, .inl (cA, 2, .inl (u.2 12)))]
def wM (cA : ClassId) (b : Nat → Nat) (u : mS) : va_W := [(b 0, .inr (9, [.ref (b 1), .int (u.1 0), .ref (b 2), .ref (b 3), .int (u.1 1), .ref (b 4), .ref (b 5), .int (u.1 2), .int (u.1 3), .ref (b 6), .ref (b 7), .int (u.1 4), .int (u.1 5), .ref (b 8), .ref (b 9), .ref (b 10), .ref (b 11), .ref (b 12), .ref (b 13), .ref (b 14), .int (u.1 6), .int (u.1 7), .ref (b 15), .ref (b 16), .ref (b 17), .ref (b 18), .ref (b 19), .int (u.1 8), .ref (b 20), .int (u.1 9), .int (u.1 10), .int (u.1 11), .int (u.1 12), .int (u.1 13), .int (u.1 14), .int (u.1 15)])),
  (b 1, .inl (cA, 120, .inl (u.2 0))),
  (b 2, .inl (cA, 2600, .inl (u.2 1))),
  (b 3, .inl (cA, 2600, .inl (u.2 2))),
  (b 4, .inl (cA, 3200, .inl (u.2 3))),
  (b 5, .inl (cA, 3200, .inl (u.2 4))),
  (b 6, .inl (cA, 4, .inl (u.2 5))),
  (b 7, .inl (cA, 4, .inl (u.2 6))),
  (b 8, .inl (cA, 40, .inl (u.2 7))),
  (b 9, .inl (cA, 40, .inl (u.2 8))),
  (b 10, .inl (cA, 40, .inl (u.2 9))),
  (b 11, .inl (cA, 40, .inl (u.2 10))),
  (b 12, .inl (cA, 40, .inl (u.2 11))),
  (b 13, .inl (cA, 310, .inl (u.2 12))),
  (b 14, .inl (cA, 310, .inl (u.2 13))),
  (b 15, .inl (cA, 400, .inl (u.2 14))),
  (b 16, .inl (cA, 400, .inl (u.2 15))),
  (b 17, .inl (cA, 3, .inl (u.2 16))),
  (b 18, .inl (cA, 3, .inl (u.2 17))),
  (b 19, .inl (cA, 3, .inl (u.2 18))),
  (b 20, .inl (cA, 200, .inl (u.2 19)))]
def nestW : List Cond := [Cond.fieldLinkNest "MarkedNames$Reader" 39 "MarkedNames$Row" "top" "I" "MarkedNames", Cond.fieldLinkNest "MarkedNames$Table" 24 "MarkedNames" "FIRST_NAMES" "[I" "MarkedNames", Cond.fieldLinkNest "MarkedNames" 90 "MarkedNames$Table" "ownNames" "I" "MarkedNames", Cond.fieldLinkNest "MarkedNames" 106 "MarkedNames$Outcome" "length" "I" "MarkedNames", Cond.fieldLinkNest "MarkedNames$Expander" 54 "MarkedNames$Outcome" "error" "I" "MarkedNames", Cond.fieldLinkNest "MarkedNames" 103 "MarkedNames$Outcome" "error" "I" "MarkedNames", Cond.fieldLinkNest "MarkedNames$Filler" 86 "MarkedNames$Outcome" "error" "I" "MarkedNames", Cond.fieldLinkNest "MarkedNames$Filler" 101 "MarkedNames$Rounds" "depth" "I" "MarkedNames", Cond.fieldLinkNest "MarkedNames" 112 "MarkedNames$Expander" "scopes" "I" "MarkedNames", Cond.fieldLinkNest "MarkedNames" 115 "MarkedNames$Expander" "bindings" "I" "MarkedNames", Cond.fieldLinkNest "MarkedNames" 118 "MarkedNames$Expander" "variables" "I" "MarkedNames", Cond.fieldLinkNest "MarkedNames" 121 "MarkedNames$Expander" "fuel" "I" "MarkedNames", Cond.methodLinkNest "MarkedNames" 15 ⟨"MarkedNames$Row", "<init>", "()V"⟩ "MarkedNames", Cond.methodLinkNest "MarkedNames" 45 ⟨"MarkedNames$Outcome", "<init>", "()V"⟩ "MarkedNames", Cond.methodLinkNest "MarkedNames$Filler" 11 ⟨"MarkedNames$Rounds", "<init>", "()V"⟩ "MarkedNames", Cond.methodLinkNest "MarkedNames$RuleCheck" 24 ⟨"MarkedNames", "isName", "(I)Z"⟩ "MarkedNames", Cond.methodLinkNest "MarkedNames$RuleCheck" 48 ⟨"MarkedNames", "isTree", "(I)Z"⟩ "MarkedNames", Cond.methodLinkNest "MarkedNames$Expander" 69 ⟨"MarkedNames", "isName", "(I)Z"⟩ "MarkedNames", Cond.methodLinkNest "MarkedNames$Row" 48 ⟨"MarkedNames", "isName", "(I)Z"⟩ "MarkedNames", Cond.methodLinkNest "MarkedNames$Outcome" 29 ⟨"MarkedNames", "isName", "(I)Z"⟩ "MarkedNames", Cond.methodLinkNest "MarkedNames$Outcome" 36 ⟨"MarkedNames", "isNumber", "(I)Z"⟩ "MarkedNames", Cond.methodLinkNest "MarkedNames$Filler" 66 ⟨"MarkedNames", "isName", "(I)Z"⟩ "MarkedNames", Cond.methodLinkNest "MarkedNames$Filler" 116 ⟨"MarkedNames", "isTree", "(I)Z"⟩ "MarkedNames", Cond.methodLinkNest "MarkedNames$Expander" 77 ⟨"MarkedNames", "isNumber", "(I)Z"⟩ "MarkedNames"]
theorem nw_0 : Cond.fieldLinkNest "MarkedNames$Reader" 39 "MarkedNames$Row" "top" "I" "MarkedNames" ∈ nestW := List.mem_of_getElem? (i := 0) rfl
theorem nw_1 : Cond.fieldLinkNest "MarkedNames$Table" 24 "MarkedNames" "FIRST_NAMES" "[I" "MarkedNames" ∈ nestW := List.mem_of_getElem? (i := 1) rfl
theorem nw_2 : Cond.fieldLinkNest "MarkedNames" 90 "MarkedNames$Table" "ownNames" "I" "MarkedNames" ∈ nestW := List.mem_of_getElem? (i := 2) rfl
theorem nw_3 : Cond.fieldLinkNest "MarkedNames" 106 "MarkedNames$Outcome" "length" "I" "MarkedNames" ∈ nestW := List.mem_of_getElem? (i := 3) rfl
theorem nw_4 : Cond.fieldLinkNest "MarkedNames$Expander" 54 "MarkedNames$Outcome" "error" "I" "MarkedNames" ∈ nestW := List.mem_of_getElem? (i := 4) rfl
theorem nw_5 : Cond.fieldLinkNest "MarkedNames" 103 "MarkedNames$Outcome" "error" "I" "MarkedNames" ∈ nestW := List.mem_of_getElem? (i := 5) rfl
theorem nw_6 : Cond.fieldLinkNest "MarkedNames$Filler" 86 "MarkedNames$Outcome" "error" "I" "MarkedNames" ∈ nestW := List.mem_of_getElem? (i := 6) rfl
theorem nw_7 : Cond.fieldLinkNest "MarkedNames$Filler" 101 "MarkedNames$Rounds" "depth" "I" "MarkedNames" ∈ nestW := List.mem_of_getElem? (i := 7) rfl
theorem nw_8 : Cond.fieldLinkNest "MarkedNames" 112 "MarkedNames$Expander" "scopes" "I" "MarkedNames" ∈ nestW := List.mem_of_getElem? (i := 8) rfl
theorem nw_9 : Cond.fieldLinkNest "MarkedNames" 115 "MarkedNames$Expander" "bindings" "I" "MarkedNames" ∈ nestW := List.mem_of_getElem? (i := 9) rfl
theorem nw_10 : Cond.fieldLinkNest "MarkedNames" 118 "MarkedNames$Expander" "variables" "I" "MarkedNames" ∈ nestW := List.mem_of_getElem? (i := 10) rfl
theorem nw_11 : Cond.fieldLinkNest "MarkedNames" 121 "MarkedNames$Expander" "fuel" "I" "MarkedNames" ∈ nestW := List.mem_of_getElem? (i := 11) rfl
theorem nw_12 : Cond.methodLinkNest "MarkedNames" 15 ⟨"MarkedNames$Row", "<init>", "()V"⟩ "MarkedNames" ∈ nestW := List.mem_of_getElem? (i := 12) rfl
theorem nw_13 : Cond.methodLinkNest "MarkedNames" 45 ⟨"MarkedNames$Outcome", "<init>", "()V"⟩ "MarkedNames" ∈ nestW := List.mem_of_getElem? (i := 13) rfl
theorem nw_14 : Cond.methodLinkNest "MarkedNames$Filler" 11 ⟨"MarkedNames$Rounds", "<init>", "()V"⟩ "MarkedNames" ∈ nestW := List.mem_of_getElem? (i := 14) rfl
theorem nw_15 : Cond.methodLinkNest "MarkedNames$RuleCheck" 24 ⟨"MarkedNames", "isName", "(I)Z"⟩ "MarkedNames" ∈ nestW := List.mem_of_getElem? (i := 15) rfl
theorem nw_16 : Cond.methodLinkNest "MarkedNames$RuleCheck" 48 ⟨"MarkedNames", "isTree", "(I)Z"⟩ "MarkedNames" ∈ nestW := List.mem_of_getElem? (i := 16) rfl
theorem nw_17 : Cond.methodLinkNest "MarkedNames$Expander" 69 ⟨"MarkedNames", "isName", "(I)Z"⟩ "MarkedNames" ∈ nestW := List.mem_of_getElem? (i := 17) rfl
theorem nw_18 : Cond.methodLinkNest "MarkedNames$Row" 48 ⟨"MarkedNames", "isName", "(I)Z"⟩ "MarkedNames" ∈ nestW := List.mem_of_getElem? (i := 18) rfl
theorem nw_19 : Cond.methodLinkNest "MarkedNames$Outcome" 29 ⟨"MarkedNames", "isName", "(I)Z"⟩ "MarkedNames" ∈ nestW := List.mem_of_getElem? (i := 19) rfl
theorem nw_20 : Cond.methodLinkNest "MarkedNames$Outcome" 36 ⟨"MarkedNames", "isNumber", "(I)Z"⟩ "MarkedNames" ∈ nestW := List.mem_of_getElem? (i := 20) rfl
theorem nw_21 : Cond.methodLinkNest "MarkedNames$Filler" 66 ⟨"MarkedNames", "isName", "(I)Z"⟩ "MarkedNames" ∈ nestW := List.mem_of_getElem? (i := 21) rfl
theorem nw_22 : Cond.methodLinkNest "MarkedNames$Filler" 116 ⟨"MarkedNames", "isTree", "(I)Z"⟩ "MarkedNames" ∈ nestW := List.mem_of_getElem? (i := 22) rfl
theorem nw_23 : Cond.methodLinkNest "MarkedNames$Expander" 77 ⟨"MarkedNames", "isNumber", "(I)Z"⟩ "MarkedNames" ∈ nestW := List.mem_of_getElem? (i := 23) rfl
def tabF : Nat → Int32 := fun j => match j with
  | 0 => 91758
  | 1 => 92518
  | 2 => 369
  | 3 => 93299
  | 4 => 299
  | 5 => 298
  | 6 => 317
  | _ => 316
def eA (a : Nat → Nat) : (Nat → Prop) → State → Prop := fun A U => (∀ w ∈ nestW, va_Nw w U) ∧ va_Z "MarkedNames" "FIRST_NAMES" "[I" (.ref (a 22)) A U U.heap ∧ va_T .int (a 22) 8 (fun j => .int (tabF j)) A U U.heap
def eM : (Nat → Prop) → State → Prop := fun _ _ => True
theorem eM_ok : mEok eM := ⟨fun _ _ _ _ _ _ _ _ => trivial, fun _ _ _ _ _ _ => trivial⟩
theorem nest_warm {s U : State} (hW : s.WarmedH U.vm) : ∀ w ∈ nestW, va_Nw w s → va_Nw w U := by
  intro w hw h
  simp only [nestW, List.mem_cons, List.not_mem_nil, or_false] at hw
  rcases hw with rfl | rfl | rfl | rfl | rfl | rfl | rfl | rfl | rfl | rfl | rfl | rfl | rfl | rfl | rfl | rfl | rfl | rfl | rfl | rfl | rfl | rfl | rfl | rfl <;> first | exact va_Nw.warmF hW h | exact va_Nw.warmM hW h
theorem nest_tab : ∀ w ∈ nestW, w.onTables = true := by decide +kernel
theorem eA_ok (a : Nat → Nat) : mEok (eA a) := by
  refine ⟨fun A B s U h hAB hW hk => ?_, fun A U g mk x h => ?_⟩
  · obtain ⟨h1, h2, h3⟩ := h
    exact ⟨fun w hw => nest_warm hW w hw (h1 w hw), va_Z.moved hW.alike ((h2.kept hk).narrow hAB), va_T.moved hW.alike ((h3.kept hk).narrow hAB)⟩
  · obtain ⟨h1, h2, h3⟩ := h
    exact ⟨fun w hw => va_Nw.same (u := U) (U := U.calling g mk x) (nest_tab w hw) rfl (h1 w hw), va_Z.moved (u := U) (U := U.calling g mk x) (Vm.Alike.refl U.vm) h2, va_T.moved (u := U) (U := U.calling g mk x) (Vm.Alike.refl U.vm) h3⟩
def tabN : Nat → Int32 := (upd (upd (upd (upd (upd (upd (upd (upd (fun _ => 0) 0 (91758 : Int32)) 1 (92518 : Int32)) 2 (369 : Int32)) 3 (93299 : Int32)) 4 (299 : Int32)) 5 (298 : Int32)) 6 (317 : Int32)) 7 (316 : Int32))
def tabK : Nat → Int32 := (upd (upd (upd (upd (upd (upd (upd (upd (fun _ => 0) 0 (0 : Int32)) 1 (1 : Int32)) 2 (2 : Int32)) 3 (3 : Int32)) 4 (4 : Int32)) 5 (4 : Int32)) 6 (4 : Int32)) 7 (4 : Int32))
def uA0 : mS := (fun k => match k with | 1 => 480 | 2 => -1 | 4 => 8 | _ => 0, fun k => match k with | 5 => tabN | 7 => tabK | _ => fun _ => 0)
def uM0 : mS := (fun _ => 0, fun _ _ => 0)
end
section
def wp_X5_wordAt (x1 : Int32) (u : mS) (post : Int32 → mS → Prop) : Prop := ((x1 < 0) → post (-2 : Int32) u) ∧ ((¬ x1 < 0) → ∀ y2 : Int32, y2 = (u.1 1) → ((y2 ≤ x1) → post (-2 : Int32) u) ∧ ((¬ y2 ≤ x1) → (((3000 : Int32) ≤ x1) → post (-2 : Int32) u) ∧ ((¬ (3000 : Int32) ≤ x1) → vp_in x1 3000 ∧ ∀ y5 : Int32, y5 = u.2 1 x1.toNatClampNeg → post y5 u)))
def wp_X8_isName (x0 : Int32) (u : mS) (post : Int32 → mS → Prop) : Prop := ((x0 ≤ (255 : Int32)) → post (0 : Int32) u) ∧ ((¬ x0 ≤ (255 : Int32)) → post (1 : Int32) u)
def wp_X8_isNumber (x0 : Int32) (u : mS) (post : Int32 → mS → Prop) : Prop := ((x0 < 0) → post (0 : Int32) u) ∧ ((¬ x0 < 0) → (((100 : Int32) ≤ x0) → post (0 : Int32) u) ∧ ((¬ (100 : Int32) ≤ x0) → post (1 : Int32) u))
def wp_X2_fail (x1 : Int32) (u : mS) (post : mS → Prop) : Prop := ∀ y1 : Int32, y1 = (u.1 7) → ((¬ y1 = 0) → post u) ∧ ((y1 = 0) → ∀ u3 : mS, u3 = mSet u 7 x1 → post u3)
def wj_X2_put_25 (post : mS → Prop) (u : mS) : Prop := ∀ u12 : mS, u12 = mSet u 7 (6 : Int32) → post u12
def wp_X2_put (x1 : Int32) (u : mS) (post : mS → Prop) : Prop := ∀ y1 : Int32, y1 = (u.1 7) → ((y1 = 0) → ∀ y3 : Int32, y3 = (u.1 6) → ((y3 < 0) → wj_X2_put_25 post u) ∧ ((¬ y3 < 0) → ∀ y5 : Int32, y5 = (u.1 6) → ((y5 < (200 : Int32)) → ∀ y7 : Int32, y7 = (u.1 6) → vp_in y7 200 ∧ ∀ u8 : mS, u8 = mPut u 9 y7.toNatClampNeg x1 → ∀ y9 : Int32, y9 = (u8.1 6) → ∀ y10 : Int32, y10 = (y9 + (1 : Int32)) → ∀ u11 : mS, u11 = mSet u8 6 y10 → post u11) ∧ ((¬ y5 < (200 : Int32)) → wj_X2_put_25 post u))) ∧ ((¬ y1 = 0) → post u)
def wj_X2_putNumber_17 (post : mS → Prop) (x1 : Int32) (u : mS) : Prop := ∀ y6 : Int32, y6 = (x1 - x1 / (10 : Int32) * (10 : Int32)) → ∀ y7 : Int32, y7 = ((48 : Int32) + y6) → wp_X2_put y7 u (fun u9 => post u9)
def wp_X2_putNumber (x1 : Int32) (u : mS) (post : mS → Prop) : Prop := ((x1 ≤ (9 : Int32)) → wj_X2_putNumber_17 post x1 u) ∧ ((¬ x1 ≤ (9 : Int32)) → ∀ y2 : Int32, y2 = (x1 / (10 : Int32)) → ∀ y3 : Int32, y3 = ((48 : Int32) + y2) → wp_X2_put y3 u (fun u5 => wj_X2_putNumber_17 post x1 u5))
def wp_X5_marksAt (x1 : Int32) (u : mS) (post : Int32 → mS → Prop) : Prop := ((x1 < 0) → post (0 : Int32) u) ∧ ((¬ x1 < 0) → ∀ y2 : Int32, y2 = (u.1 1) → ((y2 ≤ x1) → post (0 : Int32) u) ∧ ((¬ y2 ≤ x1) → (((3000 : Int32) ≤ x1) → post (0 : Int32) u) ∧ ((¬ (3000 : Int32) ≤ x1) → vp_in x1 3000 ∧ ∀ y5 : Int32, y5 = u.2 2 x1.toNatClampNeg → post y5 u)))
def wp_J6_bitCount_0f7a4 (x0 : Int32) (u : mS) (post : Int32 → mS → Prop) : Prop := ∀ y1 : Int32, y1 = ((x0.toUInt32 >>> ((1 : Int32).toUInt32 &&& Int32.toUInt32 31)).toInt32) → ∀ y2 : Int32, y2 = (y1 &&& (1431655765 : Int32)) → ∀ y3 : Int32, y3 = (x0 - y2) → ∀ y4 : Int32, y4 = (y3 &&& (858993459 : Int32)) → ∀ y5 : Int32, y5 = ((y3.toUInt32 >>> ((2 : Int32).toUInt32 &&& Int32.toUInt32 31)).toInt32) → ∀ y6 : Int32, y6 = (y5 &&& (858993459 : Int32)) → ∀ y7 : Int32, y7 = (y4 + y6) → ∀ y8 : Int32, y8 = ((y7.toUInt32 >>> ((4 : Int32).toUInt32 &&& Int32.toUInt32 31)).toInt32) → ∀ y9 : Int32, y9 = (y7 + y8) → ∀ y10 : Int32, y10 = (y9 &&& (252645135 : Int32)) → ∀ y11 : Int32, y11 = ((y10.toUInt32 >>> ((8 : Int32).toUInt32 &&& Int32.toUInt32 31)).toInt32) → ∀ y12 : Int32, y12 = (y10 + y11) → ∀ y13 : Int32, y13 = ((y12.toUInt32 >>> ((16 : Int32).toUInt32 &&& Int32.toUInt32 31)).toInt32) → ∀ y14 : Int32, y14 = (y12 + y13) → ∀ y15 : Int32, y15 = (y14 &&& (63 : Int32)) → post y15 u
def wj_X7_holdsAllOthers_88 (K14 : Int32 → Int32 → Int32 → mS → Prop) (post : Int32 → mS → Prop) (x1 x2 x3 : Int32) (u : mS) : Prop := ∀ y19 : Int32, y19 = x3 + (1 : Int32) → K14 x1 x2 y19 u
def wj_X7_holdsAllOthers_61 (K14 : Int32 → Int32 → Int32 → mS → Prop) (post : Int32 → mS → Prop) (x1 x2 x3 z0 : Int32) (u : mS) : Prop := ((z0 = 0) → wj_X7_holdsAllOthers_88 K14 post x1 x2 x3 u) ∧ ((¬ z0 = 0) → vp_in x3 40 ∧ ∀ y14 : Int32, y14 = u.2 6 x3.toNatClampNeg → vp_in x1 40 ∧ ∀ y15 : Int32, y15 = u.2 6 x1.toNatClampNeg → ∀ y16 : Int32, y16 = (y15 ^^^ (-1 : Int32)) → ∀ y17 : Int32, y17 = (y14 &&& y16) → ((y17 = 0) → wj_X7_holdsAllOthers_88 K14 post x1 x2 x3 u) ∧ ((¬ y17 = 0) → post (0 : Int32) u))
def wj_X7_holdsAllOthers_60 (K14 : Int32 → Int32 → Int32 → mS → Prop) (post : Int32 → mS → Prop) (x1 x2 x3 : Int32) (u : mS) : Prop := wj_X7_holdsAllOthers_61 K14 post x1 x2 x3 (0 : Int32) u
def wj_X7_holdsAllOthers_14 (K14 : Int32 → Int32 → Int32 → mS → Prop) (post : Int32 → mS → Prop) (x1 x2 x3 : Int32) (u : mS) : Prop := ∀ y3 : Int32, y3 = (u.1 4) → ((y3 ≤ x3) → post (1 : Int32) u) ∧ ((¬ y3 ≤ x3) → (((40 : Int32) ≤ x3) → post (1 : Int32) u) ∧ ((¬ (40 : Int32) ≤ x3) → vp_in x3 40 ∧ ∀ y6 : Int32, y6 = u.2 5 x3.toNatClampNeg → vp_in x1 40 ∧ ∀ y7 : Int32, y7 = u.2 5 x1.toNatClampNeg → ((¬ y6 = y7) → wj_X7_holdsAllOthers_60 K14 post x1 x2 x3 u) ∧ ((y6 = y7) → vp_in x3 40 ∧ ∀ y9 : Int32, y9 = u.2 6 x3.toNatClampNeg → ∀ y10 : Int32, y10 = (x2 ^^^ (-1 : Int32)) → ∀ y11 : Int32, y11 = (y9 &&& y10) → ((¬ y11 = 0) → wj_X7_holdsAllOthers_60 K14 post x1 x2 x3 u) ∧ ((y11 = 0) → wj_X7_holdsAllOthers_61 K14 post x1 x2 x3 (1 : Int32) u))))
def wp_X7_holdsAllOthers (x1 x2 : Int32) (u : mS) (post : Int32 → mS → Prop) : Prop := ((x1 < 0) → post (0 : Int32) u) ∧ ((¬ x1 < 0) → ((x1 < (40 : Int32)) → ∃ n, mL4 (fun K => wj_X7_holdsAllOthers_14 K post) n x1 x2 (0 : Int32) u) ∧ ((¬ x1 < (40 : Int32)) → post (0 : Int32) u))
def wj_X7_meaning_79 (K8 : Int32 → Int32 → Int32 → Int32 → Int32 → mS → Prop) (post : Int32 → mS → Prop) (x1 x2 x3 x4 x5 : Int32) (u : mS) : Prop := ∀ y17 : Int32, y17 = x5 + (1 : Int32) → K8 x1 x2 x3 x4 y17 u
def wj_X7_meaning_98 (post : Int32 → mS → Prop) (x3 : Int32) (u : mS) : Prop := post x3 u
def wj_X7_meaning_85 (post : Int32 → mS → Prop) (x2 x3 : Int32) (u : mS) : Prop := ((x3 < 0) → wj_X7_meaning_98 post x3 u) ∧ ((¬ x3 < 0) → wp_X7_holdsAllOthers x3 x2 u (fun r19 u20 => ((r19 = 0) → post (-2 : Int32) u20) ∧ ((¬ r19 = 0) → wj_X7_meaning_98 post x3 u20)))
def wj_X7_meaning_8 (K8 : Int32 → Int32 → Int32 → Int32 → Int32 → mS → Prop) (post : Int32 → mS → Prop) (x1 x2 x3 x4 x5 : Int32) (u : mS) : Prop := ∀ y1 : Int32, y1 = (u.1 4) → ((y1 ≤ x5) → wj_X7_meaning_85 post x2 x3 u) ∧ ((¬ y1 ≤ x5) → (((40 : Int32) ≤ x5) → wj_X7_meaning_85 post x2 x3 u) ∧ ((¬ (40 : Int32) ≤ x5) → vp_in x5 40 ∧ ∀ y4 : Int32, y4 = u.2 5 x5.toNatClampNeg → ((¬ y4 = x1) → wj_X7_meaning_79 K8 post x1 x2 x3 x4 x5 u) ∧ ((y4 = x1) → vp_in x5 40 ∧ ∀ y6 : Int32, y6 = u.2 6 x5.toNatClampNeg → ∀ y7 : Int32, y7 = (x2 ^^^ (-1 : Int32)) → ∀ y8 : Int32, y8 = (y6 &&& y7) → ((¬ y8 = 0) → wj_X7_meaning_79 K8 post x1 x2 x3 x4 x5 u) ∧ ((y8 = 0) → vp_in x5 40 ∧ ∀ y10 : Int32, y10 = u.2 6 x5.toNatClampNeg → wp_J6_bitCount_0f7a4 y10 u (fun r11 u12 => ((r11 ≤ x4) → wj_X7_meaning_79 K8 post x1 x2 x3 x4 x5 u12) ∧ ((¬ r11 ≤ x4) → vp_in x5 40 ∧ ∀ y14 : Int32, y14 = u12.2 6 x5.toNatClampNeg → wp_J6_bitCount_0f7a4 y14 u12 (fun r15 u16 => wj_X7_meaning_79 K8 post x1 x2 x5 r15 x5 u16)))))))
def wp_X7_meaning (x1 x2 : Int32) (u : mS) (post : Int32 → mS → Prop) : Prop := ∃ n, mL6 (fun K => wj_X7_meaning_8 K post) n x1 x2 (-1 : Int32) (-1 : Int32) (0 : Int32) u
def wj_X0_meaningOf_43 (post : Int32 → mS → Prop) (z0 : Int32) (u : mS) : Prop := wp_X2_fail z0 u (fun u10 => post (-1 : Int32) u10)
def wp_X0_meaningOf (x1 : Int32) (u : mS) (post : Int32 → mS → Prop) : Prop := wp_X5_wordAt x1 u (fun r1 u2 => wp_X5_marksAt x1 u2 (fun r3 u4 => wp_X7_meaning r1 r3 u4 (fun r5 u6 => ((0 ≤ r5) → post r5 u6) ∧ ((¬ 0 ≤ r5) → ((¬ r5 = (-2 : Int32)) → wj_X0_meaningOf_43 post (1 : Int32) u6) ∧ ((r5 = (-2 : Int32)) → wj_X0_meaningOf_43 post (2 : Int32) u6)))))
def wp_X7_kindOf (x1 : Int32) (u : mS) (post : Int32 → mS → Prop) : Prop := ((x1 < 0) → post (4 : Int32) u) ∧ ((¬ x1 < 0) → (((40 : Int32) ≤ x1) → post (4 : Int32) u) ∧ ((¬ (40 : Int32) ≤ x1) → vp_in x1 40 ∧ ∀ y3 : Int32, y3 = u.2 7 x1.toNatClampNeg → post y3 u))
def wp_X7_valueOf (x1 : Int32) (u : mS) (post : Int32 → mS → Prop) : Prop := ((x1 < 0) → post (0 : Int32) u) ∧ ((¬ x1 < 0) → (((40 : Int32) ≤ x1) → post (0 : Int32) u) ∧ ((¬ (40 : Int32) ≤ x1) → vp_in x1 40 ∧ ∀ y3 : Int32, y3 = u.2 8 x1.toNatClampNeg → post y3 u))
def wp_X2_putVariable (x1 : Int32) (u : mS) (post : mS → Prop) : Prop := wp_X2_put (118 : Int32) u (fun u2 => wp_X2_putNumber x1 u2 (fun u4 => post u4))
def wj_X2_putName_27 (K3 : Int32 → Int32 → mS → Prop) (post : mS → Prop) (x1 x2 : Int32) (u : mS) : Prop := ∀ y8 : Int32, y8 = x2 + (-8 : Int32) → K3 x1 y8 u
def wj_X2_putName_3 (K3 : Int32 → Int32 → mS → Prop) (post : mS → Prop) (x1 x2 : Int32) (u : mS) : Prop := ((x2 < 0) → post u) ∧ ((¬ x2 < 0) → ∀ y2 : Int32, y2 = (x1 >>> (x2 &&& 31)) → ((y2 ≤ (255 : Int32)) → wj_X2_putName_27 K3 post x1 x2 u) ∧ ((¬ y2 ≤ (255 : Int32)) → ∀ y4 : Int32, y4 = (x1 >>> (x2 &&& 31)) → ∀ y5 : Int32, y5 = (y4 &&& (255 : Int32)) → wp_X2_put y5 u (fun u7 => wj_X2_putName_27 K3 post x1 x2 u7)))
def wp_X2_putName (x1 : Int32) (u : mS) (post : mS → Prop) : Prop := ∃ n, mL3 (fun K => wj_X2_putName_3 K post) n x1 (16 : Int32) u
def wp_X0_expandName (x1 : Int32) (u : mS) (post : mS → Prop) : Prop := wp_X0_meaningOf x1 u (fun r1 u2 => ((0 ≤ r1) → wp_X7_kindOf r1 u2 (fun r4 u5 => ((¬ r4 = (4 : Int32)) → ((¬ r4 = (5 : Int32)) → wp_X2_fail (3 : Int32) u5 (fun u9 => post u9)) ∧ ((r4 = (5 : Int32)) → wp_X7_valueOf r1 u5 (fun r10 u11 => wp_X2_putVariable r10 u11 (fun u13 => post u13)))) ∧ ((r4 = (4 : Int32)) → wp_X5_wordAt x1 u5 (fun r14 u15 => wp_X2_putName r14 u15 (fun u17 => post u17))))) ∧ ((¬ 0 ≤ r1) → post u2))
def wj_X5_after_40 (post : Int32 → mS → Prop) (x1 : Int32) (u : mS) : Prop := ∀ y9 : Int32, y9 = (x1 + (1 : Int32)) → post y9 u
def wp_X5_after (x1 : Int32) (u : mS) (post : Int32 → mS → Prop) : Prop := ((x1 < 0) → wj_X5_after_40 post x1 u) ∧ ((¬ x1 < 0) → ∀ y2 : Int32, y2 = (u.1 1) → ((y2 ≤ x1) → wj_X5_after_40 post x1 u) ∧ ((¬ y2 ≤ x1) → (((3000 : Int32) ≤ x1) → wj_X5_after_40 post x1 u) ∧ ((¬ (3000 : Int32) ≤ x1) → vp_in x1 3000 ∧ ∀ y5 : Int32, y5 = u.2 3 x1.toNatClampNeg → ((y5 ≤ (1 : Int32)) → wj_X5_after_40 post x1 u) ∧ ((¬ y5 ≤ (1 : Int32)) → vp_in x1 3000 ∧ ∀ y7 : Int32, y7 = u.2 3 x1.toNatClampNeg → ∀ y8 : Int32, y8 = (x1 + y7) → post y8 u))))
def wj_X5_hasDots_81 (K14 : Int32 → Int32 → mS → Prop) (post : Int32 → mS → Prop) (x3 z0 z1 : Int32) (u : mS) : Prop := ∀ y14 : Int32, y14 = (z1 + z0) → ∀ y15 : Int32, y15 = x3 + (1 : Int32) → K14 y14 y15 u
def wj_X5_hasDots_50 (K14 : Int32 → Int32 → mS → Prop) (post : Int32 → mS → Prop) (x2 x3 : Int32) (u : mS) : Prop := vp_in x3 3000 ∧ ∀ y10 : Int32, y10 = u.2 1 x3.toNatClampNeg → ((¬ y10 = (-1 : Int32)) → vp_in x3 3000 ∧ ∀ y12 : Int32, y12 = u.2 1 x3.toNatClampNeg → ((¬ y12 = (-2 : Int32)) → wj_X5_hasDots_81 K14 post x3 (0 : Int32) x2 u) ∧ ((y12 = (-2 : Int32)) → wj_X5_hasDots_81 K14 post x3 (-1 : Int32) x2 u)) ∧ ((y10 = (-1 : Int32)) → wj_X5_hasDots_81 K14 post x3 (1 : Int32) x2 u)
def wj_X5_hasDots_14 (K14 : Int32 → Int32 → mS → Prop) (post : Int32 → mS → Prop) (x2 x3 : Int32) (u : mS) : Prop := ∀ y3 : Int32, y3 = (u.1 1) → ((y3 ≤ x3) → post (0 : Int32) u) ∧ ((¬ y3 ≤ x3) → (((3000 : Int32) ≤ x3) → post (0 : Int32) u) ∧ ((¬ (3000 : Int32) ≤ x3) → ((x2 < 0) → post (0 : Int32) u) ∧ ((¬ x2 < 0) → vp_in x3 3000 ∧ ∀ y7 : Int32, y7 = u.2 1 x3.toNatClampNeg → ((¬ y7 = (-3 : Int32)) → wj_X5_hasDots_50 K14 post x2 x3 u) ∧ ((y7 = (-3 : Int32)) → ((¬ x2 = 0) → wj_X5_hasDots_50 K14 post x2 x3 u) ∧ ((x2 = 0) → post (1 : Int32) u)))))
def wj_X5_hasDots_13 (post : Int32 → mS → Prop) (x2 z0 : Int32) (u : mS) : Prop := ∃ n, mL3 (fun K => wj_X5_hasDots_14 K post) n x2 z0 u
def wp_X5_hasDots (x1 : Int32) (u : mS) (post : Int32 → mS → Prop) : Prop := ((0 ≤ x1) → ∀ y2 : Int32, y2 = (x1 + (1 : Int32)) → wj_X5_hasDots_13 post (0 : Int32) y2 u) ∧ ((¬ 0 ≤ x1) → wj_X5_hasDots_13 post (0 : Int32) (0 : Int32) u)
def wj_X5_itemsFrom_85 (K15 : Int32 → Int32 → Int32 → mS → Prop) (post : Int32 → mS → Prop) (x2 x3 x4 : Int32) (u : mS) : Prop := ∀ y10 : Int32, y10 = x4 + (1 : Int32) → K15 x2 x3 y10 u
def wj_X5_itemsFrom_83 (K15 : Int32 → Int32 → Int32 → mS → Prop) (post : Int32 → mS → Prop) (x2 x4 z0 z1 : Int32) (u : mS) : Prop := ∀ y14 : Int32, y14 = (z1 + z0) → wj_X5_itemsFrom_85 K15 post x2 y14 x4 u
def wj_X5_itemsFrom_64 (K15 : Int32 → Int32 → Int32 → mS → Prop) (post : Int32 → mS → Prop) (x3 x4 z0 z1 : Int32) (u : mS) : Prop := ∀ y11 : Int32, y11 = (z1 + z0) → vp_in x4 3000 ∧ ∀ y12 : Int32, y12 = u.2 1 x4.toNatClampNeg → ((¬ y12 = (-1 : Int32)) → wj_X5_itemsFrom_83 K15 post y11 x4 (0 : Int32) x3 u) ∧ ((y12 = (-1 : Int32)) → wj_X5_itemsFrom_83 K15 post y11 x4 (1 : Int32) x3 u)
def wj_X5_itemsFrom_91 (post : Int32 → mS → Prop) (x2 : Int32) (u : mS) : Prop := post x2 u
def wj_X5_itemsFrom_15 (K15 : Int32 → Int32 → Int32 → mS → Prop) (post : Int32 → mS → Prop) (x2 x3 x4 : Int32) (u : mS) : Prop := ∀ y2 : Int32, y2 = (u.1 1) → ((y2 ≤ x4) → wj_X5_itemsFrom_91 post x2 u) ∧ ((¬ y2 ≤ x4) → (((3000 : Int32) ≤ x4) → wj_X5_itemsFrom_91 post x2 u) ∧ ((¬ (3000 : Int32) ≤ x4) → ((x3 < 0) → wj_X5_itemsFrom_91 post x2 u) ∧ ((¬ x3 < 0) → vp_in x4 3000 ∧ ∀ y6 : Int32, y6 = u.2 1 x4.toNatClampNeg → ((¬ y6 = (-2 : Int32)) → ((¬ x3 = 0) → wj_X5_itemsFrom_64 K15 post x3 x4 (0 : Int32) x2 u) ∧ ((x3 = 0) → wj_X5_itemsFrom_64 K15 post x3 x4 (1 : Int32) x2 u)) ∧ ((y6 = (-2 : Int32)) → ∀ y9 : Int32, y9 = x3 + (-1 : Int32) → wj_X5_itemsFrom_85 K15 post x2 y9 x4 u))))
def wj_X5_itemsFrom_13 (post : Int32 → mS → Prop) (x2 x3 z0 : Int32) (u : mS) : Prop := ∃ n, mL4 (fun K => wj_X5_itemsFrom_15 K post) n x2 x3 z0 u
def wp_X5_itemsFrom (x1 : Int32) (u : mS) (post : Int32 → mS → Prop) : Prop := ((0 ≤ x1) → wj_X5_itemsFrom_13 post (0 : Int32) (0 : Int32) x1 u) ∧ ((¬ 0 ≤ x1) → wj_X5_itemsFrom_13 post (0 : Int32) (0 : Int32) (0 : Int32) u)
def wj_X5_plainLength_17 (post : Int32 → mS → Prop) (u : mS) : Prop := post (-1 : Int32) u
def wp_X5_plainLength (x1 : Int32) (u : mS) (post : Int32 → mS → Prop) : Prop := wp_X5_wordAt x1 u (fun r1 u2 => ((¬ r1 = (-1 : Int32)) → wj_X5_plainLength_17 post u2) ∧ ((r1 = (-1 : Int32)) → wp_X5_hasDots x1 u2 (fun r4 u5 => ((r4 = 0) → ∀ y7 : Int32, y7 = (x1 + (1 : Int32)) → wp_X5_itemsFrom y7 u5 (fun r8 u9 => post r8 u9)) ∧ ((¬ r4 = 0) → wj_X5_plainLength_17 post u5))))
def wj_X0_areNames_11 (K11 : Int32 → Int32 → Int32 → mS → Prop) (post : Int32 → mS → Prop) (x1 x2 x3 : Int32) (u : mS) : Prop := ((x2 ≤ x3) → ((x2 < 0) → post (0 : Int32) u) ∧ ((¬ x2 < 0) → post (1 : Int32) u)) ∧ ((¬ x2 ≤ x3) → ∀ y5 : Int32, y5 = (x1 + (1 : Int32)) → ∀ y6 : Int32, y6 = (y5 + x3) → wp_X5_wordAt y6 u (fun r7 u8 => wp_X8_isName r7 u8 (fun r9 u10 => ((¬ r9 = 0) → ∀ y12 : Int32, y12 = x3 + (1 : Int32) → K11 x1 x2 y12 u10) ∧ ((r9 = 0) → post (0 : Int32) u10))))
def wp_X0_areNames (x1 : Int32) (u : mS) (post : Int32 → mS → Prop) : Prop := wp_X5_plainLength x1 u (fun r1 u2 => ∃ n, mL4 (fun K => wj_X0_areNames_11 K post) n x1 r1 (0 : Int32) u2)
def wp_X0_newScope (u : mS) (post : Int32 → mS → Prop) : Prop := ∀ y1 : Int32, y1 = (u.1 8) → ((y1 < (30 : Int32)) → ∀ y3 : Int32, y3 = (u.1 8) → ∀ y4 : Int32, y4 = (y3 + (1 : Int32)) → ∀ u5 : mS, u5 = mSet u 8 y4 → ∀ y6 : Int32, y6 = (u5.1 8) → ∀ y7 : Int32, y7 = (y6 - (1 : Int32)) → post y7 u5) ∧ ((¬ y1 < (30 : Int32)) → wp_X2_fail (6 : Int32) u (fun u9 => post (-1 : Int32) u9))
def wj_X5_turnScope_66 (K17 : Int32 → Int32 → Int32 → mS → Prop) (post : mS → Prop) (x2 x3 x4 : Int32) (u : mS) : Prop := ∀ y16 : Int32, y16 = x4 + (1 : Int32) → K17 x2 x3 y16 u
def wj_X5_turnScope_17 (K17 : Int32 → Int32 → Int32 → mS → Prop) (post : mS → Prop) (x2 x3 x4 : Int32) (u : mS) : Prop := ((x3 ≤ x4) → post u) ∧ ((¬ x3 ≤ x4) → ∀ y5 : Int32, y5 = (u.1 1) → ((y5 ≤ x4) → post u) ∧ ((¬ y5 ≤ x4) → (((3000 : Int32) ≤ x4) → post u) ∧ ((¬ (3000 : Int32) ≤ x4) → vp_in x4 3000 ∧ ∀ y8 : Int32, y8 = u.2 1 x4.toNatClampNeg → wp_X8_isName y8 u (fun r9 u10 => ((r9 = 0) → wj_X5_turnScope_66 K17 post x2 x3 x4 u10) ∧ ((¬ r9 = 0) → vp_in x4 3000 ∧ ∀ y12 : Int32, y12 = u10.2 2 x4.toNatClampNeg → ∀ y13 : Int32, y13 = ((1 : Int32) <<< (x2 &&& 31)) → ∀ y14 : Int32, y14 = (y12 ^^^ y13) → vp_in x4 3000 ∧ ∀ u15 : mS, u15 = mPut u10 2 x4.toNatClampNeg y14 → wj_X5_turnScope_66 K17 post x2 x3 x4 u15)))))
def wj_X5_turnScope_15 (post : mS → Prop) (x2 x3 z0 : Int32) (u : mS) : Prop := ∃ n, mL4 (fun K => wj_X5_turnScope_17 K post) n x2 x3 z0 u
def wp_X5_turnScope (x1 x2 : Int32) (u : mS) (post : mS → Prop) : Prop := wp_X5_after x1 u (fun r1 u2 => ((0 ≤ x1) → wj_X5_turnScope_15 post x2 r1 x1 u2) ∧ ((¬ 0 ≤ x1) → wj_X5_turnScope_15 post x2 r1 (0 : Int32) u2))
def wj_X5_findName_102 (K44 : Int32 → Int32 → Int32 → mS → Prop) (post : Int32 → mS → Prop) (x2 x3 x4 : Int32) (u : mS) : Prop := ∀ y18 : Int32, y18 = x4 + (1 : Int32) → K44 x2 x3 y18 u
def wj_X5_findName_44 (K44 : Int32 → Int32 → Int32 → mS → Prop) (post : Int32 → mS → Prop) (x2 x3 x4 : Int32) (u : mS) : Prop := ((x2 ≤ x4) → post (-1 : Int32) u) ∧ ((¬ x2 ≤ x4) → ∀ y9 : Int32, y9 = (u.1 1) → ((y9 ≤ x4) → post (-1 : Int32) u) ∧ ((¬ y9 ≤ x4) → (((3000 : Int32) ≤ x4) → post (-1 : Int32) u) ∧ ((¬ (3000 : Int32) ≤ x4) → vp_in x4 3000 ∧ ∀ y12 : Int32, y12 = u.2 1 x4.toNatClampNeg → vp_in x3 3000 ∧ ∀ y13 : Int32, y13 = u.2 1 x3.toNatClampNeg → ((¬ y12 = y13) → wj_X5_findName_102 K44 post x2 x3 x4 u) ∧ ((y12 = y13) → vp_in x4 3000 ∧ ∀ y15 : Int32, y15 = u.2 2 x4.toNatClampNeg → vp_in x3 3000 ∧ ∀ y16 : Int32, y16 = u.2 2 x3.toNatClampNeg → ((¬ y15 = y16) → wj_X5_findName_102 K44 post x2 x3 x4 u) ∧ ((y15 = y16) → post x4 u)))))
def wj_X5_findName_42 (post : Int32 → mS → Prop) (x2 x3 z0 : Int32) (u : mS) : Prop := ∃ n, mL4 (fun K => wj_X5_findName_44 K post) n x2 x3 z0 u
def wp_X5_findName (x1 x2 x3 : Int32) (u : mS) (post : Int32 → mS → Prop) : Prop := ((x3 < 0) → post (-1 : Int32) u) ∧ ((¬ x3 < 0) → ∀ y2 : Int32, y2 = (u.1 1) → ((y2 ≤ x3) → post (-1 : Int32) u) ∧ ((¬ y2 ≤ x3) → (((3000 : Int32) ≤ x3) → post (-1 : Int32) u) ∧ ((¬ (3000 : Int32) ≤ x3) → vp_in x3 3000 ∧ ∀ y5 : Int32, y5 = u.2 1 x3.toNatClampNeg → (((255 : Int32) < y5) → ((0 ≤ x1) → wj_X5_findName_42 post x2 x3 x1 u) ∧ ((¬ 0 ≤ x1) → wj_X5_findName_42 post x2 x3 (0 : Int32) u)) ∧ ((¬ (255 : Int32) < y5) → post (-1 : Int32) u))))
def wp_X7_bind (x1 x2 x3 x4 : Int32) (u : mS) (post : Int32 → mS → Prop) : Prop := ∀ y1 : Int32, y1 = (u.1 4) → ((y1 < 0) → post (0 : Int32) u) ∧ ((¬ y1 < 0) → ∀ y3 : Int32, y3 = (u.1 4) → ((y3 < (40 : Int32)) → ∀ y5 : Int32, y5 = (u.1 4) → vp_in y5 40 ∧ ∀ u6 : mS, u6 = mPut u 5 y5.toNatClampNeg x1 → ∀ y7 : Int32, y7 = (u6.1 4) → vp_in y7 40 ∧ ∀ u8 : mS, u8 = mPut u6 6 y7.toNatClampNeg x2 → ∀ y9 : Int32, y9 = (u8.1 4) → vp_in y9 40 ∧ ∀ u10 : mS, u10 = mPut u8 7 y9.toNatClampNeg x3 → ∀ y11 : Int32, y11 = (u10.1 4) → vp_in y11 40 ∧ ∀ u12 : mS, u12 = mPut u10 8 y11.toNatClampNeg x4 → ∀ y13 : Int32, y13 = (u12.1 4) → ∀ y14 : Int32, y14 = (y13 + (1 : Int32)) → ∀ u15 : mS, u15 = mSet u12 4 y14 → post (1 : Int32) u15) ∧ ((¬ y3 < (40 : Int32)) → post (0 : Int32) u))
def wp_X0_bind (x1 x2 x3 : Int32) (u : mS) (post : Int32 → mS → Prop) : Prop := wp_X5_wordAt x1 u (fun r1 u2 => wp_X5_marksAt x1 u2 (fun r3 u4 => wp_X7_bind r1 r3 x2 x3 u4 (fun r5 u6 => ((¬ r5 = 0) → ∀ y8 : Int32, y8 = (u6.1 9) → ∀ y9 : Int32, y9 = (y8 + (1 : Int32)) → ∀ u10 : mS, u10 = mSet u6 9 y9 → post (1 : Int32) u10) ∧ ((r5 = 0) → wp_X2_fail (6 : Int32) u6 (fun u12 => post (0 : Int32) u12)))))
def wp_X0_bindVariable (x1 x2 : Int32) (u : mS) (post : mS → Prop) : Prop := wp_X5_findName x1 x2 x2 u (fun r1 u2 => ((r1 < 0) → ∀ y4 : Int32, y4 = (u2.1 10) → wp_X0_bind x2 (5 : Int32) y4 u2 (fun r5 u6 => ((r5 = 0) → post u6) ∧ ((¬ r5 = 0) → ∀ y8 : Int32, y8 = (u6.1 10) → ∀ y9 : Int32, y9 = (y8 + (1 : Int32)) → ∀ u10 : mS, u10 = mSet u6 10 y9 → post u10))) ∧ ((¬ r1 < 0) → wp_X2_fail (3 : Int32) u2 (fun u12 => post u12)))
def wj_X0_putVariables_56 (K38 : Int32 → Int32 → Int32 → mS → Prop) (post : mS → Prop) (x1 x2 x3 : Int32) (u : mS) : Prop := ∀ y17 : Int32, y17 = (x1 + x3) → wp_X2_putVariable y17 u (fun u19 => ∀ y20 : Int32, y20 = x3 + (1 : Int32) → K38 x1 x2 y20 u19)
def wj_X0_putVariables_38 (K38 : Int32 → Int32 → Int32 → mS → Prop) (post : mS → Prop) (x1 x2 x3 : Int32) (u : mS) : Prop := ((x2 ≤ x3) → wp_X2_put (41 : Int32) u (fun u11 => wp_X2_put (32 : Int32) u11 (fun u13 => post u13))) ∧ ((¬ x2 ≤ x3) → ((x3 ≤ 0) → wj_X0_putVariables_56 K38 post x1 x2 x3 u) ∧ ((¬ x3 ≤ 0) → wp_X2_put (32 : Int32) u (fun u16 => wj_X0_putVariables_56 K38 post x1 x2 x3 u16)))
def wp_X0_putVariables (x1 x2 : Int32) (u : mS) (post : mS → Prop) : Prop := wp_X2_put (40 : Int32) u (fun u2 => wp_X2_putName (91758 : Int32) u2 (fun u4 => wp_X2_put (32 : Int32) u4 (fun u6 => wp_X2_put (40 : Int32) u6 (fun u8 => ∃ n, mL4 (fun K => wj_X0_putVariables_38 K post) n x1 x2 (0 : Int32) u8))))
def wj_X0_expandFn_34 (X : Int32 → Int32 → mS → (mS → Prop) → Prop) (post : mS → Prop) (u : mS) : Prop := wp_X2_fail (3 : Int32) u (fun u39 => post u39)
def wj_X0_expandFn_133 (X : Int32 → Int32 → mS → (mS → Prop) → Prop) (post : mS → Prop) (x2 x4 x6 x7 : Int32) (u : mS) : Prop := ∀ y30 : Int32, y30 = (u.1 7) → ((y30 = 0) → wp_X0_putVariables x6 x7 u (fun u33 => ∀ y34 : Int32, y34 = (x2 + (1 : Int32)) → X x4 y34 u33 (fun u35 => wp_X2_put (41 : Int32) u35 (fun u37 => post u37)))) ∧ ((¬ y30 = 0) → post u)
def wj_X0_expandFn_97 (X : Int32 → Int32 → mS → (mS → Prop) → Prop) (K97 : Int32 → Int32 → Int32 → Int32 → Int32 → Int32 → mS → Prop) (post : mS → Prop) (x2 x3 x4 x6 x7 x8 : Int32) (u : mS) : Prop := ((x7 ≤ x8) → wj_X0_expandFn_133 X post x2 x4 x6 x7 u) ∧ ((¬ x7 ≤ x8) → ∀ y22 : Int32, y22 = (u.1 7) → ((¬ y22 = 0) → wj_X0_expandFn_133 X post x2 x4 x6 x7 u) ∧ ((y22 = 0) → ∀ y24 : Int32, y24 = (x3 + (1 : Int32)) → ∀ y25 : Int32, y25 = (x3 + (1 : Int32)) → ∀ y26 : Int32, y26 = (y25 + x8) → wp_X0_bindVariable y24 y26 u (fun u28 => ∀ y29 : Int32, y29 = x8 + (1 : Int32) → K97 x2 x3 x4 x6 x7 y29 u28)))
def wp_X0_expandFn (X : Int32 → Int32 → mS → (mS → Prop) → Prop) (x1 x2 : Int32) (u : mS) (post : mS → Prop) : Prop := ∀ y1 : Int32, y1 = (x1 + (2 : Int32)) → wp_X5_after y1 u (fun r2 u3 => wp_X5_plainLength x1 u3 (fun r4 u5 => ((¬ r4 = (3 : Int32)) → wj_X0_expandFn_34 X post u5) ∧ ((r4 = (3 : Int32)) → wp_X0_areNames y1 u5 (fun r7 u8 => ((¬ r7 = 0) → wp_X0_newScope  u8 (fun r10 u11 => ((0 ≤ r10) → wp_X5_turnScope y1 r10 u11 (fun u14 => wp_X5_turnScope r2 r10 u14 (fun u16 => ∀ y17 : Int32, y17 = (u16.1 10) → ∀ y18 : Int32, y18 = (y1 + (1 : Int32)) → wp_X5_itemsFrom y18 u16 (fun r19 u20 => ∃ n, mL7 (fun K => wj_X0_expandFn_97 X K post) n x2 y1 r2 y17 r19 (0 : Int32) u20)))) ∧ ((¬ 0 ≤ r10) → post u11))) ∧ ((r7 = 0) → wj_X0_expandFn_34 X post u8)))))
def wj_X0_expandIf_46 (X : Int32 → Int32 → mS → (mS → Prop) → Prop) (K46 : Int32 → Int32 → Int32 → mS → Prop) (post : mS → Prop) (x2 x3 x4 : Int32) (u : mS) : Prop := (((3 : Int32) ≤ x4) → wp_X2_put (41 : Int32) u (fun u13 => post u13)) ∧ ((¬ (3 : Int32) ≤ x4) → wp_X2_put (32 : Int32) u (fun u15 => ∀ y16 : Int32, y16 = (x2 + (1 : Int32)) → X x3 y16 u15 (fun u17 => wp_X5_after x3 u17 (fun r18 u19 => ∀ y20 : Int32, y20 = x4 + (1 : Int32) → K46 x2 r18 y20 u19))))
def wp_X0_expandIf (X : Int32 → Int32 → mS → (mS → Prop) → Prop) (x1 x2 : Int32) (u : mS) (post : mS → Prop) : Prop := wp_X5_plainLength x1 u (fun r1 u2 => ((r1 = (4 : Int32)) → wp_X2_put (40 : Int32) u2 (fun u5 => wp_X2_putName (92518 : Int32) u5 (fun u7 => ∀ y8 : Int32, y8 = (x1 + (2 : Int32)) → ∃ n, mL4 (fun K => wj_X0_expandIf_46 X K post) n x2 y8 (0 : Int32) u7))) ∧ ((¬ r1 = (4 : Int32)) → wp_X2_fail (3 : Int32) u2 (fun u10 => post u10)))
def wj_X2_putWord_75 (post : mS → Prop) (z0 : Int32) (u : mS) : Prop := wp_X2_put z0 u (fun u19 => post u19)
def wp_X2_putWord (x1 : Int32) (u : mS) (post : mS → Prop) : Prop := wp_X8_isName x1 u (fun r1 u2 => ((r1 = 0) → wp_X8_isNumber x1 u2 (fun r4 u5 => ((r4 = 0) → ((¬ x1 = (-3 : Int32)) → ((¬ x1 = (-1 : Int32)) → ((¬ x1 = (-2 : Int32)) → wj_X2_putWord_75 post (95 : Int32) u5) ∧ ((x1 = (-2 : Int32)) → wj_X2_putWord_75 post (41 : Int32) u5)) ∧ ((x1 = (-1 : Int32)) → wj_X2_putWord_75 post (40 : Int32) u5)) ∧ ((x1 = (-3 : Int32)) → wp_X2_put (46 : Int32) u5 (fun u11 => wp_X2_put (46 : Int32) u11 (fun u13 => post u13)))) ∧ ((¬ r4 = 0) → wp_X2_putNumber x1 u5 (fun u15 => post u15)))) ∧ ((¬ r1 = 0) → wp_X2_putName x1 u2 (fun u17 => post u17)))
def wj_X2_putTree_50 (K9 : Int32 → Int32 → Int32 → mS → Prop) (post : mS → Prop) (x2 x3 x4 : Int32) (u : mS) : Prop := wp_X5_wordAt x4 u (fun r14 u15 => wp_X2_putWord r14 u15 (fun u17 => ∀ y18 : Int32, y18 = x4 + (1 : Int32) → K9 x2 x3 y18 u17))
def wj_X2_putTree_9 (K9 : Int32 → Int32 → Int32 → mS → Prop) (post : mS → Prop) (x2 x3 x4 : Int32) (u : mS) : Prop := ((x3 ≤ x4) → post u) ∧ ((¬ x3 ≤ x4) → ((x4 ≤ x2) → wj_X2_putTree_50 K9 post x2 x3 x4 u) ∧ ((¬ x4 ≤ x2) → wp_X5_wordAt x4 u (fun r5 u6 => ((r5 = (-2 : Int32)) → wj_X2_putTree_50 K9 post x2 x3 x4 u6) ∧ ((¬ r5 = (-2 : Int32)) → ∀ y8 : Int32, y8 = (x4 - (1 : Int32)) → wp_X5_wordAt y8 u6 (fun r9 u10 => ((r9 = (-1 : Int32)) → wj_X2_putTree_50 K9 post x2 x3 x4 u10) ∧ ((¬ r9 = (-1 : Int32)) → wp_X2_put (32 : Int32) u10 (fun u13 => wj_X2_putTree_50 K9 post x2 x3 x4 u13)))))))
def wp_X2_putTree (x2 : Int32) (u : mS) (post : mS → Prop) : Prop := wp_X5_after x2 u (fun r1 u2 => ∃ n, mL4 (fun K => wj_X2_putTree_9 K post) n x2 r1 x2 u2)
def wp_X0_expandQ (x1 : Int32) (u : mS) (post : mS → Prop) : Prop := wp_X5_plainLength x1 u (fun r1 u2 => ((r1 = (2 : Int32)) → wp_X2_putTree x1 u2 (fun u5 => post u5)) ∧ ((¬ r1 = (2 : Int32)) → wp_X2_fail (3 : Int32) u2 (fun u7 => post u7)))
def wp_X5_isHeld (x1 : Int32) (u : mS) (post : Int32 → mS → Prop) : Prop := ((x1 < 0) → post (0 : Int32) u) ∧ ((¬ x1 < 0) → ∀ y2 : Int32, y2 = (u.1 1) → ((y2 ≤ x1) → post (0 : Int32) u) ∧ ((¬ y2 ≤ x1) → (((3000 : Int32) ≤ x1) → post (0 : Int32) u) ∧ ((¬ (3000 : Int32) ≤ x1) → vp_in x1 3000 ∧ ∀ y5 : Int32, y5 = u.2 1 x1.toNatClampNeg → ((¬ y5 = (-2 : Int32)) → vp_in x1 3000 ∧ ∀ y7 : Int32, y7 = u.2 3 x1.toNatClampNeg → ∀ y8 : Int32, y8 = (x1 + y7) → ((y8 < 0) → post (0 : Int32) u) ∧ ((¬ y8 < 0) → ∀ y10 : Int32, y10 = (u.1 1) → ((y10 ≤ y8) → post (0 : Int32) u) ∧ ((¬ y10 ≤ y8) → (((3000 : Int32) ≤ y8) → post (0 : Int32) u) ∧ ((¬ (3000 : Int32) ≤ y8) → vp_in y8 3000 ∧ ∀ y13 : Int32, y13 = u.2 1 y8.toNatClampNeg → ((¬ y13 = (-3 : Int32)) → post (0 : Int32) u) ∧ ((y13 = (-3 : Int32)) → post (1 : Int32) u))))) ∧ ((y5 = (-2 : Int32)) → post (0 : Int32) u))))
def wp_X8_isTree (x0 : Int32) (u : mS) (post : Int32 → mS → Prop) : Prop := ((x0 = (-2 : Int32)) → post (0 : Int32) u) ∧ ((¬ x0 = (-2 : Int32)) → ((x0 = (-3 : Int32)) → post (0 : Int32) u) ∧ ((¬ x0 = (-3 : Int32)) → post (1 : Int32) u))
def wj_X5_holders_100 (K15 : Int32 → Int32 → Int32 → mS → Prop) (post : Int32 → mS → Prop) (x2 x3 x4 : Int32) (u : mS) : Prop := ∀ y18 : Int32, y18 = x4 + (1 : Int32) → K15 x2 x3 y18 u
def wj_X5_holders_106 (post : Int32 → mS → Prop) (x3 : Int32) (u : mS) : Prop := post x3 u
def wj_X5_holders_15 (K15 : Int32 → Int32 → Int32 → mS → Prop) (post : Int32 → mS → Prop) (x2 x3 x4 : Int32) (u : mS) : Prop := ((x2 < x4) → wj_X5_holders_106 post x3 u) ∧ ((¬ x2 < x4) → ∀ y4 : Int32, y4 = (u.1 1) → ((y4 ≤ x4) → wj_X5_holders_106 post x3 u) ∧ ((¬ y4 ≤ x4) → (((3000 : Int32) ≤ x4) → wj_X5_holders_106 post x3 u) ∧ ((¬ (3000 : Int32) ≤ x4) → vp_in x4 3000 ∧ ∀ y7 : Int32, y7 = u.2 3 x4.toNatClampNeg → ∀ y8 : Int32, y8 = (x4 + y7) → ((y8 ≤ x2) → wj_X5_holders_100 K15 post x2 x3 x4 u) ∧ ((¬ y8 ≤ x2) → ∀ y10 : Int32, y10 = (u.1 1) → ((y10 ≤ y8) → wj_X5_holders_100 K15 post x2 x3 x4 u) ∧ ((¬ y10 ≤ y8) → (((3000 : Int32) ≤ y8) → wj_X5_holders_100 K15 post x2 x3 x4 u) ∧ ((¬ (3000 : Int32) ≤ y8) → vp_in x4 3000 ∧ ∀ y13 : Int32, y13 = u.2 1 x4.toNatClampNeg → ((y13 = (-2 : Int32)) → wj_X5_holders_100 K15 post x2 x3 x4 u) ∧ ((¬ y13 = (-2 : Int32)) → vp_in y8 3000 ∧ ∀ y15 : Int32, y15 = u.2 1 y8.toNatClampNeg → ((¬ y15 = (-3 : Int32)) → wj_X5_holders_100 K15 post x2 x3 x4 u) ∧ ((y15 = (-3 : Int32)) → ∀ y17 : Int32, y17 = x3 + (1 : Int32) → wj_X5_holders_100 K15 post x2 y17 x4 u))))))))
def wj_X5_holders_13 (post : Int32 → mS → Prop) (x2 x3 z0 : Int32) (u : mS) : Prop := ∃ n, mL4 (fun K => wj_X5_holders_15 K post) n x2 x3 z0 u
def wp_X5_holders (x1 x2 : Int32) (u : mS) (post : Int32 → mS → Prop) : Prop := ((0 ≤ x1) → ∀ y2 : Int32, y2 = (x1 + (1 : Int32)) → wj_X5_holders_13 post x2 (0 : Int32) y2 u) ∧ ((¬ 0 ≤ x1) → wj_X5_holders_13 post x2 (0 : Int32) (0 : Int32) u)
def wj_X6_isPattern_131 (K64 : Int32 → Int32 → Int32 → Int32 → mS → Prop) (post : Int32 → mS → Prop) (x1 x3 x4 x5 : Int32) (u : mS) : Prop := wp_X5_findName x3 x5 x5 u (fun r29 u30 => ((r29 < 0) → ∀ y32 : Int32, y32 = x5 + (1 : Int32) → K64 x1 x3 x4 y32 u30) ∧ ((¬ r29 < 0) → post (0 : Int32) u30))
def wj_X6_isPattern_107 (K64 : Int32 → Int32 → Int32 → Int32 → mS → Prop) (post : Int32 → mS → Prop) (x1 x3 x4 x5 x6 : Int32) (u : mS) : Prop := wp_X8_isTree x6 u (fun r23 u24 => ((r23 = 0) → wj_X6_isPattern_131 K64 post x1 x3 x4 x5 u24) ∧ ((¬ r23 = 0) → wp_X5_holders x1 x5 u24 (fun r26 u27 => ((r26 ≤ (2 : Int32)) → wj_X6_isPattern_131 K64 post x1 x3 x4 x5 u27) ∧ ((¬ r26 ≤ (2 : Int32)) → post (0 : Int32) u27))))
def wj_X6_isPattern_64 (K64 : Int32 → Int32 → Int32 → Int32 → mS → Prop) (post : Int32 → mS → Prop) (x1 x3 x4 x5 : Int32) (u : mS) : Prop := ((x4 ≤ x5) → post (1 : Int32) u) ∧ ((¬ x4 ≤ x5) → wp_X5_wordAt x5 u (fun r16 u17 => ((¬ r16 = (-3 : Int32)) → wj_X6_isPattern_107 K64 post x1 x3 x4 x5 r16 u17) ∧ ((r16 = (-3 : Int32)) → ∀ y19 : Int32, y19 = (x5 + (1 : Int32)) → wp_X5_wordAt y19 u17 (fun r20 u21 => ((r20 = (-2 : Int32)) → wj_X6_isPattern_107 K64 post x1 x3 x4 x5 r16 u21) ∧ ((¬ r20 = (-2 : Int32)) → post (0 : Int32) u21)))))
def wp_X6_isPattern (x1 : Int32) (u : mS) (post : Int32 → mS → Prop) : Prop := ∀ y1 : Int32, y1 = (x1 + (1 : Int32)) → wp_X5_wordAt x1 u (fun r2 u3 => ((¬ r2 = (-1 : Int32)) → post (0 : Int32) u3) ∧ ((r2 = (-1 : Int32)) → wp_X5_wordAt y1 u3 (fun r5 u6 => ((r5 = (-2 : Int32)) → post (0 : Int32) u6) ∧ ((¬ r5 = (-2 : Int32)) → wp_X5_isHeld y1 u6 (fun r8 u9 => ((r8 = 0) → wp_X5_after y1 u9 (fun r11 u12 => wp_X5_after x1 u12 (fun r13 u14 => ∃ n, mL5 (fun K => wj_X6_isPattern_64 K post) n x1 r11 r13 r11 u14))) ∧ ((¬ r8 = 0) → post (0 : Int32) u9))))))
def wj_X5_setVariable_35 (post : mS → Prop) (z0 z1 : Int32) (u : mS) : Prop := vp_in z1 3000 ∧ ∀ u7 : mS, u7 = mPut u 4 z1.toNatClampNeg z0 → post u7
def wp_X5_setVariable (x1 x2 : Int32) (u : mS) (post : mS → Prop) : Prop := ((x1 < 0) → post u) ∧ ((¬ x1 < 0) → ∀ y2 : Int32, y2 = (u.1 1) → ((y2 ≤ x1) → post u) ∧ ((¬ y2 ≤ x1) → (((3000 : Int32) ≤ x1) → post u) ∧ ((¬ (3000 : Int32) ≤ x1) → ((0 ≤ x2) → ∀ y6 : Int32, y6 = (x1 - x2) → wj_X5_setVariable_35 post y6 x1 u) ∧ ((¬ 0 ≤ x2) → wj_X5_setVariable_35 post (0 : Int32) x1 u))))
def wj_X6_linkUses_24 (K24 : Int32 → Int32 → Int32 → Int32 → mS → Prop) (post : mS → Prop) (x2 x3 x4 x5 : Int32) (u : mS) : Prop := ((x4 ≤ x5) → post u) ∧ ((¬ x4 ≤ x5) → wp_X5_findName x3 x2 x5 u (fun r7 u8 => wp_X5_setVariable x5 r7 u8 (fun u10 => ∀ y11 : Int32, y11 = x5 + (1 : Int32) → K24 x2 x3 x4 y11 u10)))
def wp_X6_linkUses (x1 x2 : Int32) (u : mS) (post : mS → Prop) : Prop := ∀ y1 : Int32, y1 = (x1 + (1 : Int32)) → wp_X5_after y1 u (fun r2 u3 => wp_X5_after x2 u3 (fun r4 u5 => ∃ n, mL5 (fun K => wj_X6_linkUses_24 K post) n x2 r2 r4 x2 u5))
def wp_X5_variableAt (x1 : Int32) (u : mS) (post : Int32 → mS → Prop) : Prop := ((x1 < 0) → post (-1 : Int32) u) ∧ ((¬ x1 < 0) → ∀ y2 : Int32, y2 = (u.1 1) → ((y2 ≤ x1) → post (-1 : Int32) u) ∧ ((¬ y2 ≤ x1) → (((3000 : Int32) ≤ x1) → post (-1 : Int32) u) ∧ ((¬ (3000 : Int32) ≤ x1) → vp_in x1 3000 ∧ ∀ y5 : Int32, y5 = u.2 4 x1.toNatClampNeg → ((y5 ≤ 0) → post (-1 : Int32) u) ∧ ((¬ y5 ≤ 0) → vp_in x1 3000 ∧ ∀ y7 : Int32, y7 = u.2 4 x1.toNatClampNeg → ∀ y8 : Int32, y8 = (x1 - y7) → post y8 u))))
def wj_X5_hasUse_23 (K23 : Int32 → Int32 → mS → Prop) (post : Int32 → mS → Prop) (x1 x2 : Int32) (u : mS) : Prop := vp_in x1 3000 ∧ ∀ y5 : Int32, y5 = u.2 3 x1.toNatClampNeg → ∀ y6 : Int32, y6 = (x1 + y5) → ((y6 ≤ x2) → post (0 : Int32) u) ∧ ((¬ y6 ≤ x2) → ∀ y8 : Int32, y8 = (u.1 1) → ((y8 ≤ x2) → post (0 : Int32) u) ∧ ((¬ y8 ≤ x2) → (((3000 : Int32) ≤ x2) → post (0 : Int32) u) ∧ ((¬ (3000 : Int32) ≤ x2) → vp_in x2 3000 ∧ ∀ y11 : Int32, y11 = u.2 4 x2.toNatClampNeg → ((y11 ≤ 0) → ∀ y13 : Int32, y13 = x2 + (1 : Int32) → K23 x1 y13 u) ∧ ((¬ y11 ≤ 0) → post (1 : Int32) u))))
def wp_X5_hasUse (x1 : Int32) (u : mS) (post : Int32 → mS → Prop) : Prop := ((x1 < 0) → post (0 : Int32) u) ∧ ((¬ x1 < 0) → ∀ y2 : Int32, y2 = (u.1 1) → ((y2 ≤ x1) → post (0 : Int32) u) ∧ ((¬ y2 ≤ x1) → ((x1 < (3000 : Int32)) → ∃ n, mL3 (fun K => wj_X5_hasUse_23 K post) n x1 x1 u) ∧ ((¬ x1 < (3000 : Int32)) → post (0 : Int32) u)))
def wj_X6_isTemplate_85 (K12 : Int32 → Int32 → Int32 → Int32 → mS → Prop) (post : Int32 → mS → Prop) (x1 x2 x3 x4 : Int32) (u : mS) : Prop := ∀ y18 : Int32, y18 = x4 + (1 : Int32) → K12 x1 x2 x3 y18 u
def wj_X6_isTemplate_59 (K12 : Int32 → Int32 → Int32 → Int32 → mS → Prop) (post : Int32 → mS → Prop) (x1 x2 x3 x4 : Int32) (u : mS) : Prop := wp_X5_isHeld x4 u (fun r12 u13 => ((r12 = 0) → wj_X6_isTemplate_85 K12 post x1 x2 x3 x4 u13) ∧ ((¬ r12 = 0) → wp_X5_hasUse x4 u13 (fun r15 u16 => ((¬ r15 = 0) → wj_X6_isTemplate_85 K12 post x1 x2 x3 x4 u16) ∧ ((r15 = 0) → post (0 : Int32) u16))))
def wj_X6_isTemplate_12 (K12 : Int32 → Int32 → Int32 → Int32 → mS → Prop) (post : Int32 → mS → Prop) (x1 x2 x3 x4 : Int32) (u : mS) : Prop := ((x3 ≤ x4) → post (1 : Int32) u) ∧ ((¬ x3 ≤ x4) → wp_X5_variableAt x4 u (fun r4 u5 => ((r4 < 0) → wj_X6_isTemplate_59 K12 post x1 x2 x3 x4 u5) ∧ ((¬ r4 < 0) → wp_X5_holders x2 x4 u5 (fun r7 u8 => wp_X5_holders x1 r4 u8 (fun r9 u10 => ((r7 = r9) → wj_X6_isTemplate_59 K12 post x1 x2 x3 x4 u10) ∧ ((¬ r7 = r9) → post (0 : Int32) u10))))))
def wp_X6_isTemplate (x1 x2 : Int32) (u : mS) (post : Int32 → mS → Prop) : Prop := wp_X5_after x2 u (fun r1 u2 => ∃ n, mL5 (fun K => wj_X6_isTemplate_12 K post) n x1 x2 r1 x2 u2)
def wp_X6_isRule (x1 : Int32) (u : mS) (post : Int32 → mS → Prop) : Prop := wp_X5_plainLength x1 u (fun r1 u2 => ((r1 = (2 : Int32)) → ∀ y4 : Int32, y4 = (x1 + (1 : Int32)) → wp_X5_after y4 u2 (fun r5 u6 => wp_X6_isPattern y4 u6 (fun r7 u8 => ((¬ r7 = 0) → wp_X6_linkUses y4 r5 u8 (fun u11 => wp_X6_isTemplate y4 r5 u11 (fun r12 u13 => post r12 u13))) ∧ ((r7 = 0) → post (0 : Int32) u8)))) ∧ ((¬ r1 = (2 : Int32)) → post (0 : Int32) u2))
def wj_X6_isNameWithRules_39 (K39 : Int32 → Int32 → Int32 → mS → Prop) (post : Int32 → mS → Prop) (x2 x3 x4 : Int32) (u : mS) : Prop := ((x2 ≤ x4) → post (1 : Int32) u) ∧ ((¬ x2 ≤ x4) → wp_X6_isRule x3 u (fun r12 u13 => ((¬ r12 = 0) → wp_X5_after x3 u13 (fun r15 u16 => ∀ y17 : Int32, y17 = x4 + (1 : Int32) → K39 x2 r15 y17 u16)) ∧ ((r12 = 0) → post (0 : Int32) u13)))
def wp_X6_isNameWithRules (x1 : Int32) (u : mS) (post : Int32 → mS → Prop) : Prop := wp_X5_plainLength x1 u (fun r1 u2 => ((r1 < (1 : Int32)) → post (0 : Int32) u2) ∧ ((¬ r1 < (1 : Int32)) → ∀ y4 : Int32, y4 = (x1 + (1 : Int32)) → wp_X5_wordAt y4 u2 (fun r5 u6 => wp_X8_isName r5 u6 (fun r7 u8 => ((¬ r7 = 0) → ∀ y10 : Int32, y10 = (x1 + (2 : Int32)) → ∃ n, mL4 (fun K => wj_X6_isNameWithRules_39 K post) n r1 y10 (1 : Int32) u8) ∧ ((r7 = 0) → post (0 : Int32) u8)))))
def wj_X0_expandLs_37 (X : Int32 → Int32 → mS → (mS → Prop) → Prop) (post : mS → Prop) (u : mS) : Prop := wp_X2_fail (3 : Int32) u (fun u25 => post u25)
def wp_X0_expandLs (X : Int32 → Int32 → mS → (mS → Prop) → Prop) (x1 x2 : Int32) (u : mS) (post : mS → Prop) : Prop := ∀ y1 : Int32, y1 = (x1 + (2 : Int32)) → wp_X5_after y1 u (fun r2 u3 => wp_X5_plainLength x1 u3 (fun r4 u5 => ((¬ r4 = (3 : Int32)) → wj_X0_expandLs_37 X post u5) ∧ ((r4 = (3 : Int32)) → wp_X6_isNameWithRules y1 u5 (fun r7 u8 => ((¬ r7 = 0) → wp_X0_newScope  u8 (fun r10 u11 => ((0 ≤ r10) → ∀ y13 : Int32, y13 = (y1 + (1 : Int32)) → wp_X5_turnScope y13 r10 u11 (fun u15 => wp_X5_turnScope r2 r10 u15 (fun u17 => ∀ y18 : Int32, y18 = (y1 + (1 : Int32)) → wp_X0_bind y18 (6 : Int32) y1 u17 (fun r19 u20 => ((r19 = 0) → post u20) ∧ ((¬ r19 = 0) → ∀ y22 : Int32, y22 = (x2 + (1 : Int32)) → X r2 y22 u20 (fun u23 => post u23)))))) ∧ ((¬ 0 ≤ r10) → post u11))) ∧ ((r7 = 0) → wj_X0_expandLs_37 X post u8)))))
def wp_X1_hasRoomFor (x1 x2 : Int32) (u : mS) (post : Int32 → mS → Prop) : Prop := wp_X5_plainLength x2 u (fun r1 u2 => ∀ y3 : Int32, y3 = (x1 + (1 : Int32)) → wp_X5_itemsFrom y3 u2 (fun r4 u5 => wp_X5_hasDots x1 u5 (fun r6 u7 => ((r6 = 0) → ((¬ r1 = r4) → post (0 : Int32) u7) ∧ ((r1 = r4) → post (1 : Int32) u7)) ∧ ((¬ r6 = 0) → ∀ y10 : Int32, y10 = (r4 - (2 : Int32)) → ((r1 < y10) → post (0 : Int32) u7) ∧ ((¬ r1 < y10) → post (1 : Int32) u7)))))
def wp_X4_clear (u : mS) (post : mS → Prop) : Prop := ∀ u1 : mS, u1 = mSet u 15 (0 : Int32) → post u1
def wp_X4_hasInner (u : mS) (post : Int32 → mS → Prop) : Prop := ∀ y1 : Int32, y1 = (u.1 15) → ((y1 ≤ 0) → post (0 : Int32) u) ∧ ((¬ y1 ≤ 0) → ∀ y3 : Int32, y3 = (u.1 15) → (((2 : Int32) < y3) → post (0 : Int32) u) ∧ ((¬ (2 : Int32) < y3) → post (1 : Int32) u))
def wp_X4_isIn (x1 : Int32) (u : mS) (post : Int32 → mS → Prop) : Prop := wp_X4_hasInner  u (fun r1 u2 => ((r1 = 0) → post (0 : Int32) u2) ∧ ((¬ r1 = 0) → ∀ y4 : Int32, y4 = (u2.1 15) → ∀ y5 : Int32, y5 = (y4 - (1 : Int32)) → vp_in y5 2 ∧ ∀ y6 : Int32, y6 = u2.2 10 y5.toNatClampNeg → ((¬ y6 = x1) → post (0 : Int32) u2) ∧ ((y6 = x1) → post (1 : Int32) u2)))
def wp_X4_enter (x1 x2 : Int32) (u : mS) (post : mS → Prop) : Prop := ∀ y1 : Int32, y1 = (u.1 15) → ((y1 < 0) → post u) ∧ ((¬ y1 < 0) → ∀ y3 : Int32, y3 = (u.1 15) → (((2 : Int32) ≤ y3) → post u) ∧ ((¬ (2 : Int32) ≤ y3) → ∀ y5 : Int32, y5 = (u.1 15) → vp_in y5 2 ∧ ∀ u6 : mS, u6 = mPut u 10 y5.toNatClampNeg x1 → ∀ y7 : Int32, y7 = (u6.1 15) → vp_in y7 2 ∧ ∀ u8 : mS, u8 = mPut u6 11 y7.toNatClampNeg (0 : Int32) → ∀ y9 : Int32, y9 = (u8.1 15) → vp_in y9 2 ∧ ∀ u10 : mS, u10 = mPut u8 12 y9.toNatClampNeg x2 → ∀ y11 : Int32, y11 = (u10.1 15) → ∀ y12 : Int32, y12 = (y11 + (1 : Int32)) → ∀ u13 : mS, u13 = mSet u10 15 y12 → post u13))
def wp_X4_leave (x1 : Int32) (u : mS) (post : Int32 → mS → Prop) : Prop := wp_X4_hasInner  u (fun r1 u2 => ((¬ r1 = 0) → ∀ y4 : Int32, y4 = (u2.1 15) → ∀ y5 : Int32, y5 = (y4 - (1 : Int32)) → vp_in y5 2 ∧ ∀ y6 : Int32, y6 = u2.2 11 y5.toNatClampNeg → ∀ y7 : Int32, y7 = (y6 + (1 : Int32)) → vp_in y5 2 ∧ ∀ u8 : mS, u8 = mPut u2 11 y5.toNatClampNeg y7 → ∀ y9 : Int32, y9 = (u8.1 15) → ∀ y10 : Int32, y10 = (y9 - (1 : Int32)) → vp_in y10 2 ∧ ∀ y11 : Int32, y11 = u8.2 11 y10.toNatClampNeg → ∀ y12 : Int32, y12 = (u8.1 15) → ∀ y13 : Int32, y13 = (y12 - (1 : Int32)) → vp_in y13 2 ∧ ∀ y14 : Int32, y14 = u8.2 12 y13.toNatClampNeg → ((y14 ≤ y11) → ∀ y16 : Int32, y16 = (u8.1 15) → ∀ y17 : Int32, y17 = (y16 - (1 : Int32)) → ∀ u18 : mS, u18 = mSet u8 15 y17 → ∀ y19 : Int32, y19 = (x1 + (1 : Int32)) → post y19 u18) ∧ ((¬ y14 ≤ y11) → ∀ y20 : Int32, y20 = (u8.1 15) → ∀ y21 : Int32, y21 = (y20 - (1 : Int32)) → vp_in y21 2 ∧ ∀ y22 : Int32, y22 = u8.2 10 y21.toNatClampNeg → post y22 u8)) ∧ ((r1 = 0) → ∀ y23 : Int32, y23 = (x1 + (1 : Int32)) → post y23 u2))
def wj_X1_matches_243 (K54 : Int32 → Int32 → Int32 → Int32 → mS → Prop) (post : Int32 → mS → Prop) (x3 x4 x5 x6 : Int32) (u : mS) : Prop := ∀ y30 : Int32, y30 = x6 + (1 : Int32) → K54 x3 x4 x5 y30 u
def wj_X1_matches_181 (K54 : Int32 → Int32 → Int32 → Int32 → mS → Prop) (post : Int32 → mS → Prop) (x3 x4 x5 x6 : Int32) (u : mS) : Prop := ∀ y49 : Int32, y49 = x4 + (1 : Int32) → wp_X5_after x5 u (fun r50 u51 => wj_X1_matches_243 K54 post x3 y49 r50 x6 u51)
def wj_X1_matches_232 (K54 : Int32 → Int32 → Int32 → Int32 → mS → Prop) (post : Int32 → mS → Prop) (x3 x4 x5 x6 : Int32) (u : mS) : Prop := ∀ y47 : Int32, y47 = x4 + (1 : Int32) → ∀ y48 : Int32, y48 = x5 + (1 : Int32) → wj_X1_matches_243 K54 post x3 y47 y48 x6 u
def wj_X1_matches_134 (K54 : Int32 → Int32 → Int32 → Int32 → mS → Prop) (post : Int32 → mS → Prop) (x3 x4 x5 x6 : Int32) (u : mS) : Prop := wp_X5_wordAt x4 u (fun r31 u32 => ((¬ r31 = (-3 : Int32)) → wp_X8_isName r31 u32 (fun r34 u35 => ((¬ r34 = 0) → wj_X1_matches_181 K54 post x3 x4 x5 x6 u35) ∧ ((r34 = 0) → ((¬ r31 = (-4 : Int32)) → ((¬ r31 = (-1 : Int32)) → wp_X5_wordAt x5 u35 (fun r39 u40 => ((¬ r39 = r31) → post (0 : Int32) u40) ∧ ((r39 = r31) → wj_X1_matches_232 K54 post x3 x4 x5 x6 u40))) ∧ ((r31 = (-1 : Int32)) → wp_X1_hasRoomFor x4 x5 u35 (fun r42 u43 => ((r42 = 0) → post (0 : Int32) u43) ∧ ((¬ r42 = 0) → wj_X1_matches_232 K54 post x3 x4 x5 x6 u43)))) ∧ ((r31 = (-4 : Int32)) → wj_X1_matches_181 K54 post x3 x4 x5 x6 u35)))) ∧ ((r31 = (-3 : Int32)) → wp_X4_leave x4 u32 (fun r45 u46 => wj_X1_matches_243 K54 post x3 r45 x5 x6 u46)))
def wj_X1_matches_54 (K54 : Int32 → Int32 → Int32 → Int32 → mS → Prop) (post : Int32 → mS → Prop) (x3 x4 x5 x6 : Int32) (u : mS) : Prop := (((1000000 : Int32) ≤ x6) → post (1 : Int32) u) ∧ ((¬ (1000000 : Int32) ≤ x6) → ((x3 ≤ x4) → post (1 : Int32) u) ∧ ((¬ x3 ≤ x4) → wp_X5_isHeld x4 u (fun r16 u17 => ((r16 = 0) → wj_X1_matches_134 K54 post x3 x4 x5 x6 u17) ∧ ((¬ r16 = 0) → wp_X4_isIn x4 u17 (fun r19 u20 => ((¬ r19 = 0) → wj_X1_matches_134 K54 post x3 x4 x5 x6 u20) ∧ ((r19 = 0) → wp_X5_itemsFrom x5 u20 (fun r22 u23 => ((¬ r22 = 0) → wp_X4_enter x4 r22 u23 (fun u26 => wj_X1_matches_134 K54 post x3 x4 x5 x6 u26)) ∧ ((r22 = 0) → wp_X5_after x4 u23 (fun r27 u28 => ∀ y29 : Int32, y29 = (r27 + (1 : Int32)) → wj_X1_matches_243 K54 post x3 y29 x5 x6 u28)))))))))
def wp_X1_matches (x1 x2 : Int32) (u : mS) (post : Int32 → mS → Prop) : Prop := wp_X1_hasRoomFor x1 x2 u (fun r1 u2 => ((¬ r1 = 0) → wp_X4_clear  u2 (fun u5 => wp_X5_after x1 u5 (fun r6 u7 => ∀ y8 : Int32, y8 = (x1 + (1 : Int32)) → wp_X5_after y8 u7 (fun r9 u10 => ∀ y11 : Int32, y11 = (x2 + (1 : Int32)) → wp_X5_after y11 u10 (fun r12 u13 => ∃ n, mL5 (fun K => wj_X1_matches_54 K post) n r6 r9 r12 (0 : Int32) u13))))) ∧ ((r1 = 0) → post (0 : Int32) u2))
def wj_X1_firstRule_17 (K17 : Int32 → Int32 → Int32 → Int32 → mS → Prop) (post : Int32 → mS → Prop) (x2 x3 x4 x5 : Int32) (u : mS) : Prop := ((x3 ≤ x5) → post (-1 : Int32) u) ∧ ((¬ x3 ≤ x5) → ∀ y5 : Int32, y5 = (x4 + (1 : Int32)) → wp_X1_matches y5 x2 u (fun r6 u7 => ((r6 = 0) → wp_X5_after x4 u7 (fun r9 u10 => ∀ y11 : Int32, y11 = x5 + (1 : Int32) → K17 x2 x3 r9 y11 u10)) ∧ ((¬ r6 = 0) → post x4 u7)))
def wp_X1_firstRule (x1 x2 : Int32) (u : mS) (post : Int32 → mS → Prop) : Prop := wp_X5_plainLength x1 u (fun r1 u2 => ∀ y3 : Int32, y3 = (x1 + (2 : Int32)) → ∃ n, mL5 (fun K => wj_X1_firstRule_17 K post) n x2 r1 y3 (1 : Int32) u2)
def wp_X5_startTree (u : mS) (post : Int32 → mS → Prop) : Prop := ∀ u1 : mS, u1 = mSet u 2 (-1 : Int32) → ∀ y2 : Int32, y2 = (u1.1 1) → post y2 u1
def wp_X4_roundOf (x1 : Int32) (u : mS) (post : Int32 → mS → Prop) : Prop := ((x1 < 0) → post (0 : Int32) u) ∧ ((¬ x1 < 0) → ∀ y2 : Int32, y2 = (u.1 15) → ((y2 ≤ x1) → post (0 : Int32) u) ∧ ((¬ y2 ≤ x1) → (((2 : Int32) ≤ x1) → post (0 : Int32) u) ∧ ((¬ (2 : Int32) ≤ x1) → vp_in x1 2 ∧ ∀ y5 : Int32, y5 = u.2 11 x1.toNatClampNeg → post y5 u)))
def wj_X1_matchOf_134 (K17 : Int32 → Int32 → Int32 → Int32 → Int32 → Int32 → mS → Prop) (post : Int32 → mS → Prop) (x1 x2 x3 x4 x5 x6 : Int32) (u : mS) : Prop := ∀ y17 : Int32, y17 = x6 + (1 : Int32) → K17 x1 x2 x3 x4 x5 y17 u
def wj_X1_matchOf_140 (post : Int32 → mS → Prop) (x4 : Int32) (u : mS) : Prop := post x4 u
def wj_X1_matchOf_120 (K17 : Int32 → Int32 → Int32 → Int32 → Int32 → Int32 → mS → Prop) (post : Int32 → mS → Prop) (x1 x2 x3 x4 x5 x6 : Int32) (u : mS) : Prop := ((x3 < x1) → ∀ y24 : Int32, y24 = x3 + (1 : Int32) → ∀ y25 : Int32, y25 = x4 + (1 : Int32) → wj_X1_matchOf_134 K17 post x1 x2 y24 y25 x5 x6 u) ∧ ((¬ x3 < x1) → wj_X1_matchOf_140 post x4 u)
def wj_X1_matchOf_93 (K93 : Int32 → Int32 → Int32 → Int32 → Int32 → Int32 → Int32 → Int32 → mS → Prop) (K17 : Int32 → Int32 → Int32 → Int32 → Int32 → Int32 → mS → Prop) (post : Int32 → mS → Prop) (x1 x2 x3 x4 x5 x6 x7 x8 : Int32) (u : mS) : Prop := ((x7 ≤ x8) → ∀ y19 : Int32, y19 = x5 + (1 : Int32) → wj_X1_matchOf_120 K17 post x1 x2 x3 x4 y19 x6 u) ∧ ((¬ x7 ≤ x8) → wp_X5_after x4 u (fun r20 u21 => ∀ y22 : Int32, y22 = x8 + (1 : Int32) → K93 x1 x2 x3 r20 x5 x6 x7 y22 u21))
def wj_X1_matchOf_17 (K17 : Int32 → Int32 → Int32 → Int32 → Int32 → Int32 → mS → Prop) (post : Int32 → mS → Prop) (x1 x2 x3 x4 x5 x6 : Int32) (u : mS) : Prop := (((1000000 : Int32) ≤ x6) → wj_X1_matchOf_140 post x4 u) ∧ ((¬ (1000000 : Int32) ≤ x6) → wp_X5_after x3 u (fun r4 u5 => ((x1 < r4) → wp_X5_isHeld x3 u5 (fun r7 u8 => ((r7 = 0) → wj_X1_matchOf_120 K17 post x1 x2 x3 x4 x5 x6 u8) ∧ ((¬ r7 = 0) → ((x5 < x2) → wp_X4_roundOf x5 u8 (fun r11 u12 => ∃ n, mL9 (fun K => wj_X1_matchOf_93 K K17 post) n x1 x2 x3 x4 x5 x6 r11 (0 : Int32) u12)) ∧ ((¬ x5 < x2) → wj_X1_matchOf_140 post x4 u8)))) ∧ ((¬ x1 < r4) → wp_X5_after x3 u5 (fun r13 u14 => wp_X5_after x4 u14 (fun r15 u16 => wj_X1_matchOf_134 K17 post x1 x2 r13 r15 x5 x6 u16)))))
def wp_X1_matchOf (x1 x2 : Int32) (u : mS) (post : Int32 → mS → Prop) : Prop := ∀ y1 : Int32, y1 = (u.1 12) → ∀ y2 : Int32, y2 = (u.1 13) → ∃ n, mL7 (fun K => wj_X1_matchOf_17 K post) n x1 x2 y1 y2 (0 : Int32) (0 : Int32) u
def wj_X1_roundsFor_81 (K14 : Int32 → Int32 → Int32 → mS → Prop) (post : Int32 → mS → Prop) (x2 x3 x4 : Int32) (u : mS) : Prop := ∀ y17 : Int32, y17 = x4 + (1 : Int32) → K14 x2 x3 y17 u
def wj_X1_roundsFor_78 (K14 : Int32 → Int32 → Int32 → mS → Prop) (post : Int32 → mS → Prop) (x3 x4 x6 : Int32) (u : mS) : Prop := wj_X1_roundsFor_81 K14 post x6 x3 x4 u
def wj_X1_roundsFor_14 (K14 : Int32 → Int32 → Int32 → mS → Prop) (post : Int32 → mS → Prop) (x2 x3 x4 : Int32) (u : mS) : Prop := ((x3 ≤ x4) → ∀ y4 : Int32, y4 = (if x2 < (0 : Int32) then (0 : Int32) else x2) → post y4 u) ∧ ((¬ x3 ≤ x4) → wp_X5_variableAt x4 u (fun r5 u6 => ((r5 < 0) → wj_X1_roundsFor_81 K14 post x2 x3 x4 u6) ∧ ((¬ r5 < 0) → ∀ y8 : Int32, y8 = (u6.1 15) → wp_X1_matchOf r5 y8 u6 (fun r9 u10 => wp_X5_itemsFrom r9 u10 (fun r11 u12 => ((x2 < 0) → wj_X1_roundsFor_78 K14 post x3 x4 r11 u12) ∧ ((¬ x2 < 0) → ((x2 = r11) → wj_X1_roundsFor_78 K14 post x3 x4 r11 u12) ∧ ((¬ x2 = r11) → wp_X2_fail (4 : Int32) u12 (fun u16 => post (0 : Int32) u16))))))))
def wp_X1_roundsFor (x1 : Int32) (u : mS) (post : Int32 → mS → Prop) : Prop := wp_X5_after x1 u (fun r1 u2 => ∃ n, mL4 (fun K => wj_X1_roundsFor_14 K post) n (-1 : Int32) r1 x1 u2)
def wp_X5_closeBracket (u : mS) (post : mS → Prop) : Prop := ∀ y1 : Int32, y1 = (u.1 2) → ((y1 < 0) → post u) ∧ ((¬ y1 < 0) → ∀ y3 : Int32, y3 = (u.1 2) → ((y3 < (3000 : Int32)) → ∀ y5 : Int32, y5 = (u.1 2) → vp_in y5 3000 ∧ ∀ y6 : Int32, y6 = u.2 3 y5.toNatClampNeg → ∀ y7 : Int32, y7 = (u.1 2) → ∀ y8 : Int32, y8 = (u.1 1) → ∀ y9 : Int32, y9 = (u.1 2) → ∀ y10 : Int32, y10 = (y8 - y9) → ∀ y11 : Int32, y11 = (y10 + (1 : Int32)) → vp_in y7 3000 ∧ ∀ u12 : mS, u12 = mPut u 3 y7.toNatClampNeg y11 → ∀ u13 : mS, u13 = mSet u12 2 y6 → post u13) ∧ ((¬ y3 < (3000 : Int32)) → post u))
def wj_X5_add_97 (post : mS → Prop) (u : mS) : Prop := ∀ y22 : Int32, y22 = (u.1 1) → ∀ y23 : Int32, y23 = (y22 + (1 : Int32)) → ∀ u24 : mS, u24 = mSet u 1 y23 → post u24
def wp_X5_add (x1 x2 : Int32) (u : mS) (post : mS → Prop) : Prop := ∀ y1 : Int32, y1 = (u.1 1) → ((y1 < 0) → post u) ∧ ((¬ y1 < 0) → ∀ y3 : Int32, y3 = (u.1 1) → ((y3 < (3000 : Int32)) → ∀ y5 : Int32, y5 = (u.1 1) → vp_in y5 3000 ∧ ∀ u6 : mS, u6 = mPut u 1 y5.toNatClampNeg x1 → ∀ y7 : Int32, y7 = (u6.1 1) → vp_in y7 3000 ∧ ∀ u8 : mS, u8 = mPut u6 2 y7.toNatClampNeg x2 → ∀ y9 : Int32, y9 = (u8.1 1) → vp_in y9 3000 ∧ ∀ u10 : mS, u10 = mPut u8 3 y9.toNatClampNeg (1 : Int32) → ∀ y11 : Int32, y11 = (u10.1 1) → vp_in y11 3000 ∧ ∀ u12 : mS, u12 = mPut u10 4 y11.toNatClampNeg (0 : Int32) → ((¬ x1 = (-1 : Int32)) → ((¬ x1 = (-2 : Int32)) → wj_X5_add_97 post u12) ∧ ((x1 = (-2 : Int32)) → wp_X5_closeBracket  u12 (fun u16 => wj_X5_add_97 post u16))) ∧ ((x1 = (-1 : Int32)) → ∀ y17 : Int32, y17 = (u12.1 1) → ∀ y18 : Int32, y18 = (u12.1 2) → vp_in y17 3000 ∧ ∀ u19 : mS, u19 = mPut u12 3 y17.toNatClampNeg y18 → ∀ y20 : Int32, y20 = (u19.1 1) → ∀ u21 : mS, u21 = mSet u19 2 y20 → wj_X5_add_97 post u21)) ∧ ((¬ y3 < (3000 : Int32)) → post u))
def wj_X1_fillToken_79 (K47 : Int32 → Int32 → mS → Prop) (post : mS → Prop) (x4 x5 z0 z1 : Int32) (u : mS) : Prop := ∀ y17 : Int32, y17 = (z1 + z0) → ∀ u18 : mS, u18 = mSet u 14 y17 → ∀ y19 : Int32, y19 = (u18.1 14) → ((y19 ≤ (100 : Int32)) → wp_X5_wordAt x5 u18 (fun r21 u22 => wp_X5_marksAt x5 u22 (fun r23 u24 => wp_X5_add r21 r23 u24 (fun u26 => ∀ y27 : Int32, y27 = x5 + (1 : Int32) → K47 x4 y27 u26)))) ∧ ((¬ y19 ≤ (100 : Int32)) → wp_X2_fail (6 : Int32) u18 (fun u29 => post u29))
def wj_X1_fillToken_47 (K47 : Int32 → Int32 → mS → Prop) (post : mS → Prop) (x4 x5 : Int32) (u : mS) : Prop := ((x4 ≤ x5) → post u) ∧ ((¬ x4 ≤ x5) → ∀ y11 : Int32, y11 = (u.1 14) → wp_X5_wordAt x5 u (fun r12 u13 => wp_X8_isTree r12 u13 (fun r14 u15 => ((r14 = 0) → wj_X1_fillToken_79 K47 post x4 x5 (0 : Int32) y11 u15) ∧ ((¬ r14 = 0) → wj_X1_fillToken_79 K47 post x4 x5 (1 : Int32) y11 u15))))
def wj_X1_fillToken_42 (post : mS → Prop) (x3 z0 : Int32) (u : mS) : Prop := ∃ n, mL3 (fun K => wj_X1_fillToken_47 K post) n z0 x3 u
def wj_X1_fillToken_23 (post : mS → Prop) (x1 x2 z0 : Int32) (u : mS) : Prop := ((0 ≤ x2) → wp_X5_after z0 u (fun r7 u8 => wj_X1_fillToken_42 post z0 r7 u8)) ∧ ((¬ 0 ≤ x2) → ∀ y9 : Int32, y9 = (x1 + (1 : Int32)) → wj_X1_fillToken_42 post z0 y9 u)
def wp_X1_fillToken (x1 : Int32) (u : mS) (post : mS → Prop) : Prop := wp_X5_variableAt x1 u (fun r1 u2 => ((0 ≤ r1) → wp_X1_matchOf r1 (2 : Int32) u2 (fun r4 u5 => wj_X1_fillToken_23 post x1 r1 r4 u5)) ∧ ((¬ 0 ≤ r1) → wj_X1_fillToken_23 post x1 r1 x1 u2))
def wj_X1_fill_184 (K59 : Int32 → Int32 → Int32 → Int32 → mS → Prop) (post : Int32 → mS → Prop) (x3 x4 x5 x6 : Int32) (u : mS) : Prop := ∀ y32 : Int32, y32 = x6 + (1 : Int32) → K59 x3 x4 x5 y32 u
def wj_X1_fill_147 (K59 : Int32 → Int32 → Int32 → Int32 → mS → Prop) (post : Int32 → mS → Prop) (x3 x4 x5 x6 : Int32) (u : mS) : Prop := wp_X5_wordAt x4 u (fun r33 u34 => ((¬ r33 = (-3 : Int32)) → wp_X1_fillToken x4 u34 (fun u37 => ∀ y38 : Int32, y38 = x4 + (1 : Int32) → wj_X1_fill_184 K59 post x3 y38 x5 x6 u37)) ∧ ((r33 = (-3 : Int32)) → wp_X4_leave x4 u34 (fun r39 u40 => wj_X1_fill_184 K59 post x3 r39 x5 x6 u40)))
def wj_X1_fill_190 (post : Int32 → mS → Prop) (x3 : Int32) (u : mS) : Prop := post x3 u
def wj_X1_fill_59 (K59 : Int32 → Int32 → Int32 → Int32 → mS → Prop) (post : Int32 → mS → Prop) (x3 x4 x5 x6 : Int32) (u : mS) : Prop := (((1000000 : Int32) ≤ x6) → wj_X1_fill_190 post x3 u) ∧ ((¬ (1000000 : Int32) ≤ x6) → ((x5 ≤ x4) → wj_X1_fill_190 post x3 u) ∧ ((¬ x5 ≤ x4) → ∀ y16 : Int32, y16 = (u.1 7) → ((¬ y16 = 0) → wj_X1_fill_190 post x3 u) ∧ ((y16 = 0) → wp_X5_isHeld x4 u (fun r18 u19 => ((r18 = 0) → wj_X1_fill_147 K59 post x3 x4 x5 x6 u19) ∧ ((¬ r18 = 0) → wp_X4_isIn x4 u19 (fun r21 u22 => ((¬ r21 = 0) → wj_X1_fill_147 K59 post x3 x4 x5 x6 u22) ∧ ((r21 = 0) → wp_X1_roundsFor x4 u22 (fun r24 u25 => ((¬ r24 = 0) → wp_X4_enter x4 r24 u25 (fun u28 => wj_X1_fill_147 K59 post x3 x4 x5 x6 u28)) ∧ ((r24 = 0) → wp_X5_after x4 u25 (fun r29 u30 => ∀ y31 : Int32, y31 = (r29 + (1 : Int32)) → wj_X1_fill_184 K59 post x3 y31 x5 x6 u30))))))))))
def wp_X1_fill (x1 x2 : Int32) (u : mS) (post : Int32 → mS → Prop) : Prop := ∀ y1 : Int32, y1 = (x1 + (1 : Int32)) → ∀ u2 : mS, u2 = mSet u 12 y1 → ∀ u3 : mS, u3 = mSet u2 13 x2 → ∀ u4 : mS, u4 = mSet u3 14 (0 : Int32) → wp_X4_clear  u4 (fun u6 => wp_X5_startTree  u6 (fun r7 u8 => ∀ y9 : Int32, y9 = (u8.1 12) → wp_X5_after y9 u8 (fun r10 u11 => wp_X5_after r10 u11 (fun r12 u13 => ∃ n, mL5 (fun K => wj_X1_fill_59 K post) n r7 r10 r12 (0 : Int32) u13))))
def wp_X0_expandByRules (X : Int32 → Int32 → mS → (mS → Prop) → Prop) (x1 x2 x3 : Int32) (u : mS) (post : mS → Prop) : Prop := ∀ y1 : Int32, y1 = (u.1 11) → ((0 < y1) → ∀ y3 : Int32, y3 = (u.1 11) → ∀ y4 : Int32, y4 = (y3 - (1 : Int32)) → ∀ u5 : mS, u5 = mSet u 11 y4 → wp_X0_newScope  u5 (fun r6 u7 => ((0 ≤ r6) → wp_X5_turnScope x1 r6 u7 (fun u10 => wp_X1_firstRule x2 x1 u10 (fun r11 u12 => ((0 ≤ r11) → wp_X1_fill r11 x1 u12 (fun r14 u15 => ∀ y16 : Int32, y16 = (u15.1 7) → ((y16 = 0) → wp_X5_turnScope r14 r6 u15 (fun u19 => X r14 x3 u19 (fun u20 => post u20))) ∧ ((¬ y16 = 0) → post u15))) ∧ ((¬ 0 ≤ r11) → wp_X2_fail (4 : Int32) u12 (fun u22 => post u22))))) ∧ ((¬ 0 ≤ r6) → post u7))) ∧ ((¬ 0 < y1) → wp_X2_fail (5 : Int32) u (fun u24 => post u24))
def wj_X0_expandEach_58 (X : Int32 → Int32 → mS → (mS → Prop) → Prop) (K28 : Int32 → Int32 → Int32 → Int32 → mS → Prop) (post : mS → Prop) (x2 x3 x4 x5 : Int32) (u : mS) : Prop := ∀ y13 : Int32, y13 = (x2 + (1 : Int32)) → X x4 y13 u (fun u14 => wp_X5_after x4 u14 (fun r15 u16 => ∀ y17 : Int32, y17 = x5 + (1 : Int32) → K28 x2 x3 r15 y17 u16))
def wj_X0_expandEach_84 (X : Int32 → Int32 → mS → (mS → Prop) → Prop) (post : mS → Prop) (u : mS) : Prop := wp_X2_put (41 : Int32) u (fun u19 => post u19)
def wj_X0_expandEach_28 (X : Int32 → Int32 → mS → (mS → Prop) → Prop) (K28 : Int32 → Int32 → Int32 → Int32 → mS → Prop) (post : mS → Prop) (x2 x3 x4 x5 : Int32) (u : mS) : Prop := ((x3 ≤ x5) → wj_X0_expandEach_84 X post u) ∧ ((¬ x3 ≤ x5) → ∀ y8 : Int32, y8 = (u.1 7) → ((¬ y8 = 0) → wj_X0_expandEach_84 X post u) ∧ ((y8 = 0) → ((x5 ≤ 0) → wj_X0_expandEach_58 X K28 post x2 x3 x4 x5 u) ∧ ((¬ x5 ≤ 0) → wp_X2_put (32 : Int32) u (fun u12 => wj_X0_expandEach_58 X K28 post x2 x3 x4 x5 u12))))
def wp_X0_expandEach (X : Int32 → Int32 → mS → (mS → Prop) → Prop) (x1 x2 : Int32) (u : mS) (post : mS → Prop) : Prop := ∀ y1 : Int32, y1 = (x1 + (1 : Int32)) → wp_X5_itemsFrom y1 u (fun r2 u3 => ∀ y4 : Int32, y4 = (x1 + (1 : Int32)) → wp_X2_put (40 : Int32) u3 (fun u6 => ∃ n, mL5 (fun K => wj_X0_expandEach_28 X K post) n x2 r2 y4 (0 : Int32) u6))
def wj_X0_expandList_60 (X : Int32 → Int32 → mS → (mS → Prop) → Prop) (post : mS → Prop) (x1 x2 z0 : Int32) (u : mS) : Prop := ∀ y16 : Int32, y16 = (u.1 7) → ((y16 = 0) → wp_X7_kindOf z0 u (fun r18 u19 => (r18 = (0 : Int32) → wp_X0_expandFn X x1 x2 u19 (fun u21 => post u21)) ∧ (r18 = (1 : Int32) → wp_X0_expandIf X x1 x2 u19 (fun u23 => post u23)) ∧ (r18 = (2 : Int32) → wp_X0_expandQ x1 u19 (fun u25 => post u25)) ∧ (r18 = (3 : Int32) → wp_X0_expandLs X x1 x2 u19 (fun u27 => post u27)) ∧ (r18 = (6 : Int32) → wp_X7_valueOf z0 u19 (fun r28 u29 => wp_X0_expandByRules X x1 r28 x2 u29 (fun u31 => post u31))) ∧ (¬ r18 = (0 : Int32) → ¬ r18 = (1 : Int32) → ¬ r18 = (2 : Int32) → ¬ r18 = (3 : Int32) → ¬ r18 = (6 : Int32) → wp_X0_expandEach X x1 x2 u19 (fun u33 => post u33)))) ∧ ((¬ y16 = 0) → post u)
def wp_X0_expandList (X : Int32 → Int32 → mS → (mS → Prop) → Prop) (x1 x2 : Int32) (u : mS) (post : mS → Prop) : Prop := ∀ y1 : Int32, y1 = (x1 + (1 : Int32)) → wp_X5_wordAt y1 u (fun r2 u3 => ((x2 ≤ (9 : Int32)) → ((¬ r2 = (-2 : Int32)) → wp_X8_isName r2 u3 (fun r6 u7 => ((r6 = 0) → wj_X0_expandList_60 X post x1 x2 (-1 : Int32) u7) ∧ ((¬ r6 = 0) → ∀ y9 : Int32, y9 = (x1 + (1 : Int32)) → wp_X0_meaningOf y9 u7 (fun r10 u11 => wj_X0_expandList_60 X post x1 x2 r10 u11)))) ∧ ((r2 = (-2 : Int32)) → wp_X2_fail (3 : Int32) u3 (fun u13 => post u13))) ∧ ((¬ x2 ≤ (9 : Int32)) → wp_X2_fail (6 : Int32) u3 (fun u15 => post u15)))
def wp_X0_expandTree (X : Int32 → Int32 → mS → (mS → Prop) → Prop) (x1 x2 : Int32) (u : mS) (post : mS → Prop) : Prop := ∀ y1 : Int32, y1 = (u.1 7) → ((y1 = 0) → wp_X5_wordAt x1 u (fun r3 u4 => ((¬ r3 = (-1 : Int32)) → wp_X8_isName r3 u4 (fun r6 u7 => ((r6 = 0) → wp_X8_isNumber r3 u7 (fun r9 u10 => ((r9 = 0) → wp_X2_fail (3 : Int32) u10 (fun u13 => post u13)) ∧ ((¬ r9 = 0) → wp_X2_putNumber r3 u10 (fun u15 => post u15)))) ∧ ((¬ r6 = 0) → wp_X0_expandName x1 u7 (fun u17 => post u17)))) ∧ ((r3 = (-1 : Int32)) → wp_X0_expandList X x1 x2 u4 (fun u19 => post u19)))) ∧ ((¬ y1 = 0) → post u)
def wpT : Nat → Int32 → Int32 → mS → (mS → Prop) → Prop
  | 0 => fun _ _ _ _ => False
  | d + 1 => wp_X0_expandTree (wpT d)
def wp_X8_appendTyped (x1 : Int32) (u : mS) (post : mS → Prop) : Prop := ∀ y1 : Int32, y1 = (u.1 0) → ((y1 < 0) → post u) ∧ ((¬ y1 < 0) → ∀ y3 : Int32, y3 = (u.1 0) → (((120 : Int32) ≤ y3) → post u) ∧ ((¬ (120 : Int32) ≤ y3) → ∀ y5 : Int32, y5 = (u.1 0) → vp_in y5 120 ∧ ∀ u6 : mS, u6 = mPut u 0 y5.toNatClampNeg x1 → ∀ y7 : Int32, y7 = (u6.1 0) → ∀ y8 : Int32, y8 = (y7 + (1 : Int32)) → ∀ u9 : mS, u9 = mSet u6 0 y8 → post u9))
def wj_X8_type_68 (K68 : Int32 → Int32 → mS → Prop) (post : Int32 → mS → Prop) (x1 x3 : Int32) (u : mS) : Prop := ((x3 < 0) → post (1 : Int32) u) ∧ ((¬ x3 < 0) → ∀ y15 : Int32, y15 = ((8 : Int32) * x3) → ∀ y16 : Int32, y16 = (x1 >>> (y15 &&& 31)) → ∀ y17 : Int32, y17 = (y16 &&& (255 : Int32)) → wp_X8_appendTyped y17 u (fun u19 => ∀ y20 : Int32, y20 = x3 + (-1 : Int32) → K68 x1 y20 u19))
def wj_X8_type_25 (K25 : Int32 → Int32 → Int32 → mS → Prop) (post : Int32 → mS → Prop) (x1 x2 x3 : Int32) (u : mS) : Prop := ((x2 ≤ x3) → ∀ y7 : Int32, y7 = (x2 - (1 : Int32)) → ∃ n, mL3 (fun K => wj_X8_type_68 K post) n x1 y7 u) ∧ ((¬ x2 ≤ x3) → ∀ y8 : Int32, y8 = ((8 : Int32) * x3) → ∀ y9 : Int32, y9 = (x1 >>> (y8 &&& 31)) → ∀ y10 : Int32, y10 = (y9 &&& (255 : Int32)) → ((y10 < (32 : Int32)) → post (0 : Int32) u) ∧ ((¬ y10 < (32 : Int32)) → ((y10 ≤ (126 : Int32)) → ∀ y13 : Int32, y13 = x3 + (1 : Int32) → K25 x1 x2 y13 u) ∧ ((¬ y10 ≤ (126 : Int32)) → post (0 : Int32) u)))
def wp_X8_type (x1 x2 : Int32) (u : mS) (post : Int32 → mS → Prop) : Prop := ((x2 < (1 : Int32)) → post (0 : Int32) u) ∧ ((¬ x2 < (1 : Int32)) → (((4 : Int32) < x2) → post (0 : Int32) u) ∧ ((¬ (4 : Int32) < x2) → ∀ y3 : Int32, y3 = (u.1 0) → ∀ y4 : Int32, y4 = (y3 + x2) → ((y4 ≤ (120 : Int32)) → ∃ n, mL4 (fun K => wj_X8_type_25 K post) n x1 x2 (0 : Int32) u) ∧ ((¬ y4 ≤ (120 : Int32)) → post (0 : Int32) u)))
def wp_X5_restart (u : mS) (post : mS → Prop) : Prop := ∀ u1 : mS, u1 = mSet u 1 (480 : Int32) → ∀ u2 : mS, u2 = mSet u1 2 (-1 : Int32) → post u2
def wp_X3_isWhole (u : mS) (post : Int32 → mS → Prop) : Prop := ∀ y1 : Int32, y1 = (u.1 3) → ((¬ y1 = 0) → post (0 : Int32) u) ∧ ((y1 = 0) → ∀ y3 : Int32, y3 = (u.1 1) → ((y3 ≤ (480 : Int32)) → post (0 : Int32) u) ∧ ((¬ y3 ≤ (480 : Int32)) → post (1 : Int32) u))
def wj_X3_runLength_1_56 (post : Int32 → mS → Prop) (x5 : Int32) (u : mS) : Prop := post x5 u
def wj_X3_runLength_1_14 (K14 : Int32 → Int32 → Int32 → Int32 → Int32 → mS → Prop) (post : Int32 → mS → Prop) (x1 x3 x4 x5 x6 : Int32) (u : mS) : Prop := ((x1 ≤ x6) → wj_X3_runLength_1_56 post x5 u) ∧ ((¬ x1 ≤ x6) → (((120 : Int32) ≤ x6) → wj_X3_runLength_1_56 post x5 u) ∧ ((¬ (120 : Int32) ≤ x6) → vp_in x6 120 ∧ ∀ y4 : Int32, y4 = u.2 0 x6.toNatClampNeg → ((y4 < x3) → wj_X3_runLength_1_56 post x5 u) ∧ ((¬ y4 < x3) → vp_in x6 120 ∧ ∀ y6 : Int32, y6 = u.2 0 x6.toNatClampNeg → ((y6 ≤ x4) → ∀ y8 : Int32, y8 = x5 + (1 : Int32) → ∀ y9 : Int32, y9 = x6 + (1 : Int32) → K14 x1 x3 x4 y8 y9 u) ∧ ((¬ y6 ≤ x4) → wj_X3_runLength_1_56 post x5 u))))
def wj_X3_runLength_1_12 (post : Int32 → mS → Prop) (x1 x3 x4 x5 z0 : Int32) (u : mS) : Prop := ∃ n, mL6 (fun K => wj_X3_runLength_1_14 K post) n x1 x3 x4 x5 z0 u
def wp_X3_runLength_1 (x1 x2 x3 x4 : Int32) (u : mS) (post : Int32 → mS → Prop) : Prop := ((0 ≤ x2) → wj_X3_runLength_1_12 post x1 x3 x4 (0 : Int32) x2 u) ∧ ((¬ 0 ≤ x2) → wj_X3_runLength_1_12 post x1 x3 x4 (0 : Int32) (0 : Int32) u)
def wj_X3_readName_1_54 (post : Int32 → mS → Prop) (x3 x4 : Int32) (u : mS) : Prop := wp_X5_add x4 (0 : Int32) u (fun u11 => post x3 u11)
def wj_X3_readName_1_21 (K21 : Int32 → Int32 → Int32 → Int32 → mS → Prop) (post : Int32 → mS → Prop) (x2 x3 x4 x5 : Int32) (u : mS) : Prop := ∀ y3 : Int32, y3 = (x2 + x3) → ((y3 ≤ x5) → wj_X3_readName_1_54 post x3 x4 u) ∧ ((¬ y3 ≤ x5) → (((120 : Int32) ≤ x5) → wj_X3_readName_1_54 post x3 x4 u) ∧ ((¬ (120 : Int32) ≤ x5) → ∀ y6 : Int32, y6 = (x4 <<< ((8 : Int32) &&& 31)) → vp_in x5 120 ∧ ∀ y7 : Int32, y7 = u.2 0 x5.toNatClampNeg → ∀ y8 : Int32, y8 = (y6 ||| y7) → ∀ y9 : Int32, y9 = x5 + (1 : Int32) → K21 x2 x3 y8 y9 u))
def wj_X3_readName_1_19 (post : Int32 → mS → Prop) (x2 x3 x4 z0 : Int32) (u : mS) : Prop := ∃ n, mL5 (fun K => wj_X3_readName_1_21 K post) n x2 x3 x4 z0 u
def wp_X3_readName_1 (x2 x3 : Int32) (u : mS) (post : Int32 → mS → Prop) : Prop := ((x3 ≤ (3 : Int32)) → ((0 ≤ x2) → wj_X3_readName_1_19 post x2 x3 (1 : Int32) x2 u) ∧ ((¬ 0 ≤ x2) → wj_X3_readName_1_19 post x2 x3 (1 : Int32) (0 : Int32) u)) ∧ ((¬ x3 ≤ (3 : Int32)) → post (0 : Int32) u)
def wj_X3_readNumber_1_72 (post : Int32 → mS → Prop) (x3 x4 : Int32) (u : mS) : Prop := wp_X5_add x4 (0 : Int32) u (fun u16 => post x3 u16)
def wj_X3_readNumber_1_36 (K36 : Int32 → Int32 → Int32 → Int32 → mS → Prop) (post : Int32 → mS → Prop) (x2 x3 x4 x5 : Int32) (u : mS) : Prop := ∀ y7 : Int32, y7 = (x2 + x3) → ((y7 ≤ x5) → wj_X3_readNumber_1_72 post x3 x4 u) ∧ ((¬ y7 ≤ x5) → (((120 : Int32) ≤ x5) → wj_X3_readNumber_1_72 post x3 x4 u) ∧ ((¬ (120 : Int32) ≤ x5) → ∀ y10 : Int32, y10 = (x4 * (10 : Int32)) → vp_in x5 120 ∧ ∀ y11 : Int32, y11 = u.2 0 x5.toNatClampNeg → ∀ y12 : Int32, y12 = (y10 + y11) → ∀ y13 : Int32, y13 = (y12 - (48 : Int32)) → ∀ y14 : Int32, y14 = x5 + (1 : Int32) → K36 x2 x3 y13 y14 u))
def wj_X3_readNumber_1_30 (post : Int32 → mS → Prop) (x2 x3 : Int32) (u : mS) : Prop := ∃ n, mL5 (fun K => wj_X3_readNumber_1_36 K post) n x2 x3 (0 : Int32) x2 u
def wp_X3_readNumber_1 (x2 x3 : Int32) (u : mS) (post : Int32 → mS → Prop) : Prop := (((2 : Int32) < x3) → post (0 : Int32) u) ∧ ((¬ (2 : Int32) < x3) → ((x2 < 0) → post (0 : Int32) u) ∧ ((¬ x2 < 0) → (((120 : Int32) ≤ x2) → post (0 : Int32) u) ∧ ((¬ (120 : Int32) ≤ x2) → ((¬ x3 = (2 : Int32)) → wj_X3_readNumber_1_30 post x2 x3 u) ∧ ((x3 = (2 : Int32)) → vp_in x2 120 ∧ ∀ y5 : Int32, y5 = u.2 0 x2.toNatClampNeg → ((¬ y5 = (48 : Int32)) → wj_X3_readNumber_1_30 post x2 x3 u) ∧ ((y5 = (48 : Int32)) → post (0 : Int32) u)))))
def wp_X3_readOpen (u : mS) (post : Int32 → mS → Prop) : Prop := ∀ y1 : Int32, y1 = (u.1 3) → ((y1 < (8 : Int32)) → ∀ y3 : Int32, y3 = (u.1 3) → ∀ y4 : Int32, y4 = (y3 + (1 : Int32)) → ∀ u5 : mS, u5 = mSet u 3 y4 → wp_X5_add (-1 : Int32) (0 : Int32) u5 (fun u7 => post (1 : Int32) u7)) ∧ ((¬ y1 < (8 : Int32)) → post (0 : Int32) u)
def wp_X3_readClose (u : mS) (post : Int32 → mS → Prop) : Prop := ∀ y1 : Int32, y1 = (u.1 3) → ((0 < y1) → ∀ y3 : Int32, y3 = (u.1 3) → ∀ y4 : Int32, y4 = (y3 - (1 : Int32)) → ∀ u5 : mS, u5 = mSet u 3 y4 → wp_X5_add (-2 : Int32) (0 : Int32) u5 (fun u7 => post (1 : Int32) u7)) ∧ ((¬ 0 < y1) → post (0 : Int32) u)
def wp_X3_readDots (x1 : Int32) (u : mS) (post : Int32 → mS → Prop) : Prop := ∀ y1 : Int32, y1 = (u.1 1) → ∀ y2 : Int32, y2 = (y1 - (1 : Int32)) → wp_X5_wordAt y2 u (fun r3 u4 => ((x1 < (2 : Int32)) → post (0 : Int32) u4) ∧ ((¬ x1 < (2 : Int32)) → ∀ y6 : Int32, y6 = (u4.1 3) → ((y6 = 0) → post (0 : Int32) u4) ∧ ((¬ y6 = 0) → ((r3 = (-1 : Int32)) → post (0 : Int32) u4) ∧ ((¬ r3 = (-1 : Int32)) → ((¬ r3 = (-3 : Int32)) → wp_X5_add (-3 : Int32) (0 : Int32) u4 (fun u11 => post (2 : Int32) u11)) ∧ ((r3 = (-3 : Int32)) → post (0 : Int32) u4)))))
def wj_X3_readToken_1_86 (post : Int32 → mS → Prop) (x2 x3 x4 : Int32) (u : mS) : Prop := (x4 = (40 : Int32) → wp_X3_readOpen  u (fun r19 u20 => post r19 u20)) ∧ (x4 = (41 : Int32) → wp_X3_readClose  u (fun r21 u22 => post r21 u22)) ∧ (x4 = (42 : Int32) → wp_X3_readName_1 x3 (1 : Int32) u (fun r23 u24 => post r23 u24)) ∧ (x4 = (43 : Int32) → wp_X3_readName_1 x3 (1 : Int32) u (fun r25 u26 => post r25 u26)) ∧ (x4 = (46 : Int32) → wp_X3_runLength_1 x2 x3 (46 : Int32) (46 : Int32) u (fun r27 u28 => wp_X3_readDots r27 u28 (fun r29 u30 => post r29 u30))) ∧ (x4 = (60 : Int32) → wp_X3_readName_1 x3 (1 : Int32) u (fun r31 u32 => post r31 u32)) ∧ (x4 = (61 : Int32) → wp_X3_readName_1 x3 (1 : Int32) u (fun r33 u34 => post r33 u34)) ∧ (x4 = (95 : Int32) → wp_X5_add (-4 : Int32) (0 : Int32) u (fun u36 => post (1 : Int32) u36)) ∧ (¬ x4 = (40 : Int32) → ¬ x4 = (41 : Int32) → ¬ x4 = (42 : Int32) → ¬ x4 = (43 : Int32) → ¬ x4 = (46 : Int32) → ¬ x4 = (60 : Int32) → ¬ x4 = (61 : Int32) → ¬ x4 = (95 : Int32) → post (0 : Int32) u)
def wj_X3_readToken_1_55 (post : Int32 → mS → Prop) (x2 x3 x4 : Int32) (u : mS) : Prop := ((x4 < (48 : Int32)) → wj_X3_readToken_1_86 post x2 x3 x4 u) ∧ ((¬ x4 < (48 : Int32)) → (((57 : Int32) < x4) → wj_X3_readToken_1_86 post x2 x3 x4 u) ∧ ((¬ (57 : Int32) < x4) → wp_X3_runLength_1 x2 x3 (48 : Int32) (57 : Int32) u (fun r15 u16 => wp_X3_readNumber_1 x3 r15 u16 (fun r17 u18 => post r17 u18))))
def wp_X3_readToken_1 (x2 x3 : Int32) (u : mS) (post : Int32 → mS → Prop) : Prop := wp_X3_isWhole  u (fun r1 u2 => ((¬ r1 = 0) → post (0 : Int32) u2) ∧ ((r1 = 0) → ((x3 < 0) → post (0 : Int32) u2) ∧ ((¬ x3 < 0) → ((x3 < (120 : Int32)) → vp_in x3 120 ∧ ∀ y6 : Int32, y6 = u2.2 0 x3.toNatClampNeg → ((y6 < (97 : Int32)) → wj_X3_readToken_1_55 post x2 x3 y6 u2) ∧ ((¬ y6 < (97 : Int32)) → (((122 : Int32) < y6) → wj_X3_readToken_1_55 post x2 x3 y6 u2) ∧ ((¬ (122 : Int32) < y6) → wp_X3_runLength_1 x2 x3 (97 : Int32) (122 : Int32) u2 (fun r9 u10 => wp_X3_readName_1 x3 r9 u10 (fun r11 u12 => post r11 u12))))) ∧ ((¬ x3 < (120 : Int32)) → post (0 : Int32) u2))))
def wj_X3_read_1_59 (K25 : Int32 → Int32 → Int32 → mS → Prop) (post : Int32 → mS → Prop) (x3 x4 x5 z0 : Int32) (u : mS) : Prop := ((¬ z0 = 0) → ∀ y12 : Int32, y12 = (x4 + z0) → ∀ y13 : Int32, y13 = x5 + (1 : Int32) → K25 x3 y12 y13 u) ∧ ((z0 = 0) → post x4 u)
def wj_X3_read_1_82 (post : Int32 → mS → Prop) (x3 : Int32) (u : mS) : Prop := wp_X3_isWhole  u (fun r14 u15 => ((r14 = 0) → post x3 u15) ∧ ((¬ r14 = 0) → post (-1 : Int32) u15))
def wj_X3_read_1_25 (K25 : Int32 → Int32 → Int32 → mS → Prop) (post : Int32 → mS → Prop) (x3 x4 x5 : Int32) (u : mS) : Prop := (((1000000 : Int32) ≤ x5) → wj_X3_read_1_82 post x3 u) ∧ ((¬ (1000000 : Int32) ≤ x5) → ((x3 ≤ x4) → wj_X3_read_1_82 post x3 u) ∧ ((¬ x3 ≤ x4) → vp_in x4 120 ∧ ∀ y7 : Int32, y7 = u.2 0 x4.toNatClampNeg → ((¬ y7 = (32 : Int32)) → wp_X3_readToken_1 x3 x4 u (fun r9 u10 => wj_X3_read_1_59 K25 post x3 x4 x5 r9 u10)) ∧ ((y7 = (32 : Int32)) → wj_X3_read_1_59 K25 post x3 x4 x5 (1 : Int32) u)))
def wp_X3_read_1 (x2 : Int32) (u : mS) (post : Int32 → mS → Prop) : Prop := wp_X5_restart  u (fun u2 => ∀ u3 : mS, u3 = mSet u2 3 (0 : Int32) → ∀ y4 : Int32, y4 = (if (120 : Int32) < x2 then (120 : Int32) else x2) → ∃ n, mL4 (fun K => wj_X3_read_1_25 K post) n y4 (0 : Int32) (0 : Int32) u3)
def wp_X8_takeTyped (u : mS) (post : Int32 → mS → Prop) : Prop := ∀ y1 : Int32, y1 = (u.1 0) → wp_X3_read_1 y1 u (fun r2 u3 => ∀ u4 : mS, u4 = mSet u3 0 (0 : Int32) → post r2 u4)
def wj_X7_ownSlot_52 (post : Int32 → mS → Prop) (u : mS) : Prop := ∀ y10 : Int32, y10 = (u.1 5) → (((4 : Int32) ≤ y10) → post (-1 : Int32) u) ∧ ((¬ (4 : Int32) ≤ y10) → ∀ y12 : Int32, y12 = (u.1 5) → post y12 u)
def wj_X7_ownSlot_7 (K7 : Int32 → Int32 → Int32 → mS → Prop) (post : Int32 → mS → Prop) (x1 x2 x3 : Int32) (u : mS) : Prop := ∀ y1 : Int32, y1 = (u.1 5) → ∀ y2 : Int32, y2 = (x2 + y1) → ((y2 ≤ x3) → wj_X7_ownSlot_52 post u) ∧ ((¬ y2 ≤ x3) → (((40 : Int32) ≤ x3) → wj_X7_ownSlot_52 post u) ∧ ((¬ (40 : Int32) ≤ x3) → vp_in x3 40 ∧ ∀ y5 : Int32, y5 = u.2 5 x3.toNatClampNeg → ((¬ y5 = x1) → ∀ y7 : Int32, y7 = x3 + (1 : Int32) → K7 x1 x2 y7 u) ∧ ((y5 = x1) → ((x2 ≤ x3) → ∀ y9 : Int32, y9 = (x3 - x2) → post y9 u) ∧ ((¬ x2 ≤ x3) → post (-1 : Int32) u))))
def wp_X7_ownSlot (x1 : Int32) (u : mS) (post : Int32 → mS → Prop) : Prop := ∃ n, mL4 (fun K => wj_X7_ownSlot_7 K post) n x1 (8 : Int32) (0 : Int32) u
def wj_X5_keep_42 (post : Int32 → mS → Prop) (x1 : Int32) (u : mS) : Prop := post x1 u
def wp_X5_keep (x1 x2 : Int32) (u : mS) (post : Int32 → mS → Prop) : Prop := wp_X5_after x1 u (fun r1 u2 => ∀ y3 : Int32, y3 = (r1 - x1) → ∀ y4 : Int32, y4 = (x2 * (120 : Int32)) → ((x1 < 0) → wj_X5_keep_42 post x1 u2) ∧ ((¬ x1 < 0) → ∀ y6 : Int32, y6 = (x1 + y3) → (((3000 : Int32) < y6) → wj_X5_keep_42 post x1 u2) ∧ ((¬ (3000 : Int32) < y6) → (((120 : Int32) < y3) → wj_X5_keep_42 post x1 u2) ∧ ((¬ (120 : Int32) < y3) → ((x2 < 0) → wj_X5_keep_42 post x1 u2) ∧ ((¬ x2 < 0) → ((x2 < (4 : Int32)) → ((¬ x1 < 0) ∧ (¬ y4 < 0) ∧ (¬ y3 < 0) ∧ x1.toNatClampNeg + y3.toNatClampNeg ≤ 3000 ∧ y4.toNatClampNeg + y3.toNatClampNeg ≤ 3000) ∧ ∀ u11 : mS, u11 = mCpy u2 1 x1.toNatClampNeg y4.toNatClampNeg y3.toNatClampNeg → ((¬ x1 < 0) ∧ (¬ y4 < 0) ∧ (¬ y3 < 0) ∧ x1.toNatClampNeg + y3.toNatClampNeg ≤ 3000 ∧ y4.toNatClampNeg + y3.toNatClampNeg ≤ 3000) ∧ ∀ u12 : mS, u12 = mCpy u11 2 x1.toNatClampNeg y4.toNatClampNeg y3.toNatClampNeg → ((¬ x1 < 0) ∧ (¬ y4 < 0) ∧ (¬ y3 < 0) ∧ x1.toNatClampNeg + y3.toNatClampNeg ≤ 3000 ∧ y4.toNatClampNeg + y3.toNatClampNeg ≤ 3000) ∧ ∀ u13 : mS, u13 = mCpy u12 3 x1.toNatClampNeg y4.toNatClampNeg y3.toNatClampNeg → ((¬ x1 < 0) ∧ (¬ y4 < 0) ∧ (¬ y3 < 0) ∧ x1.toNatClampNeg + y3.toNatClampNeg ≤ 3000 ∧ y4.toNatClampNeg + y3.toNatClampNeg ≤ 3000) ∧ ∀ u14 : mS, u14 = mCpy u13 4 x1.toNatClampNeg y4.toNatClampNeg y3.toNatClampNeg → post y4 u14) ∧ ((¬ x2 < (4 : Int32)) → wj_X5_keep_42 post x1 u2))))))
def wp_X7_forgetExpansion (u : mS) (post : mS → Prop) : Prop := ∀ y1 : Int32, y1 = (u.1 5) → ∀ y2 : Int32, y2 = ((8 : Int32) + y1) → ∀ u3 : mS, u3 = mSet u 4 y2 → post u3
def wp_X7_bindOwn (x1 x2 x3 : Int32) (u : mS) (post : mS → Prop) : Prop := ((x1 < 0) → post u) ∧ ((¬ x1 < 0) → ∀ y2 : Int32, y2 = (u.1 5) → ((y2 < x1) → post u) ∧ ((¬ y2 < x1) → ((x1 < (4 : Int32)) → ∀ y5 : Int32, y5 = (u.1 5) → ∀ y6 : Int32, y6 = (x1 + (1 : Int32)) → ∀ y7 : Int32, y7 = (if y5 < y6 then y6 else y5) → ∀ u8 : mS, u8 = mSet u 5 y7 → ∀ y9 : Int32, y9 = ((8 : Int32) + x1) → ∀ u10 : mS, u10 = mSet u8 4 y9 → wp_X7_bind x2 (0 : Int32) (6 : Int32) x3 u10 (fun r11 u12 => wp_X7_forgetExpansion  u12 (fun u14 => post u14))) ∧ ((¬ x1 < (4 : Int32)) → post u)))
def wp_X8_rules (u : mS) (post : Int32 → mS → Prop) : Prop := wp_X8_takeTyped  u (fun r1 u2 => ((r1 < 0) → wp_X6_isNameWithRules (480 : Int32) u2 (fun r4 u5 => ((¬ r4 = 0) → wp_X5_wordAt (481 : Int32) u5 (fun r7 u8 => wp_X7_ownSlot r7 u8 (fun r9 u10 => ((0 ≤ r9) → wp_X5_keep (480 : Int32) r9 u10 (fun r12 u13 => wp_X7_bindOwn r9 r7 r12 u13 (fun u15 => ∀ y16 : Int32, y16 = (u15.1 5) → post y16 u15))) ∧ ((¬ 0 ≤ r9) → post (-1001 : Int32) u10)))) ∧ ((r4 = 0) → post (-1000 : Int32) u5))) ∧ ((¬ r1 < 0) → ∀ y17 : Int32, y17 = ((-1 : Int32) - r1) → post y17 u2))
def wp_X2_clear (u : mS) (post : mS → Prop) : Prop := ∀ u1 : mS, u1 = mSet u 6 (0 : Int32) → ∀ u2 : mS, u2 = mSet u1 7 (0 : Int32) → post u2
def wp_X0_start (x1 : Int32) (u : mS) (post : mS → Prop) : Prop := ∀ u1 : mS, u1 = mSet u 8 (0 : Int32) → ∀ u2 : mS, u2 = mSet u1 9 (0 : Int32) → ∀ u3 : mS, u3 = mSet u2 10 (0 : Int32) → ∀ u4 : mS, u4 = mSet u3 11 x1 → wp_X7_forgetExpansion  u4 (fun u6 => post u6)
def wj_X8_expand_10 (post : Int32 → mS → Prop) (u : mS) : Prop := post (-7000 : Int32) u
def wj_X8_expand_39 (post : Int32 → mS → Prop) (x2 z0 : Int32) (u : mS) : Prop := wp_X0_start z0 u (fun u9 => ((x2 < 0) → wp_X0_expandTree (wpT 24) (480 : Int32) (0 : Int32) u9 (fun u12 => ∀ y13 : Int32, y13 = (u12.1 7) → ((y13 = 0) → ∀ y15 : Int32, y15 = (u12.1 6) → post y15 u12) ∧ ((¬ y13 = 0) → ∀ u16 : mS, u16 = mSet u12 6 (0 : Int32) → ∀ y17 : Int32, y17 = (u16.1 7) → ∀ y18 : Int32, y18 = ((-1000 : Int32) * y17) → post y18 u16))) ∧ ((¬ x2 < 0) → ∀ y19 : Int32, y19 = ((-1 : Int32) - x2) → post y19 u9))
def wp_X8_expand (x1 : Int32) (u : mS) (post : Int32 → mS → Prop) : Prop := ((x1 < 0) → wj_X8_expand_10 post u) ∧ ((¬ x1 < 0) → ((x1 ≤ (8 : Int32)) → wp_X8_takeTyped  u (fun r3 u4 => wp_X2_clear  u4 (fun u6 => ((r3 < 0) → wj_X8_expand_39 post r3 x1 u6) ∧ ((¬ r3 < 0) → wj_X8_expand_39 post r3 (0 : Int32) u6)))) ∧ ((¬ x1 ≤ (8 : Int32)) → wj_X8_expand_10 post u))
def wp_X2_charAt (x1 : Int32) (u : mS) (post : Int32 → mS → Prop) : Prop := ((x1 < 0) → post (-1 : Int32) u) ∧ ((¬ x1 < 0) → ∀ y2 : Int32, y2 = (u.1 6) → ((y2 ≤ x1) → post (-1 : Int32) u) ∧ ((¬ y2 ≤ x1) → (((200 : Int32) ≤ x1) → post (-1 : Int32) u) ∧ ((¬ (200 : Int32) ≤ x1) → vp_in x1 200 ∧ ∀ y5 : Int32, y5 = u.2 9 x1.toNatClampNeg → post y5 u)))
def wp_X8_at (x1 : Int32) (u : mS) (post : Int32 → mS → Prop) : Prop := wp_X2_charAt x1 u (fun r1 u2 => post r1 u2)
def wp_X8_count (x1 : Int32) (u : mS) (post : Int32 → mS → Prop) : Prop := (x1 = (0 : Int32) → ∀ y1 : Int32, y1 = (u.1 8) → post y1 u) ∧ (x1 = (1 : Int32) → ∀ y2 : Int32, y2 = (u.1 9) → post y2 u) ∧ (x1 = (2 : Int32) → ∀ y3 : Int32, y3 = (u.1 10) → post y3 u) ∧ (x1 = (3 : Int32) → ∀ y4 : Int32, y4 = (u.1 11) → post y4 u) ∧ (¬ x1 = (0 : Int32) → ¬ x1 = (1 : Int32) → ¬ x1 = (2 : Int32) → ¬ x1 = (3 : Int32) → post (-1 : Int32) u)
end
section
def wj_X9_type_68 (K68 : Int32 → Int32 → mS → Prop) (post : Int32 → mS → Prop) (x1 x3 : Int32) (u : mS) : Prop := ((x3 < 0) → post (1 : Int32) u) ∧ ((¬ x3 < 0) → ∀ y15 : Int32, y15 = (u.1 0) → ∀ y16 : Int32, y16 = ((8 : Int32) * x3) → ∀ y17 : Int32, y17 = (x1 >>> (y16 &&& 31)) → ∀ y18 : Int32, y18 = (y17 &&& (255 : Int32)) → vp_in y15 120 ∧ ∀ u19 : mS, u19 = mPut u 0 y15.toNatClampNeg y18 → ∀ y20 : Int32, y20 = (u19.1 0) → ∀ y21 : Int32, y21 = (y20 + (1 : Int32)) → ∀ u22 : mS, u22 = mSet u19 0 y21 → ∀ y23 : Int32, y23 = x3 + (-1 : Int32) → K68 x1 y23 u22)
def wj_X9_type_25 (K25 : Int32 → Int32 → Int32 → mS → Prop) (post : Int32 → mS → Prop) (x1 x2 x3 : Int32) (u : mS) : Prop := ((x2 ≤ x3) → ∀ y7 : Int32, y7 = (x2 - (1 : Int32)) → ∃ n, mL3 (fun K => wj_X9_type_68 K post) n x1 y7 u) ∧ ((¬ x2 ≤ x3) → ∀ y8 : Int32, y8 = ((8 : Int32) * x3) → ∀ y9 : Int32, y9 = (x1 >>> (y8 &&& 31)) → ∀ y10 : Int32, y10 = (y9 &&& (255 : Int32)) → ((y10 < (32 : Int32)) → post (0 : Int32) u) ∧ ((¬ y10 < (32 : Int32)) → ((y10 ≤ (126 : Int32)) → ∀ y13 : Int32, y13 = x3 + (1 : Int32) → K25 x1 x2 y13 u) ∧ ((¬ y10 ≤ (126 : Int32)) → post (0 : Int32) u)))
def wp_X9_type (x1 x2 : Int32) (u : mS) (post : Int32 → mS → Prop) : Prop := ((x2 < (1 : Int32)) → post (0 : Int32) u) ∧ ((¬ x2 < (1 : Int32)) → (((4 : Int32) < x2) → post (0 : Int32) u) ∧ ((¬ (4 : Int32) < x2) → ∀ y3 : Int32, y3 = (u.1 0) → ∀ y4 : Int32, y4 = (y3 + x2) → ((y4 ≤ (120 : Int32)) → ∃ n, mL4 (fun K => wj_X9_type_25 K post) n x1 x2 (0 : Int32) u) ∧ ((¬ y4 ≤ (120 : Int32)) → post (0 : Int32) u)))
def wp_X9_look (x1 : Int32) (u : mS) (post : Int32 → mS → Prop) : Prop := ∀ y1 : Int32, y1 = (u.1 0) → ((y1 ≤ x1) → post (0 : Int32) u) ∧ ((¬ y1 ≤ x1) → vp_in x1 120 ∧ ∀ y3 : Int32, y3 = u.2 0 x1.toNatClampNeg → post y3 u)
def wp_X9_isLetter (x0 : Int32) (u : mS) (post : Int32 → mS → Prop) : Prop := ((x0 < (97 : Int32)) → post (0 : Int32) u) ∧ ((¬ x0 < (97 : Int32)) → (((122 : Int32) < x0) → post (0 : Int32) u) ∧ ((¬ (122 : Int32) < x0) → post (1 : Int32) u))
def wp_X9_isDigit (x0 : Int32) (u : mS) (post : Int32 → mS → Prop) : Prop := ((x0 < (48 : Int32)) → post (0 : Int32) u) ∧ ((¬ x0 < (48 : Int32)) → (((57 : Int32) < x0) → post (0 : Int32) u) ∧ ((¬ (57 : Int32) < x0) → post (1 : Int32) u))
def wj_X9_run_54 (K11 : Int32 → Int32 → Int32 → mS → Prop) (post : Int32 → mS → Prop) (x1 x2 x3 : Int32) (u : mS) : Prop := ∀ y21 : Int32, y21 = x2 + (1 : Int32) → K11 x1 y21 x3 u
def wj_X9_run_60 (post : Int32 → mS → Prop) (x2 : Int32) (u : mS) : Prop := post x2 u
def wj_X9_run_11 (K11 : Int32 → Int32 → Int32 → mS → Prop) (post : Int32 → mS → Prop) (x1 x2 x3 : Int32) (u : mS) : Prop := ∀ y5 : Int32, y5 = (x1 + x2) → ∀ y6 : Int32, y6 = (u.1 0) → ((y6 ≤ y5) → wj_X9_run_60 post x2 u) ∧ ((¬ y6 ≤ y5) → ((x3 = 0) → ∀ y9 : Int32, y9 = (x1 + x2) → wp_X9_look y9 u (fun r10 u11 => wp_X9_isDigit r10 u11 (fun r12 u13 => ((r12 = 0) → wj_X9_run_60 post x2 u13) ∧ ((¬ r12 = 0) → wj_X9_run_54 K11 post x1 x2 x3 u13)))) ∧ ((¬ x3 = 0) → ∀ y15 : Int32, y15 = (x1 + x2) → wp_X9_look y15 u (fun r16 u17 => wp_X9_isLetter r16 u17 (fun r18 u19 => ((r18 = 0) → wj_X9_run_60 post x2 u19) ∧ ((¬ r18 = 0) → wj_X9_run_54 K11 post x1 x2 x3 u19)))))
def wp_X9_run (x1 : Int32) (u : mS) (post : Int32 → mS → Prop) : Prop := wp_X9_look x1 u (fun r1 u2 => wp_X9_isLetter r1 u2 (fun r3 u4 => ∃ n, mL4 (fun K => wj_X9_run_11 K post) n x1 (0 : Int32) r3 u4))
def wj_X9_token_63 (post : Int32 → mS → Prop) (x1 : Int32) (u : mS) : Prop := wp_X9_run x1 u (fun r33 u34 => post r33 u34)
def wj_X9_token_139 (post : Int32 → mS → Prop) (u : mS) : Prop := post (1 : Int32) u
def wp_X9_token (x1 : Int32) (u : mS) (post : Int32 → mS → Prop) : Prop := wp_X9_look x1 u (fun r1 u2 => wp_X9_isLetter r1 u2 (fun r3 u4 => ((r3 = 0) → wp_X9_isDigit r1 u4 (fun r6 u7 => ((r6 = 0) → ((¬ r1 = (46 : Int32)) → ((r1 = (40 : Int32)) → wj_X9_token_139 post u7) ∧ ((¬ r1 = (40 : Int32)) → ((r1 = (41 : Int32)) → wj_X9_token_139 post u7) ∧ ((¬ r1 = (41 : Int32)) → ((r1 = (95 : Int32)) → wj_X9_token_139 post u7) ∧ ((¬ r1 = (95 : Int32)) → ((r1 = (43 : Int32)) → wj_X9_token_139 post u7) ∧ ((¬ r1 = (43 : Int32)) → ((r1 = (42 : Int32)) → wj_X9_token_139 post u7) ∧ ((¬ r1 = (42 : Int32)) → ((r1 = (61 : Int32)) → wj_X9_token_139 post u7) ∧ ((¬ r1 = (61 : Int32)) → ((¬ r1 = (60 : Int32)) → post (0 : Int32) u7) ∧ ((r1 = (60 : Int32)) → wj_X9_token_139 post u7)))))))) ∧ ((r1 = (46 : Int32)) → ∀ y17 : Int32, y17 = (x1 + (1 : Int32)) → wp_X9_look y17 u7 (fun r18 u19 => ((¬ r18 = (46 : Int32)) → post (0 : Int32) u19) ∧ ((r18 = (46 : Int32)) → post (2 : Int32) u19)))) ∧ ((¬ r6 = 0) → wp_X9_run x1 u7 (fun r21 u22 => ((r21 = (1 : Int32)) → wj_X9_token_63 post x1 u22) ∧ ((¬ r21 = (1 : Int32)) → wp_X9_run x1 u22 (fun r24 u25 => ((¬ r24 = (2 : Int32)) → post (0 : Int32) u25) ∧ ((r24 = (2 : Int32)) → ((r1 = (48 : Int32)) → post (0 : Int32) u25) ∧ ((¬ r1 = (48 : Int32)) → wj_X9_token_63 post x1 u25)))))))) ∧ ((¬ r3 = 0) → wp_X9_run x1 u4 (fun r28 u29 => (((3 : Int32) < r28) → post (0 : Int32) u29) ∧ ((¬ (3 : Int32) < r28) → wp_X9_run x1 u29 (fun r31 u32 => post r31 u32))))))
def wj_X9_code_110 (K48 : Int32 → Int32 → Int32 → Int32 → Int32 → mS → Prop) (post : Int32 → mS → Prop) (x1 x2 x3 x5 z0 : Int32) (u : mS) : Prop := ∀ y29 : Int32, y29 = x5 + (1 : Int32) → K48 x1 x2 x3 z0 y29 u
def wj_X9_code_132 (post : Int32 → mS → Prop) (x4 z0 z1 : Int32) (u : mS) : Prop := ∀ y30 : Int32, y30 = (z1 * z0) → ∀ y31 : Int32, y31 = (y30 + x4) → post y31 u
def wj_X9_code_48 (K48 : Int32 → Int32 → Int32 → Int32 → Int32 → mS → Prop) (post : Int32 → mS → Prop) (x1 x2 x3 x4 x5 : Int32) (u : mS) : Prop := ∀ y7 : Int32, y7 = (x1 + x2) → ((y7 ≤ x5) → wp_X9_isDigit x3 u (fun r9 u10 => ((r9 = 0) → wj_X9_code_132 post x4 (3 : Int32) (65536 : Int32) u10) ∧ ((¬ r9 = 0) → wj_X9_code_132 post x4 (4 : Int32) (65536 : Int32) u10))) ∧ ((¬ y7 ≤ x5) → wp_X9_isDigit x3 u (fun r12 u13 => ((r12 = 0) → wp_X9_isLetter x3 u13 (fun r15 u16 => ((r15 = 0) → ∀ y18 : Int32, y18 = ((40000 : Int32) + x3) → wj_X9_code_110 K48 post x1 x2 x3 x5 y18 u16) ∧ ((¬ r15 = 0) → ∀ y19 : Int32, y19 = ((32 : Int32) * x4) → wp_X9_look x5 u16 (fun r20 u21 => ∀ y22 : Int32, y22 = (y19 + r20) → ∀ y23 : Int32, y23 = (y22 - (96 : Int32)) → wj_X9_code_110 K48 post x1 x2 x3 x5 y23 u21)))) ∧ ((¬ r12 = 0) → ∀ y24 : Int32, y24 = ((10 : Int32) * x4) → wp_X9_look x5 u13 (fun r25 u26 => ∀ y27 : Int32, y27 = (y24 + r25) → ∀ y28 : Int32, y28 = (y27 - (48 : Int32)) → wj_X9_code_110 K48 post x1 x2 x3 x5 y28 u26))))
def wp_X9_code (x1 x2 : Int32) (u : mS) (post : Int32 → mS → Prop) : Prop := wp_X9_look x1 u (fun r1 u2 => ((¬ r1 = (40 : Int32)) → ((¬ r1 = (41 : Int32)) → ((¬ r1 = (95 : Int32)) → ((¬ r1 = (46 : Int32)) → ∃ n, mL6 (fun K => wj_X9_code_48 K post) n x1 x2 r1 (0 : Int32) x1 u2) ∧ ((r1 = (46 : Int32)) → post (393216 : Int32) u2)) ∧ ((r1 = (95 : Int32)) → post (327680 : Int32) u2)) ∧ ((r1 = (41 : Int32)) → post (131072 : Int32) u2)) ∧ ((r1 = (40 : Int32)) → post (65536 : Int32) u2))
def wj_X9_fits_23 (post : Int32 → mS → Prop) (x1 : Int32) (u : mS) : Prop := (((7 : Int32) < x1) → post (0 : Int32) u) ∧ ((¬ (7 : Int32) < x1) → post (1 : Int32) u)
def wj_X9_fits_85 (post : Int32 → mS → Prop) (u : mS) : Prop := post (1 : Int32) u
def wj_X9_fits_9 (post : Int32 → mS → Prop) (x0 x1 x2 z0 : Int32) (u : mS) : Prop := ((¬ x0 = (1 : Int32)) → ((¬ x0 = (2 : Int32)) → ((¬ x0 = (6 : Int32)) → ((0 < x1) → wj_X9_fits_85 post u) ∧ ((¬ 0 < x1) → ((¬ z0 = 0) → post (0 : Int32) u) ∧ ((z0 = 0) → wj_X9_fits_85 post u))) ∧ ((x0 = (6 : Int32)) → ((x1 ≤ 0) → post (0 : Int32) u) ∧ ((¬ x1 ≤ 0) → ((x2 = (1 : Int32)) → post (0 : Int32) u) ∧ ((¬ x2 = (1 : Int32)) → ((x2 = (6 : Int32)) → post (0 : Int32) u) ∧ ((¬ x2 = (6 : Int32)) → post (1 : Int32) u))))) ∧ ((x0 = (2 : Int32)) → ((x1 ≤ 0) → post (0 : Int32) u) ∧ ((¬ x1 ≤ 0) → post (1 : Int32) u))) ∧ ((x0 = (1 : Int32)) → ((0 < x1) → wj_X9_fits_23 post x1 u) ∧ ((¬ 0 < x1) → ((¬ z0 = 0) → post (0 : Int32) u) ∧ ((z0 = 0) → wj_X9_fits_23 post x1 u)))
def wp_X9_fits (x0 x1 x2 : Int32) (u : mS) (post : Int32 → mS → Prop) : Prop := ((x2 = 0) → wj_X9_fits_9 post x0 x1 x2 (0 : Int32) u) ∧ ((¬ x2 = 0) → wj_X9_fits_9 post x0 x1 x2 (1 : Int32) u)
def wj_X9_read_84 (post : Int32 → mS → Prop) (x4 : Int32) (u : mS) : Prop := post x4 u
def wj_X9_read_123 (K9 : Int32 → Int32 → Int32 → Int32 → mS → Prop) (post : Int32 → mS → Prop) (x1 x4 x5 x7 z0 : Int32) (u : mS) : Prop := ∀ y28 : Int32, y28 = (x4 + x5) → K9 x1 z0 x7 y28 u
def wj_X9_read_60 (K9 : Int32 → Int32 → Int32 → Int32 → mS → Prop) (post : Int32 → mS → Prop) (x1 x2 x3 x4 x5 z0 : Int32) (u : mS) : Prop := ∀ y17 : Int32, y17 = (z0 / (65536 : Int32)) → ((x5 = 0) → wj_X9_read_84 post x4 u) ∧ ((¬ x5 = 0) → wp_X9_fits y17 x2 x3 u (fun r19 u20 => ((¬ r19 = 0) → vp_in x1 2600 ∧ ∀ u22 : mS, u22 = mPut u20 1 x1.toNatClampNeg z0 → ∀ y23 : Int32, y23 = x1 + (1 : Int32) → ((¬ y17 = (1 : Int32)) → ((¬ y17 = (2 : Int32)) → wj_X9_read_123 K9 post y23 x4 x5 y17 x2 u22) ∧ ((y17 = (2 : Int32)) → ∀ y26 : Int32, y26 = (x2 - (1 : Int32)) → wj_X9_read_123 K9 post y23 x4 x5 y17 y26 u22)) ∧ ((y17 = (1 : Int32)) → ∀ y27 : Int32, y27 = (x2 + (1 : Int32)) → wj_X9_read_123 K9 post y23 x4 x5 y17 y27 u22)) ∧ ((r19 = 0) → wj_X9_read_84 post x4 u20)))
def wj_X9_read_145 (post : Int32 → mS → Prop) (u : mS) : Prop := ∀ y38 : Int32, y38 = (u.1 0) → post y38 u
def wj_X9_read_164 (K164 : Int32 → mS → Prop) (post : Int32 → mS → Prop) (x5 : Int32) (u : mS) : Prop := ((x5 < 0) → post (-1 : Int32) u) ∧ ((¬ x5 < 0) → ∀ y30 : Int32, y30 = (u.1 1) → ∀ y31 : Int32, y31 = (y30 + x5) → vp_in x5 2600 ∧ ∀ y32 : Int32, y32 = u.2 1 x5.toNatClampNeg → vp_in y31 2600 ∧ ∀ u33 : mS, u33 = mPut u 1 y31.toNatClampNeg y32 → ∀ y34 : Int32, y34 = (u33.1 1) → ∀ y35 : Int32, y35 = (y34 + x5) → vp_in y35 2600 ∧ ∀ u36 : mS, u36 = mPut u33 2 y35.toNatClampNeg (0 : Int32) → ∀ y37 : Int32, y37 = x5 + (-1 : Int32) → K164 y37 u36)
def wj_X9_read_9 (K9 : Int32 → Int32 → Int32 → Int32 → mS → Prop) (post : Int32 → mS → Prop) (x1 x2 x3 x4 : Int32) (u : mS) : Prop := ∀ y1 : Int32, y1 = (u.1 0) → ((y1 ≤ x4) → ((0 < x2) → wj_X9_read_145 post u) ∧ ((¬ 0 < x2) → ((¬ x3 = 0) → ∀ y5 : Int32, y5 = ((2600 : Int32) - x1) → ∀ u6 : mS, u6 = mSet u 1 y5 → ∀ y7 : Int32, y7 = (x1 - (1 : Int32)) → ∃ n, mL2 (fun K => wj_X9_read_164 K post) n y7 u6) ∧ ((x3 = 0) → wj_X9_read_145 post u))) ∧ ((¬ y1 ≤ x4) → wp_X9_look x4 u (fun r8 u9 => ((¬ r8 = (32 : Int32)) → wp_X9_token x4 u9 (fun r11 u12 => ((r11 ≤ 0) → wj_X9_read_60 K9 post x1 x2 x3 x4 r11 (0 : Int32) u12) ∧ ((¬ r11 ≤ 0) → wp_X9_code x4 r11 u12 (fun r14 u15 => wj_X9_read_60 K9 post x1 x2 x3 x4 r11 r14 u15)))) ∧ ((r8 = (32 : Int32)) → ∀ y16 : Int32, y16 = x4 + (1 : Int32) → K9 x1 x2 x3 y16 u9)))
def wp_X9_read (u : mS) (post : Int32 → mS → Prop) : Prop := ∃ n, mL5 (fun K => wj_X9_read_9 K post) n (0 : Int32) (0 : Int32) (0 : Int32) (0 : Int32) u
def wp_X9_kind_2 (x1 : Int32) (u : mS) (post : Int32 → mS → Prop) : Prop := vp_in x1 2600 ∧ ∀ y1 : Int32, y1 = u.2 1 x1.toNatClampNeg → ∀ y2 : Int32, y2 = (y1 / (65536 : Int32)) → post y2 u
def wj_X9_end_2_56 (K7 : Int32 → Int32 → Int32 → mS → Prop) (post : Int32 → mS → Prop) (x2 x3 z0 : Int32) (u : mS) : Prop := K7 x2 x3 z0 u
def wj_X9_end_2_43 (K7 : Int32 → Int32 → Int32 → mS → Prop) (post : Int32 → mS → Prop) (x3 z0 : Int32) (u : mS) : Prop := ∀ y10 : Int32, y10 = x3 + (1 : Int32) → ((z0 ≤ 0) → wj_X9_end_2_56 K7 post z0 y10 (0 : Int32) u) ∧ ((¬ z0 ≤ 0) → wj_X9_end_2_56 K7 post z0 y10 (1 : Int32) u)
def wj_X9_end_2_7 (K7 : Int32 → Int32 → Int32 → mS → Prop) (post : Int32 → mS → Prop) (x2 x3 x4 : Int32) (u : mS) : Prop := ((x4 = 0) → post x3 u) ∧ ((¬ x4 = 0) → wp_X9_kind_2 x3 u (fun r2 u3 => ((¬ r2 = (1 : Int32)) → wp_X9_kind_2 x3 u3 (fun r5 u6 => ((¬ r5 = (2 : Int32)) → wj_X9_end_2_43 K7 post x3 x2 u6) ∧ ((r5 = (2 : Int32)) → ∀ y8 : Int32, y8 = (x2 - (1 : Int32)) → wj_X9_end_2_43 K7 post x3 y8 u6))) ∧ ((r2 = (1 : Int32)) → ∀ y9 : Int32, y9 = (x2 + (1 : Int32)) → wj_X9_end_2_43 K7 post x3 y9 u3)))
def wp_X9_end_2 (x1 : Int32) (u : mS) (post : Int32 → mS → Prop) : Prop := ∃ n, mL4 (fun K => wj_X9_end_2_7 K post) n (0 : Int32) x1 (1 : Int32) u
def wj_X9_dots_2_61 (K6 : Int32 → Int32 → mS → Prop) (post : Int32 → mS → Prop) (x2 z0 : Int32) (u : mS) : Prop := K6 x2 z0 u
def wj_X9_dots_2_44 (K6 : Int32 → Int32 → mS → Prop) (post : Int32 → mS → Prop) (x3 x4 z0 : Int32) (u : mS) : Prop := ((x4 = 0) → wp_X9_end_2 x3 u (fun r11 u12 => wj_X9_dots_2_61 K6 post z0 r11 u12)) ∧ ((¬ x4 = 0) → ∀ y13 : Int32, y13 = (x3 + (1 : Int32)) → wj_X9_dots_2_61 K6 post z0 y13 u)
def wj_X9_dots_2_30 (K6 : Int32 → Int32 → mS → Prop) (post : Int32 → mS → Prop) (x2 x3 z0 : Int32) (u : mS) : Prop := ((z0 = 0) → wj_X9_dots_2_44 K6 post x3 z0 x2 u) ∧ ((¬ z0 = 0) → ∀ y9 : Int32, y9 = (x2 + (1 : Int32)) → wj_X9_dots_2_44 K6 post x3 z0 y9 u)
def wj_X9_dots_2_6 (K6 : Int32 → Int32 → mS → Prop) (post : Int32 → mS → Prop) (x2 x3 : Int32) (u : mS) : Prop := wp_X9_kind_2 x3 u (fun r2 u3 => ((r2 = (2 : Int32)) → post x2 u3) ∧ ((¬ r2 = (2 : Int32)) → wp_X9_kind_2 x3 u3 (fun r5 u6 => ((¬ r5 = (6 : Int32)) → wj_X9_dots_2_30 K6 post x2 x3 (0 : Int32) u6) ∧ ((r5 = (6 : Int32)) → wj_X9_dots_2_30 K6 post x2 x3 (1 : Int32) u6))))
def wp_X9_dots_2 (x1 : Int32) (u : mS) (post : Int32 → mS → Prop) : Prop := ∀ y1 : Int32, y1 = (x1 + (1 : Int32)) → ∃ n, mL3 (fun K => wj_X9_dots_2_6 K post) n (0 : Int32) y1 u
def wj_X9_keep_3 (K3 : Int32 → Int32 → Int32 → Int32 → mS → Prop) (post : Int32 → mS → Prop) (x1 x2 x3 x4 : Int32) (u : mS) : Prop := ((x2 ≤ x4) → ∀ y2 : Int32, y2 = (x3 + x2) → ∀ y3 : Int32, y3 = (y2 - x1) → post y3 u) ∧ ((¬ x2 ≤ x4) → ∀ y4 : Int32, y4 = (x3 + x4) → ∀ y5 : Int32, y5 = (y4 - x1) → vp_in x4 2600 ∧ ∀ y6 : Int32, y6 = u.2 1 x4.toNatClampNeg → vp_in y5 3200 ∧ ∀ u7 : mS, u7 = mPut u 3 y5.toNatClampNeg y6 → ∀ y8 : Int32, y8 = (x3 + x4) → ∀ y9 : Int32, y9 = (y8 - x1) → vp_in x4 2600 ∧ ∀ y10 : Int32, y10 = u7.2 2 x4.toNatClampNeg → vp_in y9 3200 ∧ ∀ u11 : mS, u11 = mPut u7 4 y9.toNatClampNeg y10 → ∀ y12 : Int32, y12 = x4 + (1 : Int32) → K3 x1 x2 x3 y12 u11)
def wp_X9_keep (x1 x2 x3 : Int32) (u : mS) (post : Int32 → mS → Prop) : Prop := ∃ n, mL5 (fun K => wj_X9_keep_3 K post) n x1 x2 x3 x1 u
def wp_X9_kind_4 (x1 : Int32) (u : mS) (post : Int32 → mS → Prop) : Prop := vp_in x1 3200 ∧ ∀ y1 : Int32, y1 = u.2 3 x1.toNatClampNeg → ∀ y2 : Int32, y2 = (y1 / (65536 : Int32)) → post y2 u
def wj_X9_end_4_56 (K7 : Int32 → Int32 → Int32 → mS → Prop) (post : Int32 → mS → Prop) (x2 x3 z0 : Int32) (u : mS) : Prop := K7 x2 x3 z0 u
def wj_X9_end_4_43 (K7 : Int32 → Int32 → Int32 → mS → Prop) (post : Int32 → mS → Prop) (x3 z0 : Int32) (u : mS) : Prop := ∀ y10 : Int32, y10 = x3 + (1 : Int32) → ((z0 ≤ 0) → wj_X9_end_4_56 K7 post z0 y10 (0 : Int32) u) ∧ ((¬ z0 ≤ 0) → wj_X9_end_4_56 K7 post z0 y10 (1 : Int32) u)
def wj_X9_end_4_7 (K7 : Int32 → Int32 → Int32 → mS → Prop) (post : Int32 → mS → Prop) (x2 x3 x4 : Int32) (u : mS) : Prop := ((x4 = 0) → post x3 u) ∧ ((¬ x4 = 0) → wp_X9_kind_4 x3 u (fun r2 u3 => ((¬ r2 = (1 : Int32)) → wp_X9_kind_4 x3 u3 (fun r5 u6 => ((¬ r5 = (2 : Int32)) → wj_X9_end_4_43 K7 post x3 x2 u6) ∧ ((r5 = (2 : Int32)) → ∀ y8 : Int32, y8 = (x2 - (1 : Int32)) → wj_X9_end_4_43 K7 post x3 y8 u6))) ∧ ((r2 = (1 : Int32)) → ∀ y9 : Int32, y9 = (x2 + (1 : Int32)) → wj_X9_end_4_43 K7 post x3 y9 u3)))
def wp_X9_end_4 (x1 : Int32) (u : mS) (post : Int32 → mS → Prop) : Prop := ∃ n, mL4 (fun K => wj_X9_end_4_7 K post) n (0 : Int32) x1 (1 : Int32) u
def wj_X9_count_4_61 (K6 : Int32 → Int32 → mS → Prop) (post : Int32 → mS → Prop) (x2 z0 : Int32) (u : mS) : Prop := K6 x2 z0 u
def wj_X9_count_4_44 (K6 : Int32 → Int32 → mS → Prop) (post : Int32 → mS → Prop) (x3 x4 z0 : Int32) (u : mS) : Prop := ((x4 = 0) → wp_X9_end_4 x3 u (fun r11 u12 => wj_X9_count_4_61 K6 post z0 r11 u12)) ∧ ((¬ x4 = 0) → ∀ y13 : Int32, y13 = (x3 + (1 : Int32)) → wj_X9_count_4_61 K6 post z0 y13 u)
def wj_X9_count_4_30 (K6 : Int32 → Int32 → mS → Prop) (post : Int32 → mS → Prop) (x2 x3 z0 : Int32) (u : mS) : Prop := ((z0 = 0) → ∀ y9 : Int32, y9 = (x2 + (1 : Int32)) → wj_X9_count_4_44 K6 post x3 z0 y9 u) ∧ ((¬ z0 = 0) → wj_X9_count_4_44 K6 post x3 z0 x2 u)
def wj_X9_count_4_6 (K6 : Int32 → Int32 → mS → Prop) (post : Int32 → mS → Prop) (x2 x3 : Int32) (u : mS) : Prop := wp_X9_kind_4 x3 u (fun r2 u3 => ((r2 = (2 : Int32)) → post x2 u3) ∧ ((¬ r2 = (2 : Int32)) → wp_X9_kind_4 x3 u3 (fun r5 u6 => ((¬ r5 = (6 : Int32)) → wj_X9_count_4_30 K6 post x2 x3 (0 : Int32) u6) ∧ ((r5 = (6 : Int32)) → wj_X9_count_4_30 K6 post x2 x3 (1 : Int32) u6))))
def wp_X9_count_4 (x1 : Int32) (u : mS) (post : Int32 → mS → Prop) : Prop := ∀ y1 : Int32, y1 = (x1 + (1 : Int32)) → ∃ n, mL3 (fun K => wj_X9_count_4_6 K post) n (0 : Int32) y1 u
def wj_X9_dots_4_61 (K6 : Int32 → Int32 → mS → Prop) (post : Int32 → mS → Prop) (x2 z0 : Int32) (u : mS) : Prop := K6 x2 z0 u
def wj_X9_dots_4_44 (K6 : Int32 → Int32 → mS → Prop) (post : Int32 → mS → Prop) (x3 x4 z0 : Int32) (u : mS) : Prop := ((x4 = 0) → wp_X9_end_4 x3 u (fun r11 u12 => wj_X9_dots_4_61 K6 post z0 r11 u12)) ∧ ((¬ x4 = 0) → ∀ y13 : Int32, y13 = (x3 + (1 : Int32)) → wj_X9_dots_4_61 K6 post z0 y13 u)
def wj_X9_dots_4_30 (K6 : Int32 → Int32 → mS → Prop) (post : Int32 → mS → Prop) (x2 x3 z0 : Int32) (u : mS) : Prop := ((z0 = 0) → wj_X9_dots_4_44 K6 post x3 z0 x2 u) ∧ ((¬ z0 = 0) → ∀ y9 : Int32, y9 = (x2 + (1 : Int32)) → wj_X9_dots_4_44 K6 post x3 z0 y9 u)
def wj_X9_dots_4_6 (K6 : Int32 → Int32 → mS → Prop) (post : Int32 → mS → Prop) (x2 x3 : Int32) (u : mS) : Prop := wp_X9_kind_4 x3 u (fun r2 u3 => ((r2 = (2 : Int32)) → post x2 u3) ∧ ((¬ r2 = (2 : Int32)) → wp_X9_kind_4 x3 u3 (fun r5 u6 => ((¬ r5 = (6 : Int32)) → wj_X9_dots_4_30 K6 post x2 x3 (0 : Int32) u6) ∧ ((r5 = (6 : Int32)) → wj_X9_dots_4_30 K6 post x2 x3 (1 : Int32) u6))))
def wp_X9_dots_4 (x1 : Int32) (u : mS) (post : Int32 → mS → Prop) : Prop := ∀ y1 : Int32, y1 = (x1 + (1 : Int32)) → ∃ n, mL3 (fun K => wj_X9_dots_4_6 K post) n (0 : Int32) y1 u
def wp_X9_isPlain_4 (x1 x2 : Int32) (u : mS) (post : Int32 → mS → Prop) : Prop := wp_X9_kind_4 x1 u (fun r1 u2 => ((¬ r1 = (1 : Int32)) → post (0 : Int32) u2) ∧ ((r1 = (1 : Int32)) → wp_X9_count_4 x1 u2 (fun r4 u5 => ((¬ r4 = x2) → post (0 : Int32) u5) ∧ ((r4 = x2) → wp_X9_dots_4 x1 u5 (fun r7 u8 => ((¬ r7 = 0) → post (0 : Int32) u8) ∧ ((r7 = 0) → post (1 : Int32) u8))))))
def wj_X9_heldBy_101 (K6 : Int32 → Int32 → Int32 → Int32 → mS → Prop) (post : Int32 → mS → Prop) (x2 x3 x5 z0 : Int32) (u : mS) : Prop := ∀ y17 : Int32, y17 = x5 + (1 : Int32) → K6 x2 x3 z0 y17 u
def wj_X9_heldBy_99 (K6 : Int32 → Int32 → Int32 → Int32 → mS → Prop) (post : Int32 → mS → Prop) (x2 x3 x4 x5 : Int32) (u : mS) : Prop := wj_X9_heldBy_101 K6 post x2 x3 x5 x4 u
def wj_X9_heldBy_64 (K6 : Int32 → Int32 → Int32 → Int32 → mS → Prop) (post : Int32 → mS → Prop) (x2 x3 x4 x5 z0 : Int32) (u : mS) : Prop := ((x2 ≤ z0) → wj_X9_heldBy_99 K6 post x2 x3 x4 x5 u) ∧ ((¬ x2 ≤ z0) → ((z0 ≤ x3) → wj_X9_heldBy_99 K6 post x2 x3 x4 x5 u) ∧ ((¬ z0 ≤ x3) → wp_X9_kind_4 z0 u (fun r13 u14 => ((¬ r13 = (6 : Int32)) → wj_X9_heldBy_99 K6 post x2 x3 x4 x5 u14) ∧ ((r13 = (6 : Int32)) → ∀ y16 : Int32, y16 = (x4 + (1 : Int32)) → wj_X9_heldBy_101 K6 post x2 x3 x5 y16 u14))))
def wj_X9_heldBy_44 (K6 : Int32 → Int32 → Int32 → Int32 → mS → Prop) (post : Int32 → mS → Prop) (x2 x3 x4 x5 z0 : Int32) (u : mS) : Prop := ((z0 = 0) → wj_X9_heldBy_64 K6 post x2 x3 x4 x5 x2 u) ∧ ((¬ z0 = 0) → wp_X9_end_4 x5 u (fun r9 u10 => wj_X9_heldBy_64 K6 post x2 x3 x4 x5 r9 u10))
def wj_X9_heldBy_43 (K6 : Int32 → Int32 → Int32 → Int32 → mS → Prop) (post : Int32 → mS → Prop) (x2 x3 x4 x5 : Int32) (u : mS) : Prop := wj_X9_heldBy_44 K6 post x2 x3 x4 x5 (0 : Int32) u
def wj_X9_heldBy_6 (K6 : Int32 → Int32 → Int32 → Int32 → mS → Prop) (post : Int32 → mS → Prop) (x2 x3 x4 x5 : Int32) (u : mS) : Prop := ((x3 < x5) → post x4 u) ∧ ((¬ x3 < x5) → wp_X9_kind_4 x5 u (fun r2 u3 => ((r2 = (2 : Int32)) → wj_X9_heldBy_43 K6 post x2 x3 x4 x5 u3) ∧ ((¬ r2 = (2 : Int32)) → wp_X9_kind_4 x5 u3 (fun r5 u6 => ((r5 = (6 : Int32)) → wj_X9_heldBy_43 K6 post x2 x3 x4 x5 u6) ∧ ((¬ r5 = (6 : Int32)) → wj_X9_heldBy_44 K6 post x2 x3 x4 x5 (1 : Int32) u6)))))
def wp_X9_heldBy (x1 x2 x3 : Int32) (u : mS) (post : Int32 → mS → Prop) : Prop := ∃ n, mL5 (fun K => wj_X9_heldBy_6 K post) n x2 x3 (0 : Int32) x1 u
def wj_X9_variable_56 (K24 : Int32 → Int32 → Int32 → Int32 → mS → Prop) (post : Int32 → mS → Prop) (x2 x3 x4 x5 : Int32) (u : mS) : Prop := ∀ y12 : Int32, y12 = x5 + (1 : Int32) → K24 x2 x3 x4 y12 u
def wj_X9_variable_24 (K24 : Int32 → Int32 → Int32 → Int32 → mS → Prop) (post : Int32 → mS → Prop) (x2 x3 x4 x5 : Int32) (u : mS) : Prop := ((x4 ≤ x5) → post (-1 : Int32) u) ∧ ((¬ x4 ≤ x5) → vp_in x5 3200 ∧ ∀ y8 : Int32, y8 = u.2 3 x5.toNatClampNeg → ((¬ y8 = x2) → wj_X9_variable_56 K24 post x2 x3 x4 x5 u) ∧ ((y8 = x2) → vp_in x5 3200 ∧ ∀ y10 : Int32, y10 = u.2 4 x5.toNatClampNeg → ((¬ y10 = x3) → wj_X9_variable_56 K24 post x2 x3 x4 x5 u) ∧ ((y10 = x3) → post x5 u)))
def wp_X9_variable (x1 x2 x3 : Int32) (u : mS) (post : Int32 → mS → Prop) : Prop := wp_X9_end_4 x1 u (fun r1 u2 => ∀ y3 : Int32, y3 = (r1 - (1 : Int32)) → ∀ y4 : Int32, y4 = (x1 + (1 : Int32)) → wp_X9_end_4 y4 u2 (fun r5 u6 => ∃ n, mL5 (fun K => wj_X9_variable_24 K post) n x2 x3 y3 r5 u6))
def wj_X9_isPattern_165 (K65 : Int32 → Int32 → Int32 → mS → Prop) (post : Int32 → mS → Prop) (x1 x2 x4 : Int32) (u : mS) : Prop := ∀ y36 : Int32, y36 = x4 + (1 : Int32) → K65 x1 x2 y36 u
def wj_X9_isPattern_133 (K65 : Int32 → Int32 → Int32 → mS → Prop) (post : Int32 → mS → Prop) (x1 x2 x4 x5 : Int32) (u : mS) : Prop := ((¬ x5 = (3 : Int32)) → wj_X9_isPattern_165 K65 post x1 x2 x4 u) ∧ ((x5 = (3 : Int32)) → vp_in x4 3200 ∧ ∀ y31 : Int32, y31 = u.2 3 x4.toNatClampNeg → vp_in x4 3200 ∧ ∀ y32 : Int32, y32 = u.2 4 x4.toNatClampNeg → wp_X9_variable x1 y31 y32 u (fun r33 u34 => ((r33 = x4) → wj_X9_isPattern_165 K65 post x1 x2 x4 u34) ∧ ((¬ r33 = x4) → post (0 : Int32) u34)))
def wj_X9_isPattern_106 (K65 : Int32 → Int32 → Int32 → mS → Prop) (post : Int32 → mS → Prop) (x1 x2 x4 x5 : Int32) (u : mS) : Prop := ((x5 = (2 : Int32)) → wj_X9_isPattern_133 K65 post x1 x2 x4 x5 u) ∧ ((¬ x5 = (2 : Int32)) → ((x5 = (6 : Int32)) → wj_X9_isPattern_133 K65 post x1 x2 x4 x5 u) ∧ ((¬ x5 = (6 : Int32)) → ∀ y26 : Int32, y26 = (x1 + (1 : Int32)) → wp_X9_heldBy y26 x2 x4 u (fun r27 u28 => (((2 : Int32) < r27) → post (0 : Int32) u28) ∧ ((¬ (2 : Int32) < r27) → wj_X9_isPattern_133 K65 post x1 x2 x4 x5 u28))))
def wj_X9_isPattern_65 (K65 : Int32 → Int32 → Int32 → mS → Prop) (post : Int32 → mS → Prop) (x1 x2 x4 : Int32) (u : mS) : Prop := ((x2 ≤ x4) → post (1 : Int32) u) ∧ ((¬ x2 ≤ x4) → wp_X9_kind_4 x4 u (fun r17 u18 => ((¬ r17 = (6 : Int32)) → wj_X9_isPattern_106 K65 post x1 x2 x4 r17 u18) ∧ ((r17 = (6 : Int32)) → ∀ y20 : Int32, y20 = (x4 + (1 : Int32)) → wp_X9_kind_4 y20 u18 (fun r21 u22 => ((r21 = (2 : Int32)) → wj_X9_isPattern_106 K65 post x1 x2 x4 r17 u22) ∧ ((¬ r21 = (2 : Int32)) → post (0 : Int32) u22)))))
def wp_X9_isPattern (x1 : Int32) (u : mS) (post : Int32 → mS → Prop) : Prop := wp_X9_kind_4 x1 u (fun r1 u2 => ((¬ r1 = (1 : Int32)) → post (0 : Int32) u2) ∧ ((r1 = (1 : Int32)) → wp_X9_count_4 x1 u2 (fun r4 u5 => ((¬ r4 = 0) → wp_X9_end_4 x1 u5 (fun r7 u8 => ∀ y9 : Int32, y9 = (r7 - (1 : Int32)) → ∀ y10 : Int32, y10 = (x1 + (1 : Int32)) → wp_X9_end_4 y10 u8 (fun r11 u12 => wp_X9_kind_4 r11 u12 (fun r13 u14 => ((¬ r13 = (6 : Int32)) → ∃ n, mL4 (fun K => wj_X9_isPattern_65 K post) n x1 y9 r11 u14) ∧ ((r13 = (6 : Int32)) → post (0 : Int32) u14))))) ∧ ((r4 = 0) → post (0 : Int32) u5))))
def wj_X9_uses_56 (K6 : Int32 → Int32 → Int32 → Int32 → mS → Prop) (post : Int32 → mS → Prop) (x1 x3 x5 z0 : Int32) (u : mS) : Prop := ∀ y11 : Int32, y11 = x5 + (1 : Int32) → K6 x1 x3 z0 y11 u
def wj_X9_uses_54 (K6 : Int32 → Int32 → Int32 → Int32 → mS → Prop) (post : Int32 → mS → Prop) (x1 x3 x4 x5 : Int32) (u : mS) : Prop := wj_X9_uses_56 K6 post x1 x3 x5 x4 u
def wj_X9_uses_6 (K6 : Int32 → Int32 → Int32 → Int32 → mS → Prop) (post : Int32 → mS → Prop) (x1 x3 x4 x5 : Int32) (u : mS) : Prop := ((x3 ≤ x5) → post x4 u) ∧ ((¬ x3 ≤ x5) → wp_X9_kind_4 x5 u (fun r2 u3 => ((¬ r2 = (3 : Int32)) → wj_X9_uses_54 K6 post x1 x3 x4 x5 u3) ∧ ((r2 = (3 : Int32)) → vp_in x5 3200 ∧ ∀ y5 : Int32, y5 = u3.2 3 x5.toNatClampNeg → vp_in x5 3200 ∧ ∀ y6 : Int32, y6 = u3.2 4 x5.toNatClampNeg → wp_X9_variable x1 y5 y6 u3 (fun r7 u8 => ((r7 < 0) → wj_X9_uses_54 K6 post x1 x3 x4 x5 u8) ∧ ((¬ r7 < 0) → ∀ y10 : Int32, y10 = (x4 + (1 : Int32)) → wj_X9_uses_56 K6 post x1 x3 x5 y10 u8)))))
def wp_X9_uses (x1 x2 x3 : Int32) (u : mS) (post : Int32 → mS → Prop) : Prop := ∃ n, mL5 (fun K => wj_X9_uses_6 K post) n x1 x3 (0 : Int32) x2 u
def wj_X9_isTemplate_97 (K24 : Int32 → Int32 → Int32 → Int32 → Int32 → mS → Prop) (post : Int32 → mS → Prop) (x1 x2 x3 x4 x5 : Int32) (u : mS) : Prop := ∀ y21 : Int32, y21 = x5 + (1 : Int32) → K24 x1 x2 x3 x4 y21 u
def wj_X9_isTemplate_66 (K24 : Int32 → Int32 → Int32 → Int32 → Int32 → mS → Prop) (post : Int32 → mS → Prop) (x1 x2 x3 x4 x5 z0 : Int32) (u : mS) : Prop := ((z0 < 0) → wj_X9_isTemplate_97 K24 post x1 x2 x3 x4 x5 u) ∧ ((¬ z0 < 0) → wp_X9_heldBy x2 x3 x5 u (fun r15 u16 => ∀ y17 : Int32, y17 = (x1 + (1 : Int32)) → wp_X9_heldBy y17 x4 z0 u16 (fun r18 u19 => ((r15 = r18) → wj_X9_isTemplate_97 K24 post x1 x2 x3 x4 x5 u19) ∧ ((¬ r15 = r18) → post (0 : Int32) u19))))
def wj_X9_isTemplate_185 (K106 : Int32 → Int32 → Int32 → mS → Prop) (post : Int32 → mS → Prop) (x1 x3 x5 : Int32) (u : mS) : Prop := ∀ y36 : Int32, y36 = x5 + (1 : Int32) → K106 x1 x3 y36 u
def wj_X9_isTemplate_149 (K106 : Int32 → Int32 → Int32 → mS → Prop) (post : Int32 → mS → Prop) (x1 x3 x5 z0 : Int32) (u : mS) : Prop := ((x3 ≤ z0) → wj_X9_isTemplate_185 K106 post x1 x3 x5 u) ∧ ((¬ x3 ≤ z0) → wp_X9_kind_4 z0 u (fun r30 u31 => ((¬ r30 = (6 : Int32)) → wj_X9_isTemplate_185 K106 post x1 x3 x5 u31) ∧ ((r30 = (6 : Int32)) → wp_X9_uses x1 x5 z0 u31 (fun r33 u34 => ((¬ r33 = 0) → wj_X9_isTemplate_185 K106 post x1 x3 x5 u34) ∧ ((r33 = 0) → post (0 : Int32) u34)))))
def wj_X9_isTemplate_136 (K106 : Int32 → Int32 → Int32 → mS → Prop) (post : Int32 → mS → Prop) (x1 x3 x5 : Int32) (u : mS) : Prop := wj_X9_isTemplate_149 K106 post x1 x3 x5 x3 u
def wj_X9_isTemplate_106 (K106 : Int32 → Int32 → Int32 → mS → Prop) (post : Int32 → mS → Prop) (x1 x3 x5 : Int32) (u : mS) : Prop := ((x3 ≤ x5) → post (1 : Int32) u) ∧ ((¬ x3 ≤ x5) → wp_X9_kind_4 x5 u (fun r23 u24 => ((r23 = (2 : Int32)) → wj_X9_isTemplate_136 K106 post x1 x3 x5 u24) ∧ ((¬ r23 = (2 : Int32)) → ((¬ r23 = (6 : Int32)) → wp_X9_end_4 x5 u24 (fun r27 u28 => wj_X9_isTemplate_149 K106 post x1 x3 x5 r27 u28)) ∧ ((r23 = (6 : Int32)) → wj_X9_isTemplate_136 K106 post x1 x3 x5 u24))))
def wj_X9_isTemplate_24 (K24 : Int32 → Int32 → Int32 → Int32 → Int32 → mS → Prop) (post : Int32 → mS → Prop) (x1 x2 x3 x4 x5 : Int32) (u : mS) : Prop := ((x3 ≤ x5) → ∃ n, mL4 (fun K => wj_X9_isTemplate_106 K post) n x1 x3 x2 u) ∧ ((¬ x3 ≤ x5) → wp_X9_kind_4 x5 u (fun r7 u8 => ((¬ r7 = (3 : Int32)) → wj_X9_isTemplate_66 K24 post x1 x2 x3 x4 x5 (-1 : Int32) u8) ∧ ((r7 = (3 : Int32)) → vp_in x5 3200 ∧ ∀ y10 : Int32, y10 = u8.2 3 x5.toNatClampNeg → vp_in x5 3200 ∧ ∀ y11 : Int32, y11 = u8.2 4 x5.toNatClampNeg → wp_X9_variable x1 y10 y11 u8 (fun r12 u13 => wj_X9_isTemplate_66 K24 post x1 x2 x3 x4 x5 r12 u13))))
def wp_X9_isTemplate (x1 x2 : Int32) (u : mS) (post : Int32 → mS → Prop) : Prop := wp_X9_end_4 x2 u (fun r1 u2 => wp_X9_end_4 x1 u2 (fun r3 u4 => ∀ y5 : Int32, y5 = (r3 - (1 : Int32)) → ∃ n, mL6 (fun K => wj_X9_isTemplate_24 K post) n x1 x2 r1 y5 x2 u4))
def wj_X9_areRules_2 (K2 : Int32 → Int32 → mS → Prop) (post : Int32 → mS → Prop) (x2 x3 : Int32) (u : mS) : Prop := ((x2 ≤ x3) → post (1 : Int32) u) ∧ ((¬ x2 ≤ x3) → wp_X9_kind_4 x3 u (fun r2 u3 => ((r2 = (6 : Int32)) → post (0 : Int32) u3) ∧ ((¬ r2 = (6 : Int32)) → wp_X9_isPlain_4 x3 (2 : Int32) u3 (fun r5 u6 => ((r5 = 0) → post (0 : Int32) u6) ∧ ((¬ r5 = 0) → ∀ y8 : Int32, y8 = (x3 + (1 : Int32)) → wp_X9_isPattern y8 u6 (fun r9 u10 => ((r9 = 0) → post (0 : Int32) u10) ∧ ((¬ r9 = 0) → ∀ y12 : Int32, y12 = (x3 + (1 : Int32)) → ∀ y13 : Int32, y13 = (x3 + (1 : Int32)) → wp_X9_end_4 y13 u10 (fun r14 u15 => wp_X9_isTemplate y12 r14 u15 (fun r16 u17 => ((¬ r16 = 0) → wp_X9_end_4 x3 u17 (fun r19 u20 => K2 x2 r19 u20)) ∧ ((r16 = 0) → post (0 : Int32) u17))))))))))
def wp_X9_areRules (x1 x2 : Int32) (u : mS) (post : Int32 → mS → Prop) : Prop := ∃ n, mL3 (fun K => wj_X9_areRules_2 K post) n x2 x1 u
def wp_X9_what_2 (x1 : Int32) (u : mS) (post : Int32 → mS → Prop) : Prop := vp_in x1 2600 ∧ ∀ y1 : Int32, y1 = u.2 1 x1.toNatClampNeg → ∀ y2 : Int32, y2 = (y1 - y1 / (65536 : Int32) * (65536 : Int32)) → post y2 u
def wp_X9_core (x0 : Int32) (u : mS) (post : Int32 → mS → Prop) : Prop := ((¬ x0 = (206 : Int32)) → ((¬ x0 = (294 : Int32)) → ((¬ x0 = (17 : Int32)) → ((¬ x0 = (403 : Int32)) → post (-1 : Int32) u) ∧ ((x0 = (403 : Int32)) → post (3 : Int32) u)) ∧ ((x0 = (17 : Int32)) → post (2 : Int32) u)) ∧ ((x0 = (294 : Int32)) → post (1 : Int32) u)) ∧ ((x0 = (206 : Int32)) → post (0 : Int32) u)
def wj_X9_rules_64 (post : Int32 → mS → Prop) (u : mS) : Prop := post (-1000 : Int32) u
def wj_X9_rules_127 (post : Int32 → mS → Prop) (u : mS) : Prop := post (-1001 : Int32) u
def wj_X9_rules_193 (post : Int32 → mS → Prop) (x3 x4 z0 : Int32) (u : mS) : Prop := ∀ u45 : mS, u45 = mSet u 3 z0 → vp_in x4 4 ∧ ∀ u46 : mS, u46 = mPut u45 5 x4.toNatClampNeg x3 → ∀ y47 : Int32, y47 = (u46.1 1) → ∀ y48 : Int32, y48 = (y47 + (2 : Int32)) → ∀ y49 : Int32, y49 = ((120 : Int32) * x4) → wp_X9_keep y48 (2599 : Int32) y49 u46 (fun r50 u51 => vp_in x4 4 ∧ ∀ u52 : mS, u52 = mPut u51 6 x4.toNatClampNeg r50 → ∀ y53 : Int32, y53 = (u52.1 3) → post y53 u52)
def wj_X9_rules_160 (post : Int32 → mS → Prop) (x3 x4 : Int32) (u : mS) : Prop := ((¬ x4 = (4 : Int32)) → ∀ y40 : Int32, y40 = (u.1 3) → ((¬ x4 = y40) → ∀ y42 : Int32, y42 = (u.1 3) → wj_X9_rules_193 post x3 x4 y42 u) ∧ ((x4 = y40) → ∀ y43 : Int32, y43 = (u.1 3) → ∀ y44 : Int32, y44 = (y43 + (1 : Int32)) → wj_X9_rules_193 post x3 x4 y44 u)) ∧ ((x4 = (4 : Int32)) → post (-1001 : Int32) u)
def wj_X9_rules_134 (K134 : Int32 → Int32 → mS → Prop) (post : Int32 → mS → Prop) (x3 x4 : Int32) (u : mS) : Prop := ∀ y34 : Int32, y34 = (u.1 3) → ((y34 ≤ x4) → wj_X9_rules_160 post x3 x4 u) ∧ ((¬ y34 ≤ x4) → vp_in x4 4 ∧ ∀ y36 : Int32, y36 = u.2 5 x4.toNatClampNeg → ((y36 = x3) → wj_X9_rules_160 post x3 x4 u) ∧ ((¬ y36 = x3) → ∀ y38 : Int32, y38 = x4 + (1 : Int32) → K134 x3 y38 u))
def wp_X9_rules (u : mS) (post : Int32 → mS → Prop) : Prop := wp_X9_read  u (fun r1 u2 => ∀ u3 : mS, u3 = mSet u2 0 (0 : Int32) → ((r1 < 0) → ∀ y5 : Int32, y5 = (u3.1 1) → wp_X9_kind_2 y5 u3 (fun r6 u7 => ((¬ r6 = (1 : Int32)) → wj_X9_rules_64 post u7) ∧ ((r6 = (1 : Int32)) → ∀ y9 : Int32, y9 = (u7.1 1) → ∀ y10 : Int32, y10 = (y9 + (1 : Int32)) → wp_X9_kind_2 y10 u7 (fun r11 u12 => ((¬ r11 = (3 : Int32)) → wj_X9_rules_64 post u12) ∧ ((r11 = (3 : Int32)) → ∀ y14 : Int32, y14 = (u12.1 1) → wp_X9_dots_2 y14 u12 (fun r15 u16 => ((r15 ≤ 0) → ∀ y18 : Int32, y18 = (u16.1 1) → ∀ y19 : Int32, y19 = (y18 + (2 : Int32)) → wp_X9_keep y19 (2599 : Int32) (480 : Int32) u16 (fun r20 u21 => wp_X9_areRules (480 : Int32) r20 u21 (fun r22 u23 => ((¬ r22 = 0) → ∀ y25 : Int32, y25 = (u23.1 1) → ∀ y26 : Int32, y26 = (y25 + (1 : Int32)) → wp_X9_what_2 y26 u23 (fun r27 u28 => wp_X9_core r27 u28 (fun r29 u30 => ((0 ≤ r29) → wj_X9_rules_127 post u30) ∧ ((¬ 0 ≤ r29) → ((r27 < (40000 : Int32)) → ∃ n, mL3 (fun K => wj_X9_rules_134 K post) n r27 (0 : Int32) u30) ∧ ((¬ r27 < (40000 : Int32)) → wj_X9_rules_127 post u30))))) ∧ ((r22 = 0) → post (-1000 : Int32) u23)))) ∧ ((¬ r15 ≤ 0) → wj_X9_rules_64 post u16))))))) ∧ ((¬ r1 < 0) → ∀ y33 : Int32, y33 = ((-1 : Int32) - r1) → post y33 u3))
def wj_X9_fails_16 (post : mS → Prop) (z0 : Int32) (u : mS) : Prop := ∀ u4 : mS, u4 = mSet u 12 z0 → post u4
def wp_X9_fails (x1 : Int32) (u : mS) (post : mS → Prop) : Prop := ∀ y1 : Int32, y1 = (u.1 12) → ((¬ y1 = 0) → ∀ y3 : Int32, y3 = (u.1 12) → wj_X9_fails_16 post y3 u) ∧ ((y1 = 0) → wj_X9_fails_16 post x1 u)
def wp_X9_bind (x1 x2 x3 x4 x5 : Int32) (u : mS) (post : mS → Prop) : Prop := ∀ y1 : Int32, y1 = (u.1 4) → ((¬ y1 = (40 : Int32)) → ∀ y3 : Int32, y3 = (u.1 4) → vp_in y3 40 ∧ ∀ u4 : mS, u4 = mPut u 7 y3.toNatClampNeg x1 → ∀ y5 : Int32, y5 = (u4.1 4) → vp_in y5 40 ∧ ∀ u6 : mS, u6 = mPut u4 8 y5.toNatClampNeg x2 → ∀ y7 : Int32, y7 = (u6.1 4) → vp_in y7 40 ∧ ∀ u8 : mS, u8 = mPut u6 9 y7.toNatClampNeg x3 → ∀ y9 : Int32, y9 = (u8.1 4) → vp_in y9 40 ∧ ∀ u10 : mS, u10 = mPut u8 10 y9.toNatClampNeg x4 → ∀ y11 : Int32, y11 = (u10.1 4) → vp_in y11 40 ∧ ∀ u12 : mS, u12 = mPut u10 11 y11.toNatClampNeg x5 → ∀ y13 : Int32, y13 = (u12.1 4) → ∀ y14 : Int32, y14 = (y13 + (1 : Int32)) → ∀ u15 : mS, u15 = mSet u12 4 y14 → post u15) ∧ ((y1 = (40 : Int32)) → wp_X9_fails (6 : Int32) u (fun u17 => post u17))
def wj_X9_beginning_90 (K90 : Int32 → mS → Prop) (post : mS → Prop) (x1 : Int32) (u : mS) : Prop := ∀ y18 : Int32, y18 = (u.1 3) → ((y18 ≤ x1) → ∀ y20 : Int32, y20 = (u.1 4) → ∀ u21 : mS, u21 = mSet u 5 y20 → post u21) ∧ ((¬ y18 ≤ x1) → vp_in x1 4 ∧ ∀ y22 : Int32, y22 = u.2 5 x1.toNatClampNeg → ∀ y23 : Int32, y23 = ((120 : Int32) * x1) → vp_in x1 4 ∧ ∀ y24 : Int32, y24 = u.2 6 x1.toNatClampNeg → wp_X9_bind y22 (0 : Int32) (3 : Int32) y23 y24 u (fun u26 => ∀ y27 : Int32, y27 = x1 + (1 : Int32) → K90 y27 u26))
def wp_X9_beginning (u : mS) (post : mS → Prop) : Prop := ∀ u1 : mS, u1 = mSet u 4 (0 : Int32) → wp_X9_bind (206 : Int32) (0 : Int32) (0 : Int32) (0 : Int32) (0 : Int32) u1 (fun u3 => wp_X9_bind (294 : Int32) (0 : Int32) (0 : Int32) (1 : Int32) (0 : Int32) u3 (fun u5 => wp_X9_bind (17 : Int32) (0 : Int32) (0 : Int32) (2 : Int32) (0 : Int32) u5 (fun u7 => wp_X9_bind (403 : Int32) (0 : Int32) (0 : Int32) (3 : Int32) (0 : Int32) u7 (fun u9 => wp_X9_bind (40043 : Int32) (0 : Int32) (1 : Int32) (0 : Int32) (0 : Int32) u9 (fun u11 => wp_X9_bind (40042 : Int32) (0 : Int32) (1 : Int32) (0 : Int32) (0 : Int32) u11 (fun u13 => wp_X9_bind (40061 : Int32) (0 : Int32) (1 : Int32) (0 : Int32) (0 : Int32) u13 (fun u15 => wp_X9_bind (40060 : Int32) (0 : Int32) (1 : Int32) (0 : Int32) (0 : Int32) u15 (fun u17 => ∃ n, mL2 (fun K => wj_X9_beginning_90 K post) n (0 : Int32) u17))))))))
def wp_X9_put (x1 : Int32) (u : mS) (post : mS → Prop) : Prop := ∀ y1 : Int32, y1 = (u.1 12) → ((y1 = 0) → ∀ y3 : Int32, y3 = (u.1 9) → ((¬ y3 = (200 : Int32)) → ∀ y5 : Int32, y5 = (u.1 9) → vp_in y5 200 ∧ ∀ u6 : mS, u6 = mPut u 19 y5.toNatClampNeg x1 → ∀ y7 : Int32, y7 = (u6.1 9) → ∀ y8 : Int32, y8 = (y7 + (1 : Int32)) → ∀ u9 : mS, u9 = mSet u6 9 y8 → post u9) ∧ ((y3 = (200 : Int32)) → wp_X9_fails (6 : Int32) u (fun u11 => post u11))) ∧ ((¬ y1 = 0) → post u)
def wj_X9_space_13 (post : mS → Prop) (u : mS) : Prop := ∀ u5 : mS, u5 = mSet u 10 (1 : Int32) → post u5
def wp_X9_space (u : mS) (post : mS → Prop) : Prop := ∀ y1 : Int32, y1 = (u.1 10) → ((y1 = 0) → wj_X9_space_13 post u) ∧ ((¬ y1 = 0) → wp_X9_put (32 : Int32) u (fun u4 => wj_X9_space_13 post u4))
def wj_X9_putName_54 (post : mS → Prop) (x1 : Int32) (u : mS) : Prop := ∀ y16 : Int32, y16 = (x1 - x1 / (32 : Int32) * (32 : Int32)) → ∀ y17 : Int32, y17 = ((96 : Int32) + y16) → wp_X9_put y17 u (fun u19 => post u19)
def wj_X9_putName_34 (post : mS → Prop) (x1 : Int32) (u : mS) : Prop := ((x1 < (32 : Int32)) → wj_X9_putName_54 post x1 u) ∧ ((¬ x1 < (32 : Int32)) → ∀ y11 : Int32, y11 = (x1 / (32 : Int32)) → ∀ y12 : Int32, y12 = (y11 - y11 / (32 : Int32) * (32 : Int32)) → ∀ y13 : Int32, y13 = ((96 : Int32) + y12) → wp_X9_put y13 u (fun u15 => wj_X9_putName_54 post x1 u15))
def wp_X9_putName (x1 : Int32) (u : mS) (post : mS → Prop) : Prop := ((x1 < (40000 : Int32)) → ((x1 < (1024 : Int32)) → wj_X9_putName_34 post x1 u) ∧ ((¬ x1 < (1024 : Int32)) → ∀ y3 : Int32, y3 = (x1 / (1024 : Int32)) → ∀ y4 : Int32, y4 = ((96 : Int32) + y3) → wp_X9_put y4 u (fun u6 => wj_X9_putName_34 post x1 u6))) ∧ ((¬ x1 < (40000 : Int32)) → ∀ y7 : Int32, y7 = (x1 - (40000 : Int32)) → wp_X9_put y7 u (fun u9 => post u9))
def wp_X9_putClose (u : mS) (post : mS → Prop) : Prop := wp_X9_put (41 : Int32) u (fun u2 => ∀ u3 : mS, u3 = mSet u2 10 (1 : Int32) → post u3)
def wp_X9_putOpen (u : mS) (post : mS → Prop) : Prop := wp_X9_space  u (fun u2 => wp_X9_put (40 : Int32) u2 (fun u4 => ∀ u5 : mS, u5 = mSet u4 10 (0 : Int32) → post u5))
def wj_X9_putNumber_17 (post : mS → Prop) (x1 : Int32) (u : mS) : Prop := ∀ y6 : Int32, y6 = (x1 - x1 / (10 : Int32) * (10 : Int32)) → ∀ y7 : Int32, y7 = ((48 : Int32) + y6) → wp_X9_put y7 u (fun u9 => post u9)
def wp_X9_putNumber (x1 : Int32) (u : mS) (post : mS → Prop) : Prop := ((x1 ≤ (9 : Int32)) → wj_X9_putNumber_17 post x1 u) ∧ ((¬ x1 ≤ (9 : Int32)) → ∀ y2 : Int32, y2 = (x1 / (10 : Int32)) → ∀ y3 : Int32, y3 = ((48 : Int32) + y2) → wp_X9_put y3 u (fun u5 => wj_X9_putNumber_17 post x1 u5))
def wj_X9_putToken_82 (post : mS → Prop) (x2 : Int32) (u : mS) : Prop := ((¬ x2 = (6 : Int32)) → post u) ∧ ((x2 = (6 : Int32)) → wp_X9_put (46 : Int32) u (fun u26 => wp_X9_put (46 : Int32) u26 (fun u28 => post u28)))
def wj_X9_putToken_71 (post : mS → Prop) (x2 : Int32) (u : mS) : Prop := ((¬ x2 = (5 : Int32)) → wj_X9_putToken_82 post x2 u) ∧ ((x2 = (5 : Int32)) → wp_X9_put (95 : Int32) u (fun u23 => wj_X9_putToken_82 post x2 u23))
def wj_X9_putToken_54 (post : mS → Prop) (x1 x2 : Int32) (u : mS) : Prop := ((¬ x2 = (4 : Int32)) → wj_X9_putToken_71 post x2 u) ∧ ((x2 = (4 : Int32)) → wp_X9_what_2 x1 u (fun r17 u18 => wp_X9_putNumber r17 u18 (fun u20 => wj_X9_putToken_71 post x2 u20)))
def wp_X9_putToken (x1 : Int32) (u : mS) (post : mS → Prop) : Prop := wp_X9_kind_2 x1 u (fun r1 u2 => ((¬ r1 = (1 : Int32)) → ((¬ r1 = (2 : Int32)) → wp_X9_space  u2 (fun u6 => ((¬ r1 = (3 : Int32)) → wj_X9_putToken_54 post x1 r1 u6) ∧ ((r1 = (3 : Int32)) → wp_X9_what_2 x1 u6 (fun r8 u9 => wp_X9_putName r8 u9 (fun u11 => wj_X9_putToken_54 post x1 r1 u11))))) ∧ ((r1 = (2 : Int32)) → wp_X9_putClose  u2 (fun u13 => post u13))) ∧ ((r1 = (1 : Int32)) → wp_X9_putOpen  u2 (fun u15 => post u15)))
def wj_X9_means_124 (K5 : Int32 → Int32 → Int32 → Int32 → mS → Prop) (K48 : Int32 → Int32 → Int32 → Int32 → Int32 → mS → Prop) (post : Int32 → mS → Prop) (x1 x2 x4 x6 z0 : Int32) (u : mS) : Prop := ∀ y25 : Int32, y25 = x6 + (1 : Int32) → K48 x1 x2 x4 z0 y25 u
def wj_X9_means_119 (K5 : Int32 → Int32 → Int32 → Int32 → mS → Prop) (K48 : Int32 → Int32 → Int32 → Int32 → Int32 → mS → Prop) (post : Int32 → mS → Prop) (x1 x2 x4 x6 : Int32) (u : mS) : Prop := wj_X9_means_124 K5 K48 post x1 x2 x4 x6 (1 : Int32) u
def wj_X9_means_123 (K5 : Int32 → Int32 → Int32 → Int32 → mS → Prop) (K48 : Int32 → Int32 → Int32 → Int32 → Int32 → mS → Prop) (post : Int32 → mS → Prop) (x1 x2 x4 x6 : Int32) (u : mS) : Prop := wj_X9_means_124 K5 K48 post x1 x2 x4 x6 (0 : Int32) u
def wj_X9_means_87 (K5 : Int32 → Int32 → Int32 → Int32 → mS → Prop) (K48 : Int32 → Int32 → Int32 → Int32 → Int32 → mS → Prop) (post : Int32 → mS → Prop) (x1 x2 x4 x5 x6 z0 : Int32) (u : mS) : Prop := ((x5 = 0) → wj_X9_means_123 K5 K48 post x1 x2 x4 x6 u) ∧ ((¬ x5 = 0) → ((z0 = 0) → wj_X9_means_119 K5 K48 post x1 x2 x4 x6 u) ∧ ((¬ z0 = 0) → vp_in x6 40 ∧ ∀ y20 : Int32, y20 = u.2 8 x6.toNatClampNeg → vp_in x4 40 ∧ ∀ y21 : Int32, y21 = u.2 8 x4.toNatClampNeg → ∀ y22 : Int32, y22 = (y21 ^^^ (-1 : Int32)) → ∀ y23 : Int32, y23 = (y20 &&& y22) → ((¬ y23 = 0) → wj_X9_means_123 K5 K48 post x1 x2 x4 x6 u) ∧ ((y23 = 0) → wj_X9_means_119 K5 K48 post x1 x2 x4 x6 u)))
def wj_X9_means_86 (K5 : Int32 → Int32 → Int32 → Int32 → mS → Prop) (K48 : Int32 → Int32 → Int32 → Int32 → Int32 → mS → Prop) (post : Int32 → mS → Prop) (x1 x2 x4 x5 x6 : Int32) (u : mS) : Prop := wj_X9_means_87 K5 K48 post x1 x2 x4 x5 x6 (0 : Int32) u
def wj_X9_means_143 (K5 : Int32 → Int32 → Int32 → Int32 → mS → Prop) (post : Int32 → mS → Prop) (x1 x2 x3 x4 : Int32) (u : mS) : Prop := ∀ y26 : Int32, y26 = x4 + (1 : Int32) → K5 x1 x2 x3 y26 u
def wj_X9_means_48 (K48 : Int32 → Int32 → Int32 → Int32 → Int32 → mS → Prop) (K5 : Int32 → Int32 → Int32 → Int32 → mS → Prop) (post : Int32 → mS → Prop) (x1 x2 x4 x5 x6 : Int32) (u : mS) : Prop := ∀ y9 : Int32, y9 = (u.1 4) → ((y9 ≤ x6) → ((x5 = 0) → wj_X9_means_143 K5 post x1 x2 (-2 : Int32) x4 u) ∧ ((¬ x5 = 0) → post x4 u)) ∧ ((¬ y9 ≤ x6) → vp_in x6 40 ∧ ∀ y12 : Int32, y12 = u.2 7 x6.toNatClampNeg → ((¬ y12 = x1) → wj_X9_means_86 K5 K48 post x1 x2 x4 x5 x6 u) ∧ ((y12 = x1) → vp_in x6 40 ∧ ∀ y14 : Int32, y14 = u.2 8 x6.toNatClampNeg → ∀ y15 : Int32, y15 = (x2 ^^^ (-1 : Int32)) → ∀ y16 : Int32, y16 = (y14 &&& y15) → ((¬ y16 = 0) → wj_X9_means_86 K5 K48 post x1 x2 x4 x5 x6 u) ∧ ((y16 = 0) → wj_X9_means_87 K5 K48 post x1 x2 x4 x5 x6 (1 : Int32) u)))
def wj_X9_means_5 (K5 : Int32 → Int32 → Int32 → Int32 → mS → Prop) (post : Int32 → mS → Prop) (x1 x2 x3 x4 : Int32) (u : mS) : Prop := ∀ y1 : Int32, y1 = (u.1 4) → ((y1 ≤ x4) → post x3 u) ∧ ((¬ y1 ≤ x4) → vp_in x4 40 ∧ ∀ y3 : Int32, y3 = u.2 7 x4.toNatClampNeg → ((¬ y3 = x1) → wj_X9_means_143 K5 post x1 x2 x3 x4 u) ∧ ((y3 = x1) → vp_in x4 40 ∧ ∀ y5 : Int32, y5 = u.2 8 x4.toNatClampNeg → ∀ y6 : Int32, y6 = (x2 ^^^ (-1 : Int32)) → ∀ y7 : Int32, y7 = (y5 &&& y6) → ((y7 = 0) → ∃ n, mL6 (fun K => wj_X9_means_48 K K5 post) n x1 x2 x4 (1 : Int32) (0 : Int32) u) ∧ ((¬ y7 = 0) → wj_X9_means_143 K5 post x1 x2 x3 x4 u)))
def wp_X9_means (x1 x2 : Int32) (u : mS) (post : Int32 → mS → Prop) : Prop := ∃ n, mL5 (fun K => wj_X9_means_5 K post) n x1 x2 (-1 : Int32) (0 : Int32) u
def wp_X9_putVariable (x1 : Int32) (u : mS) (post : mS → Prop) : Prop := wp_X9_space  u (fun u2 => wp_X9_put (118 : Int32) u2 (fun u4 => wp_X9_putNumber x1 u4 (fun u6 => post u6)))
def wj_X9_word_106 (post : mS → Prop) (u : mS) : Prop := ∀ y28 : Int32, y28 = (u.1 1) → ∀ y29 : Int32, y29 = (y28 + (1 : Int32)) → ∀ u30 : mS, u30 = mSet u 1 y29 → post u30
def wj_X9_word_40 (post : mS → Prop) (z0 : Int32) (u : mS) : Prop := wp_X9_fails z0 u (fun u27 => wj_X9_word_106 post u27)
def wp_X9_word (u : mS) (post : mS → Prop) : Prop := ∀ y1 : Int32, y1 = (u.1 1) → wp_X9_what_2 y1 u (fun r2 u3 => ∀ y4 : Int32, y4 = (u3.1 1) → vp_in y4 2600 ∧ ∀ y5 : Int32, y5 = u3.2 2 y4.toNatClampNeg → wp_X9_means r2 y5 u3 (fun r6 u7 => ((0 ≤ r6) → vp_in r6 40 ∧ ∀ y9 : Int32, y9 = u7.2 9 r6.toNatClampNeg → ((¬ y9 = (1 : Int32)) → vp_in r6 40 ∧ ∀ y11 : Int32, y11 = u7.2 9 r6.toNatClampNeg → ((¬ y11 = (2 : Int32)) → wp_X9_fails (3 : Int32) u7 (fun u14 => wj_X9_word_106 post u14)) ∧ ((y11 = (2 : Int32)) → vp_in r6 40 ∧ ∀ y15 : Int32, y15 = u7.2 10 r6.toNatClampNeg → wp_X9_putVariable y15 u7 (fun u17 => wj_X9_word_106 post u17))) ∧ ((y9 = (1 : Int32)) → wp_X9_space  u7 (fun u19 => ∀ y20 : Int32, y20 = (u19.1 1) → wp_X9_what_2 y20 u19 (fun r21 u22 => wp_X9_putName r21 u22 (fun u24 => wj_X9_word_106 post u24))))) ∧ ((¬ 0 ≤ r6) → ((¬ r6 = (-1 : Int32)) → wj_X9_word_40 post (2 : Int32) u7) ∧ ((r6 = (-1 : Int32)) → wj_X9_word_40 post (1 : Int32) u7))))
def wj_X9_count_2_61 (K6 : Int32 → Int32 → mS → Prop) (post : Int32 → mS → Prop) (x2 z0 : Int32) (u : mS) : Prop := K6 x2 z0 u
def wj_X9_count_2_44 (K6 : Int32 → Int32 → mS → Prop) (post : Int32 → mS → Prop) (x3 x4 z0 : Int32) (u : mS) : Prop := ((x4 = 0) → wp_X9_end_2 x3 u (fun r11 u12 => wj_X9_count_2_61 K6 post z0 r11 u12)) ∧ ((¬ x4 = 0) → ∀ y13 : Int32, y13 = (x3 + (1 : Int32)) → wj_X9_count_2_61 K6 post z0 y13 u)
def wj_X9_count_2_30 (K6 : Int32 → Int32 → mS → Prop) (post : Int32 → mS → Prop) (x2 x3 z0 : Int32) (u : mS) : Prop := ((z0 = 0) → ∀ y9 : Int32, y9 = (x2 + (1 : Int32)) → wj_X9_count_2_44 K6 post x3 z0 y9 u) ∧ ((¬ z0 = 0) → wj_X9_count_2_44 K6 post x3 z0 x2 u)
def wj_X9_count_2_6 (K6 : Int32 → Int32 → mS → Prop) (post : Int32 → mS → Prop) (x2 x3 : Int32) (u : mS) : Prop := wp_X9_kind_2 x3 u (fun r2 u3 => ((r2 = (2 : Int32)) → post x2 u3) ∧ ((¬ r2 = (2 : Int32)) → wp_X9_kind_2 x3 u3 (fun r5 u6 => ((¬ r5 = (6 : Int32)) → wj_X9_count_2_30 K6 post x2 x3 (0 : Int32) u6) ∧ ((r5 = (6 : Int32)) → wj_X9_count_2_30 K6 post x2 x3 (1 : Int32) u6))))
def wp_X9_count_2 (x1 : Int32) (u : mS) (post : Int32 → mS → Prop) : Prop := ∀ y1 : Int32, y1 = (x1 + (1 : Int32)) → ∃ n, mL3 (fun K => wj_X9_count_2_6 K post) n (0 : Int32) y1 u
def wp_X9_isPlain_2 (x1 x2 : Int32) (u : mS) (post : Int32 → mS → Prop) : Prop := wp_X9_kind_2 x1 u (fun r1 u2 => ((¬ r1 = (1 : Int32)) → post (0 : Int32) u2) ∧ ((r1 = (1 : Int32)) → wp_X9_count_2 x1 u2 (fun r4 u5 => ((¬ r4 = x2) → post (0 : Int32) u5) ∧ ((r4 = x2) → wp_X9_dots_2 x1 u5 (fun r7 u8 => ((¬ r7 = 0) → post (0 : Int32) u8) ∧ ((r7 = 0) → post (1 : Int32) u8))))))
def wp_X9_scope (u : mS) (post : Int32 → mS → Prop) : Prop := ∀ y1 : Int32, y1 = (u.1 13) → ((¬ y1 = (30 : Int32)) → ∀ y3 : Int32, y3 = (u.1 13) → ∀ y4 : Int32, y4 = (y3 + (1 : Int32)) → ∀ u5 : mS, u5 = mSet u 13 y4 → ∀ y6 : Int32, y6 = (u5.1 13) → ∀ y7 : Int32, y7 = (y6 - (1 : Int32)) → ∀ y8 : Int32, y8 = ((1 : Int32) <<< (y7 &&& 31)) → post y8 u5) ∧ ((y1 = (30 : Int32)) → wp_X9_fails (6 : Int32) u (fun u10 => post (0 : Int32) u10))
def wj_X9_give_47 (K3 : Int32 → Int32 → Int32 → mS → Prop) (post : mS → Prop) (x2 x3 x4 z0 z1 : Int32) (u : mS) : Prop := vp_in z1 2600 ∧ ∀ u8 : mS, u8 = mPut u 2 z1.toNatClampNeg z0 → ∀ y9 : Int32, y9 = x4 + (1 : Int32) → K3 x2 x3 y9 u8
def wj_X9_give_3 (K3 : Int32 → Int32 → Int32 → mS → Prop) (post : mS → Prop) (x2 x3 x4 : Int32) (u : mS) : Prop := ((x2 ≤ x4) → post u) ∧ ((¬ x2 ≤ x4) → wp_X9_kind_2 x4 u (fun r2 u3 => ((¬ r2 = (3 : Int32)) → vp_in x4 2600 ∧ ∀ y5 : Int32, y5 = u3.2 2 x4.toNatClampNeg → wj_X9_give_47 K3 post x2 x3 x4 y5 x4 u3) ∧ ((r2 = (3 : Int32)) → vp_in x4 2600 ∧ ∀ y6 : Int32, y6 = u3.2 2 x4.toNatClampNeg → ∀ y7 : Int32, y7 = (y6 ||| x3) → wj_X9_give_47 K3 post x2 x3 x4 y7 x4 u3)))
def wp_X9_give (x1 x2 x3 : Int32) (u : mS) (post : mS → Prop) : Prop := ∃ n, mL4 (fun K => wj_X9_give_3 K post) n x2 x3 x1 u
def wj_X9_local_140 (post : mS → Prop) (u : mS) : Prop := wp_X9_fails (3 : Int32) u (fun u58 => post u58)
def wj_X9_local_123 (post : mS → Prop) (x1 x2 x3 x4 x5 z0 : Int32) (u : mS) : Prop := ((x3 = 0) → wj_X9_local_140 post u) ∧ ((¬ x3 = 0) → wp_X9_areRules x5 z0 u (fun r30 u31 => ((¬ r30 = 0) → wp_X9_scope  u31 (fun r33 u34 => ∀ y35 : Int32, y35 = (u34.1 12) → ((y35 = 0) → ∀ y37 : Int32, y37 = (x2 + (1 : Int32)) → ∀ y38 : Int32, y38 = (x2 + (2 : Int32)) → wp_X9_give y37 y38 r33 u34 (fun u40 => wp_X9_give x4 x1 r33 u40 (fun u42 => ∀ y43 : Int32, y43 = (x2 + (1 : Int32)) → wp_X9_what_2 y43 u42 (fun r44 u45 => ∀ y46 : Int32, y46 = (x2 + (1 : Int32)) → vp_in y46 2600 ∧ ∀ y47 : Int32, y47 = u45.2 2 y46.toNatClampNeg → wp_X9_bind r44 y47 (3 : Int32) x5 z0 u45 (fun u49 => ∀ u50 : mS, u50 = mSet u49 2 z0 → ∀ y51 : Int32, y51 = (x1 - (1 : Int32)) → vp_in y51 2600 ∧ ∀ u52 : mS, u52 = mPut u50 1 y51.toNatClampNeg (458752 : Int32) → ∀ y53 : Int32, y53 = (u52.1 11) → ∀ y54 : Int32, y54 = (y53 + (1 : Int32)) → ∀ u55 : mS, u55 = mSet u52 11 y54 → ∀ u56 : mS, u56 = mSet u55 1 x4 → post u56))))) ∧ ((¬ y35 = 0) → post u34))) ∧ ((r30 = 0) → wj_X9_local_140 post u31)))
def wj_X9_local_93 (post : mS → Prop) (x1 x2 x3 z0 : Int32) (u : mS) : Prop := ∀ y23 : Int32, y23 = (u.1 2) → ((x3 = 0) → wj_X9_local_123 post x1 x2 x3 z0 y23 y23 u) ∧ ((¬ x3 = 0) → ∀ y25 : Int32, y25 = (x2 + (2 : Int32)) → ∀ y26 : Int32, y26 = (z0 - (1 : Int32)) → wp_X9_keep y25 y26 y23 u (fun r27 u28 => wj_X9_local_123 post x1 x2 x3 z0 y23 r27 u28))
def wj_X9_local_76 (post : mS → Prop) (x1 x2 z0 : Int32) (u : mS) : Prop := ((z0 = 0) → wj_X9_local_93 post x1 x2 z0 (0 : Int32) u) ∧ ((¬ z0 = 0) → wp_X9_end_2 x2 u (fun r21 u22 => wj_X9_local_93 post x1 x2 z0 r21 u22))
def wj_X9_local_75 (post : mS → Prop) (x1 x2 : Int32) (u : mS) : Prop := wj_X9_local_76 post x1 x2 (0 : Int32) u
def wp_X9_local (u : mS) (post : mS → Prop) : Prop := ∀ y1 : Int32, y1 = (u.1 1) → wp_X9_end_2 y1 u (fun r2 u3 => ∀ y4 : Int32, y4 = (u3.1 1) → ∀ y5 : Int32, y5 = (y4 + (2 : Int32)) → ∀ y6 : Int32, y6 = (u3.1 1) → wp_X9_isPlain_2 y6 (3 : Int32) u3 (fun r7 u8 => ((r7 = 0) → wj_X9_local_75 post r2 y5 u8) ∧ ((¬ r7 = 0) → wp_X9_kind_2 y5 u8 (fun r10 u11 => ((¬ r10 = (1 : Int32)) → wj_X9_local_75 post r2 y5 u11) ∧ ((r10 = (1 : Int32)) → ∀ y13 : Int32, y13 = (y5 + (1 : Int32)) → wp_X9_kind_2 y13 u11 (fun r14 u15 => ((¬ r14 = (3 : Int32)) → wj_X9_local_75 post r2 y5 u15) ∧ ((r14 = (3 : Int32)) → wp_X9_dots_2 y5 u15 (fun r17 u18 => ((¬ r17 = 0) → wj_X9_local_75 post r2 y5 u18) ∧ ((r17 = 0) → wj_X9_local_76 post r2 y5 (1 : Int32) u18)))))))))
def wj_X9_function_106 (K75 : Int32 → Int32 → Int32 → Int32 → Int32 → mS → Prop) (post : mS → Prop) (x1 x2 x4 x5 z0 : Int32) (u : mS) : Prop := ∀ y34 : Int32, y34 = x5 + (1 : Int32) → K75 x1 x2 z0 x4 y34 u
def wj_X9_function_105 (K75 : Int32 → Int32 → Int32 → Int32 → Int32 → mS → Prop) (post : mS → Prop) (x1 x2 x4 x5 : Int32) (u : mS) : Prop := wj_X9_function_106 K75 post x1 x2 x4 x5 (0 : Int32) u
def wj_X9_function_223 (K156 : Int32 → Int32 → Int32 → Int32 → mS → Prop) (K177 : Int32 → Int32 → Int32 → Int32 → Int32 → mS → Prop) (post : mS → Prop) (x2 x4 x6 x7 x8 : Int32) (u : mS) : Prop := ∀ y57 : Int32, y57 = x8 + (1 : Int32) → K177 x2 x4 x6 x7 y57 u
def wj_X9_function_283 (K156 : Int32 → Int32 → Int32 → Int32 → mS → Prop) (post : mS → Prop) (x2 x4 x6 x7 z0 : Int32) (u : mS) : Prop := ∀ u63 : mS, u63 = mSet u 14 z0 → ∀ y64 : Int32, y64 = x7 + (1 : Int32) → K156 x2 x4 x6 y64 u63
def wj_X9_function_262 (K156 : Int32 → Int32 → Int32 → Int32 → mS → Prop) (post : mS → Prop) (x2 x4 x6 x7 : Int32) (u : mS) : Prop := ∀ y58 : Int32, y58 = (u.1 12) → ((¬ y58 = 0) → ∀ y60 : Int32, y60 = (u.1 14) → wj_X9_function_283 K156 post x2 x4 x6 x7 y60 u) ∧ ((y58 = 0) → ∀ y61 : Int32, y61 = (u.1 14) → ∀ y62 : Int32, y62 = (y61 + (1 : Int32)) → wj_X9_function_283 K156 post x2 x4 x6 x7 y62 u)
def wj_X9_function_177 (K177 : Int32 → Int32 → Int32 → Int32 → Int32 → mS → Prop) (K156 : Int32 → Int32 → Int32 → Int32 → mS → Prop) (post : mS → Prop) (x2 x4 x6 x7 x8 : Int32) (u : mS) : Prop := ((x7 ≤ x8) → ∀ y41 : Int32, y41 = (u.1 12) → ((¬ y41 = 0) → wj_X9_function_262 K156 post x2 x4 x6 x7 u) ∧ ((y41 = 0) → wp_X9_what_2 x7 u (fun r43 u44 => vp_in x7 2600 ∧ ∀ y45 : Int32, y45 = u44.2 2 x7.toNatClampNeg → ∀ y46 : Int32, y46 = (u44.1 14) → wp_X9_bind r43 y45 (2 : Int32) y46 (0 : Int32) u44 (fun u48 => wj_X9_function_262 K156 post x2 x4 x6 x7 u48)))) ∧ ((¬ x7 ≤ x8) → vp_in x8 2600 ∧ ∀ y49 : Int32, y49 = u.2 1 x8.toNatClampNeg → vp_in x7 2600 ∧ ∀ y50 : Int32, y50 = u.2 1 x7.toNatClampNeg → ((¬ y49 = y50) → wj_X9_function_223 K156 K177 post x2 x4 x6 x7 x8 u) ∧ ((y49 = y50) → vp_in x8 2600 ∧ ∀ y52 : Int32, y52 = u.2 2 x8.toNatClampNeg → vp_in x7 2600 ∧ ∀ y53 : Int32, y53 = u.2 2 x7.toNatClampNeg → ((¬ y52 = y53) → wj_X9_function_223 K156 K177 post x2 x4 x6 x7 x8 u) ∧ ((y52 = y53) → wp_X9_fails (3 : Int32) u (fun u56 => wj_X9_function_223 K156 K177 post x2 x4 x6 x7 x8 u56))))
def wj_X9_function_333 (K333 : Int32 → Int32 → mS → Prop) (post : mS → Prop) (x4 x7 : Int32) (u : mS) : Prop := ∀ y79 : Int32, y79 = (u.1 14) → ((y79 ≤ x7) → wp_X9_putClose  u (fun u82 => ∀ y83 : Int32, y83 = (u82.1 11) → ∀ y84 : Int32, y84 = (y83 + (1 : Int32)) → ∀ u85 : mS, u85 = mSet u82 11 y84 → ∀ u86 : mS, u86 = mSet u85 1 x4 → post u86)) ∧ ((¬ y79 ≤ x7) → wp_X9_putVariable x7 u (fun u88 => ∀ y89 : Int32, y89 = x7 + (1 : Int32) → K333 x4 y89 u88))
def wj_X9_function_292 (post : mS → Prop) (x4 x6 : Int32) (u : mS) : Prop := ∀ y65 : Int32, y65 = (u.1 12) → ((y65 = 0) → wp_X9_putOpen  u (fun u68 => wp_X9_space  u68 (fun u70 => ∀ y71 : Int32, y71 = (u70.1 1) → ∀ y72 : Int32, y72 = (y71 + (1 : Int32)) → wp_X9_what_2 y72 u70 (fun r73 u74 => wp_X9_putName r73 u74 (fun u76 => wp_X9_putOpen  u76 (fun u78 => ∃ n, mL3 (fun K => wj_X9_function_333 K post) n x4 x6 u78)))))) ∧ ((¬ y65 = 0) → post u)
def wj_X9_function_156 (K156 : Int32 → Int32 → Int32 → Int32 → mS → Prop) (post : mS → Prop) (x2 x4 x6 x7 : Int32) (u : mS) : Prop := ∀ y35 : Int32, y35 = (x4 - (1 : Int32)) → ((y35 ≤ x7) → wj_X9_function_292 post x4 x6 u) ∧ ((¬ y35 ≤ x7) → ∀ y37 : Int32, y37 = (u.1 12) → ((¬ y37 = 0) → wj_X9_function_292 post x4 x6 u) ∧ ((y37 = 0) → ∀ y39 : Int32, y39 = (x2 + (1 : Int32)) → ∃ n, mL6 (fun K => wj_X9_function_177 K K156 post) n x2 x4 x6 x7 y39 u))
def wj_X9_function_75 (K75 : Int32 → Int32 → Int32 → Int32 → Int32 → mS → Prop) (post : mS → Prop) (x1 x2 x3 x4 x5 : Int32) (u : mS) : Prop := ∀ y17 : Int32, y17 = (x4 - (1 : Int32)) → ((y17 ≤ x5) → ((¬ x3 = 0) → wp_X9_scope  u (fun r20 u21 => ∀ y22 : Int32, y22 = (u21.1 12) → ((y22 = 0) → wp_X9_give x2 x1 r20 u21 (fun u25 => ∀ y26 : Int32, y26 = (u25.1 14) → ∀ y27 : Int32, y27 = (x2 + (1 : Int32)) → ∃ n, mL5 (fun K => wj_X9_function_156 K post) n x2 x4 y26 y27 u25)) ∧ ((¬ y22 = 0) → post u21))) ∧ ((x3 = 0) → wp_X9_fails (3 : Int32) u (fun u29 => post u29))) ∧ ((¬ y17 ≤ x5) → ((x3 = 0) → wj_X9_function_105 K75 post x1 x2 x4 x5 u) ∧ ((¬ x3 = 0) → wp_X9_kind_2 x5 u (fun r31 u32 => ((¬ r31 = (3 : Int32)) → wj_X9_function_105 K75 post x1 x2 x4 x5 u32) ∧ ((r31 = (3 : Int32)) → wj_X9_function_106 K75 post x1 x2 x4 x5 (1 : Int32) u32))))
def wj_X9_function_68 (post : mS → Prop) (x1 x2 x3 z0 : Int32) (u : mS) : Prop := ∀ y16 : Int32, y16 = (x2 + (1 : Int32)) → ∃ n, mL6 (fun K => wj_X9_function_75 K post) n x1 x2 x3 z0 y16 u
def wj_X9_function_51 (post : mS → Prop) (x1 x2 z0 : Int32) (u : mS) : Prop := ((z0 = 0) → wj_X9_function_68 post x1 x2 z0 (0 : Int32) u) ∧ ((¬ z0 = 0) → wp_X9_end_2 x2 u (fun r14 u15 => wj_X9_function_68 post x1 x2 z0 r14 u15))
def wj_X9_function_50 (post : mS → Prop) (x1 x2 : Int32) (u : mS) : Prop := wj_X9_function_51 post x1 x2 (0 : Int32) u
def wp_X9_function (u : mS) (post : mS → Prop) : Prop := ∀ y1 : Int32, y1 = (u.1 1) → wp_X9_end_2 y1 u (fun r2 u3 => ∀ y4 : Int32, y4 = (u3.1 1) → ∀ y5 : Int32, y5 = (y4 + (2 : Int32)) → ∀ y6 : Int32, y6 = (u3.1 1) → wp_X9_isPlain_2 y6 (3 : Int32) u3 (fun r7 u8 => ((r7 = 0) → wj_X9_function_50 post r2 y5 u8) ∧ ((¬ r7 = 0) → wp_X9_kind_2 y5 u8 (fun r10 u11 => ((¬ r10 = (1 : Int32)) → wj_X9_function_50 post r2 y5 u11) ∧ ((r10 = (1 : Int32)) → wj_X9_function_51 post r2 y5 (1 : Int32) u11)))))
def wj_X9_form_148 (post : mS → Prop) (x2 : Int32) (u : mS) : Prop := ∀ u41 : mS, u41 = mSet u 1 x2 → post u41
def wj_X9_form_125 (K125 : Int32 → Int32 → mS → Prop) (post : mS → Prop) (x2 x3 : Int32) (u : mS) : Prop := ((x2 ≤ x3) → wj_X9_form_148 post x2 u) ∧ ((¬ x2 ≤ x3) → ∀ y36 : Int32, y36 = (u.1 12) → ((¬ y36 = 0) → wj_X9_form_148 post x2 u) ∧ ((y36 = 0) → wp_X9_putToken x3 u (fun u39 => ∀ y40 : Int32, y40 = x3 + (1 : Int32) → K125 x2 y40 u39)))
def wj_X9_form_41 (post : mS → Prop) (x1 z0 z1 : Int32) (u : mS) : Prop := wp_X9_isPlain_2 z1 z0 u (fun r9 u10 => ((¬ r9 = 0) → ((¬ x1 = (1 : Int32)) → ∀ y13 : Int32, y13 = (u10.1 1) → wp_X9_end_2 y13 u10 (fun r14 u15 => ∀ y16 : Int32, y16 = (u15.1 1) → ∃ n, mL3 (fun K => wj_X9_form_125 K post) n r14 y16 u15)) ∧ ((x1 = (1 : Int32)) → wp_X9_putOpen  u10 (fun u18 => wp_X9_space  u18 (fun u20 => ∀ y21 : Int32, y21 = (u20.1 1) → ∀ y22 : Int32, y22 = (y21 + (1 : Int32)) → wp_X9_what_2 y22 u20 (fun r23 u24 => wp_X9_putName r23 u24 (fun u26 => ∀ y27 : Int32, y27 = (u26.1 11) → ∀ y28 : Int32, y28 = (y27 + (1 : Int32)) → ∀ u29 : mS, u29 = mSet u26 11 y28 → ∀ y30 : Int32, y30 = (u29.1 1) → ∀ y31 : Int32, y31 = (y30 + (2 : Int32)) → ∀ u32 : mS, u32 = mSet u29 1 y31 → post u32)))))) ∧ ((r9 = 0) → wp_X9_fails (3 : Int32) u10 (fun u34 => post u34)))
def wp_X9_form (x1 : Int32) (u : mS) (post : mS → Prop) : Prop := ((¬ x1 = 0) → ((¬ x1 = (3 : Int32)) → ∀ y3 : Int32, y3 = (u.1 1) → ((¬ x1 = (1 : Int32)) → wj_X9_form_41 post x1 (2 : Int32) y3 u) ∧ ((x1 = (1 : Int32)) → wj_X9_form_41 post x1 (4 : Int32) y3 u)) ∧ ((x1 = (3 : Int32)) → wp_X9_local  u (fun u6 => post u6))) ∧ ((x1 = 0) → wp_X9_function  u (fun u8 => post u8))
def wj_X9_turn_2_3_37 (K3 : Int32 → Int32 → Int32 → mS → Prop) (post : mS → Prop) (x4 x5 x6 z0 z1 : Int32) (u : mS) : Prop := vp_in z1 2600 ∧ ∀ u8 : mS, u8 = mPut u 2 z1.toNatClampNeg z0 → ∀ y9 : Int32, y9 = x6 + (1 : Int32) → K3 x4 x5 y9 u8
def wj_X9_turn_2_3_3 (K3 : Int32 → Int32 → Int32 → mS → Prop) (post : mS → Prop) (x4 x5 x6 : Int32) (u : mS) : Prop := ((x4 ≤ x6) → post u) ∧ ((¬ x4 ≤ x6) → wp_X9_kind_2 x6 u (fun r2 u3 => ((¬ r2 = (3 : Int32)) → vp_in x6 2600 ∧ ∀ y5 : Int32, y5 = u3.2 2 x6.toNatClampNeg → wj_X9_turn_2_3_37 K3 post x4 x5 x6 y5 x6 u3) ∧ ((r2 = (3 : Int32)) → vp_in x6 2600 ∧ ∀ y6 : Int32, y6 = u3.2 2 x6.toNatClampNeg → ∀ y7 : Int32, y7 = (y6 ^^^ x5) → wj_X9_turn_2_3_37 K3 post x4 x5 x6 y7 x6 u3)))
def wp_X9_turn_2_3 (x3 x4 x5 : Int32) (u : mS) (post : mS → Prop) : Prop := ∃ n, mL4 (fun K => wj_X9_turn_2_3_3 K post) n x4 x5 x3 u
def wj_X9_pairs_177 (K105 : Int32 → Int32 → Int32 → Int32 → Int32 → Int32 → Int32 → mS → Prop) (post : Int32 → mS → Prop) (x4 x5 x7 x8 x10 x11 z0 : Int32) (u : mS) : Prop := ∀ y29 : Int32, y29 = x11 + (1 : Int32) → K105 x4 x5 x7 x8 z0 x10 y29 u
def wj_X9_pairs_143 (K105 : Int32 → Int32 → Int32 → Int32 → Int32 → Int32 → Int32 → mS → Prop) (post : Int32 → mS → Prop) (x4 x5 x7 x8 x9 x10 x11 : Int32) (u : mS) : Prop := wp_X9_end_2 x10 u (fun r23 u24 => ∀ y25 : Int32, y25 = (x11 + (1 : Int32)) → ((x5 ≤ y25) → wj_X9_pairs_177 K105 post x4 x5 x7 x8 r23 x11 x9 u24) ∧ ((¬ x5 ≤ y25) → wp_X9_end_4 x9 u24 (fun r27 u28 => wj_X9_pairs_177 K105 post x4 x5 x7 x8 r23 x11 r27 u28)))
def wj_X9_pairs_122 (K105 : Int32 → Int32 → Int32 → Int32 → Int32 → Int32 → Int32 → mS → Prop) (post : Int32 → mS → Prop) (x4 x5 x7 x8 x9 x10 x11 : Int32) (u : mS) : Prop := vp_in x8 400 ∧ ∀ u30 : mS, u30 = mPut u 14 x8.toNatClampNeg x9 → vp_in x8 400 ∧ ∀ u31 : mS, u31 = mPut u30 15 x8.toNatClampNeg x10 → ∀ y32 : Int32, y32 = x8 + (1 : Int32) → wj_X9_pairs_143 K105 post x4 x5 x7 y32 x9 x10 x11 u31
def wj_X9_pairs_105 (K105 : Int32 → Int32 → Int32 → Int32 → Int32 → Int32 → Int32 → mS → Prop) (post : Int32 → mS → Prop) (x4 x5 x7 x8 x9 x10 x11 : Int32) (u : mS) : Prop := ((x7 ≤ x11) → post x8 u) ∧ ((¬ x7 ≤ x11) → ((0 < x11) → wj_X9_pairs_122 K105 post x4 x5 x7 x8 x9 x10 x11 u) ∧ ((¬ 0 < x11) → ((¬ x4 = 0) → wj_X9_pairs_143 K105 post x4 x5 x7 x8 x9 x10 x11 u) ∧ ((x4 = 0) → wj_X9_pairs_122 K105 post x4 x5 x7 x8 x9 x10 x11 u)))
def wj_X9_pairs_89 (post : Int32 → mS → Prop) (x1 x2 x3 x4 x5 x7 : Int32) (u : mS) : Prop := ∀ y18 : Int32, y18 = (x2 + (1 : Int32)) → ∀ y19 : Int32, y19 = (x3 + (1 : Int32)) → ∃ n, mL8 (fun K => wj_X9_pairs_105 K post) n x4 x5 x7 x1 y18 y19 (0 : Int32) u
def wj_X9_pairs_51 (post : Int32 → mS → Prop) (x1 x2 x3 x4 x5 z0 : Int32) (u : mS) : Prop := wp_X9_count_2 x3 u (fun r12 u13 => ((z0 = 0) → ((r12 = x5) → wj_X9_pairs_89 post x1 x2 x3 x4 x5 r12 u13) ∧ ((¬ r12 = x5) → post (-1 : Int32) u13)) ∧ ((¬ z0 = 0) → ∀ y16 : Int32, y16 = (x5 - (1 : Int32)) → ((y16 ≤ r12) → wj_X9_pairs_89 post x1 x2 x3 x4 x5 r12 u13) ∧ ((¬ y16 ≤ r12) → post (-1 : Int32) u13)))
def wp_X9_pairs (x1 x2 x3 x4 : Int32) (u : mS) (post : Int32 → mS → Prop) : Prop := wp_X9_kind_2 x3 u (fun r1 u2 => ((¬ r1 = (1 : Int32)) → post (-1 : Int32) u2) ∧ ((r1 = (1 : Int32)) → wp_X9_dots_2 x3 u2 (fun r4 u5 => ((r4 ≤ 0) → wp_X9_count_4 x2 u5 (fun r7 u8 => wp_X9_dots_4 x2 u8 (fun r9 u10 => ((r9 ≤ 0) → wj_X9_pairs_51 post x1 x2 x3 x4 r7 (0 : Int32) u10) ∧ ((¬ r9 ≤ 0) → wj_X9_pairs_51 post x1 x2 x3 x4 r7 (1 : Int32) u10)))) ∧ ((¬ r4 ≤ 0) → post (-1 : Int32) u5))))
def wj_X9_matches_89 (K9 : Int32 → mS → Prop) (post : Int32 → mS → Prop) (x3 : Int32) (u : mS) : Prop := K9 x3 u
def wj_X9_matches_72 (K9 : Int32 → mS → Prop) (post : Int32 → mS → Prop) (x3 x4 x5 x6 : Int32) (u : mS) : Prop := ((¬ x6 = (1 : Int32)) → wj_X9_matches_89 K9 post x3 u) ∧ ((x6 = (1 : Int32)) → wp_X9_pairs x3 x4 x5 (0 : Int32) u (fun r17 u18 => wj_X9_matches_89 K9 post r17 u18))
def wj_X9_matches_9 (K9 : Int32 → mS → Prop) (post : Int32 → mS → Prop) (x3 : Int32) (u : mS) : Prop := ((x3 ≤ 0) → ((¬ x3 = 0) → post (0 : Int32) u) ∧ ((x3 = 0) → post (1 : Int32) u)) ∧ ((¬ x3 ≤ 0) → ∀ y5 : Int32, y5 = (x3 - (1 : Int32)) → vp_in y5 400 ∧ ∀ y6 : Int32, y6 = u.2 14 y5.toNatClampNeg → ∀ y7 : Int32, y7 = (x3 - (1 : Int32)) → vp_in y7 400 ∧ ∀ y8 : Int32, y8 = u.2 15 y7.toNatClampNeg → ∀ y9 : Int32, y9 = x3 + (-1 : Int32) → wp_X9_kind_4 y6 u (fun r10 u11 => ((¬ r10 = (4 : Int32)) → wj_X9_matches_72 K9 post y9 y6 y8 r10 u11) ∧ ((r10 = (4 : Int32)) → vp_in y6 3200 ∧ ∀ y13 : Int32, y13 = u11.2 3 y6.toNatClampNeg → vp_in y8 2600 ∧ ∀ y14 : Int32, y14 = u11.2 1 y8.toNatClampNeg → ((y13 = y14) → wj_X9_matches_72 K9 post y9 y6 y8 r10 u11) ∧ ((¬ y13 = y14) → post (0 : Int32) u11))))
def wp_X9_matches (x1 x2 : Int32) (u : mS) (post : Int32 → mS → Prop) : Prop := wp_X9_pairs (0 : Int32) x1 x2 (1 : Int32) u (fun r1 u2 => ∃ n, mL2 (fun K => wj_X9_matches_9 K post) n r1 u2)
def wp_X9_isHeld (x1 : Int32) (u : mS) (post : Int32 → mS → Prop) : Prop := ∀ y1 : Int32, y1 = (u.1 8) → ((y1 ≤ 0) → post (0 : Int32) u) ∧ ((¬ y1 ≤ 0) → ∀ y3 : Int32, y3 = (u.1 8) → ∀ y4 : Int32, y4 = (y3 - (1 : Int32)) → vp_in y4 3 ∧ ∀ y5 : Int32, y5 = u.2 16 y4.toNatClampNeg → ((¬ y5 = x1) → post (0 : Int32) u) ∧ ((y5 = x1) → post (1 : Int32) u))
def wj_X9_walk_168 (K9 : Int32 → Int32 → Int32 → Int32 → Int32 → mS → Prop) (post : Int32 → mS → Prop) (x3 x4 x7 x8 x9 : Int32) (u : mS) : Prop := K9 x3 x4 x8 x9 x7 u
def wj_X9_walk_136 (K136 : Int32 → Int32 → Int32 → Int32 → Int32 → Int32 → mS → Prop) (K9 : Int32 → Int32 → Int32 → Int32 → Int32 → mS → Prop) (post : Int32 → mS → Prop) (x3 x4 x7 x8 x9 x12 : Int32) (u : mS) : Prop := vp_in x7 3 ∧ ∀ y23 : Int32, y23 = u.2 18 x7.toNatClampNeg → ((y23 ≤ x12) → ∀ y25 : Int32, y25 = x7 + (1 : Int32) → wj_X9_walk_168 K9 post x3 x4 y25 x8 x9 u) ∧ ((¬ y23 ≤ x12) → wp_X9_end_2 x9 u (fun r26 u27 => ∀ y28 : Int32, y28 = x12 + (1 : Int32) → K136 x3 x4 x7 x8 r26 y28 u27))
def wj_X9_walk_93 (K93 : Int32 → Int32 → Int32 → Int32 → Int32 → Int32 → Int32 → mS → Prop) (K9 : Int32 → Int32 → Int32 → Int32 → Int32 → mS → Prop) (post : Int32 → mS → Prop) (x3 x4 x7 x8 x9 x10 x11 : Int32) (u : mS) : Prop := wp_X9_kind_2 x11 u (fun r16 u17 => ((r16 = (2 : Int32)) → ((¬ x7 = x4) → ∃ n, mL7 (fun K => wj_X9_walk_136 K K9 post) n x3 x4 x7 x8 x9 (0 : Int32) u17) ∧ ((x7 = x4) → post x10 u17)) ∧ ((¬ r16 = (2 : Int32)) → wp_X9_end_2 x11 u17 (fun r20 u21 => ∀ y22 : Int32, y22 = x10 + (1 : Int32) → K93 x3 x4 x7 x8 x9 y22 r20 u21)))
def wj_X9_walk_27 (K27 : Int32 → Int32 → Int32 → Int32 → Int32 → mS → Prop) (K9 : Int32 → Int32 → Int32 → Int32 → Int32 → mS → Prop) (post : Int32 → mS → Prop) (x3 x4 x7 x8 x9 : Int32) (u : mS) : Prop := wp_X9_end_4 x8 u (fun r4 u5 => ((x3 < r4) → wp_X9_end_4 x8 u5 (fun r7 u8 => wp_X9_kind_4 r7 u8 (fun r9 u10 => ((¬ r9 = (6 : Int32)) → wj_X9_walk_168 K9 post x3 x4 x7 x8 x9 u10) ∧ ((r9 = (6 : Int32)) → ∃ n, mL8 (fun K => wj_X9_walk_93 K K9 post) n x3 x4 x7 x8 x9 (0 : Int32) x9 u10)))) ∧ ((¬ x3 < r4) → wp_X9_end_4 x8 u5 (fun r12 u13 => wp_X9_end_2 x9 u13 (fun r14 u15 => K27 x3 x4 x7 r12 r14 u15))))
def wj_X9_walk_9 (K9 : Int32 → Int32 → Int32 → Int32 → Int32 → mS → Prop) (post : Int32 → mS → Prop) (x3 x4 x5 x6 x7 : Int32) (u : mS) : Prop := ((x5 = x3) → post x6 u) ∧ ((¬ x5 = x3) → ∀ y2 : Int32, y2 = (x5 + (1 : Int32)) → ∀ y3 : Int32, y3 = (x6 + (1 : Int32)) → ∃ n, mL6 (fun K => wj_X9_walk_27 K K9 post) n x3 x4 x7 y2 y3 u)
def wp_X9_walk (x1 x2 x3 x4 : Int32) (u : mS) (post : Int32 → mS → Prop) : Prop := ∃ n, mL6 (fun K => wj_X9_walk_9 K post) n x3 x4 x1 x2 (0 : Int32) u
def wj_X9_roundsOf_93 (K7 : Int32 → Int32 → Int32 → Int32 → Int32 → mS → Prop) (post : Int32 → mS → Prop) (x1 x2 x4 x5 x6 : Int32) (u : mS) : Prop := ∀ y15 : Int32, y15 = x6 + (1 : Int32) → K7 x1 x2 x4 x5 y15 u
def wj_X9_roundsOf_91 (K7 : Int32 → Int32 → Int32 → Int32 → Int32 → mS → Prop) (post : Int32 → mS → Prop) (x1 x2 x4 x6 z0 : Int32) (u : mS) : Prop := wj_X9_roundsOf_93 K7 post x1 x2 x4 z0 x6 u
def wj_X9_roundsOf_85 (K7 : Int32 → Int32 → Int32 → Int32 → Int32 → mS → Prop) (post : Int32 → mS → Prop) (x1 x2 x4 x6 x8 : Int32) (u : mS) : Prop := wj_X9_roundsOf_91 K7 post x1 x2 x4 x6 x8 u
def wj_X9_roundsOf_50 (K7 : Int32 → Int32 → Int32 → Int32 → Int32 → mS → Prop) (post : Int32 → mS → Prop) (x1 x2 x4 x5 x6 z0 : Int32) (u : mS) : Prop := ((z0 < 0) → wj_X9_roundsOf_93 K7 post x1 x2 x4 x5 x6 u) ∧ ((¬ z0 < 0) → ∀ y10 : Int32, y10 = (u.1 8) → wp_X9_walk x1 x2 z0 y10 u (fun r11 u12 => ((x5 = (-2 : Int32)) → wj_X9_roundsOf_85 K7 post x1 x2 x4 x6 r11 u12) ∧ ((¬ x5 = (-2 : Int32)) → ((¬ x5 = r11) → wj_X9_roundsOf_91 K7 post x1 x2 x4 x6 (-1 : Int32) u12) ∧ ((x5 = r11) → wj_X9_roundsOf_85 K7 post x1 x2 x4 x6 r11 u12))))
def wj_X9_roundsOf_7 (K7 : Int32 → Int32 → Int32 → Int32 → Int32 → mS → Prop) (post : Int32 → mS → Prop) (x1 x2 x4 x5 x6 : Int32) (u : mS) : Prop := ((x4 ≤ x6) → post x5 u) ∧ ((¬ x4 ≤ x6) → wp_X9_kind_4 x6 u (fun r2 u3 => ((¬ r2 = (3 : Int32)) → wj_X9_roundsOf_50 K7 post x1 x2 x4 x5 x6 (-1 : Int32) u3) ∧ ((r2 = (3 : Int32)) → vp_in x6 3200 ∧ ∀ y5 : Int32, y5 = u3.2 3 x6.toNatClampNeg → vp_in x6 3200 ∧ ∀ y6 : Int32, y6 = u3.2 4 x6.toNatClampNeg → wp_X9_variable x1 y5 y6 u3 (fun r7 u8 => wj_X9_roundsOf_50 K7 post x1 x2 x4 x5 x6 r7 u8))))
def wp_X9_roundsOf (x1 x2 x3 x4 : Int32) (u : mS) (post : Int32 → mS → Prop) : Prop := ∃ n, mL6 (fun K => wj_X9_roundsOf_7 K post) n x1 x2 x4 (-2 : Int32) x3 u
def wj_X9_hold_31 (post : Int32 → mS → Prop) (x3 x4 x5 : Int32) (u : mS) : Prop := ((0 < x5) → ∀ y9 : Int32, y9 = (u.1 8) → vp_in y9 3 ∧ ∀ u10 : mS, u10 = mPut u 16 y9.toNatClampNeg x3 → ∀ y11 : Int32, y11 = (u10.1 8) → vp_in y11 3 ∧ ∀ u12 : mS, u12 = mPut u10 17 y11.toNatClampNeg x5 → ∀ y13 : Int32, y13 = (u12.1 8) → vp_in y13 3 ∧ ∀ u14 : mS, u14 = mPut u12 18 y13.toNatClampNeg (0 : Int32) → ∀ y15 : Int32, y15 = (u14.1 8) → ∀ y16 : Int32, y16 = (y15 + (1 : Int32)) → ∀ u17 : mS, u17 = mSet u14 8 y16 → post x3 u17) ∧ ((¬ 0 < x5) → ∀ y18 : Int32, y18 = (x4 + (1 : Int32)) → post y18 u)
def wp_X9_hold (x1 x2 x3 : Int32) (u : mS) (post : Int32 → mS → Prop) : Prop := wp_X9_end_4 x3 u (fun r1 u2 => wp_X9_roundsOf x1 x2 x3 r1 u2 (fun r3 u4 => ((0 ≤ r3) → wj_X9_hold_31 post x3 r1 r3 u4) ∧ ((¬ 0 ≤ r3) → wp_X9_fails (4 : Int32) u4 (fun u7 => wj_X9_hold_31 post x3 r1 r3 u7))))
def wp_X9_again (x1 : Int32) (u : mS) (post : Int32 → mS → Prop) : Prop := ∀ y1 : Int32, y1 = (u.1 8) → ∀ y2 : Int32, y2 = (y1 - (1 : Int32)) → vp_in y2 3 ∧ ∀ y3 : Int32, y3 = u.2 18 y2.toNatClampNeg → ∀ y4 : Int32, y4 = (y3 + (1 : Int32)) → vp_in y2 3 ∧ ∀ u5 : mS, u5 = mPut u 18 y2.toNatClampNeg y4 → ∀ y6 : Int32, y6 = (u5.1 8) → ∀ y7 : Int32, y7 = (y6 - (1 : Int32)) → vp_in y7 3 ∧ ∀ y8 : Int32, y8 = u5.2 18 y7.toNatClampNeg → ∀ y9 : Int32, y9 = (u5.1 8) → ∀ y10 : Int32, y10 = (y9 - (1 : Int32)) → vp_in y10 3 ∧ ∀ y11 : Int32, y11 = u5.2 17 y10.toNatClampNeg → ((y11 ≤ y8) → ∀ y13 : Int32, y13 = (u5.1 8) → ∀ y14 : Int32, y14 = (y13 - (1 : Int32)) → ∀ u15 : mS, u15 = mSet u5 8 y14 → ∀ y16 : Int32, y16 = (x1 + (1 : Int32)) → post y16 u15) ∧ ((¬ y11 ≤ y8) → ∀ y17 : Int32, y17 = (u5.1 8) → ∀ y18 : Int32, y18 = (y17 - (1 : Int32)) → vp_in y18 3 ∧ ∀ y19 : Int32, y19 = u5.2 16 y18.toNatClampNeg → post y19 u5)
def wj_X9_add_26 (post : mS → Prop) (x1 x2 : Int32) (u : mS) : Prop := ∀ y7 : Int32, y7 = (u.1 7) → ((y7 ≤ (100 : Int32)) → ∀ y9 : Int32, y9 = (u.1 6) → vp_in y9 310 ∧ ∀ u10 : mS, u10 = mPut u 12 y9.toNatClampNeg x1 → ∀ y11 : Int32, y11 = (u10.1 6) → vp_in y11 310 ∧ ∀ u12 : mS, u12 = mPut u10 13 y11.toNatClampNeg x2 → ∀ y13 : Int32, y13 = (u12.1 6) → ∀ y14 : Int32, y14 = (y13 + (1 : Int32)) → ∀ u15 : mS, u15 = mSet u12 6 y14 → post u15) ∧ ((¬ y7 ≤ (100 : Int32)) → wp_X9_fails (6 : Int32) u (fun u17 => post u17))
def wp_X9_add (x1 x2 : Int32) (u : mS) (post : mS → Prop) : Prop := ∀ y1 : Int32, y1 = (x1 / (65536 : Int32)) → ((y1 = (2 : Int32)) → wj_X9_add_26 post x1 x2 u) ∧ ((¬ y1 = (2 : Int32)) → ((y1 = (6 : Int32)) → wj_X9_add_26 post x1 x2 u) ∧ ((¬ y1 = (6 : Int32)) → ∀ y4 : Int32, y4 = (u.1 7) → ∀ y5 : Int32, y5 = (y4 + (1 : Int32)) → ∀ u6 : mS, u6 = mSet u 7 y5 → wj_X9_add_26 post x1 x2 u6))
def wj_X9_bring_11 (K11 : Int32 → Int32 → mS → Prop) (post : mS → Prop) (x2 x3 : Int32) (u : mS) : Prop := ((x2 ≤ x3) → post u) ∧ ((¬ x2 ≤ x3) → ∀ y4 : Int32, y4 = (u.1 12) → ((¬ y4 = 0) → post u) ∧ ((y4 = 0) → vp_in x3 2600 ∧ ∀ y6 : Int32, y6 = u.2 1 x3.toNatClampNeg → vp_in x3 2600 ∧ ∀ y7 : Int32, y7 = u.2 2 x3.toNatClampNeg → wp_X9_add y6 y7 u (fun u9 => ∀ y10 : Int32, y10 = x3 + (1 : Int32) → K11 x2 y10 u9)))
def wp_X9_bring (x1 : Int32) (u : mS) (post : mS → Prop) : Prop := wp_X9_end_2 x1 u (fun r1 u2 => ∃ n, mL3 (fun K => wj_X9_bring_11 K post) n r1 x1 u2)
def wj_X9_fill_223 (K37 : Int32 → Int32 → Int32 → Int32 → mS → Prop) (post : mS → Prop) (x1 x2 x4 x5 : Int32) (u : mS) : Prop := ∀ y47 : Int32, y47 = x5 + (1 : Int32) → K37 x1 x2 x4 y47 u
def wj_X9_fill_181 (K37 : Int32 → Int32 → Int32 → Int32 → mS → Prop) (post : mS → Prop) (x1 x2 x4 x5 z0 : Int32) (u : mS) : Prop := ((0 ≤ z0) → wp_X9_walk x1 x2 z0 (9 : Int32) u (fun r39 u40 => wp_X9_bring r39 u40 (fun u42 => wj_X9_fill_223 K37 post x1 x2 x4 x5 u42))) ∧ ((¬ 0 ≤ z0) → vp_in x5 3200 ∧ ∀ y43 : Int32, y43 = u.2 3 x5.toNatClampNeg → vp_in x5 3200 ∧ ∀ y44 : Int32, y44 = u.2 4 x5.toNatClampNeg → wp_X9_add y43 y44 u (fun u46 => wj_X9_fill_223 K37 post x1 x2 x4 x5 u46))
def wj_X9_fill_152 (K37 : Int32 → Int32 → Int32 → Int32 → mS → Prop) (post : mS → Prop) (x1 x2 x4 x5 x6 : Int32) (u : mS) : Prop := ((¬ x6 = (3 : Int32)) → wj_X9_fill_181 K37 post x1 x2 x4 x5 (-1 : Int32) u) ∧ ((x6 = (3 : Int32)) → vp_in x5 3200 ∧ ∀ y34 : Int32, y34 = u.2 3 x5.toNatClampNeg → vp_in x5 3200 ∧ ∀ y35 : Int32, y35 = u.2 4 x5.toNatClampNeg → wp_X9_variable x1 y34 y35 u (fun r36 u37 => wj_X9_fill_181 K37 post x1 x2 x4 x5 r36 u37))
def wj_X9_fill_37 (K37 : Int32 → Int32 → Int32 → Int32 → mS → Prop) (post : mS → Prop) (x1 x2 x4 x5 : Int32) (u : mS) : Prop := ((x4 ≤ x5) → post u) ∧ ((¬ x4 ≤ x5) → ∀ y9 : Int32, y9 = (u.1 12) → ((¬ y9 = 0) → post u) ∧ ((y9 = 0) → wp_X9_kind_4 x5 u (fun r11 u12 => ((¬ r11 = (6 : Int32)) → ((r11 = (2 : Int32)) → wj_X9_fill_152 K37 post x1 x2 x4 x5 r11 u12) ∧ ((¬ r11 = (2 : Int32)) → wp_X9_isHeld x5 u12 (fun r15 u16 => ((¬ r15 = 0) → wj_X9_fill_152 K37 post x1 x2 x4 x5 r11 u16) ∧ ((r15 = 0) → wp_X9_end_4 x5 u16 (fun r18 u19 => ((x4 ≤ r18) → wj_X9_fill_152 K37 post x1 x2 x4 x5 r11 u19) ∧ ((¬ x4 ≤ r18) → wp_X9_end_4 x5 u19 (fun r21 u22 => wp_X9_kind_4 r21 u22 (fun r23 u24 => ((¬ r23 = (6 : Int32)) → wj_X9_fill_152 K37 post x1 x2 x4 x5 r11 u24) ∧ ((r23 = (6 : Int32)) → wp_X9_hold x1 x2 x5 u24 (fun r26 u27 => wp_X9_isHeld r26 u27 (fun r28 u29 => ((¬ r28 = 0) → wj_X9_fill_152 K37 post x1 x2 x4 r26 r11 u29) ∧ ((r28 = 0) → K37 x1 x2 x4 r26 u29)))))))))))) ∧ ((r11 = (6 : Int32)) → wp_X9_again x5 u12 (fun r31 u32 => K37 x1 x2 x4 r31 u32)))))
def wp_X9_fill (x1 x2 : Int32) (u : mS) (post : mS → Prop) : Prop := wp_X9_end_4 x1 u (fun r1 u2 => wp_X9_end_4 r1 u2 (fun r3 u4 => ∀ u5 : mS, u5 = mSet u4 6 (0 : Int32) → ∀ u6 : mS, u6 = mSet u5 7 (0 : Int32) → ∀ u7 : mS, u7 = mSet u6 8 (0 : Int32) → ∃ n, mL5 (fun K => wj_X9_fill_37 K post) n x1 x2 r3 r1 u7))
def wp_X9_kind_13 (x1 : Int32) (u : mS) (post : Int32 → mS → Prop) : Prop := vp_in x1 310 ∧ ∀ y1 : Int32, y1 = u.2 12 x1.toNatClampNeg → ∀ y2 : Int32, y2 = (y1 / (65536 : Int32)) → post y2 u
def wj_X9_turn_13_14_37 (K3 : Int32 → Int32 → Int32 → mS → Prop) (post : mS → Prop) (x4 x5 x6 z0 z1 : Int32) (u : mS) : Prop := vp_in z1 310 ∧ ∀ u8 : mS, u8 = mPut u 13 z1.toNatClampNeg z0 → ∀ y9 : Int32, y9 = x6 + (1 : Int32) → K3 x4 x5 y9 u8
def wj_X9_turn_13_14_3 (K3 : Int32 → Int32 → Int32 → mS → Prop) (post : mS → Prop) (x4 x5 x6 : Int32) (u : mS) : Prop := ((x4 ≤ x6) → post u) ∧ ((¬ x4 ≤ x6) → wp_X9_kind_13 x6 u (fun r2 u3 => ((¬ r2 = (3 : Int32)) → vp_in x6 310 ∧ ∀ y5 : Int32, y5 = u3.2 13 x6.toNatClampNeg → wj_X9_turn_13_14_37 K3 post x4 x5 x6 y5 x6 u3) ∧ ((r2 = (3 : Int32)) → vp_in x6 310 ∧ ∀ y6 : Int32, y6 = u3.2 13 x6.toNatClampNeg → ∀ y7 : Int32, y7 = (y6 ^^^ x5) → wj_X9_turn_13_14_37 K3 post x4 x5 x6 y7 x6 u3)))
def wp_X9_turn_13_14 (x3 x4 x5 : Int32) (u : mS) (post : mS → Prop) : Prop := ∃ n, mL4 (fun K => wj_X9_turn_13_14_3 K post) n x4 x5 x3 u
def wj_X9_use_182 (K182 : Int32 → mS → Prop) (post : mS → Prop) (x5 : Int32) (u : mS) : Prop := ∀ y44 : Int32, y44 = (u.1 6) → ((y44 ≤ x5) → post u) ∧ ((¬ y44 ≤ x5) → ∀ y46 : Int32, y46 = (u.1 1) → ∀ y47 : Int32, y47 = (y46 + x5) → vp_in x5 310 ∧ ∀ y48 : Int32, y48 = u.2 12 x5.toNatClampNeg → vp_in y47 2600 ∧ ∀ u49 : mS, u49 = mPut u 1 y47.toNatClampNeg y48 → ∀ y50 : Int32, y50 = (u49.1 1) → ∀ y51 : Int32, y51 = (y50 + x5) → vp_in x5 310 ∧ ∀ y52 : Int32, y52 = u49.2 13 x5.toNatClampNeg → vp_in y51 2600 ∧ ∀ u53 : mS, u53 = mPut u49 2 y51.toNatClampNeg y52 → ∀ y54 : Int32, y54 = x5 + (1 : Int32) → K182 y54 u53)
def wj_X9_use_114 (post : mS → Prop) (x1 x2 x3 x4 : Int32) (u : mS) : Prop := vp_in x1 40 ∧ ∀ y28 : Int32, y28 = u.2 11 x1.toNatClampNeg → ((x4 < y28) → ∀ y30 : Int32, y30 = (x4 + (1 : Int32)) → ∀ y31 : Int32, y31 = (u.1 1) → wp_X9_fill y30 y31 u (fun u33 => ∀ y34 : Int32, y34 = (u33.1 12) → ((y34 = 0) → ∀ y36 : Int32, y36 = (u33.1 6) → wp_X9_turn_13_14 (0 : Int32) y36 x2 u33 (fun u38 => ∀ y39 : Int32, y39 = (u38.1 6) → ∀ y40 : Int32, y40 = (x3 - y39) → ∀ u41 : mS, u41 = mSet u38 1 y40 → ∃ n, mL2 (fun K => wj_X9_use_182 K post) n (0 : Int32) u41)) ∧ ((¬ y34 = 0) → post u33))) ∧ ((¬ x4 < y28) → wp_X9_fails (4 : Int32) u (fun u43 => post u43))
def wj_X9_use_74 (K74 : Int32 → Int32 → Int32 → Int32 → mS → Prop) (post : mS → Prop) (x1 x2 x3 x4 : Int32) (u : mS) : Prop := vp_in x1 40 ∧ ∀ y19 : Int32, y19 = u.2 11 x1.toNatClampNeg → ((y19 ≤ x4) → wj_X9_use_114 post x1 x2 x3 x4 u) ∧ ((¬ y19 ≤ x4) → ∀ y21 : Int32, y21 = (x4 + (1 : Int32)) → ∀ y22 : Int32, y22 = (u.1 1) → wp_X9_matches y21 y22 u (fun r23 u24 => ((¬ r23 = 0) → wj_X9_use_114 post x1 x2 x3 x4 u24) ∧ ((r23 = 0) → wp_X9_end_4 x4 u24 (fun r26 u27 => K74 x1 x2 x3 r26 u27))))
def wp_X9_use (x1 : Int32) (u : mS) (post : mS → Prop) : Prop := ∀ y1 : Int32, y1 = (u.1 15) → ((¬ y1 = 0) → ∀ y3 : Int32, y3 = (u.1 15) → ∀ y4 : Int32, y4 = (y3 - (1 : Int32)) → ∀ u5 : mS, u5 = mSet u 15 y4 → wp_X9_scope  u5 (fun r6 u7 => ∀ y8 : Int32, y8 = (u7.1 12) → ((y8 = 0) → ∀ y10 : Int32, y10 = (u7.1 1) → wp_X9_end_2 y10 u7 (fun r11 u12 => ∀ y13 : Int32, y13 = (u12.1 1) → wp_X9_turn_2_3 y13 r11 r6 u12 (fun u15 => vp_in x1 40 ∧ ∀ y16 : Int32, y16 = u15.2 10 x1.toNatClampNeg → ∃ n, mL5 (fun K => wj_X9_use_74 K post) n x1 r6 r11 y16 u15))) ∧ ((¬ y8 = 0) → post u7))) ∧ ((y1 = 0) → wp_X9_fails (5 : Int32) u (fun u18 => post u18))
def wj_X9_list_94 (post : mS → Prop) (z0 : Int32) (u : mS) : Prop := wp_X9_fails z0 u (fun u31 => post u31)
def wj_X9_list_150 (post : mS → Prop) (u : mS) : Prop := wp_X9_putOpen  u (fun u38 => ∀ y39 : Int32, y39 = (u38.1 11) → ∀ y40 : Int32, y40 = (y39 + (1 : Int32)) → ∀ u41 : mS, u41 = mSet u38 11 y40 → ∀ y42 : Int32, y42 = (u41.1 1) → ∀ y43 : Int32, y43 = (y42 + (1 : Int32)) → ∀ u44 : mS, u44 = mSet u41 1 y43 → post u44)
def wj_X9_list_127 (post : mS → Prop) (x1 x2 : Int32) (u : mS) : Prop := ((¬ x1 = (3 : Int32)) → wj_X9_list_150 post u) ∧ ((x1 = (3 : Int32)) → vp_in x2 40 ∧ ∀ y33 : Int32, y33 = u.2 9 x2.toNatClampNeg → ((¬ y33 = (3 : Int32)) → wj_X9_list_150 post u) ∧ ((y33 = (3 : Int32)) → wp_X9_use x2 u (fun u36 => post u36)))
def wj_X9_list_78 (post : mS → Prop) (x1 z0 : Int32) (u : mS) : Prop := ((0 ≤ z0) → ((¬ x1 = (3 : Int32)) → wj_X9_list_127 post x1 z0 u) ∧ ((x1 = (3 : Int32)) → vp_in z0 40 ∧ ∀ y24 : Int32, y24 = u.2 9 z0.toNatClampNeg → ((¬ y24 = 0) → wj_X9_list_127 post x1 z0 u) ∧ ((y24 = 0) → vp_in z0 40 ∧ ∀ y26 : Int32, y26 = u.2 10 z0.toNatClampNeg → wp_X9_form y26 u (fun u28 => post u28)))) ∧ ((¬ 0 ≤ z0) → ((¬ z0 = (-1 : Int32)) → wj_X9_list_94 post (2 : Int32) u) ∧ ((z0 = (-1 : Int32)) → wj_X9_list_94 post (1 : Int32) u))
def wp_X9_list (u : mS) (post : mS → Prop) : Prop := ∀ y1 : Int32, y1 = (u.1 11) → ((y1 ≤ (9 : Int32)) → ∀ y3 : Int32, y3 = (u.1 1) → ∀ y4 : Int32, y4 = (y3 + (1 : Int32)) → wp_X9_kind_2 y4 u (fun r5 u6 => ((¬ r5 = (2 : Int32)) → ((¬ r5 = (3 : Int32)) → wj_X9_list_78 post r5 (0 : Int32) u6) ∧ ((r5 = (3 : Int32)) → ∀ y9 : Int32, y9 = (u6.1 1) → ∀ y10 : Int32, y10 = (y9 + (1 : Int32)) → wp_X9_what_2 y10 u6 (fun r11 u12 => ∀ y13 : Int32, y13 = (u12.1 1) → ∀ y14 : Int32, y14 = (y13 + (1 : Int32)) → vp_in y14 2600 ∧ ∀ y15 : Int32, y15 = u12.2 2 y14.toNatClampNeg → wp_X9_means r11 y15 u12 (fun r16 u17 => wj_X9_list_78 post r5 r16 u17)))) ∧ ((r5 = (2 : Int32)) → wp_X9_fails (3 : Int32) u6 (fun u19 => post u19)))) ∧ ((¬ y1 ≤ (9 : Int32)) → wp_X9_fails (6 : Int32) u (fun u21 => post u21))
def wj_X9_step_125 (post : mS → Prop) (u : mS) : Prop := ∀ y34 : Int32, y34 = (u.1 11) → ∀ y35 : Int32, y35 = (y34 - (1 : Int32)) → ∀ u36 : mS, u36 = mSet u 11 y35 → ∀ y37 : Int32, y37 = (u36.1 1) → ∀ y38 : Int32, y38 = (y37 + (1 : Int32)) → ∀ u39 : mS, u39 = mSet u36 1 y38 → post u39
def wj_X9_step_116 (post : mS → Prop) (x1 : Int32) (u : mS) : Prop := ((¬ x1 = (2 : Int32)) → wj_X9_step_125 post u) ∧ ((x1 = (2 : Int32)) → wp_X9_putClose  u (fun u33 => wj_X9_step_125 post u33))
def wj_X9_step_47 (post : mS → Prop) (x1 : Int32) (u : mS) : Prop := ∀ y12 : Int32, y12 = (u.1 12) → ((y12 = 0) → ((¬ x1 = (1 : Int32)) → ((¬ x1 = (3 : Int32)) → ((¬ x1 = (4 : Int32)) → ((x1 = (2 : Int32)) → wj_X9_step_116 post x1 u) ∧ ((¬ x1 = (2 : Int32)) → ((¬ x1 = (7 : Int32)) → wp_X9_fails (3 : Int32) u (fun u20 => post u20)) ∧ ((x1 = (7 : Int32)) → wj_X9_step_116 post x1 u))) ∧ ((x1 = (4 : Int32)) → ∀ y21 : Int32, y21 = (u.1 1) → wp_X9_putToken y21 u (fun u23 => ∀ y24 : Int32, y24 = (u23.1 1) → ∀ y25 : Int32, y25 = (y24 + (1 : Int32)) → ∀ u26 : mS, u26 = mSet u23 1 y25 → post u26))) ∧ ((x1 = (3 : Int32)) → wp_X9_word  u (fun u28 => post u28))) ∧ ((x1 = (1 : Int32)) → wp_X9_list  u (fun u30 => post u30))) ∧ ((¬ y12 = 0) → post u)
def wp_X9_step (u : mS) (post : mS → Prop) : Prop := ∀ y1 : Int32, y1 = (u.1 1) → wp_X9_kind_2 y1 u (fun r2 u3 => ∀ y4 : Int32, y4 = (u3.1 10) → ((y4 = 0) → wj_X9_step_47 post r2 u3) ∧ ((¬ y4 = 0) → ((r2 = (2 : Int32)) → wj_X9_step_47 post r2 u3) ∧ ((¬ r2 = (2 : Int32)) → ((r2 = (7 : Int32)) → wj_X9_step_47 post r2 u3) ∧ ((¬ r2 = (7 : Int32)) → ((r2 = (6 : Int32)) → wj_X9_step_47 post r2 u3) ∧ ((¬ r2 = (6 : Int32)) → wp_X9_put (32 : Int32) u3 (fun u10 => ∀ u11 : mS, u11 = mSet u10 10 (0 : Int32) → wj_X9_step_47 post r2 u11))))))
def wj_X9_expand_10 (post : Int32 → mS → Prop) (u : mS) : Prop := post (-7000 : Int32) u
def wj_X9_expand_122 (post : Int32 → mS → Prop) (u : mS) : Prop := ∀ y28 : Int32, y28 = (u.1 12) → ((y28 = 0) → ∀ y30 : Int32, y30 = (u.1 9) → post y30 u) ∧ ((¬ y28 = 0) → ∀ y31 : Int32, y31 = (u.1 12) → ∀ y32 : Int32, y32 = ((-1000 : Int32) * y31) → post y32 u)
def wj_X9_expand_110 (post : Int32 → mS → Prop) (u : mS) : Prop := ∀ y25 : Int32, y25 = (u.1 12) → ((y25 = 0) → wj_X9_expand_122 post u) ∧ ((¬ y25 = 0) → ∀ u27 : mS, u27 = mSet u 9 (0 : Int32) → wj_X9_expand_122 post u27)
def wj_X9_expand_86 (K86 : mS → Prop) (post : Int32 → mS → Prop) (u : mS) : Prop := ∀ y19 : Int32, y19 = (u.1 1) → (((2600 : Int32) ≤ y19) → wj_X9_expand_110 post u) ∧ ((¬ (2600 : Int32) ≤ y19) → ∀ y21 : Int32, y21 = (u.1 12) → ((¬ y21 = 0) → wj_X9_expand_110 post u) ∧ ((y21 = 0) → wp_X9_step  u (fun u24 => K86 u24)))
def wj_X9_expand_64 (post : Int32 → mS → Prop) (x2 z0 : Int32) (u : mS) : Prop := ∀ u13 : mS, u13 = mSet u 15 z0 → ∀ u14 : mS, u14 = mSet u13 2 (480 : Int32) → wp_X9_beginning  u14 (fun u16 => ((x2 < 0) → ∃ n, mL1 (fun K => wj_X9_expand_86 K post) n u16) ∧ ((¬ x2 < 0) → ∀ y18 : Int32, y18 = ((-1 : Int32) - x2) → post y18 u16))
def wp_X9_expand (x1 : Int32) (u : mS) (post : Int32 → mS → Prop) : Prop := ((x1 < 0) → wj_X9_expand_10 post u) ∧ ((¬ x1 < 0) → ((x1 ≤ (8 : Int32)) → wp_X9_read  u (fun r3 u4 => ∀ u5 : mS, u5 = mSet u4 0 (0 : Int32) → ∀ u6 : mS, u6 = mSet u5 9 (0 : Int32) → ∀ u7 : mS, u7 = mSet u6 10 (0 : Int32) → ∀ u8 : mS, u8 = mSet u7 11 (0 : Int32) → ∀ u9 : mS, u9 = mSet u8 12 (0 : Int32) → ∀ u10 : mS, u10 = mSet u9 13 (0 : Int32) → ∀ u11 : mS, u11 = mSet u10 14 (0 : Int32) → ((0 ≤ r3) → wj_X9_expand_64 post r3 (0 : Int32) u11) ∧ ((¬ 0 ≤ r3) → wj_X9_expand_64 post r3 x1 u11))) ∧ ((¬ x1 ≤ (8 : Int32)) → wj_X9_expand_10 post u))
def wp_X9_at (x1 : Int32) (u : mS) (post : Int32 → mS → Prop) : Prop := ((x1 < 0) → post (-1 : Int32) u) ∧ ((¬ x1 < 0) → ∀ y2 : Int32, y2 = (u.1 9) → ((y2 ≤ x1) → post (-1 : Int32) u) ∧ ((¬ y2 ≤ x1) → vp_in x1 200 ∧ ∀ y4 : Int32, y4 = u.2 19 x1.toNatClampNeg → post y4 u))
def wp_X9_count_ (x1 : Int32) (u : mS) (post : Int32 → mS → Prop) : Prop := (x1 = (0 : Int32) → ∀ y1 : Int32, y1 = (u.1 13) → post y1 u) ∧ (x1 = (1 : Int32) → ∀ y2 : Int32, y2 = (u.1 4) → ∀ y3 : Int32, y3 = (u.1 5) → ∀ y4 : Int32, y4 = (y2 - y3) → post y4 u) ∧ (x1 = (2 : Int32) → ∀ y5 : Int32, y5 = (u.1 14) → post y5 u) ∧ (x1 = (3 : Int32) → ∀ y6 : Int32, y6 = (u.1 15) → post y6 u) ∧ (¬ x1 = (0 : Int32) → ¬ x1 = (1 : Int32) → ¬ x1 = (2 : Int32) → ¬ x1 = (3 : Int32) → post (-1 : Int32) u)
end
section
-- 10: rows of tokens of the reference: depth, the length of a tree, the items of a list
def kd (x : Int32) : Int32 := x / 65536
def sg (x : Int32) : Int := if kd x = 1 then 1 else if kd x = 2 then -1 else 0
def dep (r : Nat → Int32) (i : Nat) : Nat → Int
  | 0 => 0
  | n + 1 => dep r i n + sg (r (i + n))
/-- the tree (or the token) at i has n tokens -/
def TL (r : Nat → Int32) (i n : Nat) : Prop := 0 < n ∧ dep r i n ≤ 0 ∧ ∀ k, 0 < k → k < n → 0 < dep r i k
theorem sg_open {x : Int32} (h : kd x = 1) : sg x = 1 := by unfold sg; rw [if_pos h]
theorem sg_close {x : Int32} (h : kd x = 2) : sg x = -1 := by unfold sg; rw [if_neg (by rw [h]; decide), if_pos h]
theorem sg_else {x : Int32} (h1 : ¬ kd x = 1) (h2 : ¬ kd x = 2) : sg x = 0 := by unfold sg; rw [if_neg h1, if_neg h2]
theorem sg_rng (x : Int32) : -1 ≤ sg x ∧ sg x ≤ 1 := by
  unfold sg
  split
  · omega
  · split <;> omega
theorem sg_nopen {x : Int32} (h1 : ¬ kd x = 1) : sg x ≤ 0 := by
  unfold sg
  rw [if_neg h1]
  split <;> omega
theorem dep_s (r : Nat → Int32) (i n : Nat) : dep r i (n + 1) = dep r i n + sg (r (i + n)) := rfl
theorem dep_add (r : Nat → Int32) (i a : Nat) : ∀ b, dep r i (a + b) = dep r i a + dep r (i + a) b := by
  intro b
  induction b with
  | zero => simp [dep]
  | succ b ih => rw [show a + (b + 1) = (a + b) + 1 from rfl, dep_s, dep_s, ih, Nat.add_assoc]; omega
theorem dep_1 (r : Nat → Int32) (i : Nat) : dep r i 1 = sg (r i) := by
  show (0 : Int) + sg (r (i + 0)) = _
  rw [Nat.add_zero]; omega
theorem dep_copy {r q : Nat → Int32} {i j : Nat} : ∀ n, (∀ k, k < n → kd (q (j + k)) = kd (r (i + k))) → dep q j n = dep r i n := by
  intro n
  induction n with
  | zero => intro _; rfl
  | succ n ih =>
    intro h
    rw [dep_s, dep_s, ih (fun k hk => h k (by omega))]
    have := h n (by omega)
    unfold sg
    rw [this]
theorem TL_copy {r q : Nat → Int32} {i j n : Nat} (h : ∀ k, k < n → kd (q (j + k)) = kd (r (i + k))) (ht : TL r i n) : TL q j n := by
  obtain ⟨h0, h1, h2⟩ := ht
  refine ⟨h0, ?_, fun k hk hkn => ?_⟩
  · rw [dep_copy n h]; exact h1
  · rw [dep_copy k (fun m hm => h m (by omega))]; exact h2 k hk hkn
theorem TL_uniq {r : Nat → Int32} {i n m : Nat} (h : TL r i n) (g : TL r i m) : n = m := by
  obtain ⟨h0, h1, h2⟩ := h
  obtain ⟨g0, g1, g2⟩ := g
  rcases Nat.lt_trichotomy n m with c | c | c
  · have := g2 n h0 c; omega
  · exact c
  · have := h2 m g0 c; omega
theorem TL_atom {r : Nat → Int32} {i : Nat} (h : ¬ kd (r i) = 1) : TL r i 1 := by
  refine ⟨by omega, ?_, fun k h1 h2 => by omega⟩
  rw [dep_1]; exact sg_nopen h
theorem TL_open {r : Nat → Int32} {i n : Nat} (h : kd (r i) = 1) (ht : TL r i n) : 2 ≤ n ∧ dep r i n = 0 ∧ kd (r (i + (n - 1))) = 2 := by
  obtain ⟨h0, h1, h2⟩ := ht
  have h3 : dep r i 1 = 1 := by rw [dep_1]; exact sg_open h
  have hn : 2 ≤ n := by
    rcases Nat.lt_or_ge n 2 with c | c
    · have : n = 1 := by omega
      subst this; omega
    · exact c
  have h4 := h2 (n - 1) (by omega) (by omega)
  have h5 : dep r i n = dep r i (n - 1) + sg (r (i + (n - 1))) := by
    have : n = (n - 1) + 1 := by omega
    rw [this, dep_s]; rfl
  have h6 := sg_rng (r (i + (n - 1)))
  refine ⟨hn, by omega, ?_⟩
  have h7 : sg (r (i + (n - 1))) = -1 := by omega
  by_cases a : kd (r (i + (n - 1))) = 1
  · rw [sg_open a] at h7; omega
  · by_cases b : kd (r (i + (n - 1))) = 2
    · exact b
    · rw [sg_else a b] at h7; omega
theorem TL_least {r : Nat → Int32} {i n : Nat} (h0 : 0 < n) (h : dep r i n ≤ 0) : ∃ m, m ≤ n ∧ TL r i m := by
  obtain ⟨m, ⟨hm0, hm⟩, hmin⟩ := pk_least (fun m => 0 < m ∧ dep r i m ≤ 0) ⟨n, h0, h⟩
  refine ⟨m, ?_, hm0, hm, fun k hk hkm => ?_⟩
  · rcases Nat.lt_or_ge n m with c | c
    · exact absurd ⟨h0, h⟩ (hmin n c)
    · exact c
  · rcases Int.lt_or_le 0 (dep r i k) with c | c
    · exact c
    · exact absurd ⟨hk, c⟩ (hmin k hkm)
/-- what begins inside a list ends inside it -/
theorem TL_in {r : Nat → Int32} {i n k : Nat} (h : kd (r i) = 1) (ht : TL r i n) (h0 : 0 < k) (hk : k < n) (hc : ¬ kd (r (i + k)) = 2) : ∃ m, TL r (i + k) m ∧ k + m < n ∧ dep r i (k + m) = dep r i k := by
  obtain ⟨hn2, hz, -⟩ := TL_open h ht
  have hD := ht.2.2 k h0 hk
  by_cases ho : kd (r (i + k)) = 1
  · have e : dep r i n = dep r i k + dep r (i + k) (n - k) := by
      have := dep_add r i k (n - k)
      rwa [show k + (n - k) = n from by omega] at this
    obtain ⟨m, hm, hT⟩ := TL_least (r := r) (i := i + k) (n := n - k) (by omega) (by omega)
    obtain ⟨hm2, hm0, -⟩ := TL_open ho hT
    have e2 : dep r i (k + m) = dep r i k := by rw [dep_add, hm0]; omega
    refine ⟨m, hT, ?_, e2⟩
    rcases Nat.lt_or_ge (k + m) n with c | c
    · exact c
    · have : k + m = n := by omega
      rw [this] at e2; omega
  · have hs := sg_else ho hc
    have e2 : dep r i (k + 1) = dep r i k := by rw [dep_s, hs]; omega
    refine ⟨1, TL_atom ho, ?_, e2⟩
    rcases Nat.lt_or_ge (k + 1) n with c | c
    · exact c
    · have : k + 1 = n := by omega
      rw [this] at e2; omega
noncomputable def tl (r : Nat → Int32) (i : Nat) : Nat := Classical.epsilon (fun n => TL r i n)
theorem tl_eq {r : Nat → Int32} {i n : Nat} (h : TL r i n) : tl r i = n := TL_uniq (Classical.epsilon_spec (p := fun n => TL r i n) ⟨n, h⟩) h
/-- the place of item k of the list at i -/
noncomputable def it (r : Nat → Int32) (i : Nat) : Nat → Nat
  | 0 => i + 1
  | k + 1 => it r i k + tl r (it r i k)
/-- the list at i has n tokens and N items -/
def LI (r : Nat → Int32) (i n N : Nat) : Prop := kd (r i) = 1 ∧ TL r i n ∧ (∀ k, k < N → ¬ kd (r (it r i k)) = 2 ∧ TL r (it r i k) (tl r (it r i k))) ∧ it r i N = i + (n - 1)
theorem it_step {r : Nat → Int32} {i n k : Nat} (h : kd (r i) = 1) (ht : TL r i n) (h1 : i + 1 + k ≤ it r i k) (h2 : it r i k < i + n) (h3 : dep r i (it r i k - i) = 1) (hc : ¬ kd (r (it r i k)) = 2) : TL r (it r i k) (tl r (it r i k)) ∧ i + 1 + (k + 1) ≤ it r i (k + 1) ∧ it r i (k + 1) < i + n ∧ dep r i (it r i (k + 1) - i) = 1 := by
  have e : i + (it r i k - i) = it r i k := by omega
  obtain ⟨m, hm, hlt, hd⟩ := TL_in (k := it r i k - i) h ht (by omega) (by omega) (by rw [e]; exact hc)
  rw [e] at hm
  have em := tl_eq hm
  have hs : it r i (k + 1) = it r i k + m := by show it r i k + tl r (it r i k) = _; rw [em]
  have hm0 := hm.1
  refine ⟨by rw [em]; exact hm, by omega, by omega, ?_⟩
  rw [hs, show it r i k + m - i = it r i k - i + m from by omega, hd]; exact h3
theorem it_all {r : Nat → Int32} {i n : Nat} (h : kd (r i) = 1) (ht : TL r i n) : ∀ k, (∀ j, j < k → ¬ kd (r (it r i j)) = 2) → (∀ j, j < k → TL r (it r i j) (tl r (it r i j))) ∧ i + 1 + k ≤ it r i k ∧ it r i k < i + n ∧ dep r i (it r i k - i) = 1 := by
  intro k
  induction k with
  | zero =>
    intro _
    obtain ⟨hn2, -, -⟩ := TL_open h ht
    refine ⟨fun j hj => by omega, by show i + 1 + 0 ≤ i + 1; omega, by show i + 1 < i + n; omega, ?_⟩
    show dep r i (i + 1 - i) = 1
    rw [show i + 1 - i = 1 from by omega, dep_1]; exact sg_open h
  | succ k ih =>
    intro hc
    obtain ⟨a, b, c, d⟩ := ih (fun j hj => hc j (by omega))
    obtain ⟨e, f⟩ := it_step h ht b c d (hc k (by omega))
    refine ⟨fun j hj => ?_, f⟩
    rcases Nat.lt_or_ge j k with g | g
    · exact a j g
    · have : j = k := by omega
      subst this; exact e
theorem LI_ex {r : Nat → Int32} {i n : Nat} (h : kd (r i) = 1) (ht : TL r i n) : ∃ N, LI r i n N := by
  have ex : ∃ k, kd (r (it r i k)) = 2 := by
    apply Classical.byContradiction
    intro hn
    obtain ⟨-, b, c, -⟩ := it_all h ht n (fun j _ hj => hn ⟨j, hj⟩)
    omega
  obtain ⟨N, hN, hmin⟩ := pk_least (fun k => kd (r (it r i k)) = 2) ex
  obtain ⟨a, b, c, d⟩ := it_all h ht N hmin
  refine ⟨N, h, ht, fun k hk => ⟨hmin k hk, a k hk⟩, ?_⟩
  have e : dep r i (it r i N - i + 1) = 0 := by
    rw [dep_s, show i + (it r i N - i) = it r i N from by omega, sg_close hN, d]; rfl
  rcases Nat.lt_or_ge (it r i N - i + 1) n with g | g
  · have := ht.2.2 _ (by omega) g; omega
  · omega
theorem LI_at {r : Nat → Int32} {i n N : Nat} (h : LI r i n N) {k : Nat} (hk : k ≤ N) : i + 1 + k ≤ it r i k ∧ it r i k < i + n ∧ dep r i (it r i k - i) = 1 := by
  obtain ⟨h1, ht, hi, -⟩ := h
  exact (it_all h1 ht k (fun j hj => (hi j (by omega)).1)).2
theorem LI_end {r : Nat → Int32} {i n N : Nat} (h : LI r i n N) : kd (r (it r i N)) = 2 := by
  rw [h.2.2.2]; exact (TL_open h.1 h.2.1).2.2
theorem LI_uniq {r : Nat → Int32} {i n m N M : Nat} (h : LI r i n N) (g : LI r i m M) : n = m ∧ N = M := by
  have e := TL_uniq h.2.1 g.2.1
  subst e
  refine ⟨rfl, ?_⟩
  rcases Nat.lt_trichotomy N M with c | c | c
  · exact absurd (LI_end h) (g.2.2.1 N c).1
  · exact c
  · exact absurd (LI_end g) (h.2.2.1 M c).1
theorem LI_mono {r : Nat → Int32} {i n N : Nat} (h : LI r i n N) {j k : Nat} (hj : j ≤ k) (hk : k ≤ N) : it r i j + (k - j) ≤ it r i k := by
  induction k with
  | zero => have : j = 0 := by omega
            subst this; omega
  | succ k ih =>
    rcases Nat.lt_or_ge k j with c | c
    · have : j = k + 1 := by omega
      subst this; omega
    · have a := ih c (by omega)
      have b := (h.2.2.1 k (by omega)).2.1
      show it r i j + (k + 1 - j) ≤ it r i k + tl r (it r i k)
      omega
end
section
-- 11: kind, end, count, dots, isPlain of the reference, over row (array 1) and kept (array 3)
theorem dep_bd (r : Nat → Int32) (i : Nat) : ∀ n : Nat, -(n : Int) ≤ dep r i n ∧ dep r i n ≤ n := by
  intro n
  induction n with
  | zero => exact ⟨by show -((0 : Nat) : Int) ≤ 0; omega, by show (0 : Int) ≤ _; omega⟩
  | succ n ih =>
    rw [dep_s]
    have := sg_rng (r (i + n))
    omega
theorem toInt_p1 {x : Int32} (h0 : -(2 ^ 30) < x.toInt) (h1 : x.toInt < 2 ^ 30) : (x + 1).toInt = x.toInt + 1 := by
  rw [Int32.toInt_add, show (1 : Int32).toInt = 1 from by decide]
  exact Int.bmod_eq_of_le (by omega) (by omega)
theorem toInt_m1 {x : Int32} (h0 : -(2 ^ 30) < x.toInt) (h1 : x.toInt < 2 ^ 30) : (x - 1).toInt = x.toInt - 1 := by
  rw [Int32.toInt_sub, show (1 : Int32).toInt = 1 from by decide]
  exact Int.bmod_eq_of_le (by omega) (by omega)
/-- how many of the first k items are trees, and how many are .. -/
noncomputable def cn (r : Nat → Int32) (i : Nat) : Nat → Nat
  | 0 => 0
  | k + 1 => cn r i k + (if kd (r (it r i k)) = 6 then 0 else 1)
noncomputable def dn (r : Nat → Int32) (i : Nat) : Nat → Nat
  | 0 => 0
  | k + 1 => dn r i k + (if kd (r (it r i k)) = 6 then 1 else 0)
theorem cn_dn (r : Nat → Int32) (i : Nat) : ∀ k, cn r i k + dn r i k = k := by
  intro k
  induction k with
  | zero => rfl
  | succ k ih =>
    show cn r i k + (if kd (r (it r i k)) = 6 then 0 else 1) + (dn r i k + (if kd (r (it r i k)) = 6 then 1 else 0)) = k + 1
    split <;> omega
theorem cn_le (r : Nat → Int32) (i k : Nat) : cn r i k ≤ k := by have := cn_dn r i k; omega
theorem dn_le (r : Nat → Int32) (i k : Nat) : dn r i k ≤ k := by have := cn_dn r i k; omega
theorem dn_0 {r : Nat → Int32} {i : Nat} : ∀ {k : Nat}, dn r i k = 0 → ∀ j, j < k → ¬ kd (r (it r i j)) = 6 := by
  intro k
  induction k with
  | zero => intro _ j hj; omega
  | succ k ih =>
    intro h j hj hc
    have h' : dn r i k + (if kd (r (it r i k)) = 6 then 1 else 0) = 0 := h
    rcases Nat.lt_or_ge j k with g | g
    · exact ih (by omega) j g hc
    · have : j = k := by omega
      subst this
      rw [if_pos hc] at h'; omega
theorem kind_2 {i : Nat} {u : mS} {post : Int32 → mS → Prop} (hi : i < 2600) (hp : post (kd (u.2 1 i)) u) : wp_X9_kind_2 (nI i) u post := by
  refine ⟨vp_in_nI hi (by omega), ?_⟩
  rintro _ rfl _ rfl
  rw [nI_clamp (by omega)]
  exact hp
theorem end_2 {i n : Nat} {u : mS} {post : Int32 → mS → Prop} (ht : TL (u.2 1) i n) (hl : i + n ≤ 2600) (hp : post (nI (i + n)) u) : wp_X9_end_2 (nI i) u post := by
  have key : ∀ (d j : Nat) (x2 x4 : Int32), j + d = n → x2.toInt = dep (u.2 1) i j → (d = 0 → x4 = 0) → (d ≠ 0 → ¬ x4 = 0) → mL4 (fun K => wj_X9_end_2_7 K post) (d + 1) x2 (nI (i + j)) x4 u := by
    intro d
    induction d with
    | zero =>
      intro j x2 x4 hj hx h0 h1
      show wj_X9_end_2_7 _ post x2 (nI (i + j)) x4 u
      refine ⟨fun _ => ?_, fun h => absurd (h0 rfl) h⟩
      have : j = n := by omega
      subst this; exact hp
    | succ d ih =>
      intro j x2 x4 hj hx h0 h1
      have hb := dep_bd (u.2 1) i j
      have fin : ∀ z0 : Int32, z0.toInt = dep (u.2 1) i (j + 1) → wj_X9_end_2_43 (mL4 (fun K => wj_X9_end_2_7 K post) (d + 1)) post (nI (i + j)) z0 u := by
        intro z0 hz
        rintro _ rfl
        rw [nI_1]
        have e : (z0 ≤ 0) ↔ dep (u.2 1) i (j + 1) ≤ 0 := by
          rw [Int32.le_iff_toInt_le, hz, show (0 : Int32).toInt = 0 from by decide]
        refine ⟨fun h => ih (j + 1) z0 0 (by omega) hz (fun _ => rfl) (fun hd => ?_), fun h => ih (j + 1) z0 1 (by omega) hz (fun hd => ?_) (fun _ => by decide)⟩
        · have a := e.mp h
          have b := ht.2.2 (j + 1) (by omega) (by omega)
          omega
        · have a := ht.2.1
          have : j + 1 = n := by omega
          rw [this] at e
          exact absurd (e.mpr a) h
      show wj_X9_end_2_7 _ post x2 (nI (i + j)) x4 u
      refine ⟨fun h => absurd h (h1 (by omega)), fun _ => kind_2 (by omega) ⟨fun hk1 => kind_2 (by omega) ⟨fun hk2 => fin x2 ?_, fun hk2 => ?_⟩, fun hk1 => ?_⟩⟩
      · rw [dep_s, sg_else hk1 hk2, hx]; omega
      · rintro _ rfl
        refine fin _ ?_
        rw [dep_s, sg_close hk2, toInt_m1 (by omega) (by omega), hx]; rfl
      · rintro _ rfl
        refine fin _ ?_
        rw [dep_s, sg_open hk1, toInt_p1 (by omega) (by omega), hx]
  refine ⟨n + 1, ?_⟩
  have h0 := ht.1
  exact key n 0 0 1 (by omega) rfl (fun h => by omega) (fun _ => by decide)
theorem count_2 {i n N : Nat} {u : mS} {post : Int32 → mS → Prop} (h : LI (u.2 1) i n N) (hl : i + n ≤ 2600) (hp : post (nI (cn (u.2 1) i N)) u) : wp_X9_count_2 (nI i) u post := by
  have key : ∀ (d k : Nat), k + d = N → mL3 (fun K => wj_X9_count_2_6 K post) (d + 1) (nI (cn (u.2 1) i k)) (nI (it (u.2 1) i k)) u := by
    intro d
    induction d with
    | zero =>
      intro k hk
      have hk : k = N := by omega
      subst hk
      have a := LI_at h (Nat.le_refl k)
      show wj_X9_count_2_6 _ post _ _ u
      exact kind_2 (by omega) ⟨fun _ => hp, fun hn => absurd (LI_end h) hn⟩
    | succ d ih =>
      intro k hk
      have a := LI_at h (k := k) (by omega)
      obtain ⟨b, c⟩ := h.2.2.1 k (by omega)
      have a2 := LI_at h (k := k + 1) (by omega)
      show wj_X9_count_2_6 _ post _ _ u
      refine kind_2 (by omega) ⟨fun h2 => absurd h2 b, fun _ => kind_2 (by omega) ⟨fun h6 => ?_, fun h6 => ?_⟩⟩
      · refine ⟨fun _ => ?_, fun hh => absurd rfl hh⟩
        rintro _ rfl
        refine ⟨fun _ => end_2 c ?_ ?_, fun hh => absurd rfl hh⟩
        · show it (u.2 1) i (k + 1) ≤ _; omega
        · have e := ih (k + 1) (by omega)
          have e2 : nI (cn (u.2 1) i (k + 1)) = nI (cn (u.2 1) i k) + 1 := by
            show nI (cn (u.2 1) i k + (if kd (u.2 1 (it (u.2 1) i k)) = 6 then 0 else 1)) = _
            rw [if_neg h6, nI_1]
          rw [e2] at e
          exact e
      · refine ⟨fun hh => absurd hh (by decide), fun _ => ⟨fun hh => absurd hh (by decide), fun _ => ?_⟩⟩
        rintro _ rfl
        have e := ih (k + 1) (by omega)
        have e2 : nI (cn (u.2 1) i (k + 1)) = nI (cn (u.2 1) i k) := by
          show nI (cn (u.2 1) i k + (if kd (u.2 1 (it (u.2 1) i k)) = 6 then 0 else 1)) = _
          rw [if_pos h6, Nat.add_zero]
        have e3 : it (u.2 1) i (k + 1) = it (u.2 1) i k + 1 := by
          show it (u.2 1) i k + tl (u.2 1) (it (u.2 1) i k) = _
          rw [tl_eq (TL_atom (by rw [h6]; decide))]
        rw [e2, e3, ← nI_1] at e
        exact e
  rintro _ rfl
  rw [nI_1]
  exact ⟨N + 1, key N 0 (by omega)⟩
theorem dots_2 {i n N : Nat} {u : mS} {post : Int32 → mS → Prop} (h : LI (u.2 1) i n N) (hl : i + n ≤ 2600) (hp : post (nI (dn (u.2 1) i N)) u) : wp_X9_dots_2 (nI i) u post := by
  have key : ∀ (d k : Nat), k + d = N → mL3 (fun K => wj_X9_dots_2_6 K post) (d + 1) (nI (dn (u.2 1) i k)) (nI (it (u.2 1) i k)) u := by
    intro d
    induction d with
    | zero =>
      intro k hk
      have hk : k = N := by omega
      subst hk
      have a := LI_at h (Nat.le_refl k)
      show wj_X9_dots_2_6 _ post _ _ u
      exact kind_2 (by omega) ⟨fun _ => hp, fun hn => absurd (LI_end h) hn⟩
    | succ d ih =>
      intro k hk
      have a := LI_at h (k := k) (by omega)
      obtain ⟨b, c⟩ := h.2.2.1 k (by omega)
      have a2 := LI_at h (k := k + 1) (by omega)
      show wj_X9_dots_2_6 _ post _ _ u
      refine kind_2 (by omega) ⟨fun h2 => absurd h2 b, fun _ => kind_2 (by omega) ⟨fun h6 => ?_, fun h6 => ?_⟩⟩
      · refine ⟨fun _ => ⟨fun _ => end_2 c ?_ ?_, fun hh => absurd rfl hh⟩, fun hh => absurd rfl hh⟩
        · show it (u.2 1) i (k + 1) ≤ _; omega
        · have e := ih (k + 1) (by omega)
          have e2 : nI (dn (u.2 1) i (k + 1)) = nI (dn (u.2 1) i k) := by
            show nI (dn (u.2 1) i k + (if kd (u.2 1 (it (u.2 1) i k)) = 6 then 1 else 0)) = _
            rw [if_neg h6, Nat.add_zero]
          rw [e2] at e
          exact e
      · refine ⟨fun hh => absurd hh (by decide), fun _ => ?_⟩
        rintro _ rfl
        refine ⟨fun hh => absurd hh (by decide), fun _ => ?_⟩
        rintro _ rfl
        have e := ih (k + 1) (by omega)
        have e2 : nI (dn (u.2 1) i (k + 1)) = nI (dn (u.2 1) i k) + 1 := by
          show nI (dn (u.2 1) i k + (if kd (u.2 1 (it (u.2 1) i k)) = 6 then 1 else 0)) = _
          rw [if_pos h6, nI_1]
        have e3 : it (u.2 1) i (k + 1) = it (u.2 1) i k + 1 := by
          show it (u.2 1) i k + tl (u.2 1) (it (u.2 1) i k) = _
          rw [tl_eq (TL_atom (by rw [h6]; decide))]
        rw [e2, e3, ← nI_1] at e
        exact e
  rintro _ rfl
  rw [nI_1]
  exact ⟨N + 1, key N 0 (by omega)⟩
/-- isPlain: a list, with so many trees, without .. -/
theorem isPlain_2 {i n t : Nat} {u : mS} {post : Int32 → mS → Prop} (ht : TL (u.2 1) i n) (hl : i + n ≤ 2600) (htb : t < 2 ^ 31) (h1 : ∀ N, LI (u.2 1) i n N → cn (u.2 1) i N = t → dn (u.2 1) i N = 0 → post 1 u) (h0 : (¬ ∃ N, LI (u.2 1) i n N ∧ cn (u.2 1) i N = t ∧ dn (u.2 1) i N = 0) → post 0 u) : wp_X9_isPlain_2 (nI i) (nI t) u post := by
  have hn0 := ht.1
  refine kind_2 (by omega) ⟨fun hk => h0 (fun ⟨N, q, _⟩ => hk q.1), fun hk => ?_⟩
  obtain ⟨N, hN⟩ := LI_ex hk ht
  have hb := LI_at hN (Nat.le_refl N)
  have hc := cn_le (u.2 1) i N
  have hd := dn_le (u.2 1) i N
  refine count_2 hN hl ⟨fun hct => h0 ?_, fun hct => dots_2 hN hl ⟨fun hdt => h0 ?_, fun hdt => ?_⟩⟩
  · rintro ⟨M, q1, q2, -⟩
    have e := (LI_uniq hN q1).2
    subst e
    exact hct (by rw [q2])
  · rintro ⟨M, q1, -, q3⟩
    have e := (LI_uniq hN q1).2
    subst e
    exact hdt (by rw [q3]; rfl)
  · refine h1 N hN ((nI_eq (by omega) (by omega)).mp hct) ?_
    exact (nI_eq (a := dn (u.2 1) i N) (b := 0) (by omega) (by omega)).mp hdt
theorem kind_4 {i : Nat} {u : mS} {post : Int32 → mS → Prop} (hi : i < 3200) (hp : post (kd (u.2 3 i)) u) : wp_X9_kind_4 (nI i) u post := by
  refine ⟨vp_in_nI hi (by omega), ?_⟩
  rintro _ rfl _ rfl
  rw [nI_clamp (by omega)]
  exact hp
theorem end_4 {i n : Nat} {u : mS} {post : Int32 → mS → Prop} (ht : TL (u.2 3) i n) (hl : i + n ≤ 3200) (hp : post (nI (i + n)) u) : wp_X9_end_4 (nI i) u post := by
  have key : ∀ (d j : Nat) (x2 x4 : Int32), j + d = n → x2.toInt = dep (u.2 3) i j → (d = 0 → x4 = 0) → (d ≠ 0 → ¬ x4 = 0) → mL4 (fun K => wj_X9_end_4_7 K post) (d + 1) x2 (nI (i + j)) x4 u := by
    intro d
    induction d with
    | zero =>
      intro j x2 x4 hj hx h0 h1
      show wj_X9_end_4_7 _ post x2 (nI (i + j)) x4 u
      refine ⟨fun _ => ?_, fun h => absurd (h0 rfl) h⟩
      have : j = n := by omega
      subst this; exact hp
    | succ d ih =>
      intro j x2 x4 hj hx h0 h1
      have hb := dep_bd (u.2 3) i j
      have fin : ∀ z0 : Int32, z0.toInt = dep (u.2 3) i (j + 1) → wj_X9_end_4_43 (mL4 (fun K => wj_X9_end_4_7 K post) (d + 1)) post (nI (i + j)) z0 u := by
        intro z0 hz
        rintro _ rfl
        rw [nI_1]
        have e : (z0 ≤ 0) ↔ dep (u.2 3) i (j + 1) ≤ 0 := by
          rw [Int32.le_iff_toInt_le, hz, show (0 : Int32).toInt = 0 from by decide]
        refine ⟨fun h => ih (j + 1) z0 0 (by omega) hz (fun _ => rfl) (fun hd => ?_), fun h => ih (j + 1) z0 1 (by omega) hz (fun hd => ?_) (fun _ => by decide)⟩
        · have a := e.mp h
          have b := ht.2.2 (j + 1) (by omega) (by omega)
          omega
        · have a := ht.2.1
          have : j + 1 = n := by omega
          rw [this] at e
          exact absurd (e.mpr a) h
      show wj_X9_end_4_7 _ post x2 (nI (i + j)) x4 u
      refine ⟨fun h => absurd h (h1 (by omega)), fun _ => kind_4 (by omega) ⟨fun hk1 => kind_4 (by omega) ⟨fun hk2 => fin x2 ?_, fun hk2 => ?_⟩, fun hk1 => ?_⟩⟩
      · rw [dep_s, sg_else hk1 hk2, hx]; omega
      · rintro _ rfl
        refine fin _ ?_
        rw [dep_s, sg_close hk2, toInt_m1 (by omega) (by omega), hx]; rfl
      · rintro _ rfl
        refine fin _ ?_
        rw [dep_s, sg_open hk1, toInt_p1 (by omega) (by omega), hx]
  refine ⟨n + 1, ?_⟩
  have h0 := ht.1
  exact key n 0 0 1 (by omega) rfl (fun h => by omega) (fun _ => by decide)
theorem count_4 {i n N : Nat} {u : mS} {post : Int32 → mS → Prop} (h : LI (u.2 3) i n N) (hl : i + n ≤ 3200) (hp : post (nI (cn (u.2 3) i N)) u) : wp_X9_count_4 (nI i) u post := by
  have key : ∀ (d k : Nat), k + d = N → mL3 (fun K => wj_X9_count_4_6 K post) (d + 1) (nI (cn (u.2 3) i k)) (nI (it (u.2 3) i k)) u := by
    intro d
    induction d with
    | zero =>
      intro k hk
      have hk : k = N := by omega
      subst hk
      have a := LI_at h (Nat.le_refl k)
      show wj_X9_count_4_6 _ post _ _ u
      exact kind_4 (by omega) ⟨fun _ => hp, fun hn => absurd (LI_end h) hn⟩
    | succ d ih =>
      intro k hk
      have a := LI_at h (k := k) (by omega)
      obtain ⟨b, c⟩ := h.2.2.1 k (by omega)
      have a2 := LI_at h (k := k + 1) (by omega)
      show wj_X9_count_4_6 _ post _ _ u
      refine kind_4 (by omega) ⟨fun h2 => absurd h2 b, fun _ => kind_4 (by omega) ⟨fun h6 => ?_, fun h6 => ?_⟩⟩
      · refine ⟨fun _ => ?_, fun hh => absurd rfl hh⟩
        rintro _ rfl
        refine ⟨fun _ => end_4 c ?_ ?_, fun hh => absurd rfl hh⟩
        · show it (u.2 3) i (k + 1) ≤ _; omega
        · have e := ih (k + 1) (by omega)
          have e2 : nI (cn (u.2 3) i (k + 1)) = nI (cn (u.2 3) i k) + 1 := by
            show nI (cn (u.2 3) i k + (if kd (u.2 3 (it (u.2 3) i k)) = 6 then 0 else 1)) = _
            rw [if_neg h6, nI_1]
          rw [e2] at e
          exact e
      · refine ⟨fun hh => absurd hh (by decide), fun _ => ⟨fun hh => absurd hh (by decide), fun _ => ?_⟩⟩
        rintro _ rfl
        have e := ih (k + 1) (by omega)
        have e2 : nI (cn (u.2 3) i (k + 1)) = nI (cn (u.2 3) i k) := by
          show nI (cn (u.2 3) i k + (if kd (u.2 3 (it (u.2 3) i k)) = 6 then 0 else 1)) = _
          rw [if_pos h6, Nat.add_zero]
        have e3 : it (u.2 3) i (k + 1) = it (u.2 3) i k + 1 := by
          show it (u.2 3) i k + tl (u.2 3) (it (u.2 3) i k) = _
          rw [tl_eq (TL_atom (by rw [h6]; decide))]
        rw [e2, e3, ← nI_1] at e
        exact e
  rintro _ rfl
  rw [nI_1]
  exact ⟨N + 1, key N 0 (by omega)⟩
theorem dots_4 {i n N : Nat} {u : mS} {post : Int32 → mS → Prop} (h : LI (u.2 3) i n N) (hl : i + n ≤ 3200) (hp : post (nI (dn (u.2 3) i N)) u) : wp_X9_dots_4 (nI i) u post := by
  have key : ∀ (d k : Nat), k + d = N → mL3 (fun K => wj_X9_dots_4_6 K post) (d + 1) (nI (dn (u.2 3) i k)) (nI (it (u.2 3) i k)) u := by
    intro d
    induction d with
    | zero =>
      intro k hk
      have hk : k = N := by omega
      subst hk
      have a := LI_at h (Nat.le_refl k)
      show wj_X9_dots_4_6 _ post _ _ u
      exact kind_4 (by omega) ⟨fun _ => hp, fun hn => absurd (LI_end h) hn⟩
    | succ d ih =>
      intro k hk
      have a := LI_at h (k := k) (by omega)
      obtain ⟨b, c⟩ := h.2.2.1 k (by omega)
      have a2 := LI_at h (k := k + 1) (by omega)
      show wj_X9_dots_4_6 _ post _ _ u
      refine kind_4 (by omega) ⟨fun h2 => absurd h2 b, fun _ => kind_4 (by omega) ⟨fun h6 => ?_, fun h6 => ?_⟩⟩
      · refine ⟨fun _ => ⟨fun _ => end_4 c ?_ ?_, fun hh => absurd rfl hh⟩, fun hh => absurd rfl hh⟩
        · show it (u.2 3) i (k + 1) ≤ _; omega
        · have e := ih (k + 1) (by omega)
          have e2 : nI (dn (u.2 3) i (k + 1)) = nI (dn (u.2 3) i k) := by
            show nI (dn (u.2 3) i k + (if kd (u.2 3 (it (u.2 3) i k)) = 6 then 1 else 0)) = _
            rw [if_neg h6, Nat.add_zero]
          rw [e2] at e
          exact e
      · refine ⟨fun hh => absurd hh (by decide), fun _ => ?_⟩
        rintro _ rfl
        refine ⟨fun hh => absurd hh (by decide), fun _ => ?_⟩
        rintro _ rfl
        have e := ih (k + 1) (by omega)
        have e2 : nI (dn (u.2 3) i (k + 1)) = nI (dn (u.2 3) i k) + 1 := by
          show nI (dn (u.2 3) i k + (if kd (u.2 3 (it (u.2 3) i k)) = 6 then 1 else 0)) = _
          rw [if_pos h6, nI_1]
        have e3 : it (u.2 3) i (k + 1) = it (u.2 3) i k + 1 := by
          show it (u.2 3) i k + tl (u.2 3) (it (u.2 3) i k) = _
          rw [tl_eq (TL_atom (by rw [h6]; decide))]
        rw [e2, e3, ← nI_1] at e
        exact e
  rintro _ rfl
  rw [nI_1]
  exact ⟨N + 1, key N 0 (by omega)⟩
/-- isPlain: a list, with so many trees, without .. -/
theorem isPlain_4 {i n t : Nat} {u : mS} {post : Int32 → mS → Prop} (ht : TL (u.2 3) i n) (hl : i + n ≤ 3200) (htb : t < 2 ^ 31) (h1 : ∀ N, LI (u.2 3) i n N → cn (u.2 3) i N = t → dn (u.2 3) i N = 0 → post 1 u) (h0 : (¬ ∃ N, LI (u.2 3) i n N ∧ cn (u.2 3) i N = t ∧ dn (u.2 3) i N = 0) → post 0 u) : wp_X9_isPlain_4 (nI i) (nI t) u post := by
  have hn0 := ht.1
  refine kind_4 (by omega) ⟨fun hk => h0 (fun ⟨N, q, _⟩ => hk q.1), fun hk => ?_⟩
  obtain ⟨N, hN⟩ := LI_ex hk ht
  have hb := LI_at hN (Nat.le_refl N)
  have hc := cn_le (u.2 3) i N
  have hd := dn_le (u.2 3) i N
  refine count_4 hN hl ⟨fun hct => h0 ?_, fun hct => dots_4 hN hl ⟨fun hdt => h0 ?_, fun hdt => ?_⟩⟩
  · rintro ⟨M, q1, q2, -⟩
    have e := (LI_uniq hN q1).2
    subst e
    exact hct (by rw [q2])
  · rintro ⟨M, q1, -, q3⟩
    have e := (LI_uniq hN q1).2
    subst e
    exact hdt (by rw [q3]; rfl)
  · refine h1 N hN ((nI_eq (by omega) (by omega)).mp hct) ?_
    exact (nI_eq (a := dn (u.2 3) i N) (b := 0) (by omega) (by omega)).mp hdt
end
section
-- 12: heldBy, variable, uses, isPattern, isTemplate, areRules of the reference
noncomputable def hb1 (r : Nat → Int32) (b x i : Nat) : Nat := if ¬ kd (r i) = 2 ∧ ¬ kd (r i) = 6 ∧ i + tl r i < b ∧ x < i + tl r i ∧ kd (r (i + tl r i)) = 6 then 1 else 0
noncomputable def hbS (r : Nat → Int32) (b x a : Nat) : Nat → Nat
  | 0 => 0
  | k + 1 => hbS r b x a k + hb1 r b x (a + k)
/-- how many .. within a .. b hold what is at x -/
noncomputable def HB (r : Nat → Int32) (a b x : Nat) : Nat := hbS r b x a (x + 1 - a)
theorem hbS_le (r : Nat → Int32) (b x a : Nat) : ∀ k, hbS r b x a k ≤ k := by
  intro k
  induction k with
  | zero => exact Nat.le_refl 0
  | succ k ih =>
    show hbS r b x a k + hb1 r b x (a + k) ≤ k + 1
    have : hb1 r b x (a + k) ≤ 1 := by unfold hb1; split <;> omega
    omega
theorem heldBy_ok {a b x : Nat} {u : mS} {post : Int32 → mS → Prop} (hax : a ≤ x + 1) (hx : x < 3200) (hb : b ≤ 3200) (hs : ∀ i, a ≤ i → i ≤ x → ¬ kd (u.2 3 i) = 2 → ¬ kd (u.2 3 i) = 6 → TL (u.2 3) i (tl (u.2 3) i) ∧ i + tl (u.2 3) i ≤ 3200) (hp : post (nI (HB (u.2 3) a b x)) u) : wp_X9_heldBy (nI a) (nI b) (nI x) u post := by
  have key : ∀ (d k : Nat), k + d = x + 1 - a → mL5 (fun K => wj_X9_heldBy_6 K post) (d + 1) (nI b) (nI x) (nI (hbS (u.2 3) b x a k)) (nI (a + k)) u := by
    intro d
    induction d with
    | zero =>
      intro k hk
      show wj_X9_heldBy_6 _ post _ _ _ _ u
      refine ⟨fun _ => ?_, fun h => absurd ?_ h⟩
      · have e : k = x + 1 - a := by omega
        have hp' := hp
        unfold HB at hp'
        rw [← e] at hp'; exact hp'
      · rw [nI_ltI (by omega) (by omega)]; omega
    | succ d ih =>
      intro k hk
      have go : ∀ c : Nat, hbS (u.2 3) b x a (k + 1) = c → wj_X9_heldBy_101 (mL5 (fun K => wj_X9_heldBy_6 K post) (d + 1)) post (nI b) (nI x) (nI (a + k)) (nI c) u := by
        rintro c rfl
        rintro _ rfl
        rw [nI_1]
        exact ih (k + 1) (by omega)
      have h0 : hb1 (u.2 3) b x (a + k) = 0 → wj_X9_heldBy_99 (mL5 (fun K => wj_X9_heldBy_6 K post) (d + 1)) post (nI b) (nI x) (nI (hbS (u.2 3) b x a k)) (nI (a + k)) u := by
        intro h
        exact go _ (by show hbS (u.2 3) b x a k + hb1 (u.2 3) b x (a + k) = _; omega)
      have hno : (kd (u.2 3 (a + k)) = 2 ∨ kd (u.2 3 (a + k)) = 6) → wj_X9_heldBy_43 (mL5 (fun K => wj_X9_heldBy_6 K post) (d + 1)) post (nI b) (nI x) (nI (hbS (u.2 3) b x a k)) (nI (a + k)) u := by
        intro h
        refine ⟨fun _ => ⟨fun _ => h0 ?_, fun h9 => absurd (Int32.le_refl _) h9⟩, fun h9 => absurd rfl h9⟩
        unfold hb1
        rw [if_neg]
        rintro ⟨q1, q2, -⟩
        rcases h with h | h
        · exact q1 h
        · exact q2 h
      show wj_X9_heldBy_6 _ post _ _ _ _ u
      refine ⟨fun h => absurd h (by rw [nI_ltI (by omega) (by omega)]; omega), fun _ => ?_⟩
      refine kind_4 (by omega) ⟨fun h2 => hno (Or.inl h2), fun h2 => kind_4 (by omega) ⟨fun h6 => hno (Or.inr h6), fun h6 => ?_⟩⟩
      refine ⟨fun h => absurd h (by decide), fun _ => ?_⟩
      obtain ⟨ht, hl⟩ := hs (a + k) (by omega) (by omega) h2 h6
      refine end_4 ht hl ⟨fun h => h0 ?_, fun hb2 => ⟨fun h => h0 ?_, fun hx2 => ?_⟩⟩
      · rw [nI_leI (by omega) (by omega)] at h
        unfold hb1
        rw [if_neg]
        rintro ⟨-, -, q, -⟩
        omega
      · rw [nI_leI (by omega) (by omega)] at h
        unfold hb1
        rw [if_neg]
        rintro ⟨-, -, -, q, -⟩
        omega
      · rw [nI_leI (by omega) (by omega)] at hb2 hx2
        refine kind_4 (by omega) ⟨fun h => h0 ?_, fun h => ?_⟩
        · unfold hb1
          rw [if_neg]
          rintro ⟨-, -, -, -, q⟩
          exact h q
        · rintro _ rfl
          rw [nI_1]
          refine go _ ?_
          show hbS (u.2 3) b x a k + hb1 (u.2 3) b x (a + k) = _
          unfold hb1
          rw [if_pos ⟨h2, h6, by omega, by omega, h⟩]
  refine ⟨x + 1 - a + 1, ?_⟩
  exact key (x + 1 - a) 0 (by omega)
def vrF (r s : Nat → Int32) (v w : Int32) : Nat → Nat → Int32
  | 0, _ => -1
  | n + 1, i => if r i = v ∧ s i = w then nI i else vrF r s v w n (i + 1)
theorem vrF_cases (r s : Nat → Int32) (v w : Int32) : ∀ (n i : Nat), i + n < 2 ^ 31 → vrF r s v w n i = -1 ∨ ∃ j, i ≤ j ∧ j < i + n ∧ vrF r s v w n i = nI j ∧ r j = v ∧ s j = w := by
  intro n
  induction n with
  | zero => intro i _; exact Or.inl rfl
  | succ n ih =>
    intro i hi
    show (if r i = v ∧ s i = w then nI i else vrF r s v w n (i + 1)) = -1 ∨ ∃ j, i ≤ j ∧ j < i + (n + 1) ∧ (if r i = v ∧ s i = w then nI i else vrF r s v w n (i + 1)) = nI j ∧ r j = v ∧ s j = w
    by_cases h : r i = v ∧ s i = w
    · rw [if_pos h]; exact Or.inr ⟨i, by omega, by omega, rfl, h⟩
    · rw [if_neg h]
      rcases ih (i + 1) (by omega) with g | ⟨j, g1, g2, g3⟩
      · exact Or.inl g
      · exact Or.inr ⟨j, by omega, by omega, g3⟩
/-- the variable of the pattern at p with that name and set: its place, -1 if there is none -/
noncomputable def VR (r s : Nat → Int32) (p : Nat) (v w : Int32) : Int32 := vrF r s v w (p + tl r p - 1 - (p + 1 + tl r (p + 1))) (p + 1 + tl r (p + 1))
theorem variable_ok {p n m : Nat} {v w : Int32} {u : mS} {post : Int32 → mS → Prop} (ht : TL (u.2 3) p n) (hm : TL (u.2 3) (p + 1) m) (hl : p + n ≤ 3200) (hl2 : p + 1 + m ≤ 3200) (hp : post (VR (u.2 3) (u.2 4) p v w) u) : wp_X9_variable (nI p) v w u post := by
  have hn0 := ht.1
  have e1 := tl_eq ht
  have e2 := tl_eq hm
  unfold VR at hp
  rw [e1, e2] at hp
  refine end_4 ht hl ?_
  rintro _ rfl _ rfl
  rw [show p + n = p + n - 1 + 1 from by omega, nI_pred, nI_1]
  refine end_4 hm hl2 ?_
  have key : ∀ (d i : Nat), i + d ≤ p + n - 1 → (d = 0 → p + n - 1 ≤ i) → (0 < d → i + d = p + n - 1) → post (vrF (u.2 3) (u.2 4) v w d i) u → i ≤ 3200 → mL5 (fun K => wj_X9_variable_24 K post) (d + 1) v w (nI (p + n - 1)) (nI i) u := by
    intro d
    induction d with
    | zero =>
      intro i _ h0 _ hq hi
      show wj_X9_variable_24 _ post _ _ _ _ u
      refine ⟨fun _ => hq, fun h => absurd ?_ h⟩
      rw [nI_leI (by omega) (by omega)]; exact h0 rfl
    | succ d ih =>
      intro i hid h0 h1 hq hi
      have hid2 := h1 (by omega)
      have nxt : (¬ (u.2 3 i = v ∧ u.2 4 i = w)) → wj_X9_variable_56 (mL5 (fun K => wj_X9_variable_24 K post) (d + 1)) post v w (nI (p + n - 1)) (nI i) u := by
        intro hne
        rintro _ rfl
        rw [nI_1]
        refine ih (i + 1) (by omega) (fun h => by omega) (fun _ => by omega) ?_ (by omega)
        have hq : post (if u.2 3 i = v ∧ u.2 4 i = w then nI i else vrF (u.2 3) (u.2 4) v w d (i + 1)) u := hq
        rw [if_neg hne] at hq
        exact hq
      show wj_X9_variable_24 _ post _ _ _ _ u
      refine ⟨fun h => absurd h (by rw [nI_leI (by omega) (by omega)]; omega), fun _ => ⟨vp_in_nI (by omega) (by omega), ?_⟩⟩
      rintro _ rfl
      rw [nI_clamp (by omega)]
      refine ⟨fun h => nxt (fun q => h q.1), fun h => ⟨vp_in_nI (by omega) (by omega), ?_⟩⟩
      rintro _ rfl
      refine ⟨fun h2 => nxt (fun q => h2 q.2), fun h2 => ?_⟩
      have hq : post (if u.2 3 i = v ∧ u.2 4 i = w then nI i else vrF (u.2 3) (u.2 4) v w d (i + 1)) u := hq
      rw [if_pos ⟨h, h2⟩] at hq
      exact hq
  refine ⟨p + n - 1 - (p + 1 + m) + 1, ?_⟩
  rcases Nat.lt_or_ge (p + 1 + m) (p + n - 1) with c | c
  · exact key _ _ (by omega) (fun h => by omega) (fun _ => by omega) hp (by omega)
  · have e : p + n - 1 - (p + 1 + m) = 0 := by omega
    rw [e] at hp ⊢
    show wj_X9_variable_24 _ post _ _ _ _ u
    refine ⟨fun _ => hp, fun h => absurd ?_ h⟩
    rw [nI_leI (by omega) (by omega)]; exact c
noncomputable def usF (r s : Nat → Int32) (p : Nat) : Nat → Nat → Nat
  | 0, _ => 0
  | n + 1, i => (if kd (r i) = 3 ∧ ¬ VR r s p (r i) (s i) < 0 then 1 else 0) + usF r s p n (i + 1)
theorem usF_ex {r s : Nat → Int32} {p : Nat} : ∀ {n i : Nat}, usF r s p n i ≠ 0 → ∃ j, i ≤ j ∧ j < i + n ∧ kd (r j) = 3 ∧ ¬ VR r s p (r j) (s j) < 0 := by
  intro n
  induction n with
  | zero => intro i h; exact absurd rfl h
  | succ n ih =>
    intro i h
    have h : (if kd (r i) = 3 ∧ ¬ VR r s p (r i) (s i) < 0 then 1 else 0) + usF r s p n (i + 1) ≠ 0 := h
    by_cases c : kd (r i) = 3 ∧ ¬ VR r s p (r i) (s i) < 0
    · exact ⟨i, by omega, by omega, c.1, c.2⟩
    · rw [if_neg c] at h
      obtain ⟨j, h1, h2, h3⟩ := ih (i := i + 1) (by omega)
      exact ⟨j, by omega, by omega, h3⟩
theorem usF_le (r s : Nat → Int32) (p : Nat) : ∀ (n i : Nat), usF r s p n i ≤ n := by
  intro n
  induction n with
  | zero => intro i; exact Nat.le_refl 0
  | succ n ih =>
    intro i
    show (if kd (r i) = 3 ∧ ¬ VR r s p (r i) (s i) < 0 then 1 else 0) + usF r s p n (i + 1) ≤ n + 1
    have := ih (i + 1)
    split <;> omega
theorem uses_ok {p n m a b : Nat} {u : mS} {post : Int32 → mS → Prop} (ht : TL (u.2 3) p n) (hm : TL (u.2 3) (p + 1) m) (hl : p + n ≤ 3200) (hl2 : p + 1 + m ≤ 3200) (hab : a ≤ b) (hb : b ≤ 3200) (hp : post (nI (usF (u.2 3) (u.2 4) p (b - a) a)) u) : wp_X9_uses (nI p) (nI a) (nI b) u post := by
  have key : ∀ (d i c : Nat), i + d = b → post (nI (c + usF (u.2 3) (u.2 4) p d i)) u → mL5 (fun K => wj_X9_uses_6 K post) (d + 1) (nI p) (nI b) (nI c) (nI i) u := by
    intro d
    induction d with
    | zero =>
      intro i c hi hq
      show wj_X9_uses_6 _ post _ _ _ _ u
      refine ⟨fun _ => hq, fun h => absurd ?_ h⟩
      rw [nI_leI (by omega) (by omega)]; omega
    | succ d ih =>
      intro i c hi hq
      have hq : post (nI (c + ((if kd (u.2 3 i) = 3 ∧ ¬ VR (u.2 3) (u.2 4) p (u.2 3 i) (u.2 4 i) < 0 then 1 else 0) + usF (u.2 3) (u.2 4) p d (i + 1)))) u := hq
      have no : ¬ (kd (u.2 3 i) = 3 ∧ ¬ VR (u.2 3) (u.2 4) p (u.2 3 i) (u.2 4 i) < 0) → wj_X9_uses_54 (mL5 (fun K => wj_X9_uses_6 K post) (d + 1)) post (nI p) (nI b) (nI c) (nI i) u := by
        intro h
        rintro _ rfl
        rw [nI_1]
        rw [if_neg h] at hq
        exact ih (i + 1) c (by omega) (by rw [Nat.zero_add] at hq; exact hq)
      show wj_X9_uses_6 _ post _ _ _ _ u
      refine ⟨fun h => absurd h (by rw [nI_leI (by omega) (by omega)]; omega), fun _ => ?_⟩
      refine kind_4 (by omega) ⟨fun h3 => no (fun q => h3 q.1), fun h3 => ⟨vp_in_nI (by omega) (by omega), ?_⟩⟩
      rintro _ rfl
      refine ⟨vp_in_nI (by omega) (by omega), ?_⟩
      rintro _ rfl
      rw [nI_clamp (by omega)]
      refine variable_ok ht hm hl hl2 ⟨fun hv => no (fun q => q.2 hv), fun hv => ?_⟩
      rintro _ rfl _ rfl
      rw [nI_1, nI_1]
      rw [if_pos ⟨h3, hv⟩] at hq
      exact ih (i + 1) (c + 1) (by omega) (by rw [show c + 1 + usF (u.2 3) (u.2 4) p d (i + 1) = c + (1 + usF (u.2 3) (u.2 4) p d (i + 1)) from by omega]; exact hq)
  refine ⟨b - a + 1, ?_⟩
  exact key (b - a) a 0 (by omega) (by rw [Nat.zero_add]; exact hp)
end
section
-- 13: isPattern, isTemplate, areRules of the reference
theorem inTree {r : Nat → Int32} {p n j : Nat} (hk : kd (r p) = 1) (ht : TL r p n) (h1 : p < j) (h2 : j < p + n) (hc : ¬ kd (r j) = 2) : TL r j (tl r j) ∧ j + tl r j < p + n := by
  obtain ⟨m, hm, hlt, -⟩ := TL_in (k := j - p) hk ht (by omega) (by omega) (by rw [show p + (j - p) = j from by omega]; exact hc)
  rw [show p + (j - p) = j from by omega] at hm
  rw [tl_eq hm]
  exact ⟨hm, by omega⟩
theorem inTree0 {r : Nat → Int32} {p n j : Nat} (ht : TL r p n) (h1 : p ≤ j) (h2 : j < p + n) (hc : ¬ kd (r j) = 2) : TL r j (tl r j) ∧ j + tl r j ≤ p + n := by
  by_cases hk : kd (r p) = 1
  · rcases Nat.lt_or_ge p j with c | c
    · obtain ⟨a, b⟩ := inTree hk ht c h2 hc
      exact ⟨a, by omega⟩
    · have : j = p := by omega
      subst this
      rw [tl_eq ht]; exact ⟨ht, Nat.le_refl _⟩
  · have e := TL_uniq ht (TL_atom hk)
    subst e
    have : j = p := by omega
    subst this
    rw [tl_eq ht]; exact ⟨ht, Nat.le_refl _⟩
/-- a pattern as it must be -/
def PAT (r s : Nat → Int32) (p : Nat) : Prop := (∃ n N, LI r p n N ∧ cn r p N ≠ 0) ∧ ¬ kd (r (p + 1 + tl r (p + 1))) = 6 ∧ ∀ i, p + 1 + tl r (p + 1) ≤ i → i < p + tl r p - 1 → (kd (r i) = 6 → kd (r (i + 1)) = 2) ∧ (¬ kd (r i) = 2 → ¬ kd (r i) = 6 → HB r (p + 1) (p + tl r p - 1) i ≤ 2) ∧ (kd (r i) = 3 → VR r s p (r i) (s i) = nI i)
theorem isPattern_ok {p n : Nat} {u : mS} {post : Int32 → mS → Prop} (ht : TL (u.2 3) p n) (hl : p + n ≤ 3200) (h1 : PAT (u.2 3) (u.2 4) p → post 1 u) (h0 : ¬ PAT (u.2 3) (u.2 4) p → post 0 u) : wp_X9_isPattern (nI p) u post := by
  have hn0 := ht.1
  have etl := tl_eq ht
  refine kind_4 (by omega) ⟨fun hk => h0 (fun ⟨⟨_, _, q, _⟩, _⟩ => hk q.1), fun hk => ?_⟩
  obtain ⟨N, hN⟩ := LI_ex hk ht
  have hbN := LI_at hN (Nat.le_refl N)
  have hcl := cn_le (u.2 3) p N
  refine count_4 hN hl ⟨fun hct => ?_, fun hct => h0 ?_⟩
  · have hc0 : cn (u.2 3) p N ≠ 0 := fun q => hct (by rw [q]; rfl)
    have hN1 : 0 < N := by omega
    refine end_4 ht hl ?_
    rintro _ rfl _ rfl
    rw [show p + n = p + n - 1 + 1 from by omega, nI_pred, nI_1]
    obtain ⟨hi2, hiT⟩ := hN.2.2.1 0 hN1
    have hiT : TL (u.2 3) (p + 1) (tl (u.2 3) (p + 1)) := hiT
    have hb1 : it (u.2 3) p 1 < p + n := (LI_at hN (k := 1) (by omega)).2.1
    have hb1 : p + 1 + tl (u.2 3) (p + 1) < p + n := hb1
    have hb2 : it (u.2 3) p 1 + (N - 1) ≤ it (u.2 3) p N := LI_mono hN (by omega) (Nat.le_refl N)
    have hb2 : p + 1 + tl (u.2 3) (p + 1) + (N - 1) ≤ it (u.2 3) p N := hb2
    have hbe := hN.2.2.2
    refine end_4 hiT (by omega) (kind_4 (by omega) ⟨fun hk6 => ?_, fun hk6 => h0 (fun q => q.2.1 hk6)⟩)
    have key : ∀ (d i : Nat), i + d = p + n - 1 → p + 1 + tl (u.2 3) (p + 1) ≤ i → (∀ j, p + 1 + tl (u.2 3) (p + 1) ≤ j → j < i → (kd (u.2 3 j) = 6 → kd (u.2 3 (j + 1)) = 2) ∧ (¬ kd (u.2 3 j) = 2 → ¬ kd (u.2 3 j) = 6 → HB (u.2 3) (p + 1) (p + tl (u.2 3) p - 1) j ≤ 2) ∧ (kd (u.2 3 j) = 3 → VR (u.2 3) (u.2 4) p (u.2 3 j) (u.2 4 j) = nI j)) → mL4 (fun K => wj_X9_isPattern_65 K post) (d + 1) (nI p) (nI (p + n - 1)) (nI i) u := by
      intro d
      induction d with
      | zero =>
        intro i hi hf hall
        show wj_X9_isPattern_65 _ post _ _ _ u
        refine ⟨fun _ => h1 ⟨⟨n, N, hN, hc0⟩, hk6, fun j hj hj2 => hall j hj (by rw [etl] at hj2; omega)⟩, fun h => absurd ?_ h⟩
        rw [nI_leI (by omega) (by omega)]; omega
      | succ d ih =>
        intro i hi hf hall
        have hno : ∀ P : Prop, (PAT (u.2 3) (u.2 4) p → P) → ¬ P → post 0 u := fun P h hn => h0 (fun q => hn (h q))
        have hat : PAT (u.2 3) (u.2 4) p → (kd (u.2 3 i) = 6 → kd (u.2 3 (i + 1)) = 2) ∧ (¬ kd (u.2 3 i) = 2 → ¬ kd (u.2 3 i) = 6 → HB (u.2 3) (p + 1) (p + tl (u.2 3) p - 1) i ≤ 2) ∧ (kd (u.2 3 i) = 3 → VR (u.2 3) (u.2 4) p (u.2 3 i) (u.2 4 i) = nI i) := fun q => q.2.2 i hf (by rw [etl]; omega)
        have g165 : ((kd (u.2 3 i) = 6 → kd (u.2 3 (i + 1)) = 2) ∧ (¬ kd (u.2 3 i) = 2 → ¬ kd (u.2 3 i) = 6 → HB (u.2 3) (p + 1) (p + tl (u.2 3) p - 1) i ≤ 2) ∧ (kd (u.2 3 i) = 3 → VR (u.2 3) (u.2 4) p (u.2 3 i) (u.2 4 i) = nI i)) → wj_X9_isPattern_165 (mL4 (fun K => wj_X9_isPattern_65 K post) (d + 1)) post (nI p) (nI (p + n - 1)) (nI i) u := by
          intro hg
          rintro _ rfl
          rw [nI_1]
          refine ih (i + 1) (by omega) (by omega) (fun j hj hj2 => ?_)
          rcases Nat.lt_or_ge j i with c | c
          · exact hall j hj c
          · have : j = i := by omega
            subst this; exact hg
        have g133 : (kd (u.2 3 i) = 6 → kd (u.2 3 (i + 1)) = 2) → (¬ kd (u.2 3 i) = 2 → ¬ kd (u.2 3 i) = 6 → HB (u.2 3) (p + 1) (p + tl (u.2 3) p - 1) i ≤ 2) → wj_X9_isPattern_133 (mL4 (fun K => wj_X9_isPattern_65 K post) (d + 1)) post (nI p) (nI (p + n - 1)) (nI i) (kd (u.2 3 i)) u := by
          intro a1 a2
          refine ⟨fun h3 => g165 ⟨a1, a2, fun q => absurd q h3⟩, fun h3 => ⟨vp_in_nI (by omega) (by omega), ?_⟩⟩
          rintro _ rfl
          refine ⟨vp_in_nI (by omega) (by omega), ?_⟩
          rintro _ rfl
          rw [nI_clamp (by omega)]
          refine variable_ok ht hiT hl (by omega) ⟨fun hv => g165 ⟨a1, a2, fun _ => hv⟩, fun hv => h0 (fun q => hv ((hat q).2.2 h3))⟩
        have g106 : (kd (u.2 3 i) = 6 → kd (u.2 3 (i + 1)) = 2) → wj_X9_isPattern_106 (mL4 (fun K => wj_X9_isPattern_65 K post) (d + 1)) post (nI p) (nI (p + n - 1)) (nI i) (kd (u.2 3 i)) u := by
          intro a1
          refine ⟨fun h2 => g133 a1 (fun q => absurd h2 q), fun h2 => ⟨fun h6 => g133 a1 (fun _ q => absurd h6 q), fun h6 => ?_⟩⟩
          rintro _ rfl
          rw [nI_1]
          have hHB := hbS_le (u.2 3) (p + n - 1) i (p + 1) (i + 1 - (p + 1))
          refine heldBy_ok (a := p + 1) (b := p + n - 1) (x := i) (by omega) (by omega) (by omega) (fun j hj1 hj2 hjc _ => ?_) ⟨fun h => h0 (fun q => ?_), fun h => g133 a1 (fun _ _ => ?_)⟩
          · obtain ⟨b1, b2⟩ := inTree hk ht (by omega) (by omega) hjc
            exact ⟨b1, by omega⟩
          · have := (hat q).2.1 h2 h6
            rw [etl] at this
            have h : nI 2 < nI (HB (u.2 3) (p + 1) (p + n - 1) i) := h
            rw [nI_ltI (by omega) (by unfold HB; omega)] at h
            omega
          · rw [etl]
            have h : ¬ nI 2 < nI (HB (u.2 3) (p + 1) (p + n - 1) i) := h
            rw [nI_ltI (by omega) (by unfold HB; omega)] at h
            omega
        show wj_X9_isPattern_65 _ post _ _ _ u
        refine ⟨fun h => absurd h (by rw [nI_leI (by omega) (by omega)]; omega), fun _ => ?_⟩
        refine kind_4 (by omega) ⟨fun h6 => g106 (fun q => absurd q h6), fun h6 => ?_⟩
        rintro _ rfl
        rw [nI_1]
        exact kind_4 (by omega) ⟨fun h2 => g106 (fun _ => h2), fun h2 => h0 (fun q => h2 ((hat q).1 h6))⟩
    refine ⟨p + n - 1 - (p + 1 + tl (u.2 3) (p + 1)) + 1, ?_⟩
    exact key _ _ (by omega) (Nat.le_refl _) (fun j hj hj2 => by omega)
  · rintro ⟨⟨n', M, q1, q2⟩, -⟩
    have e := (LI_uniq hN q1).2
    subst e
    exact q2 ((nI_eq (a := cn (u.2 3) p N) (b := 0) (by omega) (by omega)).mp hct)
/-- a template as it must be, for the pattern at p -/
def TEM (r s : Nat → Int32) (p t : Nat) : Prop := (∀ i, t ≤ i → i < t + tl r t → kd (r i) = 3 → ¬ VR r s p (r i) (s i) < 0 → HB r t (t + tl r t) i = HB r (p + 1) (p + tl r p - 1) (VR r s p (r i) (s i)).toNatClampNeg) ∧ (∀ i, t ≤ i → i < t + tl r t → ¬ kd (r i) = 2 → ¬ kd (r i) = 6 → i + tl r i < t + tl r t → kd (r (i + tl r i)) = 6 → usF r s p (tl r i) i ≠ 0)
theorem VR_cases {r s : Nat → Int32} {p n N : Nat} (h : LI r p n N) (hN : 0 < N) (hl : p + n < 2 ^ 31) (v w : Int32) : VR r s p v w = -1 ∨ ∃ j, p + 1 + tl r (p + 1) ≤ j ∧ j < p + n - 1 ∧ VR r s p v w = nI j ∧ r j = v ∧ s j = w := by
  have hb1 : it r p 1 < p + n := (LI_at h (k := 1) (by omega)).2.1
  have hb1 : p + 1 + tl r (p + 1) < p + n := hb1
  have e := tl_eq h.2.1
  unfold VR
  rw [e]
  rcases vrF_cases r s v w (p + n - 1 - (p + 1 + tl r (p + 1))) (p + 1 + tl r (p + 1)) (by omega) with g | ⟨j, g1, g2, g3⟩
  · exact Or.inl g
  · exact Or.inr ⟨j, g1, by omega, g3⟩
theorem isTemplate_ok {p n N t m : Nat} {u : mS} {post : Int32 → mS → Prop} (hP : LI (u.2 3) p n N) (hN : 0 < N) (hl : p + n ≤ 3200) (ht : TL (u.2 3) t m) (hl2 : t + m ≤ 3200) (h1 : TEM (u.2 3) (u.2 4) p t → post 1 u) (h0 : ¬ TEM (u.2 3) (u.2 4) p t → post 0 u) : wp_X9_isTemplate (nI p) (nI t) u post := by
  have htp := hP.2.1
  have hk := hP.1
  have hn0 := htp.1
  have hm0 := ht.1
  have etp := tl_eq htp
  have ett := tl_eq ht
  obtain ⟨-, hiT⟩ := hP.2.2.1 0 hN
  have hiT : TL (u.2 3) (p + 1) (tl (u.2 3) (p + 1)) := hiT
  have hb1 : it (u.2 3) p 1 < p + n := (LI_at hP (k := 1) (by omega)).2.1
  have hb1 : p + 1 + tl (u.2 3) (p + 1) < p + n := hb1
  refine end_4 ht hl2 (end_4 htp hl ?_)
  rintro _ rfl
  rw [show p + n = p + n - 1 + 1 from by omega, nI_pred]
  -- the second loop
  have key2 : (∀ i, t ≤ i → i < t + tl (u.2 3) t → kd (u.2 3 i) = 3 → ¬ VR (u.2 3) (u.2 4) p (u.2 3 i) (u.2 4 i) < 0 → HB (u.2 3) t (t + tl (u.2 3) t) i = HB (u.2 3) (p + 1) (p + tl (u.2 3) p - 1) (VR (u.2 3) (u.2 4) p (u.2 3 i) (u.2 4 i)).toNatClampNeg) → ∀ (d i : Nat), i + d = t + m → t ≤ i → (∀ j, t ≤ j → j < i → ¬ kd (u.2 3 j) = 2 → ¬ kd (u.2 3 j) = 6 → j + tl (u.2 3) j < t + tl (u.2 3) t → kd (u.2 3 (j + tl (u.2 3) j)) = 6 → usF (u.2 3) (u.2 4) p (tl (u.2 3) j) j ≠ 0) → mL4 (fun K => wj_X9_isTemplate_106 K post) (d + 1) (nI p) (nI (t + m)) (nI i) u := by
    intro hA d
    induction d with
    | zero =>
      intro i hi hti hall
      show wj_X9_isTemplate_106 _ post _ _ _ u
      refine ⟨fun _ => h1 ⟨hA, fun j hj hj2 => hall j hj (by rw [ett] at hj2; omega)⟩, fun h => absurd ?_ h⟩
      rw [nI_leI (by omega) (by omega)]; omega
    | succ d ih =>
      intro i hi hti hall
      have go : (¬ kd (u.2 3 i) = 2 → ¬ kd (u.2 3 i) = 6 → i + tl (u.2 3) i < t + tl (u.2 3) t → kd (u.2 3 (i + tl (u.2 3) i)) = 6 → usF (u.2 3) (u.2 4) p (tl (u.2 3) i) i ≠ 0) → wj_X9_isTemplate_185 (mL4 (fun K => wj_X9_isTemplate_106 K post) (d + 1)) post (nI p) (nI (t + m)) (nI i) u := by
        intro hg
        rintro _ rfl
        rw [nI_1]
        refine ih (i + 1) (by omega) (by omega) (fun j hj hj2 => ?_)
        rcases Nat.lt_or_ge j i with c | c
        · exact hall j hj c
        · have : j = i := by omega
          subst this; exact hg
      have no : (kd (u.2 3 i) = 2 ∨ kd (u.2 3 i) = 6) → wj_X9_isTemplate_136 (mL4 (fun K => wj_X9_isTemplate_106 K post) (d + 1)) post (nI p) (nI (t + m)) (nI i) u := by
        intro h
        refine ⟨fun _ => go (fun a b => ?_), fun h9 => absurd (Int32.le_refl _) h9⟩
        rcases h with h | h
        · exact absurd h a
        · exact absurd h b
      show wj_X9_isTemplate_106 _ post _ _ _ u
      refine ⟨fun h => absurd h (by rw [nI_leI (by omega) (by omega)]; omega), fun _ => ?_⟩
      refine kind_4 (by omega) ⟨fun h2 => no (Or.inl h2), fun h2 => ⟨fun h6 => ?_, fun h6 => no (Or.inr h6)⟩⟩
      obtain ⟨a1, a2⟩ := inTree0 ht hti (by omega) h2
      have a0 := a1.1
      refine end_4 a1 (by omega) ⟨fun h => go (fun _ _ q => ?_), fun h => ?_⟩
      · rw [nI_leI (by omega) (by omega)] at h
        rw [ett] at q; omega
      · rw [nI_leI (by omega) (by omega)] at h
        refine kind_4 (by omega) ⟨fun h7 => go (fun _ _ _ q => absurd q h7), fun h7 => ?_⟩
        have hul := usF_le (u.2 3) (u.2 4) p (tl (u.2 3) i) i
        refine uses_ok htp hiT hl (by omega) (by omega) (by omega) ?_
        rw [show i + tl (u.2 3) i - i = tl (u.2 3) i from by omega]
        refine ⟨fun h8 => go (fun _ _ _ _ q => h8 (by rw [q]; rfl)), fun h8 => h0 (fun q => ?_)⟩
        exact q.2 i hti (by rw [ett]; omega) h2 h6 (by rw [ett]; omega) h7 ((nI_eq (a := usF (u.2 3) (u.2 4) p (tl (u.2 3) i) i) (b := 0) (by omega) (by omega)).mp h8)
  have key1 : ∀ (d i : Nat), i + d = t + m → t ≤ i → (∀ j, t ≤ j → j < i → kd (u.2 3 j) = 3 → ¬ VR (u.2 3) (u.2 4) p (u.2 3 j) (u.2 4 j) < 0 → HB (u.2 3) t (t + tl (u.2 3) t) j = HB (u.2 3) (p + 1) (p + tl (u.2 3) p - 1) (VR (u.2 3) (u.2 4) p (u.2 3 j) (u.2 4 j)).toNatClampNeg) → mL6 (fun K => wj_X9_isTemplate_24 K post) (d + 1) (nI p) (nI t) (nI (t + m)) (nI (p + n - 1)) (nI i) u := by
    intro d
    induction d with
    | zero =>
      intro i hi hti hall
      show wj_X9_isTemplate_24 _ post _ _ _ _ _ u
      refine ⟨fun _ => ⟨m + 1, key2 (fun j hj hj2 => hall j hj (by rw [ett] at hj2; omega)) m t rfl (Nat.le_refl t) (fun j hj hj2 => by omega)⟩, fun h => absurd ?_ h⟩
      rw [nI_leI (by omega) (by omega)]; omega
    | succ d ih =>
      intro i hi hti hall
      have go : (kd (u.2 3 i) = 3 → ¬ VR (u.2 3) (u.2 4) p (u.2 3 i) (u.2 4 i) < 0 → HB (u.2 3) t (t + tl (u.2 3) t) i = HB (u.2 3) (p + 1) (p + tl (u.2 3) p - 1) (VR (u.2 3) (u.2 4) p (u.2 3 i) (u.2 4 i)).toNatClampNeg) → wj_X9_isTemplate_97 (mL6 (fun K => wj_X9_isTemplate_24 K post) (d + 1)) post (nI p) (nI t) (nI (t + m)) (nI (p + n - 1)) (nI i) u := by
        intro hg
        rintro _ rfl
        rw [nI_1]
        refine ih (i + 1) (by omega) (by omega) (fun j hj hj2 => ?_)
        rcases Nat.lt_or_ge j i with c | c
        · exact hall j hj c
        · have : j = i := by omega
          subst this; exact hg
      show wj_X9_isTemplate_24 _ post _ _ _ _ _ u
      refine ⟨fun h => absurd h (by rw [nI_leI (by omega) (by omega)]; omega), fun _ => ?_⟩
      refine kind_4 (by omega) ⟨fun h3 => ⟨fun _ => go (fun q => absurd q h3), fun h => absurd (by decide) h⟩, fun h3 => ⟨vp_in_nI (by omega) (by omega), ?_⟩⟩
      rintro _ rfl
      refine ⟨vp_in_nI (by omega) (by omega), ?_⟩
      rintro _ rfl
      rw [nI_clamp (by omega)]
      refine variable_ok htp hiT hl (by omega) ⟨fun hv => go (fun _ q => absurd hv q), fun hv => ?_⟩
      rcases VR_cases (s := u.2 4) hP hN (by omega) (u.2 3 i) (u.2 4 i) with g | ⟨v, g1, g2, g3, -⟩
      · rw [g] at hv; exact absurd (by decide) hv
      · have hq := hbS_le (u.2 3) (t + m) i t (i + 1 - t)
        have hq2 := hbS_le (u.2 3) (p + n - 1) v (p + 1) (v + 1 - (p + 1))
        refine heldBy_ok (a := t) (b := t + m) (x := i) (by omega) (by omega) (by omega) (fun j hj1 hj2 hjc _ => ?_) ?_
        · obtain ⟨b1, b2⟩ := inTree0 ht hj1 (by omega) hjc
          exact ⟨b1, by omega⟩
        · rintro _ rfl
          rw [nI_1]
          show wp_X9_heldBy (nI (p + 1)) (nI (p + n - 1)) (VR (u.2 3) (u.2 4) p (u.2 3 i) (u.2 4 i)) u _
          rw [g3]
          refine heldBy_ok (a := p + 1) (b := p + n - 1) (x := v) (by omega) (by omega) (by omega) (fun j hj1 hj2 hjc _ => ?_) ⟨fun he => go (fun _ _ => ?_), fun he => h0 (fun q => he ?_)⟩
          · obtain ⟨b1, b2⟩ := inTree hk htp (by omega) (by omega) hjc
            exact ⟨b1, by omega⟩
          · have he := (nI_eq (by unfold HB; omega) (by unfold HB; omega)).mp he
            rw [ett, etp, g3, nI_clamp (by omega)]; exact he
          · have := q.1 i hti (by rw [ett]; omega) h3 hv
            rw [ett, etp, g3, nI_clamp (by omega)] at this
            rw [this]
  exact ⟨m + 1, key1 m t rfl (Nat.le_refl t) (fun j hj hj2 => by omega)⟩
/-- the places of trees and .. one behind another, from a on -/
noncomputable def nx (r : Nat → Int32) (a : Nat) : Nat → Nat
  | 0 => a
  | k + 1 => nx r a k + tl r (nx r a k)
def SQ (r : Nat → Int32) (a b N : Nat) : Prop := (∀ k, k < N → ¬ kd (r (nx r a k)) = 2 ∧ TL r (nx r a k) (tl r (nx r a k))) ∧ nx r a N = b
theorem SQ_mono {r : Nat → Int32} {a b N : Nat} (h : SQ r a b N) {j k : Nat} (hj : j ≤ k) (hk : k ≤ N) : nx r a j + (k - j) ≤ nx r a k := by
  induction k with
  | zero => have : j = 0 := by omega
            subst this; omega
  | succ k ih =>
    rcases Nat.lt_or_ge k j with c | c
    · have : j = k + 1 := by omega
      subst this; omega
    · have a1 := ih c (by omega)
      have b1 := (h.1 k (by omega)).2.1
      show nx r a j + (k + 1 - j) ≤ nx r a k + tl r (nx r a k)
      omega
/-- a rule as it must be -/
def RUL (r s : Nat → Int32) (i : Nat) : Prop := ¬ kd (r i) = 6 ∧ (∃ n, LI r i n 2 ∧ dn r i 2 = 0) ∧ PAT r s (i + 1) ∧ TEM r s (i + 1) (i + 1 + tl r (i + 1))
theorem areRules_ok {a b N : Nat} {u : mS} {post : Int32 → mS → Prop} (h : SQ (u.2 3) a b N) (hb : b ≤ 3200) (h1 : (∀ k, k < N → RUL (u.2 3) (u.2 4) (nx (u.2 3) a k)) → post 1 u) (h0 : ¬ (∀ k, k < N → RUL (u.2 3) (u.2 4) (nx (u.2 3) a k)) → post 0 u) : wp_X9_areRules (nI a) (nI b) u post := by
  have key : ∀ (d k : Nat), k + d = N → (∀ j, j < k → RUL (u.2 3) (u.2 4) (nx (u.2 3) a j)) → mL3 (fun K => wj_X9_areRules_2 K post) (d + 1) (nI b) (nI (nx (u.2 3) a k)) u := by
    intro d
    induction d with
    | zero =>
      intro k hk hall
      have hk : k = N := by omega
      subst hk
      show wj_X9_areRules_2 _ post _ _ u
      rw [h.2]
      exact ⟨fun _ => h1 hall, fun h9 => absurd (Int32.le_refl _) h9⟩
    | succ d ih =>
      intro k hk hall
      obtain ⟨c2, cT⟩ := h.1 k (by omega)
      have m1 := SQ_mono h (j := k) (k := k + 1) (by omega) (by omega)
      have m2 := SQ_mono h (j := k + 1) (k := N) (by omega) (Nat.le_refl N)
      have e1 : nx (u.2 3) a (k + 1) = nx (u.2 3) a k + tl (u.2 3) (nx (u.2 3) a k) := rfl
      have e2 := h.2
      have ihk := ih (k + 1) (by omega)
      have hno : ¬ RUL (u.2 3) (u.2 4) (nx (u.2 3) a k) → post 0 u := fun q => h0 (fun z => q (z k (by omega)))
      rw [e1] at ihk
      generalize ei : nx (u.2 3) a k = i at c2 cT m1 m2 e1 ihk hno ⊢
      show wj_X9_areRules_2 _ post _ _ u
      refine ⟨fun h9 => absurd h9 (by rw [nI_leI (by omega) (by omega)]; omega), fun _ => ?_⟩
      refine kind_4 (by omega) ⟨fun h6 => hno (fun q => q.1 h6), fun h6 => ?_⟩
      refine isPlain_4 (t := 2) cT (by omega) (by omega) (fun M hM hc hd => ?_) (fun hn => ⟨fun _ => hno (fun q => ?_), fun h9 => absurd rfl h9⟩)
      · have hM2 : M = 2 := by have := cn_dn (u.2 3) i M; omega
        subst hM2
        refine ⟨fun h9 => absurd h9 (by decide), fun _ => ?_⟩
        rintro _ rfl
        rw [nI_1]
        have pT : TL (u.2 3) (i + 1) (tl (u.2 3) (i + 1)) := (hM.2.2.1 0 (by omega)).2
        have tT : TL (u.2 3) (i + 1 + tl (u.2 3) (i + 1)) (tl (u.2 3) (i + 1 + tl (u.2 3) (i + 1))) := (hM.2.2.1 1 (by omega)).2
        have b2 : it (u.2 3) i 2 < i + tl (u.2 3) i := (LI_at hM (k := 2) (by omega)).2.1
        have b2 : i + 1 + tl (u.2 3) (i + 1) + tl (u.2 3) (i + 1 + tl (u.2 3) (i + 1)) < i + tl (u.2 3) i := b2
        have p0 := pT.1
        have t0 := tT.1
        refine isPattern_ok pT (by omega) (fun hp => ?_) (fun hp => ⟨fun _ => hno (fun q => hp q.2.2.1), fun h9 => absurd rfl h9⟩)
        refine ⟨fun h9 => absurd h9 (by decide), fun _ => ?_⟩
        rintro _ rfl _ rfl
        refine end_4 pT (by omega) ?_
        obtain ⟨⟨n', N', hL', hc'⟩, -⟩ := id hp
        have en := TL_uniq hL'.2.1 pT
        subst en
        have hN' : 0 < N' := by have := cn_le (u.2 3) (i + 1) N'; omega
        refine isTemplate_ok hL' hN' (by omega) tT (by omega) (fun htm => ⟨fun _ => ?_, fun h9 => absurd h9 (by decide)⟩) (fun htm => ⟨fun h9 => absurd rfl h9, fun _ => hno (fun q => htm q.2.2.2)⟩)
        refine end_4 cT (by omega) ?_
        refine ihk (fun j hj => ?_)
        rcases Nat.lt_or_ge j k with c | c
        · exact hall j c
        · have : j = k := by omega
          subst this
          rw [ei]
          exact ⟨h6, ⟨_, hM, hd⟩, hp, htm⟩
      · obtain ⟨n', q1, q2⟩ := q.2.1
        have en := TL_uniq q1.2.1 cT
        subst en
        exact hn ⟨2, q1, by have := cn_dn (u.2 3) i 2; omega, q2⟩
  exact ⟨N + 1, key N 0 (by omega) (fun j hj => by omega)⟩
end
section
-- 14: what is said of a row of tokens holds of a copy of it, wherever that stands
section SH
variable {r s q t : Nat → Int32} {a c L : Nat}
theorem sh_TL (hA : ∀ j, j < L → q (c + j) = r (a + j) ∧ t (c + j) = s (a + j)) {x n : Nat} (h : TL r (a + x) n) (hx : x + n ≤ L) : TL q (c + x) n := by
  refine TL_copy (fun k hk => ?_) h
  rw [show c + x + k = c + (x + k) from by omega, show a + x + k = a + (x + k) from by omega, (hA (x + k) (by omega)).1]
theorem sh_tl (hA : ∀ j, j < L → q (c + j) = r (a + j) ∧ t (c + j) = s (a + j)) {x n : Nat} (h : TL r (a + x) n) (hx : x + n ≤ L) : tl q (c + x) = tl r (a + x) := by
  rw [tl_eq (sh_TL hA h hx), tl_eq h]
theorem sh_it (hA : ∀ j, j < L → q (c + j) = r (a + j) ∧ t (c + j) = s (a + j)) {x n N : Nat} (h : LI r (a + x) n N) (hx : x + n ≤ L) : ∀ k, k ≤ N → it q (c + x) k + a = it r (a + x) k + c := by
  intro k
  induction k with
  | zero => intro _; show c + x + 1 + a = a + x + 1 + c; omega
  | succ k ih =>
    intro hk
    have e := ih (by omega)
    have b := LI_at h (k := k) (by omega)
    have b2 := LI_at h (k := k + 1) (by omega)
    have T := (h.2.2.1 k (by omega)).2
    have e1 : it r (a + x) k = a + (it r (a + x) k - a) := by omega
    have e2 : it q (c + x) k = c + (it r (a + x) k - a) := by omega
    have b3 : it r (a + x) k + tl r (it r (a + x) k) < a + x + n := b2.2.1
    have E : tl q (it q (c + x) k) = tl r (it r (a + x) k) := by
      rw [e2]
      have T' : TL r (a + (it r (a + x) k - a)) (tl r (it r (a + x) k)) := by rw [← e1]; exact T
      rw [sh_tl hA T' (by omega), ← e1]
    show it q (c + x) k + tl q (it q (c + x) k) + a = it r (a + x) k + tl r (it r (a + x) k) + c
    omega
theorem sh_kd (hA : ∀ j, j < L → q (c + j) = r (a + j) ∧ t (c + j) = s (a + j)) {i j : Nat} (h : j + a = i + c) (ha : a ≤ i) (hl : i < a + L) : q j = r i ∧ t j = s i := by
  have := hA (i - a) (by omega)
  rw [show c + (i - a) = j from by omega, show a + (i - a) = i from by omega] at this
  exact this
theorem sh_LI (hA : ∀ j, j < L → q (c + j) = r (a + j) ∧ t (c + j) = s (a + j)) {x n N : Nat} (h : LI r (a + x) n N) (hx : x + n ≤ L) : LI q (c + x) n N := by
  have I := sh_it hA h hx
  have n0 := h.2.1.1
  refine ⟨?_, sh_TL hA h.2.1 hx, fun k hk => ?_, ?_⟩
  · rw [(hA x (by omega)).1]; exact h.1
  · have b := LI_at h (k := k) (by omega)
    have b2 := LI_at h (k := k + 1) (by omega)
    obtain ⟨h2, T⟩ := h.2.2.1 k hk
    have e := I k (by omega)
    have e1 : it r (a + x) k = a + (it r (a + x) k - a) := by omega
    have e2 : it q (c + x) k = c + (it r (a + x) k - a) := by omega
    have b3 : it r (a + x) k + tl r (it r (a + x) k) < a + x + n := b2.2.1
    have T' : TL r (a + (it r (a + x) k - a)) (tl r (it r (a + x) k)) := by rw [← e1]; exact T
    refine ⟨?_, ?_⟩
    · rw [(sh_kd hA e (by omega) (by omega)).1]; exact h2
    · have := sh_TL hA T' (by omega)
      rw [← e2] at this
      rw [tl_eq this]; exact this
  · have e := I N (Nat.le_refl N)
    have := h.2.2.2
    omega
theorem sh_cn (hA : ∀ j, j < L → q (c + j) = r (a + j) ∧ t (c + j) = s (a + j)) {x n N : Nat} (h : LI r (a + x) n N) (hx : x + n ≤ L) : ∀ k, k ≤ N → cn q (c + x) k = cn r (a + x) k ∧ dn q (c + x) k = dn r (a + x) k := by
  intro k
  induction k with
  | zero => intro _; exact ⟨rfl, rfl⟩
  | succ k ih =>
    intro hk
    have e := sh_it hA h hx k (by omega)
    have b := LI_at h (k := k) (by omega)
    have E := (sh_kd hA e (by omega) (by omega)).1
    obtain ⟨i1, i2⟩ := ih (by omega)
    show cn q (c + x) k + (if kd (q (it q (c + x) k)) = 6 then 0 else 1) = cn r (a + x) k + (if kd (r (it r (a + x) k)) = 6 then 0 else 1) ∧ dn q (c + x) k + (if kd (q (it q (c + x) k)) = 6 then 1 else 0) = dn r (a + x) k + (if kd (r (it r (a + x) k)) = 6 then 1 else 0)
    rw [E, i1, i2]; exact ⟨rfl, rfl⟩
theorem sh_hb1 (hA : ∀ j, j < L → q (c + j) = r (a + j) ∧ t (c + j) = s (a + j)) {b y i : Nat} (hb : b ≤ L) (hi : i < L) (hT : ¬ kd (r (a + i)) = 2 → ¬ kd (r (a + i)) = 6 → TL r (a + i) (tl r (a + i)) ∧ i + tl r (a + i) ≤ L) : hb1 q (c + b) (c + y) (c + i) = hb1 r (a + b) (a + y) (a + i) := by
  unfold hb1
  rw [(hA i hi).1]
  by_cases h2 : kd (r (a + i)) = 2
  · rw [if_neg (fun z => z.1 h2), if_neg (fun z => z.1 h2)]
  · by_cases h6 : kd (r (a + i)) = 6
    · rw [if_neg (fun z => z.2.1 h6), if_neg (fun z => z.2.1 h6)]
    · obtain ⟨T, hl⟩ := hT h2 h6
      rw [sh_tl hA T hl]
      by_cases hlt : i + tl r (a + i) < b
      · have E : q (c + i + tl r (a + i)) = r (a + i + tl r (a + i)) := by
          have := (hA (i + tl r (a + i)) (by omega)).1
          rw [← Nat.add_assoc, ← Nat.add_assoc] at this
          exact this
        rw [E]
        by_cases hy : y < i + tl r (a + i)
        · by_cases hk : kd (r (a + i + tl r (a + i))) = 6
          · rw [if_pos ⟨h2, h6, by omega, by omega, hk⟩, if_pos ⟨h2, h6, by omega, by omega, hk⟩]
          · rw [if_neg (fun z => hk z.2.2.2.2), if_neg (fun z => hk z.2.2.2.2)]
        · rw [if_neg (fun z => hy (by have := z.2.2.2.1; omega)), if_neg (fun z => hy (by have := z.2.2.2.1; omega))]
      · rw [if_neg (fun z => hlt (by have := z.2.2.1; omega)), if_neg (fun z => hlt (by have := z.2.2.1; omega))]
theorem sh_HB (hA : ∀ j, j < L → q (c + j) = r (a + j) ∧ t (c + j) = s (a + j)) {x b y : Nat} (hb : b ≤ L) (hy : y < L) (hT : ∀ i, x ≤ i → i ≤ y → ¬ kd (r (a + i)) = 2 → ¬ kd (r (a + i)) = 6 → TL r (a + i) (tl r (a + i)) ∧ i + tl r (a + i) ≤ L) : HB q (c + x) (c + b) (c + y) = HB r (a + x) (a + b) (a + y) := by
  have key : ∀ k, x + k ≤ y + 1 → hbS q (c + b) (c + y) (c + x) k = hbS r (a + b) (a + y) (a + x) k := by
    intro k
    induction k with
    | zero => intro _; rfl
    | succ k ih =>
      intro hk
      show hbS q (c + b) (c + y) (c + x) k + hb1 q (c + b) (c + y) (c + x + k) = hbS r (a + b) (a + y) (a + x) k + hb1 r (a + b) (a + y) (a + x + k)
      rw [ih (by omega), show c + x + k = c + (x + k) from by omega, show a + x + k = a + (x + k) from by omega, sh_hb1 hA hb (by omega) (hT (x + k) (by omega) (by omega))]
  unfold HB
  rw [show c + y + 1 - (c + x) = y + 1 - x from by omega, show a + y + 1 - (a + x) = y + 1 - x from by omega]
  rcases Nat.lt_or_ge (y + 1) x with g | g
  · rw [show y + 1 - x = 0 from by omega]; rfl
  · exact key _ (by omega)
theorem sh_vrF (hA : ∀ j, j < L → q (c + j) = r (a + j) ∧ t (c + j) = s (a + j)) (v w : Int32) : ∀ (n x : Nat), x + n ≤ L → (vrF r s v w n (a + x) = -1 ∧ vrF q t v w n (c + x) = -1) ∨ ∃ j, x ≤ j ∧ j < x + n ∧ vrF r s v w n (a + x) = nI (a + j) ∧ vrF q t v w n (c + x) = nI (c + j) := by
  intro n
  induction n with
  | zero => intro x _; exact Or.inl ⟨rfl, rfl⟩
  | succ n ih =>
    intro x hx
    show ((if r (a + x) = v ∧ s (a + x) = w then nI (a + x) else vrF r s v w n (a + x + 1)) = -1 ∧ (if q (c + x) = v ∧ t (c + x) = w then nI (c + x) else vrF q t v w n (c + x + 1)) = -1) ∨ ∃ j, x ≤ j ∧ j < x + (n + 1) ∧ (if r (a + x) = v ∧ s (a + x) = w then nI (a + x) else vrF r s v w n (a + x + 1)) = nI (a + j) ∧ (if q (c + x) = v ∧ t (c + x) = w then nI (c + x) else vrF q t v w n (c + x + 1)) = nI (c + j)
    rw [(hA x (by omega)).1, (hA x (by omega)).2]
    by_cases h : r (a + x) = v ∧ s (a + x) = w
    · rw [if_pos h, if_pos h]; exact Or.inr ⟨x, by omega, by omega, rfl, rfl⟩
    · rw [if_neg h, if_neg h]
      rcases ih (x + 1) (by omega) with g | ⟨j, g1, g2, g3⟩
      · exact Or.inl g
      · exact Or.inr ⟨j, by omega, by omega, g3⟩
theorem sh_VR (hA : ∀ j, j < L → q (c + j) = r (a + j) ∧ t (c + j) = s (a + j)) {p n N : Nat} (h : LI r (a + p) n N) (hN : 0 < N) (hp : p + n ≤ L) (v w : Int32) : (VR r s (a + p) v w = -1 ∧ VR q t (c + p) v w = -1) ∨ ∃ j, p < j ∧ j < p + n - 1 ∧ VR r s (a + p) v w = nI (a + j) ∧ VR q t (c + p) v w = nI (c + j) := by
  have hb1 : it r (a + p) 1 < a + p + n := (LI_at h (k := 1) (by omega)).2.1
  have hb1 : a + p + 1 + tl r (a + p + 1) < a + p + n := hb1
  have T1 : TL r (a + p + 1) (tl r (a + p + 1)) := (h.2.2.1 0 hN).2
  have e1 := tl_eq h.2.1
  have e2 := sh_tl hA h.2.1 hp
  have e3 : tl q (c + p + 1) = tl r (a + p + 1) := sh_tl hA (x := p + 1) (n := tl r (a + p + 1)) T1 (by omega)
  unfold VR
  rw [e2, e3, e1]
  rw [show a + p + n - 1 - (a + p + 1 + tl r (a + p + 1)) = p + n - 1 - (p + 1 + tl r (a + p + 1)) from by omega, show c + p + n - 1 - (c + p + 1 + tl r (a + p + 1)) = p + n - 1 - (p + 1 + tl r (a + p + 1)) from by omega, show a + p + 1 + tl r (a + p + 1) = a + (p + 1 + tl r (a + p + 1)) from by omega, show c + p + 1 + tl r (a + p + 1) = c + (p + 1 + tl r (a + p + 1)) from by omega]
  rcases sh_vrF hA v w (p + n - 1 - (p + 1 + tl r (a + p + 1))) (p + 1 + tl r (a + p + 1)) (by omega) with g | ⟨j, g1, g2, g3⟩
  · exact Or.inl g
  · exact Or.inr ⟨j, by omega, by omega, g3⟩
theorem sh_usF (hA : ∀ j, j < L → q (c + j) = r (a + j) ∧ t (c + j) = s (a + j)) {p n N : Nat} (h : LI r (a + p) n N) (hN : 0 < N) (hp : p + n ≤ L) (ha : a + L < 2 ^ 31) (hc : c + L < 2 ^ 31) : ∀ (m i : Nat), i + m ≤ L → usF q t (c + p) m (c + i) = usF r s (a + p) m (a + i) := by
  intro m
  induction m with
  | zero => intro i _; rfl
  | succ m ih =>
    intro i hi
    have E : (VR q t (c + p) (r (a + i)) (s (a + i)) < 0) ↔ (VR r s (a + p) (r (a + i)) (s (a + i)) < 0) := by
      rcases sh_VR hA h hN hp (r (a + i)) (s (a + i)) with ⟨g1, g2⟩ | ⟨j, g1, g2, g3, g4⟩
      · rw [g1, g2]
      · rw [g3, g4]
        exact ⟨fun z => absurd z (nI_pos (by omega)), fun z => absurd z (nI_pos (by omega))⟩
    show (if kd (q (c + i)) = 3 ∧ ¬ VR q t (c + p) (q (c + i)) (t (c + i)) < 0 then 1 else 0) + usF q t (c + p) m (c + i + 1) = (if kd (r (a + i)) = 3 ∧ ¬ VR r s (a + p) (r (a + i)) (s (a + i)) < 0 then 1 else 0) + usF r s (a + p) m (a + i + 1)
    have ih' : usF q t (c + p) m (c + i + 1) = usF r s (a + p) m (a + i + 1) := ih (i + 1) (by omega)
    rw [(hA i (by omega)).1, (hA i (by omega)).2, ih']
    by_cases z : kd (r (a + i)) = 3 ∧ ¬ VR r s (a + p) (r (a + i)) (s (a + i)) < 0
    · rw [if_pos z, if_pos ⟨z.1, fun y => z.2 (E.mp y)⟩]
    · rw [if_neg z, if_neg (fun y => z ⟨y.1, fun x => y.2 (E.mpr x)⟩)]
theorem sh_PAT (hA : ∀ j, j < L → q (c + j) = r (a + j) ∧ t (c + j) = s (a + j)) {p n : Nat} (h : PAT r s (a + p)) (hT : TL r (a + p) n) (hp : p + n ≤ L) (ha : a + L < 2 ^ 31) (hc : c + L < 2 ^ 31) : PAT q t (c + p) := by
  obtain ⟨⟨n', N, hL, hcn⟩, h6, hall⟩ := h
  have en := TL_uniq hL.2.1 hT
  subst en
  have hN : 0 < N := by have := cn_le r (a + p) N; omega
  have hb1 : it r (a + p) 1 < a + p + n' := (LI_at hL (k := 1) (by omega)).2.1
  have hb1 : a + p + 1 + tl r (a + p + 1) < a + p + n' := hb1
  have T1 : TL r (a + p + 1) (tl r (a + p + 1)) := (hL.2.2.1 0 hN).2
  have e1 := tl_eq hL.2.1
  have e2 := sh_tl hA hL.2.1 hp
  have e3 : tl q (c + p + 1) = tl r (a + p + 1) := sh_tl hA (x := p + 1) (n := tl r (a + p + 1)) T1 (by omega)
  refine ⟨⟨n', N, sh_LI hA hL hp, ?_⟩, ?_, ?_⟩
  · rw [(sh_cn hA hL hp N (Nat.le_refl N)).1]; exact hcn
  · rw [e3]
    have := (hA (p + 1 + tl r (a + p + 1)) (by omega)).1
    rw [show c + p + 1 + tl r (a + p + 1) = c + (p + 1 + tl r (a + p + 1)) from by omega, this, show a + (p + 1 + tl r (a + p + 1)) = a + p + 1 + tl r (a + p + 1) from by omega]
    exact h6
  · intro i hi1 hi2
    rw [e3] at hi1
    rw [e2, e1] at hi2
    have E : i = c + (i - c) := by omega
    obtain ⟨g1, g2, g3⟩ := hall (a + (i - c)) (by omega) (by rw [e1]; omega)
    have k0 := (hA (i - c) (by omega)).1
    have k1 := (hA (i - c) (by omega)).2
    rw [← E] at k0 k1
    have k2 := (hA (i - c + 1) (by omega)).1
    rw [show c + (i - c + 1) = i + 1 from by omega, show a + (i - c + 1) = a + (i - c) + 1 from by omega] at k2
    refine ⟨fun z => ?_, fun z1 z2 => ?_, fun z => ?_⟩
    · rw [k2]; rw [k0] at z; exact g1 z
    · rw [k0] at z1 z2
      have := g2 z1 z2
      rw [e2]
      have H := sh_HB hA (x := p + 1) (b := p + n' - 1) (y := i - c) (by omega) (by omega) (fun j hj1 hj2 hj3 hj4 => by
        obtain ⟨b1, b2⟩ := inTree hL.1 hL.2.1 (j := a + j) (by omega) (by omega) hj3
        exact ⟨b1, by omega⟩)
      rw [show c + (p + 1) = c + p + 1 from by omega, show c + (p + n' - 1) = c + p + n' - 1 from by omega, ← E, show a + (p + 1) = a + p + 1 from by omega, show a + (p + n' - 1) = a + p + n' - 1 from by omega] at H
      rw [e1] at this ⊢
      rw [H]; exact this
    · rw [k0] at z
      have := g3 z
      rw [k0, k1]
      rcases sh_VR hA hL hN hp (r (a + (i - c))) (s (a + (i - c))) with ⟨f1, f2⟩ | ⟨j, f1, f2, f3, f4⟩
      · rw [this] at f1
        have : ¬ nI (a + (i - c)) < 0 := nI_pos (by omega)
        rw [f1] at this
        exact absurd (by decide) this
      · rw [this] at f3
        have ej := (nI_eq (by omega) (by omega)).mp f3
        rw [f4, show c + j = i from by omega]
theorem sh_TEM (hA : ∀ j, j < L → q (c + j) = r (a + j) ∧ t (c + j) = s (a + j)) {p n N x m : Nat} (h : TEM r s (a + p) (a + x)) (hL : LI r (a + p) n N) (hN : 0 < N) (hp : p + n ≤ L) (hT : TL r (a + x) m) (hx : x + m ≤ L) (ha : a + L < 2 ^ 31) (hc : c + L < 2 ^ 31) : TEM q t (c + p) (c + x) := by
  obtain ⟨h1, h2⟩ := h
  have e1 := tl_eq hL.2.1
  have e2 := sh_tl hA hL.2.1 hp
  have e3 := tl_eq hT
  have e4 := sh_tl hA hT hx
  refine ⟨fun i hi1 hi2 hk hv => ?_, fun i hi1 hi2 hk2 hk6 hlt hd => ?_⟩
  · rw [e4, e3] at hi2
    have E : i = c + (i - c) := by omega
    have k0 := (hA (i - c) (by omega)).1
    have k1 := (hA (i - c) (by omega)).2
    rw [← E] at k0 k1
    rw [k0] at hk
    rw [k0, k1] at hv ⊢
    rcases sh_VR hA hL hN hp (r (a + (i - c))) (s (a + (i - c))) with ⟨f1, f2⟩ | ⟨j, f1, f2, f3, f4⟩
    · rw [f2] at hv; exact absurd (by decide) hv
    · have g := h1 (a + (i - c)) (by omega) (by rw [e3]; omega) hk (by rw [f3]; exact nI_pos (by omega))
      rw [f4, nI_clamp (by omega), e4, e2]
      rw [f3, nI_clamp (by omega)] at g
      have H1 := sh_HB hA (x := x) (b := x + m) (y := i - c) (by omega) (by omega) (fun j hj1 hj2 hj3 hj4 => by
        obtain ⟨b1, b2⟩ := inTree0 hT (j := a + j) (by omega) (by omega) hj3
        exact ⟨b1, by omega⟩)
      have H2 := sh_HB hA (x := p + 1) (b := p + n - 1) (y := j) (by omega) (by omega) (fun j2 hj1 hj2 hj3 hj4 => by
        obtain ⟨b1, b2⟩ := inTree hL.1 hL.2.1 (j := a + j2) (by omega) (by omega) hj3
        exact ⟨b1, by omega⟩)
      rw [e3, e1] at g ⊢
      rw [show c + (x + m) = c + x + m from by omega, ← E, show a + (x + m) = a + x + m from by omega] at H1
      rw [show c + (p + 1) = c + p + 1 from by omega, show c + (p + n - 1) = c + p + n - 1 from by omega, show a + (p + 1) = a + p + 1 from by omega, show a + (p + n - 1) = a + p + n - 1 from by omega] at H2
      rw [H1, H2]; exact g
  · rw [e4, e3] at hi2 hlt
    have E : i = c + (i - c) := by omega
    have k0 := (hA (i - c) (by omega)).1
    rw [← E] at k0
    rw [k0] at hk2 hk6
    obtain ⟨b1, b2⟩ := inTree0 hT (j := a + (i - c)) (by omega) (by omega) hk2
    have et : tl q i = tl r (a + (i - c)) := by
      have := sh_tl hA b1 (by omega)
      rwa [← E] at this
    rw [et] at hlt hd ⊢
    have k3 := (hA (i - c + tl r (a + (i - c))) (by omega)).1
    rw [show c + (i - c + tl r (a + (i - c))) = i + tl r (a + (i - c)) from by omega, show a + (i - c + tl r (a + (i - c))) = a + (i - c) + tl r (a + (i - c)) from by omega] at k3
    rw [k3] at hd
    have g := h2 (a + (i - c)) (by omega) (by rw [e3]; omega) hk2 hk6 (by rw [e3]; omega) hd
    have U := sh_usF hA hL hN hp ha hc (tl r (a + (i - c))) (i - c) (by omega)
    rw [← E] at U
    rw [U]; exact g
theorem sh_RUL (hA : ∀ j, j < L → q (c + j) = r (a + j) ∧ t (c + j) = s (a + j)) {x n : Nat} (h : RUL r s (a + x)) (hT : TL r (a + x) n) (hx : x + n ≤ L) (ha : a + L < 2 ^ 31) (hc : c + L < 2 ^ 31) : RUL q t (c + x) := by
  obtain ⟨h6, ⟨n', hL, hd⟩, hP, hM⟩ := h
  have en := TL_uniq hL.2.1 hT
  subst en
  have n0 := hT.1
  have T1 : TL r (a + x + 1) (tl r (a + x + 1)) := (hL.2.2.1 0 (by omega)).2
  have T2 : TL r (a + x + 1 + tl r (a + x + 1)) (tl r (a + x + 1 + tl r (a + x + 1))) := (hL.2.2.1 1 (by omega)).2
  have b2 : it r (a + x) 2 < a + x + n' := (LI_at hL (k := 2) (by omega)).2.1
  have b2 : a + x + 1 + tl r (a + x + 1) + tl r (a + x + 1 + tl r (a + x + 1)) < a + x + n' := b2
  have e3 : tl q (c + x + 1) = tl r (a + x + 1) := sh_tl hA (x := x + 1) (n := tl r (a + x + 1)) T1 (by omega)
  obtain ⟨⟨m, N, hLp, hcn⟩, -⟩ := id hP
  have em := TL_uniq hLp.2.1 T1
  have hN : 0 < N := by have := cn_le r (a + x + 1) N; omega
  refine ⟨?_, ⟨n', sh_LI hA hL hx, ?_⟩, ?_, ?_⟩
  · rw [(hA x (by omega)).1]; exact h6
  · rw [(sh_cn hA hL hx 2 (Nat.le_refl 2)).2]; exact hd
  · exact sh_PAT hA (p := x + 1) (n := tl r (a + x + 1)) hP T1 (by omega) ha hc
  · rw [e3]
    have := sh_TEM hA (p := x + 1) (x := x + 1 + tl r (a + x + 1)) (m := tl r (a + x + 1 + tl r (a + x + 1))) (n := m) (N := N) (by rw [show a + (x + 1 + tl r (a + x + 1)) = a + x + 1 + tl r (a + x + 1) from by omega]; exact hM) hLp hN (by omega) (by rw [show a + (x + 1 + tl r (a + x + 1)) = a + x + 1 + tl r (a + x + 1) from by omega]; exact T2) (by omega) ha hc
    rw [show c + (x + 1 + tl r (a + x + 1)) = c + x + 1 + tl r (a + x + 1) from by omega] at this
    exact this
theorem sh_SQ (hA : ∀ j, j < L → q (c + j) = r (a + j) ∧ t (c + j) = s (a + j)) {N : Nat} (h : SQ r a (a + L) N) : SQ q c (c + L) N ∧ ∀ k, k ≤ N → nx q c k + a = nx r a k + c := by
  have key : ∀ k, k ≤ N → nx q c k + a = nx r a k + c := by
    intro k
    induction k with
    | zero => intro _; show c + a = a + c; omega
    | succ k ih =>
      intro hk
      have e := ih (by omega)
      have m1 := SQ_mono h (j := 0) (k := k) (by omega) (by omega)
      have m1 : a + (k - 0) ≤ nx r a k := m1
      have m2 := SQ_mono h (j := k + 1) (k := N) hk (Nat.le_refl N)
      have hN := h.2
      have T := (h.1 k (by omega)).2
      have e1 : nx r a k = a + (nx r a k - a) := by omega
      have e2 : nx q c k = c + (nx r a k - a) := by omega
      have b3 : nx r a (k + 1) = nx r a k + tl r (nx r a k) := rfl
      have E : tl q (nx q c k) = tl r (nx r a k) := by
        rw [e2]
        have T' : TL r (a + (nx r a k - a)) (tl r (nx r a k)) := by rw [← e1]; exact T
        rw [sh_tl hA T' (by omega), ← e1]
      show nx q c k + tl q (nx q c k) + a = nx r a k + tl r (nx r a k) + c
      omega
  refine ⟨⟨fun k hk => ?_, ?_⟩, key⟩
  · have e := key k (by omega)
    have m1 := SQ_mono h (j := 0) (k := k) (by omega) (by omega)
    have m1 : a + (k - 0) ≤ nx r a k := m1
    have m2 := SQ_mono h (j := k + 1) (k := N) hk (Nat.le_refl N)
    have hN := h.2
    obtain ⟨h2, T⟩ := h.1 k hk
    have T0 := T.1
    have e1 : nx r a k = a + (nx r a k - a) := by omega
    have e2 : nx q c k = c + (nx r a k - a) := by omega
    have b3 : nx r a (k + 1) = nx r a k + tl r (nx r a k) := rfl
    have T' : TL r (a + (nx r a k - a)) (tl r (nx r a k)) := by rw [← e1]; exact T
    refine ⟨?_, ?_⟩
    · rw [(sh_kd hA e (by omega) (by omega)).1]; exact h2
    · have := sh_TL hA T' (by omega)
      rw [← e2] at this
      rw [tl_eq this]; exact this
  · have e := key N (Nat.le_refl N)
    have := h.2
    omega
end SH
end
section
-- 15: frames of states; keep; the reading of a text by the reference
def FR (S A : List Nat) (u w : mS) : Prop := (∀ k, k ∉ S → w.1 k = u.1 k) ∧ ∀ k, k ∉ A → w.2 k = u.2 k
theorem FR.rf {S A : List Nat} {u : mS} : FR S A u u := ⟨fun _ _ => rfl, fun _ _ => rfl⟩
theorem FR.tr {S A : List Nat} {u v w : mS} (h : FR S A u v) (g : FR S A v w) : FR S A u w := ⟨fun k hk => (g.1 k hk).trans (h.1 k hk), fun k hk => (g.2 k hk).trans (h.2 k hk)⟩
theorem FR.wk {S A S' A' : List Nat} {u w : mS} (h : FR S A u w) (hS : ∀ k ∈ S, k ∈ S') (hA : ∀ k ∈ A, k ∈ A') : FR S' A' u w := ⟨fun k hk => h.1 k (fun q => hk (hS k q)), fun k hk => h.2 k (fun q => hk (hA k q))⟩
theorem mSet_same (u : mS) (k : Nat) (v : Int32) : (mSet u k v).1 k = v := pk_us
theorem mSet_other {u : mS} {k j : Nat} {v : Int32} (h : j ≠ k) : (mSet u k v).1 j = u.1 j := pk_un h
theorem mSet_arr (u : mS) (k : Nat) (v : Int32) : (mSet u k v).2 = u.2 := rfl
theorem mPut_same (u : mS) (k i : Nat) (v : Int32) : (mPut u k i v).2 k = upd (u.2 k) i v := by
  show (if k = k then upd (u.2 k) i v else u.2 k) = _
  rw [if_pos rfl]
theorem mPut_other {u : mS} {k i j : Nat} {v : Int32} (h : j ≠ k) : (mPut u k i v).2 j = u.2 j := by
  show (if j = k then upd (u.2 k) i v else u.2 j) = _
  rw [if_neg h]
theorem mPut_scal (u : mS) (k i : Nat) (v : Int32) : (mPut u k i v).1 = u.1 := rfl
theorem FR_set {S A : List Nat} {u w : mS} {k : Nat} {v : Int32} (h : FR S A u w) (hk : k ∈ S) : FR S A u (mSet w k v) := ⟨fun j hj => (mSet_other (fun q => hj (by rw [q]; exact hk))).trans (h.1 j hj), fun j hj => h.2 j hj⟩
theorem FR_put {S A : List Nat} {u w : mS} {k i : Nat} {v : Int32} (h : FR S A u w) (hk : k ∈ A) : FR S A u (mPut w k i v) := ⟨fun j hj => h.1 j hj, fun j hj => (mPut_other (fun q => hj (by rw [q]; exact hk))).trans (h.2 j hj)⟩
/-- n tokens of row and set, from a on, stand in kept from o on -/
def KP (u w : mS) (a o n : Nat) : Prop := FR [] [3, 4] u w ∧ (∀ j, j < n → w.2 3 (o + j) = u.2 1 (a + j) ∧ w.2 4 (o + j) = u.2 2 (a + j)) ∧ ∀ j, (j < o ∨ o + n ≤ j) → w.2 3 j = u.2 3 j ∧ w.2 4 j = u.2 4 j
theorem keep_ok {a b o : Nat} {u : mS} {post : Int32 → mS → Prop} (hab : a ≤ b) (hb : b ≤ 2600) (ho : o + (b - a) ≤ 3200) (hp : ∀ w, KP u w a o (b - a) → post (nI (o + (b - a))) w) : wp_X9_keep (nI a) (nI b) (nI o) u post := by
  have key : ∀ (d k : Nat) (w : mS), k + d = b - a → KP u w a o k → mL5 (fun K => wj_X9_keep_3 K post) (d + 1) (nI a) (nI b) (nI o) (nI (a + k)) w := by
    intro d
    induction d with
    | zero =>
      intro k w hk hw
      show wj_X9_keep_3 _ post _ _ _ _ w
      refine ⟨fun _ => ?_, fun h => absurd (by rw [nI_leI (by omega) (by omega)]; omega) h⟩
      rintro _ rfl _ rfl
      rw [nI_add, pk_sub (by omega), show o + b - a = o + (b - a) from by omega]
      have e : k = b - a := by omega
      rw [e] at hw
      exact hp w hw
    | succ d ih =>
      intro k w hk hw
      obtain ⟨hF, hC, hO⟩ := hw
      show wj_X9_keep_3 _ post _ _ _ _ w
      refine ⟨fun h => absurd h (by rw [nI_leI (by omega) (by omega)]; omega), fun _ => ?_⟩
      rintro _ rfl _ rfl
      rw [nI_add, pk_sub (by omega), show o + (a + k) - a = o + k from by omega]
      refine ⟨vp_in_nI (by omega) (by omega), ?_⟩
      rintro _ rfl
      refine ⟨vp_in_nI (by omega) (by omega), ?_⟩
      rintro _ rfl _ rfl _ rfl
      rw [pk_sub (by omega), show o + (a + k) - a = o + k from by omega]
      refine ⟨vp_in_nI (by omega) (by omega), ?_⟩
      rintro _ rfl
      refine ⟨vp_in_nI (by omega) (by omega), ?_⟩
      rintro _ rfl _ rfl
      rw [nI_clamp (by omega), nI_clamp (by omega), nI_1]
      refine ih (k + 1) _ (by omega) ⟨?_, fun j hj => ?_, fun j hj => ?_⟩
      · exact FR_put (FR_put hF (by decide)) (by decide)
      · have r1 : w.2 1 = u.2 1 := hF.2 1 (by decide)
        have r2 : w.2 2 = u.2 2 := hF.2 2 (by decide)
        rw [mPut_other (by decide : (3 : Nat) ≠ 4), mPut_same, mPut_same, mPut_other (by decide : (2 : Nat) ≠ 3), mPut_other (by decide : (4 : Nat) ≠ 3), r1, r2]
        by_cases e : j = k
        · subst e; rw [pk_us, pk_us]; exact ⟨rfl, rfl⟩
        · rw [pk_un (by omega), pk_un (by omega)]; exact hC j (by omega)
      · rw [mPut_other (by decide : (3 : Nat) ≠ 4), mPut_same, mPut_same, mPut_other (by decide : (4 : Nat) ≠ 3), pk_un (by omega), pk_un (by omega)]
        exact hO j (by omega)
  exact ⟨b - a + 1, key (b - a) 0 u (by omega) ⟨FR.rf, fun j hj => by omega, fun j _ => ⟨rfl, rfl⟩⟩⟩
-- characters
def cL (c : Int32) : Prop := ¬ c < 97 ∧ ¬ 122 < c
def cD (c : Int32) : Prop := ¬ c < 48 ∧ ¬ 57 < c
theorem isLetter_ok {c : Int32} {u : mS} {post : Int32 → mS → Prop} (h1 : cL c → post 1 u) (h0 : ¬ cL c → post 0 u) : wp_X9_isLetter c u post :=
  ⟨fun h => h0 (fun q => q.1 h), fun h => ⟨fun g => h0 (fun q => q.2 g), fun g => h1 ⟨h, g⟩⟩⟩
theorem isDigit_ok {c : Int32} {u : mS} {post : Int32 → mS → Prop} (h1 : cD c → post 1 u) (h0 : ¬ cD c → post 0 u) : wp_X9_isDigit c u post :=
  ⟨fun h => h0 (fun q => q.1 h), fun h => ⟨fun g => h0 (fun q => q.2 g), fun g => h1 ⟨h, g⟩⟩⟩
/-- the character at place i of the text; 0 behind it -/
def lk (T : Nat → Int32) (len i : Nat) : Int32 := if i < len then T i else 0
theorem look_ok {i len : Nat} {u : mS} {post : Int32 → mS → Prop} (hl : u.1 0 = nI len) (hlen : len ≤ 120) (hi : i < 2 ^ 30) (hp : post (lk (u.2 0) len i) u) : wp_X9_look (nI i) u post := by
  intro y1 e1
  rw [hl] at e1; subst e1
  unfold lk at hp
  refine ⟨fun h => ?_, fun h => ?_⟩
  · rw [nI_leI (by omega) (by omega)] at h
    rw [if_neg (by omega)] at hp; exact hp
  · rw [nI_leI (by omega) (by omega)] at h
    refine ⟨vp_in_nI (by omega) (by omega), ?_⟩
    rintro _ rfl
    rw [nI_clamp (by omega)]
    rw [if_pos (by omega)] at hp; exact hp
/-- m characters from i on are letters (digits), and the next is none, or the text ends -/
def RN (P : Int32 → Prop) (T : Nat → Int32) (len i m : Nat) : Prop := i + m ≤ len ∧ (∀ k, k < m → P (T (i + k))) ∧ (i + m < len → ¬ P (T (i + m)))
theorem run_ok {i len : Nat} {u : mS} {post : Int32 → mS → Prop} (hl : u.1 0 = nI len) (hlen : len ≤ 120) (hi : i < len) (hL : cL (u.2 0 i) → ∀ m, RN cL (u.2 0) len i m → post (nI m) u) (hD : ¬ cL (u.2 0 i) → ∀ m, RN cD (u.2 0) len i m → post (nI m) u) : wp_X9_run (nI i) u post := by
  have el : lk (u.2 0) len i = u.2 0 i := by unfold lk; rw [if_pos hi]
  have key : ∀ (x3 : Int32) (P : Int32 → Prop), (¬ x3 = 0 ∧ P = cL ∨ x3 = 0 ∧ P = cD) → (∀ m, RN P (u.2 0) len i m → post (nI m) u) → ∀ (d m : Nat), i + m + d = len → (∀ k, k < m → P (u.2 0 (i + k))) → mL4 (fun K => wj_X9_run_11 K post) (d + 1) (nI i) (nI m) x3 u := by
    intro x3 P hx hq d
    induction d with
    | zero =>
      intro m hm hall
      show wj_X9_run_11 _ post _ _ _ u
      rintro _ rfl y6 e6
      rw [hl] at e6; subst e6
      rw [nI_add]
      refine ⟨fun _ => hq m ⟨by omega, hall, fun h => by omega⟩, fun h => absurd (by rw [nI_leI (by omega) (by omega)]; omega) h⟩
    | succ d ih =>
      intro m hm hall
      have e2 : lk (u.2 0) len (i + m) = u.2 0 (i + m) := by unfold lk; rw [if_pos (by omega)]
      have yes : P (u.2 0 (i + m)) → wj_X9_run_54 (mL4 (fun K => wj_X9_run_11 K post) (d + 1)) post (nI i) (nI m) x3 u := by
        intro hP
        rintro _ rfl
        rw [nI_1]
        refine ih (m + 1) (by omega) (fun k hk => ?_)
        rcases Nat.lt_or_ge k m with c | c
        · exact hall k c
        · have : k = m := by omega
          subst this; exact hP
      have no : ¬ P (u.2 0 (i + m)) → wj_X9_run_60 post (nI m) u := fun hP => hq m ⟨by omega, hall, fun _ => hP⟩
      show wj_X9_run_11 _ post _ _ _ u
      rintro _ rfl y6 e6
      rw [hl] at e6; subst e6
      rw [nI_add]
      refine ⟨fun h => absurd h (by rw [nI_leI (by omega) (by omega)]; omega), fun _ => ⟨fun h0 => ?_, fun h0 => ?_⟩⟩
      · rintro _ rfl
        have hP : P = cD := by
          rcases hx with ⟨a, _⟩ | ⟨_, a⟩
          · exact absurd h0 a
          · exact a
        subst hP
        refine look_ok hl hlen (by omega) ?_
        rw [e2]
        exact isDigit_ok (fun h => ⟨fun q => absurd q (by decide), fun _ => yes h⟩) (fun h => ⟨fun _ => no h, fun q => absurd rfl q⟩)
      · rintro _ rfl
        have hP : P = cL := by
          rcases hx with ⟨_, a⟩ | ⟨a, _⟩
          · exact a
          · exact absurd a h0
        subst hP
        refine look_ok hl hlen (by omega) ?_
        rw [e2]
        exact isLetter_ok (fun h => ⟨fun q => absurd q (by decide), fun _ => yes h⟩) (fun h => ⟨fun _ => no h, fun q => absurd rfl q⟩)
  refine look_ok hl hlen (by omega) ?_
  rw [el]
  refine isLetter_ok (fun h => ⟨len - i + 1, ?_⟩) (fun h => ⟨len - i + 1, ?_⟩)
  · exact key 1 cL (Or.inl ⟨by decide, rfl⟩) (hL h) (len - i) 0 (by omega) (fun k hk => by omega)
  · exact key 0 cD (Or.inr ⟨rfl, rfl⟩) (hD h) (len - i) 0 (by omega) (fun k hk => by omega)
theorem RN_uniq {P : Int32 → Prop} {T : Nat → Int32} {len i m n : Nat} (h : RN P T len i m) (g : RN P T len i n) : m = n := by
  obtain ⟨h1, h2, h3⟩ := h
  obtain ⟨g1, g2, g3⟩ := g
  rcases Nat.lt_trichotomy m n with c | c | c
  · exact absurd (g2 m c) (h3 (by omega))
  · exact c
  · exact absurd (h2 n c) (g3 (by omega))
/-- the token at place i has m characters; no token: m = 0 -/
def TK (T : Nat → Int32) (len i m : Nat) : Prop :=
  (cL (T i) ∧ ∃ n, RN cL T len i n ∧ m = if n ≤ 3 then n else 0) ∨
  (¬ cL (T i) ∧ cD (T i) ∧ ∃ n, RN cD T len i n ∧ m = if n = 1 ∨ (n = 2 ∧ ¬ T i = 48) then n else 0) ∨
  (¬ cL (T i) ∧ ¬ cD (T i) ∧ T i = 46 ∧ m = if lk T len (i + 1) = 46 then 2 else 0) ∨
  (¬ cL (T i) ∧ ¬ cD (T i) ∧ ¬ T i = 46 ∧ m = if T i = 40 ∨ T i = 41 ∨ T i = 95 ∨ T i = 43 ∨ T i = 42 ∨ T i = 61 ∨ T i = 60 then 1 else 0)
theorem token_ok {i len : Nat} {u : mS} {post : Int32 → mS → Prop} (hl : u.1 0 = nI len) (hlen : len ≤ 120) (hi : i < len) (hp : ∀ m, TK (u.2 0) len i m → post (nI m) u) : wp_X9_token (nI i) u post := by
  have el : lk (u.2 0) len i = u.2 0 i := by unfold lk; rw [if_pos hi]
  refine look_ok hl hlen (by omega) ?_
  rw [el]
  refine isLetter_ok (fun hL => ⟨fun q => absurd q (by decide), fun _ => ?_⟩) (fun hL => ⟨fun _ => ?_, fun q => absurd rfl q⟩)
  · refine run_ok hl hlen hi (fun _ n hn => ⟨fun h3 => ?_, fun h3 => ?_⟩) (fun q => absurd hL q)
    · have hn1 := hn.1
      have h3 : nI 3 < nI n := h3
      rw [nI_ltI (by omega) (by omega)] at h3
      exact hp 0 (Or.inl ⟨hL, n, hn, by rw [if_neg (by omega)]⟩)
    · have hn1 := hn.1
      have h3 : ¬ nI 3 < nI n := h3
      rw [nI_ltI (by omega) (by omega)] at h3
      refine run_ok hl hlen hi (fun _ k hk => ?_) (fun q => absurd hL q)
      have e := RN_uniq hn hk
      subst e
      exact hp n (Or.inl ⟨hL, n, hn, by rw [if_pos (by omega)]⟩)
  · refine isDigit_ok (fun hD => ⟨fun q => absurd q (by decide), fun _ => ?_⟩) (fun hD => ⟨fun _ => ⟨fun h46 => ?_, fun h46 => ?_⟩, fun q => absurd rfl q⟩)
    · have last : ∀ n, RN cD (u.2 0) len i n → (n = 1 ∨ (n = 2 ∧ ¬ u.2 0 i = 48)) → wj_X9_token_63 post (nI i) u := by
        intro n hn hc
        refine run_ok hl hlen hi (fun q => absurd q hL) (fun _ k hk => ?_)
        have e := RN_uniq hn hk
        subst e
        exact hp n (Or.inr (Or.inl ⟨hL, hD, n, hn, by rw [if_pos hc]⟩))
      refine run_ok hl hlen hi (fun q => absurd q hL) (fun _ n hn => ⟨fun h1 => ?_, fun h1 => ?_⟩)
      · have hn1 := hn.1
        exact last n hn (Or.inl ((nI_eq (a := n) (b := 1) (by omega) (by omega)).mp h1))
      · have hn1 := hn.1
        have h1 : ¬ n = 1 := fun q => h1 (by rw [q]; rfl)
        refine run_ok hl hlen hi (fun q => absurd q hL) (fun _ k hk => ?_)
        have e := RN_uniq hn hk
        subst e
        refine ⟨fun h2 => ?_, fun h2 => ⟨fun h48 => ?_, fun h48 => ?_⟩⟩
        · have h2 : ¬ n = 2 := fun q => h2 (by rw [q]; rfl)
          exact hp 0 (Or.inr (Or.inl ⟨hL, hD, n, hn, by rw [if_neg (by omega)]⟩))
        · refine hp 0 (Or.inr (Or.inl ⟨hL, hD, n, hn, ?_⟩))
          rw [if_neg]
          rintro (q | ⟨_, q⟩)
          · exact h1 q
          · exact q h48
        · exact last n hn (Or.inr ⟨(nI_eq (a := n) (b := 2) (by omega) (by omega)).mp h2, h48⟩)
    · have fin : ∀ m : Nat, (m = if u.2 0 i = 40 ∨ u.2 0 i = 41 ∨ u.2 0 i = 95 ∨ u.2 0 i = 43 ∨ u.2 0 i = 42 ∨ u.2 0 i = 61 ∨ u.2 0 i = 60 then 1 else 0) → post (nI m) u := fun m hm => hp m (Or.inr (Or.inr (Or.inr ⟨hL, hD, h46, hm⟩)))
      refine ⟨fun h => fin 1 (by rw [if_pos (Or.inl h)]), fun a1 => ⟨fun h => fin 1 (by rw [if_pos (Or.inr (Or.inl h))]), fun a2 => ⟨fun h => fin 1 (by rw [if_pos (Or.inr (Or.inr (Or.inl h)))]), fun a3 => ⟨fun h => fin 1 (by rw [if_pos (Or.inr (Or.inr (Or.inr (Or.inl h))))]), fun a4 => ⟨fun h => fin 1 (by rw [if_pos (Or.inr (Or.inr (Or.inr (Or.inr (Or.inl h)))))]), fun a5 => ⟨fun h => fin 1 (by rw [if_pos (Or.inr (Or.inr (Or.inr (Or.inr (Or.inr (Or.inl h))))))]), fun a6 => ⟨fun h => fin 0 ?_, fun h => fin 1 (by rw [if_pos (Or.inr (Or.inr (Or.inr (Or.inr (Or.inr (Or.inr h))))))])⟩⟩⟩⟩⟩⟩⟩
      rw [if_neg]
      rintro (q | q | q | q | q | q | q)
      · exact a1 q
      · exact a2 q
      · exact a3 q
      · exact a4 q
      · exact a5 q
      · exact a6 q
      · exact h q
    · rintro _ rfl
      rw [nI_1]
      refine look_ok hl hlen (by omega) ⟨fun h => ?_, fun h => ?_⟩
      · exact hp 0 (Or.inr (Or.inr (Or.inl ⟨hL, hD, h46, by rw [if_neg h]⟩)))
      · exact hp 2 (Or.inr (Or.inr (Or.inl ⟨hL, hD, h46, by rw [if_pos h]⟩)))
theorem TK_len {T : Nat → Int32} {len i m : Nat} (hi : i < len) (h : TK T len i m) : i + m ≤ len ∧ m ≤ 3 := by
  rcases h with ⟨_, n, hn, rfl⟩ | ⟨_, _, n, hn, rfl⟩ | ⟨_, _, _, rfl⟩ | ⟨_, _, _, rfl⟩
  · have := hn.1
    split <;> omega
  · have := hn.1
    split <;> omega
  · split
    · rename_i h
      have : i + 1 < len := by
        rcases Nat.lt_or_ge (i + 1) len with c | c
        · exact c
        · unfold lk at h
          rw [if_neg (by omega)] at h
          exact absurd h (by decide)
      omega
    · omega
  · split <;> omega
end
section
-- 16: the tokens that are read, and the row that a text becomes
def valL (T : Nat → Int32) (i : Nat) : Nat → Int32
  | 0 => 0
  | k + 1 => (32 * valL T i k + T (i + k)) - 96
def valD (T : Nat → Int32) (i : Nat) : Nat → Int32
  | 0 => 0
  | k + 1 => (10 * valD T i k + T (i + k)) - 48
theorem cL_nI {c : Int32} (h : cL c) : ∃ a : Nat, c = nI a ∧ 97 ≤ a ∧ a ≤ 122 := by
  obtain ⟨h1, h2⟩ := h
  have a := Int32.not_lt.mp h1
  have b := Int32.not_lt.mp h2
  rw [Int32.le_iff_toInt_le] at a b
  have a : (97 : Int) ≤ c.toInt := a
  have b : c.toInt ≤ (122 : Int) := b
  refine ⟨c.toInt.toNat, ?_, by omega, by omega⟩
  apply Int32.toInt_inj.mp
  rw [nI_toInt (by omega)]
  omega
theorem cD_nI {c : Int32} (h : cD c) : ∃ a : Nat, c = nI a ∧ 48 ≤ a ∧ a ≤ 57 := by
  obtain ⟨h1, h2⟩ := h
  have a := Int32.not_lt.mp h1
  have b := Int32.not_lt.mp h2
  rw [Int32.le_iff_toInt_le] at a b
  have a : (48 : Int) ≤ c.toInt := a
  have b : c.toInt ≤ (57 : Int) := b
  refine ⟨c.toInt.toNat, ?_, by omega, by omega⟩
  apply Int32.toInt_inj.mp
  rw [nI_toInt (by omega)]
  omega
theorem valL_bd {T : Nat → Int32} {i : Nat} : ∀ m, (∀ k, k < m → cL (T (i + k))) → ∃ a : Nat, valL T i m = nI a ∧ a < 32 ^ m := by
  intro m
  induction m with
  | zero => intro _; exact ⟨0, rfl, by decide⟩
  | succ m ih =>
    intro h
    obtain ⟨a, e, ha⟩ := ih (fun k hk => h k (by omega))
    obtain ⟨c, ec, c1, c2⟩ := cL_nI (h m (by omega))
    refine ⟨32 * a + c - 96, ?_, ?_⟩
    · show (32 * valL T i m + T (i + m)) - 96 = _
      rw [e, ec, show (32 : Int32) = nI 32 from rfl, pk_mul, nI_add, show (96 : Int32) = nI 96 from rfl, pk_sub (by omega)]
    · rw [Nat.pow_succ]; omega
theorem valD_bd {T : Nat → Int32} {i : Nat} : ∀ m, (∀ k, k < m → cD (T (i + k))) → ∃ a : Nat, valD T i m = nI a ∧ a < 10 ^ m := by
  intro m
  induction m with
  | zero => intro _; exact ⟨0, rfl, by decide⟩
  | succ m ih =>
    intro h
    obtain ⟨a, e, ha⟩ := ih (fun k hk => h k (by omega))
    obtain ⟨c, ec, c1, c2⟩ := cD_nI (h m (by omega))
    refine ⟨10 * a + c - 48, ?_, ?_⟩
    · show (10 * valD T i m + T (i + m)) - 48 = _
      rw [e, ec, show (10 : Int32) = nI 10 from rfl, pk_mul, nI_add, show (48 : Int32) = nI 48 from rfl, pk_sub (by omega)]
    · rw [Nat.pow_succ]; omega
theorem kd_nI {x : Nat} (h : x < 2 ^ 31) : kd (nI x) = nI (x / 65536) := by
  unfold kd
  rw [show (65536 : Int32) = nI 65536 from rfl, pk_div h (by omega) (by omega)]
theorem kd_tok {k a : Nat} (hk : k < 16) (ha : a < 65536) : kd (65536 * nI k + nI a) = nI k := by
  rw [show (65536 : Int32) = nI 65536 from rfl, pk_mul, nI_add, kd_nI (by omega)]
  congr 1
  omega
theorem code_ok {i len m : Nat} {u : mS} {post : Int32 → mS → Prop} (hl : u.1 0 = nI len) (hlen : len ≤ 120) (hm : 1 ≤ m) (him : i + m ≤ len) (h1 : u.2 0 i = 40 → post 65536 u) (h2 : u.2 0 i = 41 → post 131072 u) (h3 : u.2 0 i = 95 → post 327680 u) (h4 : u.2 0 i = 46 → post 393216 u) (hD : cD (u.2 0 i) → post (65536 * 4 + valD (u.2 0) i m) u) (hL : ¬ cD (u.2 0 i) → cL (u.2 0 i) → post (65536 * 3 + valL (u.2 0) i m) u) (hO : ¬ cD (u.2 0 i) → ¬ cL (u.2 0 i) → post (65536 * 3 + (40000 + u.2 0 i)) u) : wp_X9_code (nI i) (nI m) u post := by
  have el : lk (u.2 0) len i = u.2 0 i := by unfold lk; rw [if_pos (by omega)]
  have key : ∀ (d k : Nat) (x4 : Int32), k + d = m → (cD (u.2 0 i) → x4 = valD (u.2 0) i k) → (¬ cD (u.2 0 i) → cL (u.2 0 i) → x4 = valL (u.2 0) i k) → (¬ cD (u.2 0 i) → ¬ cL (u.2 0 i) → 0 < k → x4 = 40000 + u.2 0 i) → mL6 (fun K => wj_X9_code_48 K post) (d + 1) (nI i) (nI m) (u.2 0 i) x4 (nI (i + k)) u := by
    intro d
    induction d with
    | zero =>
      intro k x4 hk a1 a2 a3
      have hk : k = m := by omega
      subst hk
      show wj_X9_code_48 _ post _ _ _ _ _ u
      rintro _ rfl
      rw [nI_add]
      refine ⟨fun _ => ?_, fun h => absurd (Int32.le_refl _) h⟩
      refine isDigit_ok (fun hd => ⟨fun q => absurd q (by decide), fun _ => ?_⟩) (fun hd => ⟨fun _ => ?_, fun q => absurd rfl q⟩)
      · rintro _ rfl _ rfl
        rw [a1 hd]; exact hD hd
      · rintro _ rfl _ rfl
        by_cases hl2 : cL (u.2 0 i)
        · rw [a2 hd hl2]; exact hL hd hl2
        · rw [a3 hd hl2 (by omega)]; exact hO hd hl2
    | succ d ih =>
      intro k x4 hk a1 a2 a3
      have e2 : lk (u.2 0) len (i + k) = u.2 0 (i + k) := by unfold lk; rw [if_pos (by omega)]
      have go : ∀ z : Int32, (cD (u.2 0 i) → z = valD (u.2 0) i (k + 1)) → (¬ cD (u.2 0 i) → cL (u.2 0 i) → z = valL (u.2 0) i (k + 1)) → (¬ cD (u.2 0 i) → ¬ cL (u.2 0 i) → z = 40000 + u.2 0 i) → wj_X9_code_110 (mL6 (fun K => wj_X9_code_48 K post) (d + 1)) post (nI i) (nI m) (u.2 0 i) (nI (i + k)) z u := by
        intro z b1 b2 b3
        rintro _ rfl
        rw [nI_1]
        exact ih (k + 1) z (by omega) b1 b2 (fun q1 q2 _ => b3 q1 q2)
      show wj_X9_code_48 _ post _ _ _ _ _ u
      rintro _ rfl
      rw [nI_add]
      refine ⟨fun h => absurd h (by rw [nI_leI (by omega) (by omega)]; omega), fun _ => ?_⟩
      refine isDigit_ok (fun hd => ⟨fun q => absurd q (by decide), fun _ => ?_⟩) (fun hd => ⟨fun _ => ?_, fun q => absurd rfl q⟩)
      · rintro _ rfl
        refine look_ok hl hlen (by omega) ?_
        rw [e2]
        rintro _ rfl _ rfl
        exact go _ (fun _ => by rw [a1 hd]; rfl) (fun q => absurd hd q) (fun q => absurd hd q)
      · refine isLetter_ok (fun hl2 => ⟨fun q => absurd q (by decide), fun _ => ?_⟩) (fun hl2 => ⟨fun _ => ?_, fun q => absurd rfl q⟩)
        · rintro _ rfl
          refine look_ok hl hlen (by omega) ?_
          rw [e2]
          rintro _ rfl _ rfl
          exact go _ (fun q => absurd q hd) (fun _ _ => by rw [a2 hd hl2]; rfl) (fun _ q => absurd hl2 q)
        · rintro _ rfl
          exact go _ (fun q => absurd q hd) (fun _ q => absurd q hl2) (fun _ _ => rfl)
  refine look_ok hl hlen (by omega) ?_
  rw [el]
  refine ⟨fun b1 => ⟨fun b2 => ⟨fun b3 => ⟨fun b4 => ?_, h4⟩, h3⟩, h2⟩, h1⟩
  refine ⟨m + 1, ?_⟩
  exact key m 0 0 (by omega) (fun _ => rfl) (fun _ _ => rfl) (fun _ _ h => by omega)
/-- a token of a text: its kind is one of 1 to 6 -/
def TOK (x : Int32) : Prop := ∃ k a : Nat, 1 ≤ k ∧ k ≤ 6 ∧ a < 65536 ∧ x = nI (65536 * k + a)
theorem TOK_kd {x : Int32} (h : TOK x) : ∃ k : Nat, 1 ≤ k ∧ k ≤ 6 ∧ kd x = nI k := by
  obtain ⟨k, a, h1, h2, h3, rfl⟩ := h
  refine ⟨k, h1, h2, ?_⟩
  rw [kd_nI (by omega)]
  congr 1
  omega
theorem TOK_mk {k a : Nat} (h1 : 1 ≤ k) (h2 : k ≤ 6) (h3 : a < 65536) : TOK (65536 * nI k + nI a) := ⟨k, a, h1, h2, h3, by rw [show (65536 : Int32) = nI 65536 from rfl, pk_mul, nI_add]⟩
theorem code_tok {i len m : Nat} {u : mS} {post : Int32 → mS → Prop} (hl : u.1 0 = nI len) (hlen : len ≤ 120) (hi : i < len) (hm : 1 ≤ m) (hT : TK (u.2 0) len i m) (hp : ∀ v, TOK v → post v u) : wp_X9_code (nI i) (nI m) u post := by
  have hb := TK_len hi hT
  refine code_ok hl hlen hm (by omega) (fun _ => hp _ ⟨1, 0, by omega, by omega, by omega, rfl⟩) (fun _ => hp _ ⟨2, 0, by omega, by omega, by omega, rfl⟩) (fun _ => hp _ ⟨5, 0, by omega, by omega, by omega, rfl⟩) (fun _ => hp _ ⟨6, 0, by omega, by omega, by omega, rfl⟩) (fun hd => ?_) (fun hd hl2 => ?_) (fun hd hl2 => ?_)
  · rcases hT with ⟨a, -⟩ | ⟨_, _, n, hn, e⟩ | ⟨_, a, -⟩ | ⟨_, a, -⟩
    · exfalso
      obtain ⟨x, e1, e2, e3⟩ := cL_nI a
      obtain ⟨y, f1, f2, f3⟩ := cD_nI hd
      have := (nI_eq (by omega) (by omega)).mp (e1.symm.trans f1)
      omega
    · have hmn : m = n ∧ n ≤ 2 := by
        by_cases c : n = 1 ∨ (n = 2 ∧ ¬ u.2 0 i = 48)
        · rw [if_pos c] at e; omega
        · rw [if_neg c] at e; omega
      obtain ⟨e1, e2⟩ := hmn
      subst e1
      obtain ⟨a, ea, ha⟩ := valD_bd (T := u.2 0) (i := i) m hn.2.1
      have : 10 ^ m ≤ 10 ^ 2 := Nat.pow_le_pow_right (by omega) e2
      rw [ea, show (4 : Int32) = nI 4 from rfl]
      exact hp _ (TOK_mk (by omega) (by omega) (by omega))
    · exact absurd hd a
    · exact absurd hd a
  · rcases hT with ⟨_, n, hn, e⟩ | ⟨a, -⟩ | ⟨a, -⟩ | ⟨a, -⟩
    · have hmn : m = n ∧ n ≤ 3 := by
        by_cases c : n ≤ 3
        · rw [if_pos c] at e; omega
        · rw [if_neg c] at e; omega
      obtain ⟨e1, e2⟩ := hmn
      subst e1
      obtain ⟨a, ea, ha⟩ := valL_bd (T := u.2 0) (i := i) m hn.2.1
      have : 32 ^ m ≤ 32 ^ 3 := Nat.pow_le_pow_right (by omega) e2
      rw [ea, show (3 : Int32) = nI 3 from rfl]
      exact hp _ (TOK_mk (by omega) (by omega) (by omega))
    · exact absurd hl2 a
    · exact absurd hl2 a
    · exact absurd hl2 a
  · rcases hT with ⟨a, -⟩ | ⟨_, a, -⟩ | ⟨_, _, a, -⟩ | ⟨_, _, _, e⟩
    · exact absurd a hl2
    · exact absurd a hd
    · rw [a]
      exact hp _ (TOK_mk (k := 3) (a := 40046) (by omega) (by omega) (by omega))
    · by_cases c : u.2 0 i = 40 ∨ u.2 0 i = 41 ∨ u.2 0 i = 95 ∨ u.2 0 i = 43 ∨ u.2 0 i = 42 ∨ u.2 0 i = 61 ∨ u.2 0 i = 60
      · have ex : ∃ z : Nat, u.2 0 i = nI z ∧ z ≤ 95 := by
          rcases c with c | c | c | c | c | c | c
          · exact ⟨40, c, by omega⟩
          · exact ⟨41, c, by omega⟩
          · exact ⟨95, c, by omega⟩
          · exact ⟨43, c, by omega⟩
          · exact ⟨42, c, by omega⟩
          · exact ⟨61, c, by omega⟩
          · exact ⟨60, c, by omega⟩
        obtain ⟨z, ez, hz⟩ := ex
        rw [ez, show (40000 : Int32) = nI 40000 from rfl, nI_add, show (3 : Int32) = nI 3 from rfl]
        exact hp _ (TOK_mk (by omega) (by omega) (by omega))
      · rw [if_neg c] at e; omega
/-- whether a token of that kind may stand behind what was read: o brackets are open, the last kind is b (0: none yet) -/
def FIT (k : Int32) (o : Nat) (b : Int32) : Prop := (k = 1 ∧ (0 < o ∨ b = 0) ∧ o ≤ 7) ∨ (k = 2 ∧ 0 < o) ∨ (k = 6 ∧ 0 < o ∧ ¬ b = 1 ∧ ¬ b = 6) ∨ (¬ k = 1 ∧ ¬ k = 2 ∧ ¬ k = 6 ∧ (0 < o ∨ b = 0))
theorem fits_ok {k b : Int32} {o : Nat} {u : mS} {post : Int32 → mS → Prop} (ho : o < 2 ^ 30) (h1 : FIT k o b → post 1 u) (h0 : ¬ FIT k o b → post 0 u) : wp_X9_fits k (nI o) b u post := by
  have eo : (0 < nI o) ↔ 0 < o := by rw [show (0 : Int32) = nI 0 from rfl, nI_ltI (by omega) (by omega)]
  have eo2 : (nI o ≤ 0) ↔ o = 0 := by rw [show (0 : Int32) = nI 0 from rfl, nI_leI (by omega) (by omega)]; omega
  have e7 : (7 < nI o) ↔ 7 < o := by rw [show (7 : Int32) = nI 7 from rfl, nI_ltI (by omega) (by omega)]
  have main : ∀ z0 : Int32, (z0 = 0 ↔ b = 0) → wj_X9_fits_9 post k (nI o) b z0 u := by
    intro z0 hz
    have f23 : k = 1 → (0 < o ∨ b = 0) → wj_X9_fits_23 post (nI o) u := by
      intro hk hc
      refine ⟨fun h => h0 ?_, fun h => h1 (Or.inl ⟨hk, hc, ?_⟩)⟩
      · have := e7.mp h
        rintro (⟨_, _, q⟩ | ⟨q, _⟩ | ⟨q, _⟩ | ⟨q, _⟩)
        · omega
        · rw [hk] at q; exact absurd q (by decide)
        · rw [hk] at q; exact absurd q (by decide)
        · exact q hk
      · have : ¬ 7 < o := fun q => h (e7.mpr q)
        omega
    refine ⟨fun k1 => ⟨fun k2 => ⟨fun k6 => ⟨fun ho1 => h1 (Or.inr (Or.inr (Or.inr ⟨k1, k2, k6, Or.inl (eo.mp ho1)⟩))), fun ho1 => ⟨fun hz0 => h0 ?_, fun hz0 => h1 (Or.inr (Or.inr (Or.inr ⟨k1, k2, k6, Or.inr (hz.mp hz0)⟩)))⟩⟩, fun k6 => ⟨fun ho1 => h0 ?_, fun ho1 => ⟨fun hb1 => h0 ?_, fun hb1 => ⟨fun hb6 => h0 ?_, fun hb6 => h1 (Or.inr (Or.inr (Or.inl ⟨k6, ?_, hb1, hb6⟩)))⟩⟩⟩⟩, fun k2 => ⟨fun ho1 => h0 ?_, fun ho1 => h1 (Or.inr (Or.inl ⟨k2, ?_⟩))⟩⟩, fun k1 => ⟨fun ho1 => f23 k1 (Or.inl (eo.mp ho1)), fun ho1 => ⟨fun hz0 => h0 ?_, fun hz0 => f23 k1 (Or.inr (hz.mp hz0))⟩⟩⟩
    · rintro (⟨q, _⟩ | ⟨q, _⟩ | ⟨q, _⟩ | ⟨_, _, _, q⟩)
      · exact k1 q
      · exact k2 q
      · exact k6 q
      · rcases q with q | q
        · exact ho1 (eo.mpr q)
        · exact hz0 (hz.mpr q)
    · have := eo2.mp ho1
      rintro (⟨q, _⟩ | ⟨q, _⟩ | ⟨_, q, _⟩ | ⟨_, _, q, _⟩)
      · exact k1 q
      · exact k2 q
      · omega
      · exact q k6
    · rintro (⟨q, _⟩ | ⟨q, _⟩ | ⟨_, _, q, _⟩ | ⟨_, _, q, _⟩)
      · exact k1 q
      · exact k2 q
      · exact q hb1
      · exact q k6
    · rintro (⟨q, _⟩ | ⟨q, _⟩ | ⟨_, _, _, q⟩ | ⟨_, _, q, _⟩)
      · exact k1 q
      · exact k2 q
      · exact q hb6
      · exact q k6
    · have : ¬ o = 0 := fun q => ho1 (eo2.mpr q)
      omega
    · have := eo2.mp ho1
      rintro (⟨q, _⟩ | ⟨_, q⟩ | ⟨q, _⟩ | ⟨_, q, _⟩)
      · exact k1 q
      · omega
      · rw [k2] at q; exact absurd q (by decide)
      · exact q k2
    · have : ¬ o = 0 := fun q => ho1 (eo2.mpr q)
      omega
    · rintro (⟨_, q, _⟩ | ⟨q, _⟩ | ⟨q, _⟩ | ⟨q, _⟩)
      · rcases q with q | q
        · exact ho1 (eo.mpr q)
        · exact hz0 (hz.mpr q)
      · rw [k1] at q; exact absurd q (by decide)
      · rw [k1] at q; exact absurd q (by decide)
      · exact q k1
  exact ⟨fun h => main 0 ⟨fun _ => h, fun _ => rfl⟩, fun h => main 1 ⟨fun q => absurd q (by decide), fun q => absurd q h⟩⟩
end
section
-- 17: read of the reference
def RDI (r : Nat → Int32) (n o : Nat) (b : Int32) : Prop := dep r 0 n = (o : Int) ∧ (∀ k, 0 < k → k < n → 0 < dep r 0 k) ∧ (∀ k, k < n → TOK (r k)) ∧ (∀ k, k < n → kd (r k) = 6 → 0 < k ∧ ¬ kd (r (k - 1)) = 1 ∧ ¬ kd (r (k - 1)) = 6) ∧ (n = 0 → b = 0) ∧ (0 < n → b = kd (r (n - 1)))
theorem TOK_ne0 {x : Int32} (h : TOK x) : ¬ kd x = 0 := by
  obtain ⟨k, h1, h2, e⟩ := TOK_kd h
  rw [e, show (0 : Int32) = nI 0 from rfl, nI_eq (by omega) (by omega)]
  omega
theorem RDI_step {r : Nat → Int32} {n o p : Nat} {b v : Int32} (h : RDI r n o b) (hv : TOK v) (hf : FIT (kd v) o b) (hp : (p : Int) = o + sg v) : RDI (upd r n v) (n + 1) p (kd v) := by
  obtain ⟨h1, h2, h3, h4, h5, h6⟩ := h
  have ag : ∀ k, k < n → upd r n v (0 + k) = r (0 + k) := fun k hk => pk_un (by omega)
  have ag' : ∀ k, k < n → upd r n v k = r k := fun k hk => pk_un (by omega)
  have dc : ∀ k, k ≤ n → dep (upd r n v) 0 k = dep r 0 k := fun k hk => dep_copy k (fun j hj => by rw [ag j (by omega)])
  have hb0 : 0 < n → ¬ b = 0 := fun hn => by rw [h6 hn]; exact TOK_ne0 (h3 (n - 1) (by omega))
  have en : upd r n v n = v := pk_us
  refine ⟨?_, fun k hk hkn => ?_, fun k hk => ?_, fun k hk hk6 => ?_, fun h => by omega, fun _ => ?_⟩
  · rw [dep_s, dc n (Nat.le_refl n), h1, Nat.zero_add, en, hp]
  · rw [dc k (by omega)]
    rcases Nat.lt_or_ge k n with c | c
    · exact h2 k hk c
    · have : k = n := by omega
      subst this
      rw [h1]
      have hb := hb0 hk
      rcases hf with ⟨_, q, _⟩ | ⟨_, q⟩ | ⟨_, q, _⟩ | ⟨_, _, _, q⟩
      · rcases q with q | q
        · omega
        · exact absurd q hb
      · omega
      · omega
      · rcases q with q | q
        · omega
        · exact absurd q hb
  · rcases Nat.lt_or_ge k n with c | c
    · rw [ag' k c]; exact h3 k c
    · have : k = n := by omega
      subst this
      rw [en]; exact hv
  · rcases Nat.lt_or_ge k n with c | c
    · rw [ag' k c] at hk6
      obtain ⟨a1, a2, a3⟩ := h4 k c hk6
      rw [ag' (k - 1) (by omega)]
      exact ⟨a1, a2, a3⟩
    · have : k = n := by omega
      subst this
      rw [en] at hk6
      have hb : ¬ b = 1 ∧ ¬ b = 6 ∧ 0 < o := by
        rcases hf with ⟨q, _⟩ | ⟨q, _⟩ | ⟨_, q1, q2, q3⟩ | ⟨_, _, q, _⟩
        · rw [hk6] at q; exact absurd q (by decide)
        · rw [hk6] at q; exact absurd q (by decide)
        · exact ⟨q2, q3, q1⟩
        · exact absurd hk6 q
      have k0 : 0 < k := by
        rcases Nat.eq_zero_or_pos k with c | c
        · subst c
          have : dep r 0 0 = 0 := rfl
          omega
        · exact c
      rw [ag' (k - 1) (by omega), ← h6 k0]
      exact ⟨k0, hb.1, hb.2.1⟩
  · rw [show n + 1 - 1 = n from by omega, en]
/-- the row holds one whole tree of n tokens, at its end -/
def ROW1 (w : mS) (n : Nat) : Prop := 0 < n ∧ n ≤ 120 ∧ w.1 1 = nI (2600 - n) ∧ TL (w.2 1) (2600 - n) n ∧ (∀ k, k < n → TOK (w.2 1 (2600 - n + k))) ∧ ∀ k, k < n → kd (w.2 1 (2600 - n + k)) = 6 → 0 < k ∧ ¬ kd (w.2 1 (2600 - n + (k - 1))) = 1 ∧ ¬ kd (w.2 1 (2600 - n + (k - 1))) = 6
theorem prev_i (M : Nat) : (M = 0 ∧ nI M + (-1 : Int32) < 0) ∨ ∃ K, M = K + 1 ∧ nI M + (-1 : Int32) = nI K := by
  cases M with
  | zero => exact Or.inl ⟨rfl, by decide⟩
  | succ K => exact Or.inr ⟨K, rfl, pk_m1 K⟩
theorem readC {n : Nat} {r : Nat → Int32} {v : mS} {post : Int32 → mS → Prop} (hn : n ≤ 120) (hh : v.1 1 = nI (2600 - n)) (hp : ∀ w, FR [] [1, 2] v w → (∀ j, j < n → w.2 1 (2600 - n + j) = r j) → post (-1) w) : ∀ (k : Nat) (i : Int32) (w : mS), k ≤ n → ((k = 0 ∧ i < 0) ∨ ∃ K, k = K + 1 ∧ i = nI K) → FR [] [1, 2] v w → (∀ j, j < n → w.2 1 j = r j) → (∀ j, k ≤ j → j < n → w.2 1 (2600 - n + j) = r j) → mL2 (fun K => wj_X9_read_164 K post) (k + 1) i w := by
  intro k
  induction k with
  | zero =>
    intro i w _ hi hF ho hc
    have hi : i < 0 := by
      rcases hi with ⟨_, h⟩ | ⟨K, h, _⟩
      · exact h
      · omega
    show wj_X9_read_164 _ post i w
    exact ⟨fun _ => hp w hF (fun j hj => hc j (by omega) hj), fun h => absurd hi h⟩
  | succ k ih =>
    intro i w hk hi hF ho hc
    have hi : i = nI k := by
      rcases hi with ⟨h, _⟩ | ⟨K, h, e⟩
      · omega
      · have : K = k := by omega
        rw [← this]; exact e
    subst hi
    have hw : w.1 1 = nI (2600 - n) := (hF.1 1 (by decide)).trans hh
    show wj_X9_read_164 _ post (nI k) w
    refine ⟨fun h => absurd h (nI_pos (by omega)), fun _ => ?_⟩
    intro y30 e30
    rw [hw] at e30; subst e30
    rintro _ rfl
    rw [nI_add]
    refine ⟨vp_in_nI (by omega) (by omega), ?_⟩
    rintro _ rfl
    refine ⟨vp_in_nI (by omega) (by omega), ?_⟩
    rintro _ rfl y34 e34
    have e34 : y34 = nI (2600 - n) := e34.trans hw
    subst e34
    rintro _ rfl
    rw [nI_add]
    refine ⟨vp_in_nI (by omega) (by omega), ?_⟩
    rintro _ rfl _ rfl
    rw [nI_clamp (by omega), nI_clamp (by omega)]
    refine ih _ _ (by omega) (prev_i k) (FR_put (FR_put hF (by decide)) (by decide)) (fun j hj => ?_) (fun j hj hjn => ?_)
    · rw [mPut_other (by decide : (1 : Nat) ≠ 2), mPut_same, pk_un (by omega)]
      exact ho j hj
    · rw [mPut_other (by decide : (1 : Nat) ≠ 2), mPut_same]
      by_cases e : j = k
      · subst e; rw [pk_us]; exact ho j hjn
      · rw [pk_un (by omega)]; exact hc j (by omega) hjn
theorem read_ok {len : Nat} {u : mS} {post : Int32 → mS → Prop} (hl : u.1 0 = nI len) (hlen : len ≤ 120) (hF : ∀ p w, p ≤ 120 → FR [1] [1, 2] u w → post (nI p) w) (hS : ∀ n w, FR [1] [1, 2] u w → ROW1 w n → post (-1) w) : wp_X9_read u post := by
  refine mL5_in (fun a1 a2 a3 a4 w => ∃ n o i : Nat, a1 = nI n ∧ a2 = nI o ∧ a4 = nI i ∧ i ≤ len ∧ n ≤ i ∧ o ≤ 8 ∧ RDI (w.2 1) n o a3 ∧ FR [] [1] u w) (fun _ _ _ a4 _ => 200 - a4.toNatClampNeg) ?_ 0 0 0 0 u ⟨0, 0, 0, rfl, rfl, rfl, by omega, by omega, by omega, ⟨rfl, fun k _ h => by omega, fun k h => by omega, fun k h => by omega, fun _ => rfl, fun h => by omega⟩, FR.rf⟩
  rintro K a1 a2 a3 a4 w ⟨n, o, i, rfl, rfl, rfl, hi, hni, ho, hR, hw⟩ ih
  have hwl : w.1 0 = nI len := (hw.1 0 (by decide)).trans hl
  have hF1 : FR [1] [1, 2] u w := hw.wk (by decide) (by decide)
  have fault : post (nI i) w := hF i w (by omega) hF1
  have ex145 : wj_X9_read_145 post w := by
    intro y e
    rw [hwl] at e; subst e
    exact hF len w hlen hF1
  intro y1 e1
  rw [hwl] at e1; subst e1
  refine ⟨fun hge => ?_, fun hlt => ?_⟩
  · refine ⟨fun _ => ex145, fun h0 => ⟨fun hb => ?_, fun _ => ex145⟩⟩
    have ho0 : o = 0 := by
      have h0 : ¬ nI 0 < nI o := h0
      rw [nI_ltI (by omega) (by omega)] at h0
      omega
    subst ho0
    have hn0 : 0 < n := by
      rcases Nat.eq_zero_or_pos n with c | c
      · exact absurd (hR.2.2.2.2.1 c) hb
      · exact c
    rintro y5 rfl u6 rfl y7 rfl
    rw [show (2600 : Int32) = nI 2600 from rfl, pk_sub (by omega)]
    obtain ⟨m, rfl⟩ : ∃ m, n = m + 1 := ⟨n - 1, by omega⟩
    rw [nI_pred]
    refine ⟨m + 1 + 1, ?_⟩
    refine readC (n := m + 1) (r := w.2 1) (v := mSet w 1 (nI (2600 - (m + 1)))) (by omega) (mSet_same _ _ _) (fun x hx hc => ?_) (m + 1) (nI m) _ (Nat.le_refl _) (Or.inr ⟨m, rfl, rfl⟩) FR.rf (fun j _ => rfl) (fun j h1 h2 => by omega)
    have hx1 : x.1 1 = nI (2600 - (m + 1)) := (hx.1 1 (by decide)).trans (mSet_same _ _ _)
    have hFx : FR [1] [1, 2] u x := by
      refine FR.tr (FR_set hF1 (by decide)) (hx.wk (by decide) (by decide))
    obtain ⟨d1, d2, d3, d4, -, -⟩ := hR
    have agk : ∀ k, k < m + 1 → x.2 1 (2600 - (m + 1) + k) = w.2 1 (0 + k) := fun k hk => by rw [Nat.zero_add]; exact hc k hk
    refine hS (m + 1) x hFx ⟨by omega, by omega, hx1, ?_, fun k hk => ?_, fun k hk hk6 => ?_⟩
    · refine TL_copy (r := w.2 1) (i := 0) (fun k hk => by rw [agk k hk]) ⟨by omega, by rw [d1]; exact Int.le_refl 0, d2⟩
    · rw [hc k hk]; exact d3 k hk
    · rw [hc k hk] at hk6
      obtain ⟨f1, f2, f3⟩ := d4 k hk hk6
      rw [hc (k - 1) (by omega)]
      exact ⟨f1, f2, f3⟩
  · have hil : i < len := by
      rw [nI_leI (by omega) (by omega)] at hlt; omega
    have el : lk (w.2 0) len i = w.2 0 i := by unfold lk; rw [if_pos hil]
    have mu : ∀ j : Nat, i < j → j ≤ len → 200 - (nI j).toNatClampNeg < 200 - (nI i).toNatClampNeg := by
      intro j h1 h2
      rw [nI_clamp (by omega), nI_clamp (by omega)]; omega
    refine look_ok hwl hlen (by omega) ?_
    rw [el]
    refine ⟨fun h32 => ?_, fun h32 => ?_⟩
    · refine token_ok hwl hlen hil (fun m hm => ?_)
      have hb := TK_len hil hm
      refine ⟨fun h0 => ?_, fun h0 => ?_⟩
      · have m0 : m = 0 := by
          have h0 : nI m ≤ nI 0 := h0
          rw [nI_leI (by omega) (by omega)] at h0; omega
        subst m0
        rintro _ rfl
        exact ⟨fun _ => fault, fun q => absurd rfl q⟩
      · have m0 : 1 ≤ m := by
          have h0 : ¬ nI m ≤ nI 0 := h0
          rw [nI_leI (by omega) (by omega)] at h0; omega
        refine code_tok hwl hlen hil m0 hm (fun v hv => ?_)
        intro y17 e17
        have e17 : y17 = kd v := e17
        subst e17
        refine ⟨fun q => absurd q (by rw [show (0 : Int32) = nI 0 from rfl, nI_eq (by omega) (by omega)]; omega), fun _ => ?_⟩
        refine fits_ok (by omega) (fun hf => ⟨fun _ => ?_, fun q => absurd q (by decide)⟩) (fun hf => ⟨fun q => absurd rfl q, fun _ => fault⟩)
        refine ⟨vp_in_nI (by omega) (by omega), ?_⟩
        rintro _ rfl _ rfl
        rw [nI_clamp (by omega), nI_1]
        have go : ∀ p : Nat, (p : Int) = o + sg v → p ≤ 8 → wj_X9_read_123 K post (nI (n + 1)) (nI i) (nI m) (kd v) (nI p) (mPut w 1 n v) := by
          intro p hp hp8
          rintro _ rfl
          rw [nI_add]
          refine ih _ _ _ _ _ ⟨n + 1, p, i + m, rfl, rfl, rfl, hb.1, by omega, hp8, ?_, FR_put hw (by decide)⟩ (mu _ (by omega) hb.1)
          rw [mPut_same]
          exact RDI_step hR hv hf hp
        refine ⟨fun k1 => ⟨fun k2 => ?_, fun k2 => ?_⟩, fun k1 => ?_⟩
        · exact go o (by rw [sg_else k1 k2]; omega) ho
        · rintro _ rfl
          have o0 : 0 < o := by
            rcases hf with ⟨q, _⟩ | ⟨_, q⟩ | ⟨q, _⟩ | ⟨_, q, _⟩
            · exact absurd q k1
            · exact q
            · rw [k2] at q; exact absurd q (by decide)
            · exact absurd k2 q
          obtain ⟨o', rfl⟩ : ∃ o', o = o' + 1 := ⟨o - 1, by omega⟩
          rw [nI_pred]
          exact go o' (by rw [sg_close k2]; omega) (by omega)
        · rintro _ rfl
          rw [nI_1]
          have o7 : o ≤ 7 := by
            rcases hf with ⟨_, _, q⟩ | ⟨q, _⟩ | ⟨q, _⟩ | ⟨q, _⟩
            · exact q
            · rw [k1] at q; exact absurd q (by decide)
            · rw [k1] at q; exact absurd q (by decide)
            · exact absurd k1 q
          exact go (o + 1) (by rw [sg_open k1]; omega) (by omega)
    · rintro _ rfl
      rw [nI_1]
      exact ih _ _ _ _ _ ⟨n, o, i + 1, rfl, rfl, rfl, by omega, by omega, ho, hR, hw⟩ (mu _ (by omega) (by omega))
end
