-- rows of the law
section ML
variable {p : Program} {l : Launch} {e : Env} {R : Room} {s : State} {m : MethodId} {args : Array Value} {below : List Frame} {meth : Method} {c : Code} {cells slots : Nat} {Q : State → Prop}
variable {cc : ByteArray} {nL : Nat} {Ts : List Cond} {own : String} {ret0 : Option FieldType} {D : va_G} {cl : List vw_C} {tys : List (ClassId × FieldType)} {A : Nat → Prop} {ws : va_W} {pc : Nat} {lv : List (Nat × Value)} {st : List Value}
theorem mv_sld (C : mC p s m args meth c cc nL Ts own ret0 D cl tys A) {b L : Nat} {xs : Nat → Int32} (hX : va_X b L xs s s.heap) (hbl : b < s.heap.size) (hbA : ¬ A b) {i : Int32} (hin : vp_in i L) (hd : decode cc pc = .ok (.iaload, 1)) (kk : mV p l e R s m args below meth c nL D cl A cells slots Q ws (pc + 1) lv (.int (xs i.toNatClampNeg) :: st)) : mV p l e R s m args below meth c nL D cl A cells slots Q ws pc lv (.int i :: .ref b :: st) := fun H locs ls hP hD hS hl => va_sld C.1 C.2.1 hX hbl hbA hS hin hd (kk H locs ls hP hD hS hl)
theorem mv_slen (C : mC p s m args meth c cc nL Ts own ret0 D cl tys A) {b L : Nat} {xs : Nat → Int32} (hX : va_X b L xs s s.heap) (hbl : b < s.heap.size) (hbA : ¬ A b) (hd : decode cc pc = .ok (.arraylength, 1)) (kk : mV p l e R s m args below meth c nL D cl A cells slots Q ws (pc + 1) lv (.int (nI L) :: st)) : mV p l e R s m args below meth c nL D cl A cells slots Q ws pc lv (.ref b :: st) := fun H locs ls hP hD hS hl => va_slen C.1 C.2.1 hX hbl hbA hS hd (kk H locs ls hP hD hS hl)
theorem mv_callVs (C : mC p s m args meth c cc nL Ts own ret0 D cl tys A) {E : (Nat → Prop) → State → Prop} (hE : mEok E) (hs : E A s) {f : mS → va_W} {u : mS} {As rest : List Value} {y : MethodName} {bytes : ByteArray} {maxL index kl n : Nat} {rt : Option FieldType} {wsy : List Cond} {post : Int32 → mS → Prop} {C0 : String} {T : u_T} {N ci b : Nat} {fs : List Value} {wr : va_W} (isC isR : List Nat) (h1 : isC.filterMap (fun i => ws[i]?) = f u) (h2 : isC.map (fun i => ws[i]?) = (f u).map some) (h3 : va_nd isC = true) (hR : isR.map (fun i => ws[i]?) = wr.map some) (hnd : va_nd isR = true) (hdis : ∀ i ∈ isR, i ∉ isC) (q0 : Nat) (he : (f u)[q0]? = some (b, .inr (ci, fs))) (hc : cl[ci]? = some (C0, T, N)) (hM : mKi l y wsy kl E D cl tys f (.ref b :: As) u post) (cw : CallW R s args own C0 index y bytes maxL rt wsy (mRm kl) 0 0 n) (hst : st = As.reverse ++ .ref b :: rest) (hn : As.length = n) (hW : (rest.map fun v => v.category).sum ≤ 8) (hd : decode cc pc = .ok (.invokevirtual index, 3)) (hf : cells ≤ R.cells ∧ slots ≤ R.slots) (kk : ∀ (r : Int32) (w : mS), post r w → mV p l e R s m args below meth c nL D cl A cells slots Q (wr ++ f w) (pc + 3) lv (.int r :: rest)) : mV p l e R s m args below meth c nL D cl A cells slots Q ws pc lv st := by
  subst hst
  intro H locs ls hP hD hS hl
  have hPc : va_P D cl (f u) H := hP.sub isC h1
  have hDc : va_D A (f u) := hD.sub isC h3 h2
  have hFc := va_free (wc := f u) hD hS C.2.2.2.2.2.2.2.2 isC h2
  refine va_calli (va_runV (As := As) (rest := rest) ⟨C.1, C.2.1, C.2.2.1, C.2.2.2.1, C.2.2.2.2.1⟩ (hM H.size) cw ⟨mblind hE, va_recv (ci := ci) (q0 := q0) C.2.2.2.2.2.2.2.1 hPc hc he, mpre hE hs C.2.2.2.2.2.2.2.1 C.2.2.2.2.2.2.2.2 hPc hDc hS⟩ rfl hn hl.1 rfl (lv_room hW) hd hf) hS (fun q _ h => hFc q h) hFc (fun r w t H1 locs1 ht hvm hw hB hz1 hk1 hS1 => ?_)
  obtain ⟨hP1, hK1, hD1⟩ := hB
  rw [ht] at hP1
  obtain ⟨hP2, hD2⟩ := va_join (wr := wr) (w1 := f w) hP hD isC isR h2 hR hnd hdis hk1 hFc hP1 hD1
  exact kk r w hw H1 locs1 ls hP2 hD2 hS1 hl
end ML
theorem goodIn_cons {big b : List Cond} {c : Cond} (ha : GoodIn big [c]) (hb : GoodIn big b) : GoodIn big (c :: b) := fun w h => (List.mem_cons.mp h).elim (fun e => ha w (by rw [e]; exact List.mem_cons_self)) (hb w)
set_option maxRecDepth 20000 in
theorem ggL_law_X8_init : GoodIn wsL_law wsX8_init := goodIn_r _ [8, 9, 10, 11, 12, 13, 14, 15, 16, 17, 18, 19, 20, 21, 22, 23, 24, 25, 26, 27, 28, 29, 30, 31, 32, 33, 34, 35, 36, 37, 38, 39, 40, 41, 42, 43, 44, 45, 46, 47, 48, 49, 50, 51, 52, 53, 54, 55, 56, 57, 58, 59, 60, 61, 62, 63, 64, 65, 66, 67, 68, 69, 70, 71, 72, 73, 74, 75, 76, 77, 78, 79, 80, 81, 82, 83, 84, 85, 86, 87, 88, 89, 90, 91, 92, 93, 94, 95, 96, 97, 98, 99, 100, 101, 784, 785, 786, 787, 788, 789, 790, 791, 828, 829, 830, 831, 832, 833, 834, 835, 836, 837, 838, 839, 840, 841, 842, 843, 844, 845, 846, 847, 848, 849, 850, 851, 852, 853, 854, 855, 856, 857, 858, 859, 860, 861, 862, 863, 864] (by decide +kernel) (by decide +kernel)
set_option maxRecDepth 20000 in
theorem gL_law_X8_init : GoodIn wsL_law (wsX8_init) := ggL_law_X8_init
set_option maxRecDepth 20000 in
theorem ggL_law_X9_init : GoodIn wsL_law wsX9_init := goodIn_r _ [104, 105, 10, 11, 12, 106, 107, 108, 109, 110, 111, 112, 113, 114, 115, 116, 117, 118, 119, 120, 121, 122, 123, 124, 125, 792, 793, 794, 795, 796, 797, 798, 799, 800, 801, 802, 803, 804, 805, 806, 807, 808, 809, 810, 811, 812, 813, 814, 815, 816, 817, 818, 819, 820, 821, 822, 823, 824, 825, 826, 827] (by decide +kernel) (by decide +kernel)
set_option maxRecDepth 20000 in
theorem gL_law_X9_init : GoodIn wsL_law (wsX9_init) := ggL_law_X9_init
set_option maxRecDepth 20000 in
theorem ggL_law_X8_type : GoodIn wsL_law wsX8_type := goodIn_r _ [129, 130, 131, 132, 133, 2, 134, 13, 784, 785, 786, 787, 788, 789, 790, 791] (by decide +kernel) (by decide +kernel)
set_option maxRecDepth 20000 in
theorem gL_law_X8_type : GoodIn wsL_law (wsV RL 13 RX8 yX8_type wsX8_type) := goodIn_app (goodIn_of _ (by decide +kernel)) ggL_law_X8_type
set_option maxRecDepth 20000 in
theorem ggL_law_X9_type : GoodIn wsL_law wsX9_type := goodIn_r _ [138, 139, 106, 792, 793, 794, 795, 796, 797, 798, 799, 800, 801, 802, 803, 804, 805, 806, 807, 808, 809, 810, 811, 812, 813, 814, 815, 816, 817, 818, 819, 820, 821, 822, 823, 824, 825, 826, 827] (by decide +kernel) (by decide +kernel)
set_option maxRecDepth 20000 in
theorem gL_law_X9_type : GoodIn wsL_law (wsV RL 17 RX9 yX9_type wsX9_type) := goodIn_app (goodIn_of _ (by decide +kernel)) ggL_law_X9_type
set_option maxRecDepth 100000 in
theorem gk_X8_rules_0 : GoodIn wsL_law wsX8_rules_r1 := goodIn_r _ [25, 17, 29, 144, 145, 146, 2, 147, 21, 13, 130, 148, 149, 150, 20, 151, 51, 152, 153, 66, 67, 68, 154, 155] (by decide +kernel) (by decide +kernel)
set_option maxRecDepth 100000 in
theorem gk_X8_rules_1 : GoodIn wsL_law wsX8_rules_r2 := goodIn_r _ [156, 157, 16, 158, 45, 46, 159, 160, 161, 162, 163, 164, 165, 166, 167, 168, 169, 170, 171, 172, 173, 174, 175, 176] (by decide +kernel) (by decide +kernel)
set_option maxRecDepth 100000 in
theorem gk_X8_rules_2 : GoodIn wsL_law wsX8_rules_r3 := goodIn_r _ [177, 41, 42, 43, 44, 178, 179, 180, 181, 182, 183, 184, 185, 186, 187, 188, 189, 190, 191, 192, 193, 194, 195, 196] (by decide +kernel) (by decide +kernel)
set_option maxRecDepth 100000 in
theorem gk_X8_rules_3 : GoodIn wsL_law wsX8_rules_r4 := goodIn_r _ [197, 198, 199, 200, 201, 202, 203, 204, 24, 205, 56, 206, 207, 208, 209, 210, 211, 212, 213, 214, 215, 216, 217, 218] (by decide +kernel) (by decide +kernel)
set_option maxRecDepth 100000 in
theorem gk_X8_rules_4 : GoodIn wsL_law wsX8_rules_r5 := goodIn_r _ [219, 220, 221, 222, 223, 224, 225, 226, 227, 228, 229, 230, 231, 232, 233, 234, 235, 236, 237, 238, 239, 240, 241, 242] (by decide +kernel) (by decide +kernel)
set_option maxRecDepth 100000 in
theorem gk_X8_rules_5 : GoodIn wsL_law wsX8_rules_r6 := goodIn_r _ [243, 244, 245, 246, 247, 248, 249, 250, 251, 252, 253, 254, 255, 256, 257, 258, 259, 260, 261, 262, 263, 264, 265, 266] (by decide +kernel) (by decide +kernel)
set_option maxRecDepth 100000 in
theorem gk_X8_rules_6 : GoodIn wsL_law wsX8_rules_r7 := goodIn_r _ [267, 268, 269, 270, 271, 28, 272, 273, 61, 274, 275, 276, 277, 278, 279, 280, 281, 282, 283, 284, 285, 286, 287, 288] (by decide +kernel) (by decide +kernel)
set_option maxRecDepth 100000 in
theorem gk_X8_rules_7 : GoodIn wsL_law wsX8_rules_r8 := goodIn_r _ [289, 69, 290, 291, 292, 293, 62, 63, 64, 294, 295, 296, 297] (by decide +kernel) (by decide +kernel)
set_option maxRecDepth 100000 in
theorem gk_X8_rules_8 : GoodIn wsL_law wsX80 := goodIn_r _ [784, 785, 786, 787, 788, 789, 790, 791] (by decide +kernel) (by decide +kernel)
set_option maxRecDepth 100000 in
theorem gk_X8_rules_9 : GoodIn wsL_law wsX70 := goodIn_r _ [837, 838, 839, 840, 841, 842] (by decide +kernel) (by decide +kernel)
set_option maxRecDepth 100000 in
theorem gk_X8_rules_10 : GoodIn wsL_law wsX30 := goodIn_r _ [834, 835] (by decide +kernel) (by decide +kernel)
set_option maxRecDepth 100000 in
theorem gk_X8_rules_11 : GoodIn wsL_law wsX50 := goodIn_r _ [828, 829, 830, 831, 832, 833] (by decide +kernel) (by decide +kernel)
set_option maxRecDepth 100000 in
theorem gk_X8_rules_12 : GoodIn wsL_law wsX60 := goodIn_r _ [836] (by decide +kernel) (by decide +kernel)
set_option maxRecDepth 100000 in
theorem gk_X8_rules_c : GoodIn wsL_law [Cond.code yX8_rules cX8_rules 4 (some .int)] := goodIn_r _ [143] (by decide +kernel) (by decide +kernel)
theorem ggL_law_X8_rules : GoodIn wsL_law wsX8_rules := goodIn_cons gk_X8_rules_c (goodIn_app (goodIn_app (goodIn_app (goodIn_app (goodIn_app (goodIn_app gk_X8_rules_0 (goodIn_app gk_X8_rules_1 (goodIn_app gk_X8_rules_2 (goodIn_app gk_X8_rules_3 (goodIn_app gk_X8_rules_4 (goodIn_app gk_X8_rules_5 (goodIn_app gk_X8_rules_6 gk_X8_rules_7))))))) gk_X8_rules_8) gk_X8_rules_9) gk_X8_rules_10) gk_X8_rules_11) gk_X8_rules_12)
set_option maxRecDepth 20000 in
theorem gL_law_X8_rules : GoodIn wsL_law (wsV RL 18 RX8 yX8_rules wsX8_rules) := goodIn_app (goodIn_of _ (by decide +kernel)) ggL_law_X8_rules
set_option maxRecDepth 100000 in
theorem gk_X9_rules_0 : GoodIn wsL_law wsX9_rules_r1 := goodIn_r _ [139, 107, 302, 303, 304, 111, 112, 305, 306, 307, 5, 308, 309, 108, 310, 311, 312, 313, 106, 314, 315, 316, 317, 318] (by decide +kernel) (by decide +kernel)
set_option maxRecDepth 100000 in
theorem gk_X9_rules_1 : GoodIn wsL_law wsX9_rules_r2 := goodIn_r _ [319, 320, 321, 322, 323, 324, 325, 326, 327, 328, 329, 330, 331, 332, 333, 334, 335, 336, 337, 338, 339, 340, 341, 342] (by decide +kernel) (by decide +kernel)
set_option maxRecDepth 100000 in
theorem gk_X9_rules_2 : GoodIn wsL_law wsX9_rules_r3 := goodIn_r _ [343, 344, 345, 346, 347, 348, 349, 350, 109, 110, 351, 352, 353, 354, 355, 356, 357, 358, 359, 360, 361, 362, 363, 364] (by decide +kernel) (by decide +kernel)
set_option maxRecDepth 100000 in
theorem gk_X9_rules_3 : GoodIn wsL_law wsX9_rules_r4 := goodIn_r _ [365, 366, 367, 368, 369, 370, 371, 372, 373, 374, 375, 376, 377, 378, 379, 380, 381, 382, 383, 384, 385, 386] (by decide +kernel) (by decide +kernel)
set_option maxRecDepth 100000 in
theorem gk_X9_rules_4 : GoodIn wsL_law wsX90 := goodIn_r _ [792, 793, 794, 795, 796, 797, 798, 799, 800, 801, 802, 803, 804, 805, 806, 807, 808, 809, 810, 811, 812, 813, 814, 815, 816, 817, 818, 819, 820, 821, 822, 823, 824, 825, 826, 827] (by decide +kernel) (by decide +kernel)
set_option maxRecDepth 100000 in
theorem gk_X9_rules_c : GoodIn wsL_law [Cond.code yX9_rules cX9_rules 5 (some .int)] := goodIn_r _ [301] (by decide +kernel) (by decide +kernel)
theorem ggL_law_X9_rules : GoodIn wsL_law wsX9_rules := goodIn_cons gk_X9_rules_c (goodIn_app (goodIn_app gk_X9_rules_0 (goodIn_app gk_X9_rules_1 (goodIn_app gk_X9_rules_2 gk_X9_rules_3))) gk_X9_rules_4)
set_option maxRecDepth 20000 in
theorem gL_law_X9_rules : GoodIn wsL_law (wsV RL 22 RX9 yX9_rules wsX9_rules) := goodIn_app (goodIn_of _ (by decide +kernel)) ggL_law_X9_rules
set_option maxRecDepth 100000 in
theorem gk_X8_expand_0 : GoodIn wsL_law wsX8_expand_r1 := goodIn_r _ [33, 37, 144, 145, 146, 2, 147, 21, 13, 130, 148, 149, 150, 20, 151, 51, 152, 153, 66, 67, 68, 154, 155, 156] (by decide +kernel) (by decide +kernel)
set_option maxRecDepth 100000 in
theorem gk_X8_expand_1 : GoodIn wsL_law wsX8_expand_r2 := goodIn_r _ [157, 16, 158, 45, 46, 159, 160, 161, 162, 163, 164, 165, 166, 167, 168, 169, 170, 171, 172, 173, 174, 175, 176, 177] (by decide +kernel) (by decide +kernel)
set_option maxRecDepth 100000 in
theorem gk_X8_expand_2 : GoodIn wsL_law wsX8_expand_r3 := goodIn_r _ [41, 42, 43, 44, 178, 179, 180, 181, 182, 183, 184, 185, 186, 187, 188, 189, 190, 191, 192, 193, 194, 195, 196, 197] (by decide +kernel) (by decide +kernel)
set_option maxRecDepth 100000 in
theorem gk_X8_expand_3 : GoodIn wsL_law wsX8_expand_r4 := goodIn_r _ [198, 199, 200, 201, 391, 392, 393, 32, 394, 395, 396, 397, 398, 399, 36, 400, 401, 402, 403, 404, 80, 405, 295, 296] (by decide +kernel) (by decide +kernel)
set_option maxRecDepth 100000 in
theorem gk_X8_expand_4 : GoodIn wsL_law wsX8_expand_r5 := goodIn_r _ [28, 297, 273, 69, 406, 407, 408, 409, 81, 78, 410, 411, 412, 413, 220, 221, 414, 415, 416, 417, 418, 419, 420, 421] (by decide +kernel) (by decide +kernel)
set_option maxRecDepth 100000 in
theorem gk_X8_expand_5 : GoodIn wsL_law wsX8_expand_r6 := goodIn_r _ [422, 423, 424, 425, 426, 427, 428, 429, 61, 62, 430, 431, 432, 433, 434, 435, 436, 437, 438, 439, 440, 441, 442, 443] (by decide +kernel) (by decide +kernel)
set_option maxRecDepth 100000 in
theorem gk_X8_expand_6 : GoodIn wsL_law wsX8_expand_r7 := goodIn_r _ [444, 445, 446, 447, 448, 63, 449, 450, 451, 452, 453, 454, 455, 456, 73, 457, 458, 459, 460, 64, 461, 462, 463, 464] (by decide +kernel) (by decide +kernel)
set_option maxRecDepth 100000 in
theorem gk_X8_expand_7 : GoodIn wsL_law wsX8_expand_r8 := goodIn_r _ [465, 466, 467, 468, 469, 470, 471, 472, 85, 473, 474, 475, 476, 477, 478, 479, 480, 282, 227, 228, 229, 481, 482, 483] (by decide +kernel) (by decide +kernel)
set_option maxRecDepth 100000 in
theorem gk_X8_expand_8 : GoodIn wsL_law wsX8_expand_r9 := goodIn_r _ [84, 484, 94, 485, 207, 208, 209, 210, 211, 212, 213, 214, 215, 216, 217, 218, 486, 487, 488, 489, 93, 490, 491, 492] (by decide +kernel) (by decide +kernel)
set_option maxRecDepth 100000 in
theorem gk_X8_expand_9 : GoodIn wsL_law wsX8_expand_r10 := goodIn_r _ [493, 494, 495, 496, 497, 498, 499, 92, 500, 501, 502, 503, 235, 236, 237, 504, 505, 506, 507, 99, 508, 509, 510, 511] (by decide +kernel) (by decide +kernel)
set_option maxRecDepth 100000 in
theorem gk_X8_expand_10 : GoodIn wsL_law wsX8_expand_r11 := goodIn_r _ [512, 513, 514, 515, 100, 101, 516, 517, 518, 519, 520, 521, 522, 523, 524, 525, 526, 527, 95, 528, 529, 530, 531, 532] (by decide +kernel) (by decide +kernel)
set_option maxRecDepth 100000 in
theorem gk_X8_expand_11 : GoodIn wsL_law wsX8_expand_r12 := goodIn_r _ [533, 534, 535, 536, 288, 289, 537, 261, 262, 263, 538, 539, 540, 541, 542, 543, 544, 545, 546, 547, 548, 549, 550, 238] (by decide +kernel) (by decide +kernel)
set_option maxRecDepth 100000 in
theorem gk_X8_expand_12 : GoodIn wsL_law wsX8_expand_r13 := goodIn_r _ [239, 551, 552, 553, 554, 555, 556, 557, 558, 559, 560, 561, 562, 563, 564, 565, 566, 567, 568, 245, 246, 247, 569, 570] (by decide +kernel) (by decide +kernel)
set_option maxRecDepth 100000 in
theorem gk_X8_expand_13 : GoodIn wsL_law wsX8_expand_r14 := goodIn_r _ [571, 572, 573, 291, 292, 293, 574, 575, 576, 577, 578, 579, 580, 581, 582, 583, 584, 585, 586, 587, 588, 589, 590, 591] (by decide +kernel) (by decide +kernel)
set_option maxRecDepth 100000 in
theorem gk_X8_expand_14 : GoodIn wsL_law wsX8_expand_r15 := goodIn_r _ [592, 593, 594, 595, 596, 597, 598, 599, 600, 601, 602, 603, 604, 605, 606, 607, 608, 609, 610, 611, 612, 79, 613, 203] (by decide +kernel) (by decide +kernel)
set_option maxRecDepth 100000 in
theorem gk_X8_expand_15 : GoodIn wsL_law wsX8_expand_r16 := goodIn_r _ [204, 24, 205, 56, 206, 219, 222, 223, 224, 225, 226, 230, 231, 232, 233, 234, 240, 241, 242, 243, 244, 248, 249, 250] (by decide +kernel) (by decide +kernel)
set_option maxRecDepth 100000 in
theorem gk_X8_expand_16 : GoodIn wsL_law wsX8_expand_r17 := goodIn_r _ [251, 252, 253, 254, 255, 256, 257, 258, 259, 260, 264, 265, 266, 267] (by decide +kernel) (by decide +kernel)
set_option maxRecDepth 100000 in
theorem gk_X8_expand_17 : GoodIn wsL_law wsX80 := goodIn_r _ [784, 785, 786, 787, 788, 789, 790, 791] (by decide +kernel) (by decide +kernel)
set_option maxRecDepth 100000 in
theorem gk_X8_expand_18 : GoodIn wsL_law wsX20 := goodIn_r _ [843, 844, 845] (by decide +kernel) (by decide +kernel)
set_option maxRecDepth 100000 in
theorem gk_X8_expand_19 : GoodIn wsL_law wsX30 := goodIn_r _ [834, 835] (by decide +kernel) (by decide +kernel)
set_option maxRecDepth 100000 in
theorem gk_X8_expand_20 : GoodIn wsL_law wsX50 := goodIn_r _ [828, 829, 830, 831, 832, 833] (by decide +kernel) (by decide +kernel)
set_option maxRecDepth 100000 in
theorem gk_X8_expand_21 : GoodIn wsL_law wsX00 := goodIn_r _ [846, 847, 848, 849, 850, 851, 852, 853, 854] (by decide +kernel) (by decide +kernel)
set_option maxRecDepth 100000 in
theorem gk_X8_expand_22 : GoodIn wsL_law wsX70 := goodIn_r _ [837, 838, 839, 840, 841, 842] (by decide +kernel) (by decide +kernel)
set_option maxRecDepth 100000 in
theorem gk_X8_expand_23 : GoodIn wsL_law wsX10 := goodIn_r _ [855, 856, 857, 858, 859, 860] (by decide +kernel) (by decide +kernel)
set_option maxRecDepth 100000 in
theorem gk_X8_expand_24 : GoodIn wsL_law wsX40 := goodIn_r _ [861, 862, 863, 864] (by decide +kernel) (by decide +kernel)
set_option maxRecDepth 100000 in
theorem gk_X8_expand_25 : GoodIn wsL_law wsX60 := goodIn_r _ [836] (by decide +kernel) (by decide +kernel)
set_option maxRecDepth 100000 in
theorem gk_X8_expand_c : GoodIn wsL_law [Cond.code yX8_expand cX8_expand 3 (some .int)] := goodIn_r _ [390] (by decide +kernel) (by decide +kernel)
theorem ggL_law_X8_expand : GoodIn wsL_law wsX8_expand := goodIn_cons gk_X8_expand_c (goodIn_app (goodIn_app (goodIn_app (goodIn_app (goodIn_app (goodIn_app (goodIn_app (goodIn_app (goodIn_app (goodIn_app gk_X8_expand_0 (goodIn_app gk_X8_expand_1 (goodIn_app gk_X8_expand_2 (goodIn_app gk_X8_expand_3 (goodIn_app gk_X8_expand_4 (goodIn_app gk_X8_expand_5 (goodIn_app gk_X8_expand_6 (goodIn_app gk_X8_expand_7 (goodIn_app gk_X8_expand_8 (goodIn_app gk_X8_expand_9 (goodIn_app gk_X8_expand_10 (goodIn_app gk_X8_expand_11 (goodIn_app gk_X8_expand_12 (goodIn_app gk_X8_expand_13 (goodIn_app gk_X8_expand_14 (goodIn_app gk_X8_expand_15 gk_X8_expand_16)))))))))))))))) gk_X8_expand_17) gk_X8_expand_18) gk_X8_expand_19) gk_X8_expand_20) gk_X8_expand_21) gk_X8_expand_22) gk_X8_expand_23) gk_X8_expand_24) gk_X8_expand_25)
set_option maxRecDepth 20000 in
theorem gL_law_X8_expand : GoodIn wsL_law (wsV RL 23 RX8 yX8_expand wsX8_expand) := goodIn_app (goodIn_of _ (by decide +kernel)) ggL_law_X8_expand
set_option maxRecDepth 100000 in
theorem gk_X9_expand_0 : GoodIn wsL_law wsX9_expand_r1 := goodIn_r _ [139, 618, 619, 620, 621, 622, 623, 624, 625, 302, 305, 306, 307, 5, 308, 309, 107, 108, 310, 311, 312, 313, 106, 314] (by decide +kernel) (by decide +kernel)
set_option maxRecDepth 100000 in
theorem gk_X9_expand_1 : GoodIn wsL_law wsX9_expand_r2 := goodIn_r _ [315, 316, 317, 318, 319, 320, 321, 322, 323, 324, 325, 326, 327, 328, 329, 330, 331, 332, 333, 334, 303, 335, 336, 337] (by decide +kernel) (by decide +kernel)
set_option maxRecDepth 100000 in
theorem gk_X9_expand_2 : GoodIn wsL_law wsX9_expand_r3 := goodIn_r _ [626, 627, 628, 629, 630, 631, 632, 633, 634, 304, 111, 112, 635, 636, 637, 638, 639, 113, 114, 115, 116, 117, 640, 641] (by decide +kernel) (by decide +kernel)
set_option maxRecDepth 100000 in
theorem gk_X9_expand_3 : GoodIn wsL_law wsX9_expand_r4 := goodIn_r _ [642, 643, 644, 645, 646, 647, 338, 339, 340, 648, 649, 650, 651, 125, 652, 653, 654, 655, 381, 382, 383, 656, 657, 658] (by decide +kernel) (by decide +kernel)
set_option maxRecDepth 100000 in
theorem gk_X9_expand_4 : GoodIn wsL_law wsX9_expand_r5 := goodIn_r _ [659, 660, 661, 662, 663, 664, 665, 666, 667, 344, 345, 346, 355, 356, 357, 358, 359, 360, 341, 342, 343, 668, 669, 670] (by decide +kernel) (by decide +kernel)
set_option maxRecDepth 100000 in
theorem gk_X9_expand_5 : GoodIn wsL_law wsX9_expand_r6 := goodIn_r _ [671, 672, 673, 674, 675, 676, 677, 678, 679, 680, 681, 682, 683, 684, 685, 686, 687, 688, 689, 690, 691, 692, 693, 694] (by decide +kernel) (by decide +kernel)
set_option maxRecDepth 100000 in
theorem gk_X9_expand_6 : GoodIn wsL_law wsX9_expand_r7 := goodIn_r _ [695, 696, 697, 698, 699, 700, 701, 702, 703, 704, 347, 348, 349, 350, 109, 110, 351, 352, 353, 354, 361, 362, 363, 364] (by decide +kernel) (by decide +kernel)
set_option maxRecDepth 100000 in
theorem gk_X9_expand_7 : GoodIn wsL_law wsX9_expand_r8 := goodIn_r _ [365, 366, 367, 368, 369, 370, 371, 372, 373, 374, 375, 376, 377, 378, 379, 380, 705, 706, 707, 708, 709, 710, 711, 712] (by decide +kernel) (by decide +kernel)
set_option maxRecDepth 100000 in
theorem gk_X9_expand_8 : GoodIn wsL_law wsX9_expand_r9 := goodIn_r _ [118, 119, 713, 714, 715, 716, 717, 718, 719, 720, 721, 120, 121, 722, 723, 724, 725, 726, 727, 728, 729, 730, 731, 732] (by decide +kernel) (by decide +kernel)
set_option maxRecDepth 100000 in
theorem gk_X9_expand_9 : GoodIn wsL_law wsX9_expand_r10 := goodIn_r _ [733, 734, 735, 124, 123, 122, 736, 737, 738, 739, 740, 741, 742, 743, 744, 745, 746, 747, 748, 749, 750, 751, 752, 753] (by decide +kernel) (by decide +kernel)
set_option maxRecDepth 100000 in
theorem gk_X9_expand_10 : GoodIn wsL_law wsX9_expand_r11 := goodIn_r _ [754, 755, 756, 757, 758, 759, 760, 761, 762, 763] (by decide +kernel) (by decide +kernel)
set_option maxRecDepth 100000 in
theorem gk_X9_expand_11 : GoodIn wsL_law wsX90 := goodIn_r _ [792, 793, 794, 795, 796, 797, 798, 799, 800, 801, 802, 803, 804, 805, 806, 807, 808, 809, 810, 811, 812, 813, 814, 815, 816, 817, 818, 819, 820, 821, 822, 823, 824, 825, 826, 827] (by decide +kernel) (by decide +kernel)
set_option maxRecDepth 100000 in
theorem gk_X9_expand_c : GoodIn wsL_law [Cond.code yX9_expand cX9_expand 3 (some .int)] := goodIn_r _ [617] (by decide +kernel) (by decide +kernel)
theorem ggL_law_X9_expand : GoodIn wsL_law wsX9_expand := goodIn_cons gk_X9_expand_c (goodIn_app (goodIn_app gk_X9_expand_0 (goodIn_app gk_X9_expand_1 (goodIn_app gk_X9_expand_2 (goodIn_app gk_X9_expand_3 (goodIn_app gk_X9_expand_4 (goodIn_app gk_X9_expand_5 (goodIn_app gk_X9_expand_6 (goodIn_app gk_X9_expand_7 (goodIn_app gk_X9_expand_8 (goodIn_app gk_X9_expand_9 gk_X9_expand_10)))))))))) gk_X9_expand_11)
set_option maxRecDepth 20000 in
theorem gL_law_X9_expand : GoodIn wsL_law (wsV RL 27 RX9 yX9_expand wsX9_expand) := goodIn_app (goodIn_of _ (by decide +kernel)) ggL_law_X9_expand
set_option maxRecDepth 20000 in
theorem ggL_law_X8_at : GoodIn wsL_law wsX8_at := goodIn_r _ [767, 33, 768, 769, 770, 32, 771, 395, 73, 784, 785, 786, 787, 788, 789, 790, 791, 843, 844, 845] (by decide +kernel) (by decide +kernel)
set_option maxRecDepth 20000 in
theorem gL_law_X8_at : GoodIn wsL_law (wsV RL 28 RX8 yX8_at wsX8_at) := goodIn_app (goodIn_of _ (by decide +kernel)) ggL_law_X8_at
set_option maxRecDepth 20000 in
theorem ggL_law_X9_at : GoodIn wsL_law wsX9_at := goodIn_r _ [775, 618, 125, 792, 793, 794, 795, 796, 797, 798, 799, 800, 801, 802, 803, 804, 805, 806, 807, 808, 809, 810, 811, 812, 813, 814, 815, 816, 817, 818, 819, 820, 821, 822, 823, 824, 825, 826, 827] (by decide +kernel) (by decide +kernel)
set_option maxRecDepth 20000 in
theorem gL_law_X9_at : GoodIn wsL_law (wsV RL 31 RX9 yX9_at wsX9_at) := goodIn_app (goodIn_of _ (by decide +kernel)) ggL_law_X9_at
set_option maxRecDepth 20000 in
theorem ggL_law_X8_count : GoodIn wsL_law wsX8_count := goodIn_r _ [779, 37, 784, 785, 786, 787, 788, 789, 790, 791, 846, 847, 848, 849, 850, 851, 852, 853, 854] (by decide +kernel) (by decide +kernel)
set_option maxRecDepth 20000 in
theorem gL_law_X8_count : GoodIn wsL_law (wsV RL 32 RX8 yX8_count wsX8_count) := goodIn_app (goodIn_of _ (by decide +kernel)) ggL_law_X8_count
set_option maxRecDepth 20000 in
theorem ggL_law_X9_count_ : GoodIn wsL_law wsX9_count_ := goodIn_r _ [783, 622, 630, 635, 623, 624, 792, 793, 794, 795, 796, 797, 798, 799, 800, 801, 802, 803, 804, 805, 806, 807, 808, 809, 810, 811, 812, 813, 814, 815, 816, 817, 818, 819, 820, 821, 822, 823, 824, 825, 826, 827] (by decide +kernel) (by decide +kernel)
set_option maxRecDepth 20000 in
theorem gL_law_X9_count_ : GoodIn wsL_law (wsV RL 35 RX9 yX9_count_ wsX9_count_) := goodIn_app (goodIn_of _ (by decide +kernel)) ggL_law_X9_count_
