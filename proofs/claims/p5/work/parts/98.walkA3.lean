set_option maxRecDepth 20000 in
theorem ggX0_expandTree_X5_wordAt : GoodIn wsX0_expandTree wsX5_wordAt := goodIn_r _ [7, 8, 9, 339, 340, 341, 342, 343, 344] (by decide +kernel) (by decide +kernel)
set_option maxRecDepth 20000 in
theorem gX0_expandTree_X5_wordAt : GoodIn wsX0_expandTree (wsV RX0 59 RX5 yX5_wordAt wsX5_wordAt) := goodIn_app (goodIn_of _ (by decide +kernel)) ggX0_expandTree_X5_wordAt
set_option maxRecDepth 100000 in
theorem gpX0_expandTree_X0_expandList_0 : GoodIn wsX0_expandTree wsX0_expandList_r1 := goodIn_r _ [2, 1, 21, 3, 4, 5, 6, 7, 8, 9, 50, 51, 52, 53, 54, 55, 14, 15, 16, 22, 23, 24, 13, 25] (by decide +kernel) (by decide +kernel)
set_option maxRecDepth 100000 in
theorem gpX0_expandTree_X0_expandList_1 : GoodIn wsX0_expandTree wsX0_expandList_r2 := goodIn_r _ [26, 27, 28, 29, 30, 31, 32, 33, 34, 35, 36, 37, 38, 39, 40, 41, 42, 43, 44, 45, 46, 47, 48, 49] (by decide +kernel) (by decide +kernel)
set_option maxRecDepth 100000 in
theorem gpX0_expandTree_X0_expandList_2 : GoodIn wsX0_expandTree wsX0_expandList_r3 := goodIn_r _ [56, 57, 58, 59, 60, 255, 256, 257, 258, 259, 260, 261, 262, 263, 264, 225, 111, 112, 113, 114, 115, 116, 117, 118] (by decide +kernel) (by decide +kernel)
set_option maxRecDepth 100000 in
theorem gpX0_expandTree_X0_expandList_3 : GoodIn wsX0_expandTree wsX0_expandList_r4 := goodIn_r _ [119, 120, 121, 122, 265, 266, 267, 268, 269, 100, 101, 102, 103, 270, 65, 66, 67, 68, 69, 70, 271, 272, 273, 274] (by decide +kernel) (by decide +kernel)
set_option maxRecDepth 100000 in
theorem gpX0_expandTree_X0_expandList_4 : GoodIn wsX0_expandTree wsX0_expandList_r5 := goodIn_r _ [275, 62, 63, 64, 84, 85, 80, 81, 82, 83, 276, 277, 278, 71, 72, 73, 74, 75, 279, 280, 281, 282, 283, 284] (by decide +kernel) (by decide +kernel)
set_option maxRecDepth 100000 in
theorem gpX0_expandTree_X0_expandList_5 : GoodIn wsX0_expandTree wsX0_expandList_r6 := goodIn_r _ [87, 88, 89, 90, 91, 92, 93, 94, 95, 96, 97, 98, 99, 104, 105, 106, 107, 108, 109, 110, 123, 124, 125, 126] (by decide +kernel) (by decide +kernel)
set_option maxRecDepth 100000 in
theorem gpX0_expandTree_X0_expandList_6 : GoodIn wsX0_expandTree wsX0_expandList_r7 := goodIn_r _ [127, 128, 129, 130, 131, 132, 133, 134, 135, 136, 137, 138, 139, 140, 141, 142, 143, 144, 145, 146, 147, 148, 149, 150] (by decide +kernel) (by decide +kernel)
set_option maxRecDepth 100000 in
theorem gpX0_expandTree_X0_expandList_7 : GoodIn wsX0_expandTree wsX0_expandList_r8 := goodIn_r _ [151, 152, 153, 154, 155, 156, 157, 158, 159, 160, 161, 162, 163, 164, 165, 166, 167, 168, 169, 170, 171, 172, 173, 174] (by decide +kernel) (by decide +kernel)
set_option maxRecDepth 100000 in
theorem gpX0_expandTree_X0_expandList_8 : GoodIn wsX0_expandTree wsX0_expandList_r9 := goodIn_r _ [175, 176, 177, 178, 179, 180, 181, 182, 183, 184, 185, 186, 187, 188, 189, 190, 191, 192, 193, 194, 195, 196, 197, 198] (by decide +kernel) (by decide +kernel)
set_option maxRecDepth 100000 in
theorem gpX0_expandTree_X0_expandList_9 : GoodIn wsX0_expandTree wsX0_expandList_r10 := goodIn_r _ [199, 200, 201, 202, 203, 204, 205, 206, 207, 208, 209, 210, 211, 212, 213, 214, 215, 216, 217, 218, 219, 220, 221, 222] (by decide +kernel) (by decide +kernel)
set_option maxRecDepth 100000 in
theorem gpX0_expandTree_X0_expandList_10 : GoodIn wsX0_expandTree wsX0_expandList_r11 := goodIn_r _ [223, 224, 226, 227, 228, 229, 230, 231, 232, 233, 234, 235, 236, 237, 238, 239, 240, 241, 242, 243, 244, 245, 246, 247] (by decide +kernel) (by decide +kernel)
set_option maxRecDepth 100000 in
theorem gpX0_expandTree_X0_expandList_11 : GoodIn wsX0_expandTree wsX0_expandList_r12 := goodIn_r _ [248, 249, 250, 251, 61, 76, 77, 78, 79, 252, 253, 285, 286, 287, 288, 289, 290, 291, 292, 293, 294, 295, 296, 297] (by decide +kernel) (by decide +kernel)
set_option maxRecDepth 100000 in
theorem gpX0_expandTree_X0_expandList_12 : GoodIn wsX0_expandTree wsX0_expandList_r13 := goodIn_r _ [298, 299, 300, 301, 302, 303, 304, 305, 306, 307, 308, 309, 310, 311, 312, 313, 314, 315, 316, 317, 318, 319, 320, 321] (by decide +kernel) (by decide +kernel)
set_option maxRecDepth 100000 in
theorem gpX0_expandTree_X0_expandList_13 : GoodIn wsX0_expandTree wsX0_expandList_r14 := goodIn_r _ [322, 323, 324, 325, 326, 0, 10, 11, 12, 17, 18, 19, 20, 86] (by decide +kernel) (by decide +kernel)
set_option maxRecDepth 100000 in
theorem gpX0_expandTree_X0_expandList_14 : GoodIn wsX0_expandTree wsX00 := goodIn_r _ [327, 328, 329, 330, 331, 332, 333, 334, 335] (by decide +kernel) (by decide +kernel)
set_option maxRecDepth 100000 in
theorem gpX0_expandTree_X0_expandList_15 : GoodIn wsX0_expandTree wsX20 := goodIn_r _ [336, 337, 338] (by decide +kernel) (by decide +kernel)
set_option maxRecDepth 100000 in
theorem gpX0_expandTree_X0_expandList_16 : GoodIn wsX0_expandTree wsX50 := goodIn_r _ [339, 340, 341, 342, 343, 344] (by decide +kernel) (by decide +kernel)
set_option maxRecDepth 100000 in
theorem gpX0_expandTree_X0_expandList_17 : GoodIn wsX0_expandTree wsX10 := goodIn_r _ [345, 346, 347, 348, 349, 350] (by decide +kernel) (by decide +kernel)
set_option maxRecDepth 100000 in
theorem gpX0_expandTree_X0_expandList_18 : GoodIn wsX0_expandTree wsX40 := goodIn_r _ [351, 352, 353, 354] (by decide +kernel) (by decide +kernel)
set_option maxRecDepth 100000 in
theorem gpX0_expandTree_X0_expandList_19 : GoodIn wsX0_expandTree wsX70 := goodIn_r _ [355, 356, 357, 358, 359, 360] (by decide +kernel) (by decide +kernel)
set_option maxRecDepth 100000 in
theorem gpX0_expandTree_X0_expandList_20 : GoodIn wsX0_expandTree wsX60 := goodIn_r _ [361] (by decide +kernel) (by decide +kernel)
set_option maxRecDepth 100000 in
theorem gpX0_expandTree_X0_expandList_c : GoodIn wsX0_expandTree [Cond.code yX0_expandList cX0_expandList 5 none] := goodIn_r _ [254] (by decide +kernel) (by decide +kernel)
theorem ggX0_expandTree_X0_expandList : GoodIn wsX0_expandTree wsX0_expandList := goodIn_cons2 gpX0_expandTree_X0_expandList_c (goodIn_app (goodIn_app (goodIn_app (goodIn_app (goodIn_app (goodIn_app (goodIn_app (goodIn_app gpX0_expandTree_X0_expandList_0 (goodIn_app gpX0_expandTree_X0_expandList_1 (goodIn_app gpX0_expandTree_X0_expandList_2 (goodIn_app gpX0_expandTree_X0_expandList_3 (goodIn_app gpX0_expandTree_X0_expandList_4 (goodIn_app gpX0_expandTree_X0_expandList_5 (goodIn_app gpX0_expandTree_X0_expandList_6 (goodIn_app gpX0_expandTree_X0_expandList_7 (goodIn_app gpX0_expandTree_X0_expandList_8 (goodIn_app gpX0_expandTree_X0_expandList_9 (goodIn_app gpX0_expandTree_X0_expandList_10 (goodIn_app gpX0_expandTree_X0_expandList_11 (goodIn_app gpX0_expandTree_X0_expandList_12 gpX0_expandTree_X0_expandList_13))))))))))))) gpX0_expandTree_X0_expandList_14) gpX0_expandTree_X0_expandList_15) gpX0_expandTree_X0_expandList_16) gpX0_expandTree_X0_expandList_17) gpX0_expandTree_X0_expandList_18) gpX0_expandTree_X0_expandList_19) gpX0_expandTree_X0_expandList_20)
set_option maxRecDepth 20000 in
theorem gX0_expandTree_X0_expandList : GoodIn wsX0_expandTree (wsV RX0 65 RX0 yX0_expandList wsX0_expandList) := goodIn_app (goodIn_of _ (by decide +kernel)) ggX0_expandTree_X0_expandList
set_option maxRecDepth 20000 in
theorem ggX0_expandTree_X8_isName : GoodIn wsX0_expandTree wsX8_isName := goodIn_r _ [16] (by decide +kernel) (by decide +kernel)
set_option maxRecDepth 100000 in
theorem gpX0_expandTree_X0_expandName_0 : GoodIn wsX0_expandTree wsX0_expandName_r1 := goodIn_r _ [21, 1, 2, 22, 23, 24, 13, 25, 3, 4, 5, 6, 7, 8, 9, 26, 27, 28, 29, 30, 31, 32, 33, 34] (by decide +kernel) (by decide +kernel)
set_option maxRecDepth 100000 in
theorem gpX0_expandTree_X0_expandName_1 : GoodIn wsX0_expandTree wsX0_expandName_r2 := goodIn_r _ [35, 36, 37, 38, 39, 40, 41, 42, 43, 44, 45, 46, 47, 48, 49, 50, 51, 52, 53, 54, 55, 56, 57, 58] (by decide +kernel) (by decide +kernel)
set_option maxRecDepth 100000 in
theorem gpX0_expandTree_X0_expandName_2 : GoodIn wsX0_expandTree wsX0_expandName_r3 := goodIn_r _ [59, 60, 61, 62, 63, 64, 65, 66, 67, 68, 69, 70, 71, 72, 73, 74, 75, 76, 77, 78, 79, 80, 81, 82] (by decide +kernel) (by decide +kernel)
set_option maxRecDepth 100000 in
theorem gpX0_expandTree_X0_expandName_3 : GoodIn wsX0_expandTree wsX0_expandName_r4 := goodIn_r _ [83] (by decide +kernel) (by decide +kernel)
set_option maxRecDepth 100000 in
theorem gpX0_expandTree_X0_expandName_4 : GoodIn wsX0_expandTree wsX00 := goodIn_r _ [327, 328, 329, 330, 331, 332, 333, 334, 335] (by decide +kernel) (by decide +kernel)
set_option maxRecDepth 100000 in
theorem gpX0_expandTree_X0_expandName_5 : GoodIn wsX0_expandTree wsX50 := goodIn_r _ [339, 340, 341, 342, 343, 344] (by decide +kernel) (by decide +kernel)
set_option maxRecDepth 100000 in
theorem gpX0_expandTree_X0_expandName_6 : GoodIn wsX0_expandTree wsX70 := goodIn_r _ [355, 356, 357, 358, 359, 360] (by decide +kernel) (by decide +kernel)
set_option maxRecDepth 100000 in
theorem gpX0_expandTree_X0_expandName_7 : GoodIn wsX0_expandTree wsX20 := goodIn_r _ [336, 337, 338] (by decide +kernel) (by decide +kernel)
set_option maxRecDepth 100000 in
theorem gpX0_expandTree_X0_expandName_c : GoodIn wsX0_expandTree [Cond.code yX0_expandName cX0_expandName 4 none] := goodIn_r _ [20] (by decide +kernel) (by decide +kernel)
theorem ggX0_expandTree_X0_expandName : GoodIn wsX0_expandTree wsX0_expandName := goodIn_cons2 gpX0_expandTree_X0_expandName_c (goodIn_app (goodIn_app (goodIn_app (goodIn_app (goodIn_app gpX0_expandTree_X0_expandName_0 (goodIn_app gpX0_expandTree_X0_expandName_1 (goodIn_app gpX0_expandTree_X0_expandName_2 gpX0_expandTree_X0_expandName_3))) gpX0_expandTree_X0_expandName_4) gpX0_expandTree_X0_expandName_5) gpX0_expandTree_X0_expandName_6) gpX0_expandTree_X0_expandName_7)
set_option maxRecDepth 20000 in
theorem gX0_expandTree_X0_expandName : GoodIn wsX0_expandTree (wsV RX0 73 RX0 yX0_expandName wsX0_expandName) := goodIn_app (goodIn_of _ (by decide +kernel)) ggX0_expandTree_X0_expandName
set_option maxRecDepth 20000 in
theorem ggX0_expandTree_X8_isNumber : GoodIn wsX0_expandTree wsX8_isNumber := goodIn_r _ [85] (by decide +kernel) (by decide +kernel)
set_option maxRecDepth 20000 in
theorem ggX0_expandTree_X2_putNumber : GoodIn wsX0_expandTree wsX2_putNumber := goodIn_r _ [83, 65, 66, 67, 53, 68, 55, 69, 70, 336, 337, 338] (by decide +kernel) (by decide +kernel)
set_option maxRecDepth 20000 in
theorem gX0_expandTree_X2_putNumber : GoodIn wsX0_expandTree (wsV RX0 80 RX2 yX2_putNumber wsX2_putNumber) := goodIn_app (goodIn_of _ (by decide +kernel)) ggX0_expandTree_X2_putNumber
set_option maxRecDepth 20000 in
theorem ggX0_expandTree_X2_fail : GoodIn wsX0_expandTree wsX2_fail := goodIn_r _ [54, 55, 336, 337, 338] (by decide +kernel) (by decide +kernel)
set_option maxRecDepth 20000 in
theorem gX0_expandTree_X2_fail : GoodIn wsX0_expandTree (wsV RX0 83 RX2 yX2_fail wsX2_fail) := goodIn_app (goodIn_of _ (by decide +kernel)) ggX0_expandTree_X2_fail
theorem dX0_expandTree_0 : decode cX0_expandTree 0 = .ok (.aload_n 0, 1) := by decide +kernel
theorem dX0_expandTree_1 : decode cX0_expandTree 1 = .ok (.getfield 23, 3) := by decide +kernel
theorem dX0_expandTree_4 : decode cX0_expandTree 4 = .ok (.getfield 54, 3) := by decide +kernel
theorem dX0_expandTree_7 : decode cX0_expandTree 7 = .ok (.ifCond .eq 4, 3) := by decide +kernel
theorem dX0_expandTree_10 : decode cX0_expandTree 10 = .ok (.return_, 1) := by decide +kernel
theorem dX0_expandTree_11 : decode cX0_expandTree 11 = .ok (.aload_n 0, 1) := by decide +kernel
theorem dX0_expandTree_12 : decode cX0_expandTree 12 = .ok (.getfield 9, 3) := by decide +kernel
theorem dX0_expandTree_15 : decode cX0_expandTree 15 = .ok (.iload_n 1, 1) := by decide +kernel
theorem dX0_expandTree_16 : decode cX0_expandTree 16 = .ok (.invokevirtual 59, 3) := by decide +kernel
theorem dX0_expandTree_19 : decode cX0_expandTree 19 = .ok (.istore_n 3, 1) := by decide +kernel
theorem dX0_expandTree_20 : decode cX0_expandTree 20 = .ok (.iload_n 3, 1) := by decide +kernel
theorem dX0_expandTree_21 : decode cX0_expandTree 21 = .ok (.iconst (-1), 1) := by decide +kernel
theorem dX0_expandTree_22 : decode cX0_expandTree 22 = .ok (.if_icmp .ne 12, 3) := by decide +kernel
theorem dX0_expandTree_25 : decode cX0_expandTree 25 = .ok (.aload_n 0, 1) := by decide +kernel
theorem dX0_expandTree_26 : decode cX0_expandTree 26 = .ok (.iload_n 1, 1) := by decide +kernel
theorem dX0_expandTree_27 : decode cX0_expandTree 27 = .ok (.iload_n 2, 1) := by decide +kernel
theorem dX0_expandTree_28 : decode cX0_expandTree 28 = .ok (.invokevirtual 65, 3) := by decide +kernel
theorem dX0_expandTree_31 : decode cX0_expandTree 31 = .ok (.goto 44, 3) := by decide +kernel
theorem dX0_expandTree_34 : decode cX0_expandTree 34 = .ok (.iload_n 3, 1) := by decide +kernel
theorem dX0_expandTree_35 : decode cX0_expandTree 35 = .ok (.invokestatic 69, 3) := by decide +kernel
theorem dX0_expandTree_38 : decode cX0_expandTree 38 = .ok (.ifCond .eq 11, 3) := by decide +kernel
theorem dX0_expandTree_41 : decode cX0_expandTree 41 = .ok (.aload_n 0, 1) := by decide +kernel
theorem dX0_expandTree_42 : decode cX0_expandTree 42 = .ok (.iload_n 1, 1) := by decide +kernel
theorem dX0_expandTree_43 : decode cX0_expandTree 43 = .ok (.invokevirtual 73, 3) := by decide +kernel
theorem dX0_expandTree_46 : decode cX0_expandTree 46 = .ok (.goto 29, 3) := by decide +kernel
theorem dX0_expandTree_49 : decode cX0_expandTree 49 = .ok (.iload_n 3, 1) := by decide +kernel
theorem dX0_expandTree_50 : decode cX0_expandTree 50 = .ok (.invokestatic 77, 3) := by decide +kernel
theorem dX0_expandTree_53 : decode cX0_expandTree 53 = .ok (.ifCond .eq 14, 3) := by decide +kernel
theorem dX0_expandTree_56 : decode cX0_expandTree 56 = .ok (.aload_n 0, 1) := by decide +kernel
theorem dX0_expandTree_57 : decode cX0_expandTree 57 = .ok (.getfield 23, 3) := by decide +kernel
theorem dX0_expandTree_60 : decode cX0_expandTree 60 = .ok (.iload_n 3, 1) := by decide +kernel
theorem dX0_expandTree_61 : decode cX0_expandTree 61 = .ok (.invokevirtual 80, 3) := by decide +kernel
theorem dX0_expandTree_64 : decode cX0_expandTree 64 = .ok (.goto 11, 3) := by decide +kernel
theorem dX0_expandTree_67 : decode cX0_expandTree 67 = .ok (.aload_n 0, 1) := by decide +kernel
theorem dX0_expandTree_68 : decode cX0_expandTree 68 = .ok (.getfield 23, 3) := by decide +kernel
theorem dX0_expandTree_71 : decode cX0_expandTree 71 = .ok (.iconst 3, 1) := by decide +kernel
theorem dX0_expandTree_72 : decode cX0_expandTree 72 = .ok (.invokevirtual 83, 3) := by decide +kernel
theorem dX0_expandTree_75 : decode cX0_expandTree 75 = .ok (.return_, 1) := by decide +kernel
set_option maxRecDepth 20000 in
theorem ggX0_expandList_X5_wordAt : GoodIn wsX0_expandList wsX5_wordAt := goodIn_r _ [8, 9, 10, 339, 340, 341, 342, 343, 344] (by decide +kernel) (by decide +kernel)
set_option maxRecDepth 20000 in
theorem gX0_expandList_X5_wordAt : GoodIn wsX0_expandList (wsV RX0 59 RX5 yX5_wordAt wsX5_wordAt) := goodIn_app (goodIn_of _ (by decide +kernel)) ggX0_expandList_X5_wordAt
set_option maxRecDepth 20000 in
theorem ggX0_expandList_X2_fail : GoodIn wsX0_expandList wsX2_fail := goodIn_r _ [15, 16, 336, 337, 338] (by decide +kernel) (by decide +kernel)
set_option maxRecDepth 20000 in
theorem gX0_expandList_X2_fail : GoodIn wsX0_expandList (wsV RX0 83 RX2 yX2_fail wsX2_fail) := goodIn_app (goodIn_of _ (by decide +kernel)) ggX0_expandList_X2_fail
set_option maxRecDepth 20000 in
theorem ggX0_expandList_X8_isName : GoodIn wsX0_expandList wsX8_isName := goodIn_r _ [19] (by decide +kernel) (by decide +kernel)
set_option maxRecDepth 100000 in
theorem gpX0_expandList_X0_meaningOf_0 : GoodIn wsX0_expandList wsX0_meaningOf_r1 := goodIn_r _ [3, 1, 2, 4, 5, 6, 7, 8, 9, 10, 25, 26, 27, 28, 29, 30, 31, 32, 33, 34, 35, 36, 37, 38] (by decide +kernel) (by decide +kernel)
set_option maxRecDepth 100000 in
theorem gpX0_expandList_X0_meaningOf_1 : GoodIn wsX0_expandList wsX0_meaningOf_r2 := goodIn_r _ [39, 40, 41, 42, 43, 44, 45, 46, 47, 48, 11, 12, 13, 14, 15, 16] (by decide +kernel) (by decide +kernel)
set_option maxRecDepth 100000 in
theorem gpX0_expandList_X0_meaningOf_2 : GoodIn wsX0_expandList wsX00 := goodIn_r _ [327, 328, 329, 330, 331, 332, 333, 334, 335] (by decide +kernel) (by decide +kernel)
set_option maxRecDepth 100000 in
theorem gpX0_expandList_X0_meaningOf_3 : GoodIn wsX0_expandList wsX50 := goodIn_r _ [339, 340, 341, 342, 343, 344] (by decide +kernel) (by decide +kernel)
set_option maxRecDepth 100000 in
theorem gpX0_expandList_X0_meaningOf_4 : GoodIn wsX0_expandList wsX70 := goodIn_r _ [355, 356, 357, 358, 359, 360] (by decide +kernel) (by decide +kernel)
set_option maxRecDepth 100000 in
theorem gpX0_expandList_X0_meaningOf_5 : GoodIn wsX0_expandList wsX20 := goodIn_r _ [336, 337, 338] (by decide +kernel) (by decide +kernel)
set_option maxRecDepth 100000 in
theorem gpX0_expandList_X0_meaningOf_c : GoodIn wsX0_expandList [Cond.code yX0_meaningOf cX0_meaningOf 3 (some .int)] := goodIn_r _ [24] (by decide +kernel) (by decide +kernel)
theorem ggX0_expandList_X0_meaningOf : GoodIn wsX0_expandList wsX0_meaningOf := goodIn_cons2 gpX0_expandList_X0_meaningOf_c (goodIn_app (goodIn_app (goodIn_app (goodIn_app (goodIn_app gpX0_expandList_X0_meaningOf_0 gpX0_expandList_X0_meaningOf_1) gpX0_expandList_X0_meaningOf_2) gpX0_expandList_X0_meaningOf_3) gpX0_expandList_X0_meaningOf_4) gpX0_expandList_X0_meaningOf_5)
set_option maxRecDepth 20000 in
theorem gX0_expandList_X0_meaningOf : GoodIn wsX0_expandList (wsV RX0 93 RX0 yX0_meaningOf wsX0_meaningOf) := goodIn_app (goodIn_of _ (by decide +kernel)) ggX0_expandList_X0_meaningOf
set_option maxRecDepth 20000 in
theorem ggX0_expandList_X7_kindOf : GoodIn wsX0_expandList wsX7_kindOf := goodIn_r _ [52, 53, 355, 356, 357, 358, 359, 360] (by decide +kernel) (by decide +kernel)
set_option maxRecDepth 20000 in
theorem gX0_expandList_X7_kindOf : GoodIn wsX0_expandList (wsV RX0 96 RX7 yX7_kindOf wsX7_kindOf) := goodIn_app (goodIn_of _ (by decide +kernel)) ggX0_expandList_X7_kindOf
set_option maxRecDepth 100000 in
theorem gpX0_expandList_X0_expandFn_0 : GoodIn wsX0_expandList wsX0_expandFn_r1 := goodIn_r _ [1, 2, 242, 240, 82, 83, 7, 84, 9, 85, 64, 65, 66, 67, 68, 5, 6, 8, 10, 69, 70, 71, 72, 73] (by decide +kernel) (by decide +kernel)
set_option maxRecDepth 100000 in
theorem gpX0_expandList_X0_expandFn_1 : GoodIn wsX0_expandList wsX0_expandFn_r2 := goodIn_r _ [74, 75, 76, 243, 244, 245, 23, 246, 4, 17, 18, 19, 11, 12, 13, 14, 15, 16, 124, 125, 126, 127, 128, 129] (by decide +kernel) (by decide +kernel)
set_option maxRecDepth 100000 in
theorem gpX0_expandList_X0_expandFn_2 : GoodIn wsX0_expandList wsX0_expandFn_r3 := goodIn_r _ [130, 131, 132, 29, 133, 238, 247, 248, 249, 250, 251, 252, 253, 254, 255, 256, 257, 258, 3, 259, 25, 26, 27, 28] (by decide +kernel) (by decide +kernel)
set_option maxRecDepth 100000 in
theorem gpX0_expandList_X0_expandFn_3 : GoodIn wsX0_expandList wsX0_expandFn_r4 := goodIn_r _ [260, 261, 262, 33, 263, 35, 36, 37, 53, 114, 264, 265, 266, 267, 268, 239, 88, 89, 90, 91, 92, 269, 98, 99] (by decide +kernel) (by decide +kernel)
set_option maxRecDepth 100000 in
theorem gpX0_expandList_X0_expandFn_4 : GoodIn wsX0_expandList wsX0_expandFn_r5 := goodIn_r _ [100, 87, 270, 271, 272, 273, 103, 104, 105, 106, 234, 235, 236, 121, 122, 123, 134, 135, 136, 137, 138, 139, 140, 141] (by decide +kernel) (by decide +kernel)
set_option maxRecDepth 100000 in
theorem gpX0_expandList_X0_expandFn_5 : GoodIn wsX0_expandList wsX0_expandFn_r6 := goodIn_r _ [142, 143, 144, 145, 146, 147, 148, 149, 150, 151, 152, 153, 154, 155, 156, 157, 158, 159, 160, 161, 162, 163, 164, 165] (by decide +kernel) (by decide +kernel)
set_option maxRecDepth 100000 in
theorem gpX0_expandList_X0_expandFn_6 : GoodIn wsX0_expandList wsX0_expandFn_r7 := goodIn_r _ [166, 167, 168, 169, 170, 171, 172, 173, 174, 175, 176, 177, 178, 179, 180, 181, 182, 183, 184, 185, 186, 187, 188, 189] (by decide +kernel) (by decide +kernel)
set_option maxRecDepth 100000 in
theorem gpX0_expandList_X0_expandFn_7 : GoodIn wsX0_expandList wsX0_expandFn_r8 := goodIn_r _ [190, 191, 192, 193, 194, 195, 196, 197, 198, 199, 200, 201, 202, 203, 204, 205, 206, 207, 208, 209, 210, 211, 212, 213] (by decide +kernel) (by decide +kernel)
set_option maxRecDepth 100000 in
theorem gpX0_expandList_X0_expandFn_8 : GoodIn wsX0_expandList wsX0_expandFn_r9 := goodIn_r _ [214, 215, 216, 217, 218, 219, 220, 221, 222, 223, 224, 225, 226, 227, 228, 229, 230, 231, 232, 233, 237, 274, 275, 0] (by decide +kernel) (by decide +kernel)
set_option maxRecDepth 100000 in
theorem gpX0_expandList_X0_expandFn_9 : GoodIn wsX0_expandList wsX0_expandFn_r10 := goodIn_r _ [20, 21, 22, 24, 30, 31, 32, 34, 38, 39, 40, 41, 42, 43, 44, 45, 46, 47, 48, 49, 50, 51, 52, 54] (by decide +kernel) (by decide +kernel)
set_option maxRecDepth 100000 in
theorem gpX0_expandList_X0_expandFn_10 : GoodIn wsX0_expandList wsX0_expandFn_r11 := goodIn_r _ [55, 56, 57, 58, 59, 60, 61, 62, 63, 77, 78, 79, 80, 81, 86, 93, 94, 95, 96, 97, 101, 102, 107, 108] (by decide +kernel) (by decide +kernel)
set_option maxRecDepth 100000 in
theorem gpX0_expandList_X0_expandFn_11 : GoodIn wsX0_expandList wsX0_expandFn_r12 := goodIn_r _ [109, 110, 111, 112, 113, 115, 116, 117, 118, 119, 120, 276, 277, 278, 279, 280, 281, 282, 283, 284, 285, 286, 287, 288] (by decide +kernel) (by decide +kernel)
set_option maxRecDepth 100000 in
theorem gpX0_expandList_X0_expandFn_12 : GoodIn wsX0_expandList wsX0_expandFn_r13 := goodIn_r _ [289, 290, 291, 292, 293, 294, 295, 296, 297, 298, 299, 300, 301, 302, 303, 304, 305, 306, 307, 308, 309, 310, 311, 312] (by decide +kernel) (by decide +kernel)
set_option maxRecDepth 100000 in
theorem gpX0_expandList_X0_expandFn_13 : GoodIn wsX0_expandList wsX0_expandFn_r14 := goodIn_r _ [313, 314, 315, 316, 317, 318, 319, 320, 321, 322, 323, 324, 325, 326] (by decide +kernel) (by decide +kernel)
set_option maxRecDepth 100000 in
theorem gpX0_expandList_X0_expandFn_14 : GoodIn wsX0_expandList wsX00 := goodIn_r _ [327, 328, 329, 330, 331, 332, 333, 334, 335] (by decide +kernel) (by decide +kernel)
set_option maxRecDepth 100000 in
theorem gpX0_expandList_X0_expandFn_15 : GoodIn wsX0_expandList wsX20 := goodIn_r _ [336, 337, 338] (by decide +kernel) (by decide +kernel)
set_option maxRecDepth 100000 in
theorem gpX0_expandList_X0_expandFn_16 : GoodIn wsX0_expandList wsX50 := goodIn_r _ [339, 340, 341, 342, 343, 344] (by decide +kernel) (by decide +kernel)
set_option maxRecDepth 100000 in
theorem gpX0_expandList_X0_expandFn_17 : GoodIn wsX0_expandList wsX10 := goodIn_r _ [345, 346, 347, 348, 349, 350] (by decide +kernel) (by decide +kernel)
set_option maxRecDepth 100000 in
theorem gpX0_expandList_X0_expandFn_18 : GoodIn wsX0_expandList wsX40 := goodIn_r _ [351, 352, 353, 354] (by decide +kernel) (by decide +kernel)
set_option maxRecDepth 100000 in
theorem gpX0_expandList_X0_expandFn_19 : GoodIn wsX0_expandList wsX70 := goodIn_r _ [355, 356, 357, 358, 359, 360] (by decide +kernel) (by decide +kernel)
set_option maxRecDepth 100000 in
theorem gpX0_expandList_X0_expandFn_20 : GoodIn wsX0_expandList wsX60 := goodIn_r _ [361] (by decide +kernel) (by decide +kernel)
set_option maxRecDepth 100000 in
theorem gpX0_expandList_X0_expandFn_c : GoodIn wsX0_expandList [Cond.code yX0_expandFn cX0_expandFn 9 none] := goodIn_r _ [241] (by decide +kernel) (by decide +kernel)
theorem ggX0_expandList_X0_expandFn : GoodIn wsX0_expandList wsX0_expandFn := goodIn_cons2 gpX0_expandList_X0_expandFn_c (goodIn_app (goodIn_app (goodIn_app (goodIn_app (goodIn_app (goodIn_app (goodIn_app (goodIn_app gpX0_expandList_X0_expandFn_0 (goodIn_app gpX0_expandList_X0_expandFn_1 (goodIn_app gpX0_expandList_X0_expandFn_2 (goodIn_app gpX0_expandList_X0_expandFn_3 (goodIn_app gpX0_expandList_X0_expandFn_4 (goodIn_app gpX0_expandList_X0_expandFn_5 (goodIn_app gpX0_expandList_X0_expandFn_6 (goodIn_app gpX0_expandList_X0_expandFn_7 (goodIn_app gpX0_expandList_X0_expandFn_8 (goodIn_app gpX0_expandList_X0_expandFn_9 (goodIn_app gpX0_expandList_X0_expandFn_10 (goodIn_app gpX0_expandList_X0_expandFn_11 (goodIn_app gpX0_expandList_X0_expandFn_12 gpX0_expandList_X0_expandFn_13))))))))))))) gpX0_expandList_X0_expandFn_14) gpX0_expandList_X0_expandFn_15) gpX0_expandList_X0_expandFn_16) gpX0_expandList_X0_expandFn_17) gpX0_expandList_X0_expandFn_18) gpX0_expandList_X0_expandFn_19) gpX0_expandList_X0_expandFn_20)
set_option maxRecDepth 20000 in
theorem gX0_expandList_X0_expandFn : GoodIn wsX0_expandList (wsV RX0 108 RX0 yX0_expandFn wsX0_expandFn) := goodIn_app (goodIn_of _ (by decide +kernel)) ggX0_expandList_X0_expandFn
set_option maxRecDepth 100000 in
theorem gpX0_expandList_X0_expandIf_0 : GoodIn wsX0_expandList wsX0_expandIf_r1 := goodIn_r _ [1, 2, 275, 64, 65, 66, 7, 67, 68, 5, 6, 8, 9, 10, 69, 70, 71, 72, 73, 74, 75, 76, 11, 12] (by decide +kernel) (by decide +kernel)
set_option maxRecDepth 100000 in
theorem gpX0_expandList_X0_expandIf_1 : GoodIn wsX0_expandList wsX0_expandIf_r2 := goodIn_r _ [13, 14, 15, 16, 239, 88, 89, 90, 91, 92, 269, 98, 99, 100, 87, 234, 235, 236, 23, 240, 82, 83, 84, 85] (by decide +kernel) (by decide +kernel)
set_option maxRecDepth 100000 in
theorem gpX0_expandList_X0_expandIf_2 : GoodIn wsX0_expandList wsX0_expandIf_r3 := goodIn_r _ [121, 122, 123, 124, 125, 126, 127, 128, 129, 130, 131, 132, 29, 133, 17, 18, 19, 134, 135, 136, 137, 138, 139, 140] (by decide +kernel) (by decide +kernel)
set_option maxRecDepth 100000 in
theorem gpX0_expandList_X0_expandIf_3 : GoodIn wsX0_expandList wsX0_expandIf_r4 := goodIn_r _ [141, 142, 143, 144, 145, 146, 147, 148, 149, 150, 151, 152, 153, 154, 155, 156, 157, 158, 159, 160, 161, 162, 163, 164] (by decide +kernel) (by decide +kernel)
set_option maxRecDepth 100000 in
theorem gpX0_expandList_X0_expandIf_4 : GoodIn wsX0_expandList wsX0_expandIf_r5 := goodIn_r _ [165, 166, 167, 168, 169, 170, 171, 172, 173, 174, 175, 176, 177, 178, 179, 180, 181, 182, 183, 184, 185, 186, 187, 188] (by decide +kernel) (by decide +kernel)
set_option maxRecDepth 100000 in
theorem gpX0_expandList_X0_expandIf_5 : GoodIn wsX0_expandList wsX0_expandIf_r6 := goodIn_r _ [189, 190, 191, 192, 193, 194, 195, 196, 197, 198, 199, 200, 201, 202, 203, 204, 205, 206, 207, 208, 209, 210, 211, 212] (by decide +kernel) (by decide +kernel)
set_option maxRecDepth 100000 in
theorem gpX0_expandList_X0_expandIf_6 : GoodIn wsX0_expandList wsX0_expandIf_r7 := goodIn_r _ [213, 214, 215, 216, 217, 218, 219, 220, 221, 222, 223, 224, 225, 26, 27, 28, 226, 227, 228, 229, 230, 231, 232, 233] (by decide +kernel) (by decide +kernel)
set_option maxRecDepth 100000 in
theorem gpX0_expandList_X0_expandIf_7 : GoodIn wsX0_expandList wsX0_expandIf_r8 := goodIn_r _ [237, 238, 241, 242, 243, 244, 245, 246, 4, 247, 248, 249, 250, 251, 252, 253, 254, 255, 256, 257, 258, 3, 259, 25] (by decide +kernel) (by decide +kernel)
set_option maxRecDepth 100000 in
theorem gpX0_expandList_X0_expandIf_8 : GoodIn wsX0_expandList wsX0_expandIf_r9 := goodIn_r _ [260, 261, 262, 33, 263, 35, 36, 37, 53, 114, 264, 265, 266, 267, 268, 270, 271, 272, 273, 103, 104, 105, 106, 0] (by decide +kernel) (by decide +kernel)
set_option maxRecDepth 100000 in
theorem gpX0_expandList_X0_expandIf_9 : GoodIn wsX0_expandList wsX0_expandIf_r10 := goodIn_r _ [20, 21, 22, 24, 30, 31, 32, 34, 38, 39, 40, 41, 42, 43, 44, 45, 46, 47, 48, 49, 50, 51, 52, 54] (by decide +kernel) (by decide +kernel)
set_option maxRecDepth 100000 in
theorem gpX0_expandList_X0_expandIf_10 : GoodIn wsX0_expandList wsX0_expandIf_r11 := goodIn_r _ [55, 56, 57, 58, 59, 60, 61, 62, 63, 77, 78, 79, 80, 81, 86, 93, 94, 95, 96, 97, 101, 102, 107, 108] (by decide +kernel) (by decide +kernel)
set_option maxRecDepth 100000 in
theorem gpX0_expandList_X0_expandIf_11 : GoodIn wsX0_expandList wsX0_expandIf_r12 := goodIn_r _ [109, 110, 111, 112, 113, 115, 116, 117, 118, 119, 120, 276, 277, 278, 279, 280, 281, 282, 283, 284, 285, 286, 287, 288] (by decide +kernel) (by decide +kernel)
set_option maxRecDepth 100000 in
theorem gpX0_expandList_X0_expandIf_12 : GoodIn wsX0_expandList wsX0_expandIf_r13 := goodIn_r _ [289, 290, 291, 292, 293, 294, 295, 296, 297, 298, 299, 300, 301, 302, 303, 304, 305, 306, 307, 308, 309, 310, 311, 312] (by decide +kernel) (by decide +kernel)
set_option maxRecDepth 100000 in
theorem gpX0_expandList_X0_expandIf_13 : GoodIn wsX0_expandList wsX0_expandIf_r14 := goodIn_r _ [313, 314, 315, 316, 317, 318, 319, 320, 321, 322, 323, 324, 325, 326] (by decide +kernel) (by decide +kernel)
set_option maxRecDepth 100000 in
theorem gpX0_expandList_X0_expandIf_14 : GoodIn wsX0_expandList wsX00 := goodIn_r _ [327, 328, 329, 330, 331, 332, 333, 334, 335] (by decide +kernel) (by decide +kernel)
set_option maxRecDepth 100000 in
theorem gpX0_expandList_X0_expandIf_15 : GoodIn wsX0_expandList wsX20 := goodIn_r _ [336, 337, 338] (by decide +kernel) (by decide +kernel)
set_option maxRecDepth 100000 in
theorem gpX0_expandList_X0_expandIf_16 : GoodIn wsX0_expandList wsX50 := goodIn_r _ [339, 340, 341, 342, 343, 344] (by decide +kernel) (by decide +kernel)
set_option maxRecDepth 100000 in
theorem gpX0_expandList_X0_expandIf_17 : GoodIn wsX0_expandList wsX10 := goodIn_r _ [345, 346, 347, 348, 349, 350] (by decide +kernel) (by decide +kernel)
set_option maxRecDepth 100000 in
theorem gpX0_expandList_X0_expandIf_18 : GoodIn wsX0_expandList wsX40 := goodIn_r _ [351, 352, 353, 354] (by decide +kernel) (by decide +kernel)
set_option maxRecDepth 100000 in
theorem gpX0_expandList_X0_expandIf_19 : GoodIn wsX0_expandList wsX70 := goodIn_r _ [355, 356, 357, 358, 359, 360] (by decide +kernel) (by decide +kernel)
set_option maxRecDepth 100000 in
theorem gpX0_expandList_X0_expandIf_20 : GoodIn wsX0_expandList wsX60 := goodIn_r _ [361] (by decide +kernel) (by decide +kernel)
set_option maxRecDepth 100000 in
theorem gpX0_expandList_X0_expandIf_c : GoodIn wsX0_expandList [Cond.code yX0_expandIf cX0_expandIf 5 none] := goodIn_r _ [274] (by decide +kernel) (by decide +kernel)
theorem ggX0_expandList_X0_expandIf : GoodIn wsX0_expandList wsX0_expandIf := goodIn_cons2 gpX0_expandList_X0_expandIf_c (goodIn_app (goodIn_app (goodIn_app (goodIn_app (goodIn_app (goodIn_app (goodIn_app (goodIn_app gpX0_expandList_X0_expandIf_0 (goodIn_app gpX0_expandList_X0_expandIf_1 (goodIn_app gpX0_expandList_X0_expandIf_2 (goodIn_app gpX0_expandList_X0_expandIf_3 (goodIn_app gpX0_expandList_X0_expandIf_4 (goodIn_app gpX0_expandList_X0_expandIf_5 (goodIn_app gpX0_expandList_X0_expandIf_6 (goodIn_app gpX0_expandList_X0_expandIf_7 (goodIn_app gpX0_expandList_X0_expandIf_8 (goodIn_app gpX0_expandList_X0_expandIf_9 (goodIn_app gpX0_expandList_X0_expandIf_10 (goodIn_app gpX0_expandList_X0_expandIf_11 (goodIn_app gpX0_expandList_X0_expandIf_12 gpX0_expandList_X0_expandIf_13))))))))))))) gpX0_expandList_X0_expandIf_14) gpX0_expandList_X0_expandIf_15) gpX0_expandList_X0_expandIf_16) gpX0_expandList_X0_expandIf_17) gpX0_expandList_X0_expandIf_18) gpX0_expandList_X0_expandIf_19) gpX0_expandList_X0_expandIf_20)
set_option maxRecDepth 20000 in
theorem gX0_expandList_X0_expandIf : GoodIn wsX0_expandList (wsV RX0 111 RX0 yX0_expandIf wsX0_expandIf) := goodIn_app (goodIn_of _ (by decide +kernel)) ggX0_expandList_X0_expandIf
set_option maxRecDepth 100000 in
theorem gpX0_expandList_X0_expandQ_0 : GoodIn wsX0_expandList wsX0_expandQ_r1 := goodIn_r _ [1, 2, 64, 65, 66, 7, 67, 68, 5, 6, 8, 9, 10, 69, 70, 71, 72, 73, 74, 75, 76, 11, 12, 13] (by decide +kernel) (by decide +kernel)
set_option maxRecDepth 100000 in
theorem gpX0_expandList_X0_expandQ_1 : GoodIn wsX0_expandList wsX0_expandQ_r2 := goodIn_r _ [14, 15, 16, 77, 78, 79, 80, 81, 82, 83, 84, 85, 86, 87, 88, 89, 90, 91, 92, 93, 94, 95, 96, 17] (by decide +kernel) (by decide +kernel)
set_option maxRecDepth 100000 in
theorem gpX0_expandList_X0_expandQ_2 : GoodIn wsX0_expandList wsX0_expandQ_r3 := goodIn_r _ [18, 19, 97, 98, 99, 100, 101, 102, 103, 104, 105, 106] (by decide +kernel) (by decide +kernel)
set_option maxRecDepth 100000 in
theorem gpX0_expandList_X0_expandQ_3 : GoodIn wsX0_expandList wsX00 := goodIn_r _ [327, 328, 329, 330, 331, 332, 333, 334, 335] (by decide +kernel) (by decide +kernel)
set_option maxRecDepth 100000 in
theorem gpX0_expandList_X0_expandQ_4 : GoodIn wsX0_expandList wsX50 := goodIn_r _ [339, 340, 341, 342, 343, 344] (by decide +kernel) (by decide +kernel)
set_option maxRecDepth 100000 in
theorem gpX0_expandList_X0_expandQ_5 : GoodIn wsX0_expandList wsX20 := goodIn_r _ [336, 337, 338] (by decide +kernel) (by decide +kernel)
set_option maxRecDepth 100000 in
theorem gpX0_expandList_X0_expandQ_c : GoodIn wsX0_expandList [Cond.code yX0_expandQ cX0_expandQ 2 none] := goodIn_r _ [63] (by decide +kernel) (by decide +kernel)
theorem ggX0_expandList_X0_expandQ : GoodIn wsX0_expandList wsX0_expandQ := goodIn_cons2 gpX0_expandList_X0_expandQ_c (goodIn_app (goodIn_app (goodIn_app (goodIn_app gpX0_expandList_X0_expandQ_0 (goodIn_app gpX0_expandList_X0_expandQ_1 gpX0_expandList_X0_expandQ_2)) gpX0_expandList_X0_expandQ_3) gpX0_expandList_X0_expandQ_4) gpX0_expandList_X0_expandQ_5)
set_option maxRecDepth 20000 in
theorem gX0_expandList_X0_expandQ : GoodIn wsX0_expandList (wsV RX0 114 RX0 yX0_expandQ wsX0_expandQ) := goodIn_app (goodIn_of _ (by decide +kernel)) ggX0_expandList_X0_expandQ
set_option maxRecDepth 100000 in
theorem gpX0_expandList_X0_expandLs_0 : GoodIn wsX0_expandList wsX0_expandLs_r1 := goodIn_r _ [1, 277, 2, 240, 82, 83, 7, 84, 9, 85, 64, 65, 66, 67, 68, 5, 6, 8, 10, 69, 70, 71, 72, 73] (by decide +kernel) (by decide +kernel)
set_option maxRecDepth 100000 in
theorem gpX0_expandList_X0_expandLs_1 : GoodIn wsX0_expandList wsX0_expandLs_r2 := goodIn_r _ [74, 75, 76, 278, 279, 280, 281, 282, 283, 284, 285, 17, 18, 19, 286, 287, 288, 289, 290, 291, 292, 293, 294, 295] (by decide +kernel) (by decide +kernel)
set_option maxRecDepth 100000 in
theorem gpX0_expandList_X0_expandLs_2 : GoodIn wsX0_expandList wsX0_expandLs_r3 := goodIn_r _ [161, 162, 163, 223, 224, 296, 297, 298, 299, 300, 252, 253, 254, 29, 301, 302, 303, 304, 305, 306, 307, 308, 209, 309] (by decide +kernel) (by decide +kernel)
set_option maxRecDepth 100000 in
theorem gpX0_expandList_X0_expandLs_3 : GoodIn wsX0_expandList wsX0_expandLs_r4 := goodIn_r _ [310, 311, 312, 313, 206, 207, 208, 314, 315, 316, 317, 11, 12, 13, 14, 15, 16, 124, 125, 126, 23, 127, 128, 129] (by decide +kernel) (by decide +kernel)
set_option maxRecDepth 100000 in
theorem gpX0_expandList_X0_expandLs_4 : GoodIn wsX0_expandList wsX0_expandLs_r5 := goodIn_r _ [130, 131, 132, 133, 255, 256, 257, 258, 3, 259, 4, 25, 26, 27, 28, 260, 261, 262, 33, 263, 35, 36, 37, 53] (by decide +kernel) (by decide +kernel)
set_option maxRecDepth 100000 in
theorem gpX0_expandList_X0_expandLs_5 : GoodIn wsX0_expandList wsX0_expandLs_r6 := goodIn_r _ [114, 234, 235, 236, 121, 122, 123, 134, 135, 136, 137, 138, 139, 140, 141, 142, 143, 144, 145, 146, 147, 148, 149, 150] (by decide +kernel) (by decide +kernel)
set_option maxRecDepth 100000 in
theorem gpX0_expandList_X0_expandLs_6 : GoodIn wsX0_expandList wsX0_expandLs_r7 := goodIn_r _ [151, 152, 153, 154, 155, 156, 157, 158, 159, 160, 164, 165, 166, 167, 168, 169, 170, 171, 172, 173, 174, 175, 176, 177] (by decide +kernel) (by decide +kernel)
set_option maxRecDepth 100000 in
theorem gpX0_expandList_X0_expandLs_7 : GoodIn wsX0_expandList wsX0_expandLs_r8 := goodIn_r _ [178, 179, 180, 181, 182, 183, 184, 185, 186, 187, 188, 189, 190, 191, 192, 193, 194, 195, 196, 197, 198, 199, 200, 201] (by decide +kernel) (by decide +kernel)
set_option maxRecDepth 100000 in
theorem gpX0_expandList_X0_expandLs_8 : GoodIn wsX0_expandList wsX0_expandLs_r9 := goodIn_r _ [202, 203, 204, 205, 210, 211, 212, 213, 214, 215, 216, 217, 218, 219, 220, 221, 222, 225, 226, 227, 228, 229, 230, 231] (by decide +kernel) (by decide +kernel)
set_option maxRecDepth 100000 in
theorem gpX0_expandList_X0_expandLs_9 : GoodIn wsX0_expandList wsX0_expandLs_r10 := goodIn_r _ [232, 233, 237, 238, 239, 88, 89, 90, 91, 92, 241, 242, 243, 244, 245, 246, 247, 248, 249, 250, 251, 264, 265, 266] (by decide +kernel) (by decide +kernel)
set_option maxRecDepth 100000 in
theorem gpX0_expandList_X0_expandLs_10 : GoodIn wsX0_expandList wsX0_expandLs_r11 := goodIn_r _ [267, 268, 269, 98, 99, 100, 87, 270, 271, 272, 273, 103, 104, 105, 106, 274, 275, 0, 20, 21, 22, 24, 30, 31] (by decide +kernel) (by decide +kernel)
set_option maxRecDepth 100000 in
theorem gpX0_expandList_X0_expandLs_11 : GoodIn wsX0_expandList wsX0_expandLs_r12 := goodIn_r _ [32, 34, 38, 39, 40, 41, 42, 43, 44, 45, 46, 47, 48, 49, 50, 51, 52, 54, 55, 56, 57, 58, 59, 60] (by decide +kernel) (by decide +kernel)
set_option maxRecDepth 100000 in
theorem gpX0_expandList_X0_expandLs_12 : GoodIn wsX0_expandList wsX0_expandLs_r13 := goodIn_r _ [61, 62, 63, 77, 78, 79, 80, 81, 86, 93, 94, 95, 96, 97, 101, 102, 107, 108, 109, 110, 111, 112, 113, 115] (by decide +kernel) (by decide +kernel)
set_option maxRecDepth 100000 in
theorem gpX0_expandList_X0_expandLs_13 : GoodIn wsX0_expandList wsX0_expandLs_r14 := goodIn_r _ [116, 117, 118, 119, 120, 318, 319, 320, 321, 322, 323, 324, 325, 326] (by decide +kernel) (by decide +kernel)
set_option maxRecDepth 100000 in
theorem gpX0_expandList_X0_expandLs_14 : GoodIn wsX0_expandList wsX00 := goodIn_r _ [327, 328, 329, 330, 331, 332, 333, 334, 335] (by decide +kernel) (by decide +kernel)
set_option maxRecDepth 100000 in
theorem gpX0_expandList_X0_expandLs_15 : GoodIn wsX0_expandList wsX20 := goodIn_r _ [336, 337, 338] (by decide +kernel) (by decide +kernel)
set_option maxRecDepth 100000 in
theorem gpX0_expandList_X0_expandLs_16 : GoodIn wsX0_expandList wsX50 := goodIn_r _ [339, 340, 341, 342, 343, 344] (by decide +kernel) (by decide +kernel)
set_option maxRecDepth 100000 in
theorem gpX0_expandList_X0_expandLs_17 : GoodIn wsX0_expandList wsX10 := goodIn_r _ [345, 346, 347, 348, 349, 350] (by decide +kernel) (by decide +kernel)
set_option maxRecDepth 100000 in
theorem gpX0_expandList_X0_expandLs_18 : GoodIn wsX0_expandList wsX40 := goodIn_r _ [351, 352, 353, 354] (by decide +kernel) (by decide +kernel)
set_option maxRecDepth 100000 in
theorem gpX0_expandList_X0_expandLs_19 : GoodIn wsX0_expandList wsX70 := goodIn_r _ [355, 356, 357, 358, 359, 360] (by decide +kernel) (by decide +kernel)
set_option maxRecDepth 100000 in
theorem gpX0_expandList_X0_expandLs_20 : GoodIn wsX0_expandList wsX60 := goodIn_r _ [361] (by decide +kernel) (by decide +kernel)
set_option maxRecDepth 100000 in
theorem gpX0_expandList_X0_expandLs_c : GoodIn wsX0_expandList [Cond.code yX0_expandLs cX0_expandLs 6 none] := goodIn_r _ [276] (by decide +kernel) (by decide +kernel)
theorem ggX0_expandList_X0_expandLs : GoodIn wsX0_expandList wsX0_expandLs := goodIn_cons2 gpX0_expandList_X0_expandLs_c (goodIn_app (goodIn_app (goodIn_app (goodIn_app (goodIn_app (goodIn_app (goodIn_app (goodIn_app gpX0_expandList_X0_expandLs_0 (goodIn_app gpX0_expandList_X0_expandLs_1 (goodIn_app gpX0_expandList_X0_expandLs_2 (goodIn_app gpX0_expandList_X0_expandLs_3 (goodIn_app gpX0_expandList_X0_expandLs_4 (goodIn_app gpX0_expandList_X0_expandLs_5 (goodIn_app gpX0_expandList_X0_expandLs_6 (goodIn_app gpX0_expandList_X0_expandLs_7 (goodIn_app gpX0_expandList_X0_expandLs_8 (goodIn_app gpX0_expandList_X0_expandLs_9 (goodIn_app gpX0_expandList_X0_expandLs_10 (goodIn_app gpX0_expandList_X0_expandLs_11 (goodIn_app gpX0_expandList_X0_expandLs_12 gpX0_expandList_X0_expandLs_13))))))))))))) gpX0_expandList_X0_expandLs_14) gpX0_expandList_X0_expandLs_15) gpX0_expandList_X0_expandLs_16) gpX0_expandList_X0_expandLs_17) gpX0_expandList_X0_expandLs_18) gpX0_expandList_X0_expandLs_19) gpX0_expandList_X0_expandLs_20)
set_option maxRecDepth 20000 in
theorem gX0_expandList_X0_expandLs : GoodIn wsX0_expandList (wsV RX0 117 RX0 yX0_expandLs wsX0_expandLs) := goodIn_app (goodIn_of _ (by decide +kernel)) ggX0_expandList_X0_expandLs
set_option maxRecDepth 20000 in
theorem ggX0_expandList_X7_valueOf : GoodIn wsX0_expandList wsX7_valueOf := goodIn_r _ [113, 114, 355, 356, 357, 358, 359, 360] (by decide +kernel) (by decide +kernel)
set_option maxRecDepth 20000 in
theorem gX0_expandList_X7_valueOf : GoodIn wsX0_expandList (wsV RX0 102 RX7 yX7_valueOf wsX7_valueOf) := goodIn_app (goodIn_of _ (by decide +kernel)) ggX0_expandList_X7_valueOf
set_option maxRecDepth 100000 in
theorem gpX0_expandList_X0_expandByRules_0 : GoodIn wsX0_expandList wsX0_expandByRules_r1 := goodIn_r _ [122, 2, 1, 123, 11, 12, 13, 14, 15, 16, 124, 125, 126, 23, 127, 128, 129, 130, 131, 7, 132, 9, 10, 29] (by decide +kernel) (by decide +kernel)
set_option maxRecDepth 100000 in
theorem gpX0_expandList_X0_expandByRules_1 : GoodIn wsX0_expandList wsX0_expandByRules_r2 := goodIn_r _ [133, 82, 83, 84, 85, 17, 18, 19, 134, 135, 136, 137, 138, 139, 140, 65, 66, 67, 68, 5, 6, 8, 69, 70] (by decide +kernel) (by decide +kernel)
set_option maxRecDepth 100000 in
theorem gpX0_expandList_X0_expandByRules_2 : GoodIn wsX0_expandList wsX0_expandByRules_r3 := goodIn_r _ [71, 72, 73, 74, 75, 76, 141, 142, 143, 144, 145, 146, 147, 148, 149, 150, 151, 152, 153, 154, 155, 156, 157, 158] (by decide +kernel) (by decide +kernel)
set_option maxRecDepth 100000 in
theorem gpX0_expandList_X0_expandByRules_3 : GoodIn wsX0_expandList wsX0_expandByRules_r4 := goodIn_r _ [159, 160, 161, 162, 163, 164, 165, 166, 167, 168, 169, 170, 171, 172, 173, 174, 175, 176, 177, 178, 179, 180, 181, 182] (by decide +kernel) (by decide +kernel)
set_option maxRecDepth 100000 in
theorem gpX0_expandList_X0_expandByRules_4 : GoodIn wsX0_expandList wsX0_expandByRules_r5 := goodIn_r _ [183, 184, 185, 186, 187, 188, 189, 190, 191, 192, 193, 194, 195, 196, 197, 198, 199, 200, 201, 202, 203, 204, 205, 206] (by decide +kernel) (by decide +kernel)
set_option maxRecDepth 100000 in
theorem gpX0_expandList_X0_expandByRules_5 : GoodIn wsX0_expandList wsX0_expandByRules_r6 := goodIn_r _ [207, 208, 209, 210, 211, 212, 213, 214, 215, 216, 217, 218, 219, 220, 221, 222, 223, 224, 225, 26, 27, 28, 226, 227] (by decide +kernel) (by decide +kernel)
set_option maxRecDepth 100000 in
theorem gpX0_expandList_X0_expandByRules_6 : GoodIn wsX0_expandList wsX0_expandByRules_r7 := goodIn_r _ [228, 229, 230, 231, 232, 233, 234, 235, 236, 237, 238, 239, 88, 89, 90, 91, 92, 240, 241, 242, 64, 243, 244, 245] (by decide +kernel) (by decide +kernel)
set_option maxRecDepth 100000 in
theorem gpX0_expandList_X0_expandByRules_7 : GoodIn wsX0_expandList wsX0_expandByRules_r8 := goodIn_r _ [246, 4, 247, 248, 249, 250, 251, 252, 253, 254, 255, 256, 257, 258, 3, 259, 25, 260, 261, 262, 33, 263, 35, 36] (by decide +kernel) (by decide +kernel)
set_option maxRecDepth 100000 in
theorem gpX0_expandList_X0_expandByRules_8 : GoodIn wsX0_expandList wsX0_expandByRules_r9 := goodIn_r _ [37, 53, 114, 264, 265, 266, 267, 268, 269, 98, 99, 100, 87, 270, 271, 272, 273, 103, 104, 105, 106, 274, 275, 0] (by decide +kernel) (by decide +kernel)
set_option maxRecDepth 100000 in
theorem gpX0_expandList_X0_expandByRules_9 : GoodIn wsX0_expandList wsX0_expandByRules_r10 := goodIn_r _ [20, 21, 22, 24, 30, 31, 32, 34, 38, 39, 40, 41, 42, 43, 44, 45, 46, 47, 48, 49, 50, 51, 52, 54] (by decide +kernel) (by decide +kernel)
set_option maxRecDepth 100000 in
theorem gpX0_expandList_X0_expandByRules_10 : GoodIn wsX0_expandList wsX0_expandByRules_r11 := goodIn_r _ [55, 56, 57, 58, 59, 60, 61, 62, 63, 77, 78, 79, 80, 81, 86, 93, 94, 95, 96, 97, 101, 102, 107, 108] (by decide +kernel) (by decide +kernel)
set_option maxRecDepth 100000 in
theorem gpX0_expandList_X0_expandByRules_11 : GoodIn wsX0_expandList wsX0_expandByRules_r12 := goodIn_r _ [109, 110, 111, 112, 113, 115, 116, 117, 118, 119, 120, 276, 277, 278, 279, 280, 281, 282, 283, 284, 285, 286, 287, 288] (by decide +kernel) (by decide +kernel)
set_option maxRecDepth 100000 in
theorem gpX0_expandList_X0_expandByRules_12 : GoodIn wsX0_expandList wsX0_expandByRules_r13 := goodIn_r _ [289, 290, 291, 292, 293, 294, 295, 296, 297, 298, 299, 300, 301, 302, 303, 304, 305, 306, 307, 308, 309, 310, 311, 312] (by decide +kernel) (by decide +kernel)
set_option maxRecDepth 100000 in
theorem gpX0_expandList_X0_expandByRules_13 : GoodIn wsX0_expandList wsX0_expandByRules_r14 := goodIn_r _ [313, 314, 315, 316, 317, 318, 319, 320, 321, 322, 323, 324, 325, 326] (by decide +kernel) (by decide +kernel)
set_option maxRecDepth 100000 in
theorem gpX0_expandList_X0_expandByRules_14 : GoodIn wsX0_expandList wsX00 := goodIn_r _ [327, 328, 329, 330, 331, 332, 333, 334, 335] (by decide +kernel) (by decide +kernel)
set_option maxRecDepth 100000 in
theorem gpX0_expandList_X0_expandByRules_15 : GoodIn wsX0_expandList wsX20 := goodIn_r _ [336, 337, 338] (by decide +kernel) (by decide +kernel)
set_option maxRecDepth 100000 in
theorem gpX0_expandList_X0_expandByRules_16 : GoodIn wsX0_expandList wsX50 := goodIn_r _ [339, 340, 341, 342, 343, 344] (by decide +kernel) (by decide +kernel)
set_option maxRecDepth 100000 in
theorem gpX0_expandList_X0_expandByRules_17 : GoodIn wsX0_expandList wsX10 := goodIn_r _ [345, 346, 347, 348, 349, 350] (by decide +kernel) (by decide +kernel)
set_option maxRecDepth 100000 in
theorem gpX0_expandList_X0_expandByRules_18 : GoodIn wsX0_expandList wsX40 := goodIn_r _ [351, 352, 353, 354] (by decide +kernel) (by decide +kernel)
set_option maxRecDepth 100000 in
theorem gpX0_expandList_X0_expandByRules_19 : GoodIn wsX0_expandList wsX70 := goodIn_r _ [355, 356, 357, 358, 359, 360] (by decide +kernel) (by decide +kernel)
set_option maxRecDepth 100000 in
theorem gpX0_expandList_X0_expandByRules_20 : GoodIn wsX0_expandList wsX60 := goodIn_r _ [361] (by decide +kernel) (by decide +kernel)
set_option maxRecDepth 100000 in
theorem gpX0_expandList_X0_expandByRules_c : GoodIn wsX0_expandList [Cond.code yX0_expandByRules cX0_expandByRules 7 none] := goodIn_r _ [121] (by decide +kernel) (by decide +kernel)
theorem ggX0_expandList_X0_expandByRules : GoodIn wsX0_expandList wsX0_expandByRules := goodIn_cons2 gpX0_expandList_X0_expandByRules_c (goodIn_app (goodIn_app (goodIn_app (goodIn_app (goodIn_app (goodIn_app (goodIn_app (goodIn_app gpX0_expandList_X0_expandByRules_0 (goodIn_app gpX0_expandList_X0_expandByRules_1 (goodIn_app gpX0_expandList_X0_expandByRules_2 (goodIn_app gpX0_expandList_X0_expandByRules_3 (goodIn_app gpX0_expandList_X0_expandByRules_4 (goodIn_app gpX0_expandList_X0_expandByRules_5 (goodIn_app gpX0_expandList_X0_expandByRules_6 (goodIn_app gpX0_expandList_X0_expandByRules_7 (goodIn_app gpX0_expandList_X0_expandByRules_8 (goodIn_app gpX0_expandList_X0_expandByRules_9 (goodIn_app gpX0_expandList_X0_expandByRules_10 (goodIn_app gpX0_expandList_X0_expandByRules_11 (goodIn_app gpX0_expandList_X0_expandByRules_12 gpX0_expandList_X0_expandByRules_13))))))))))))) gpX0_expandList_X0_expandByRules_14) gpX0_expandList_X0_expandByRules_15) gpX0_expandList_X0_expandByRules_16) gpX0_expandList_X0_expandByRules_17) gpX0_expandList_X0_expandByRules_18) gpX0_expandList_X0_expandByRules_19) gpX0_expandList_X0_expandByRules_20)
set_option maxRecDepth 20000 in
theorem gX0_expandList_X0_expandByRules : GoodIn wsX0_expandList (wsV RX0 120 RX0 yX0_expandByRules wsX0_expandByRules) := goodIn_app (goodIn_of _ (by decide +kernel)) ggX0_expandList_X0_expandByRules
set_option maxRecDepth 100000 in
theorem gpX0_expandList_X0_expandEach_0 : GoodIn wsX0_expandList wsX0_expandEach_r1 := goodIn_r _ [1, 2, 238, 74, 75, 7, 76, 9, 10, 239, 88, 89, 14, 90, 16, 91, 92, 234, 235, 236, 23, 240, 82, 83] (by decide +kernel) (by decide +kernel)
set_option maxRecDepth 100000 in
theorem gpX0_expandList_X0_expandEach_1 : GoodIn wsX0_expandList wsX0_expandEach_r2 := goodIn_r _ [84, 85, 121, 122, 123, 11, 12, 13, 15, 124, 125, 126, 127, 128, 129, 130, 131, 132, 29, 133, 17, 18, 19, 134] (by decide +kernel) (by decide +kernel)
set_option maxRecDepth 100000 in
theorem gpX0_expandList_X0_expandEach_2 : GoodIn wsX0_expandList wsX0_expandEach_r3 := goodIn_r _ [135, 136, 137, 138, 139, 140, 65, 66, 67, 68, 5, 6, 8, 69, 70, 71, 72, 73, 141, 142, 143, 144, 145, 146] (by decide +kernel) (by decide +kernel)
set_option maxRecDepth 100000 in
theorem gpX0_expandList_X0_expandEach_3 : GoodIn wsX0_expandList wsX0_expandEach_r4 := goodIn_r _ [147, 148, 149, 150, 151, 152, 153, 154, 155, 156, 157, 158, 159, 160, 161, 162, 163, 164, 165, 166, 167, 168, 169, 170] (by decide +kernel) (by decide +kernel)
set_option maxRecDepth 100000 in
theorem gpX0_expandList_X0_expandEach_4 : GoodIn wsX0_expandList wsX0_expandEach_r5 := goodIn_r _ [171, 172, 173, 174, 175, 176, 177, 178, 179, 180, 181, 182, 183, 184, 185, 186, 187, 188, 189, 190, 191, 192, 193, 194] (by decide +kernel) (by decide +kernel)
set_option maxRecDepth 100000 in
theorem gpX0_expandList_X0_expandEach_5 : GoodIn wsX0_expandList wsX0_expandEach_r6 := goodIn_r _ [195, 196, 197, 198, 199, 200, 201, 202, 203, 204, 205, 206, 207, 208, 209, 210, 211, 212, 213, 214, 215, 216, 217, 218] (by decide +kernel) (by decide +kernel)
set_option maxRecDepth 100000 in
theorem gpX0_expandList_X0_expandEach_6 : GoodIn wsX0_expandList wsX0_expandEach_r7 := goodIn_r _ [219, 220, 221, 222, 223, 224, 225, 26, 27, 28, 226, 227, 228, 229, 230, 231, 232, 233, 241, 242, 64, 243, 244, 245] (by decide +kernel) (by decide +kernel)
set_option maxRecDepth 100000 in
theorem gpX0_expandList_X0_expandEach_7 : GoodIn wsX0_expandList wsX0_expandEach_r8 := goodIn_r _ [246, 4, 247, 248, 249, 250, 251, 252, 253, 254, 255, 256, 257, 258, 3, 259, 25, 260, 261, 262, 33, 263, 35, 36] (by decide +kernel) (by decide +kernel)
set_option maxRecDepth 100000 in
theorem gpX0_expandList_X0_expandEach_8 : GoodIn wsX0_expandList wsX0_expandEach_r9 := goodIn_r _ [37, 53, 114, 264, 265, 266, 267, 268, 269, 98, 99, 100, 87, 270, 271, 272, 273, 103, 104, 105, 106, 274, 275, 0] (by decide +kernel) (by decide +kernel)
set_option maxRecDepth 100000 in
theorem gpX0_expandList_X0_expandEach_9 : GoodIn wsX0_expandList wsX0_expandEach_r10 := goodIn_r _ [20, 21, 22, 24, 30, 31, 32, 34, 38, 39, 40, 41, 42, 43, 44, 45, 46, 47, 48, 49, 50, 51, 52, 54] (by decide +kernel) (by decide +kernel)
set_option maxRecDepth 100000 in
theorem gpX0_expandList_X0_expandEach_10 : GoodIn wsX0_expandList wsX0_expandEach_r11 := goodIn_r _ [55, 56, 57, 58, 59, 60, 61, 62, 63, 77, 78, 79, 80, 81, 86, 93, 94, 95, 96, 97, 101, 102, 107, 108] (by decide +kernel) (by decide +kernel)
set_option maxRecDepth 100000 in
theorem gpX0_expandList_X0_expandEach_11 : GoodIn wsX0_expandList wsX0_expandEach_r12 := goodIn_r _ [109, 110, 111, 112, 113, 115, 116, 117, 118, 119, 120, 276, 277, 278, 279, 280, 281, 282, 283, 284, 285, 286, 287, 288] (by decide +kernel) (by decide +kernel)
set_option maxRecDepth 100000 in
theorem gpX0_expandList_X0_expandEach_12 : GoodIn wsX0_expandList wsX0_expandEach_r13 := goodIn_r _ [289, 290, 291, 292, 293, 294, 295, 296, 297, 298, 299, 300, 301, 302, 303, 304, 305, 306, 307, 308, 309, 310, 311, 312] (by decide +kernel) (by decide +kernel)
set_option maxRecDepth 100000 in
theorem gpX0_expandList_X0_expandEach_13 : GoodIn wsX0_expandList wsX0_expandEach_r14 := goodIn_r _ [313, 314, 315, 316, 317, 318, 319, 320, 321, 322, 323, 324, 325, 326] (by decide +kernel) (by decide +kernel)
set_option maxRecDepth 100000 in
theorem gpX0_expandList_X0_expandEach_14 : GoodIn wsX0_expandList wsX00 := goodIn_r _ [327, 328, 329, 330, 331, 332, 333, 334, 335] (by decide +kernel) (by decide +kernel)
set_option maxRecDepth 100000 in
theorem gpX0_expandList_X0_expandEach_15 : GoodIn wsX0_expandList wsX20 := goodIn_r _ [336, 337, 338] (by decide +kernel) (by decide +kernel)
set_option maxRecDepth 100000 in
theorem gpX0_expandList_X0_expandEach_16 : GoodIn wsX0_expandList wsX50 := goodIn_r _ [339, 340, 341, 342, 343, 344] (by decide +kernel) (by decide +kernel)
set_option maxRecDepth 100000 in
theorem gpX0_expandList_X0_expandEach_17 : GoodIn wsX0_expandList wsX10 := goodIn_r _ [345, 346, 347, 348, 349, 350] (by decide +kernel) (by decide +kernel)
set_option maxRecDepth 100000 in
theorem gpX0_expandList_X0_expandEach_18 : GoodIn wsX0_expandList wsX40 := goodIn_r _ [351, 352, 353, 354] (by decide +kernel) (by decide +kernel)
set_option maxRecDepth 100000 in
theorem gpX0_expandList_X0_expandEach_19 : GoodIn wsX0_expandList wsX70 := goodIn_r _ [355, 356, 357, 358, 359, 360] (by decide +kernel) (by decide +kernel)
set_option maxRecDepth 100000 in
theorem gpX0_expandList_X0_expandEach_20 : GoodIn wsX0_expandList wsX60 := goodIn_r _ [361] (by decide +kernel) (by decide +kernel)
set_option maxRecDepth 100000 in
theorem gpX0_expandList_X0_expandEach_c : GoodIn wsX0_expandList [Cond.code yX0_expandEach cX0_expandEach 6 none] := goodIn_r _ [237] (by decide +kernel) (by decide +kernel)
theorem ggX0_expandList_X0_expandEach : GoodIn wsX0_expandList wsX0_expandEach := goodIn_cons2 gpX0_expandList_X0_expandEach_c (goodIn_app (goodIn_app (goodIn_app (goodIn_app (goodIn_app (goodIn_app (goodIn_app (goodIn_app gpX0_expandList_X0_expandEach_0 (goodIn_app gpX0_expandList_X0_expandEach_1 (goodIn_app gpX0_expandList_X0_expandEach_2 (goodIn_app gpX0_expandList_X0_expandEach_3 (goodIn_app gpX0_expandList_X0_expandEach_4 (goodIn_app gpX0_expandList_X0_expandEach_5 (goodIn_app gpX0_expandList_X0_expandEach_6 (goodIn_app gpX0_expandList_X0_expandEach_7 (goodIn_app gpX0_expandList_X0_expandEach_8 (goodIn_app gpX0_expandList_X0_expandEach_9 (goodIn_app gpX0_expandList_X0_expandEach_10 (goodIn_app gpX0_expandList_X0_expandEach_11 (goodIn_app gpX0_expandList_X0_expandEach_12 gpX0_expandList_X0_expandEach_13))))))))))))) gpX0_expandList_X0_expandEach_14) gpX0_expandList_X0_expandEach_15) gpX0_expandList_X0_expandEach_16) gpX0_expandList_X0_expandEach_17) gpX0_expandList_X0_expandEach_18) gpX0_expandList_X0_expandEach_19) gpX0_expandList_X0_expandEach_20)
set_option maxRecDepth 20000 in
theorem gX0_expandList_X0_expandEach : GoodIn wsX0_expandList (wsV RX0 124 RX0 yX0_expandEach wsX0_expandEach) := goodIn_app (goodIn_of _ (by decide +kernel)) ggX0_expandList_X0_expandEach
theorem dX0_expandList_0 : decode cX0_expandList 0 = .ok (.aload_n 0, 1) := by decide +kernel
theorem dX0_expandList_1 : decode cX0_expandList 1 = .ok (.getfield 9, 3) := by decide +kernel
theorem dX0_expandList_4 : decode cX0_expandList 4 = .ok (.iload_n 1, 1) := by decide +kernel
theorem dX0_expandList_5 : decode cX0_expandList 5 = .ok (.iconst 1, 1) := by decide +kernel
theorem dX0_expandList_6 : decode cX0_expandList 6 = .ok (.iadd, 1) := by decide +kernel
theorem dX0_expandList_7 : decode cX0_expandList 7 = .ok (.invokevirtual 59, 3) := by decide +kernel
theorem dX0_expandList_10 : decode cX0_expandList 10 = .ok (.istore_n 3, 1) := by decide +kernel
theorem dX0_expandList_11 : decode cX0_expandList 11 = .ok (.iload_n 2, 1) := by decide +kernel
theorem dX0_expandList_12 : decode cX0_expandList 12 = .ok (.bipush 9, 2) := by decide +kernel
theorem dX0_expandList_14 : decode cX0_expandList 14 = .ok (.if_icmp .le 13, 3) := by decide +kernel
theorem dX0_expandList_17 : decode cX0_expandList 17 = .ok (.aload_n 0, 1) := by decide +kernel
theorem dX0_expandList_18 : decode cX0_expandList 18 = .ok (.getfield 23, 3) := by decide +kernel
theorem dX0_expandList_21 : decode cX0_expandList 21 = .ok (.bipush 6, 2) := by decide +kernel
theorem dX0_expandList_23 : decode cX0_expandList 23 = .ok (.invokevirtual 83, 3) := by decide +kernel
theorem dX0_expandList_26 : decode cX0_expandList 26 = .ok (.return_, 1) := by decide +kernel
theorem dX0_expandList_27 : decode cX0_expandList 27 = .ok (.iload_n 3, 1) := by decide +kernel
theorem dX0_expandList_28 : decode cX0_expandList 28 = .ok (.bipush (-2), 2) := by decide +kernel
theorem dX0_expandList_30 : decode cX0_expandList 30 = .ok (.if_icmp .ne 12, 3) := by decide +kernel
theorem dX0_expandList_33 : decode cX0_expandList 33 = .ok (.aload_n 0, 1) := by decide +kernel
theorem dX0_expandList_34 : decode cX0_expandList 34 = .ok (.getfield 23, 3) := by decide +kernel
theorem dX0_expandList_37 : decode cX0_expandList 37 = .ok (.iconst 3, 1) := by decide +kernel
theorem dX0_expandList_38 : decode cX0_expandList 38 = .ok (.invokevirtual 83, 3) := by decide +kernel
theorem dX0_expandList_41 : decode cX0_expandList 41 = .ok (.return_, 1) := by decide +kernel
theorem dX0_expandList_42 : decode cX0_expandList 42 = .ok (.iload_n 3, 1) := by decide +kernel
theorem dX0_expandList_43 : decode cX0_expandList 43 = .ok (.invokestatic 69, 3) := by decide +kernel
theorem dX0_expandList_46 : decode cX0_expandList 46 = .ok (.ifCond .eq 13, 3) := by decide +kernel
theorem dX0_expandList_49 : decode cX0_expandList 49 = .ok (.aload_n 0, 1) := by decide +kernel
theorem dX0_expandList_50 : decode cX0_expandList 50 = .ok (.iload_n 1, 1) := by decide +kernel
theorem dX0_expandList_51 : decode cX0_expandList 51 = .ok (.iconst 1, 1) := by decide +kernel
theorem dX0_expandList_52 : decode cX0_expandList 52 = .ok (.iadd, 1) := by decide +kernel
theorem dX0_expandList_53 : decode cX0_expandList 53 = .ok (.invokevirtual 93, 3) := by decide +kernel
theorem dX0_expandList_56 : decode cX0_expandList 56 = .ok (.goto 4, 3) := by decide +kernel
theorem dX0_expandList_59 : decode cX0_expandList 59 = .ok (.iconst (-1), 1) := by decide +kernel
theorem dX0_expandList_60 : decode cX0_expandList 60 = .ok (.istore 4, 2) := by decide +kernel
theorem dX0_expandList_62 : decode cX0_expandList 62 = .ok (.aload_n 0, 1) := by decide +kernel
theorem dX0_expandList_63 : decode cX0_expandList 63 = .ok (.getfield 23, 3) := by decide +kernel
theorem dX0_expandList_66 : decode cX0_expandList 66 = .ok (.getfield 54, 3) := by decide +kernel
theorem dX0_expandList_69 : decode cX0_expandList 69 = .ok (.ifCond .eq 4, 3) := by decide +kernel
theorem dX0_expandList_72 : decode cX0_expandList 72 = .ok (.return_, 1) := by decide +kernel
theorem dX0_expandList_73 : decode cX0_expandList 73 = .ok (.aload_n 0, 1) := by decide +kernel
theorem dX0_expandList_74 : decode cX0_expandList 74 = .ok (.getfield 19, 3) := by decide +kernel
theorem dX0_expandList_77 : decode cX0_expandList 77 = .ok (.iload 4, 2) := by decide +kernel
theorem dX0_expandList_79 : decode cX0_expandList 79 = .ok (.invokevirtual 96, 3) := by decide +kernel
theorem dX0_expandList_82 : decode cX0_expandList 82 = .ok (.tableswitch 95 0 6 #[42, 51, 60, 68, 95, 95, 77], 42) := by decide +kernel
theorem dX0_expandList_124 : decode cX0_expandList 124 = .ok (.aload_n 0, 1) := by decide +kernel
theorem dX0_expandList_125 : decode cX0_expandList 125 = .ok (.iload_n 1, 1) := by decide +kernel
theorem dX0_expandList_126 : decode cX0_expandList 126 = .ok (.iload_n 2, 1) := by decide +kernel
theorem dX0_expandList_127 : decode cX0_expandList 127 = .ok (.invokevirtual 108, 3) := by decide +kernel
theorem dX0_expandList_130 : decode cX0_expandList 130 = .ok (.goto 53, 3) := by decide +kernel
theorem dX0_expandList_133 : decode cX0_expandList 133 = .ok (.aload_n 0, 1) := by decide +kernel
theorem dX0_expandList_134 : decode cX0_expandList 134 = .ok (.iload_n 1, 1) := by decide +kernel
theorem dX0_expandList_135 : decode cX0_expandList 135 = .ok (.iload_n 2, 1) := by decide +kernel
theorem dX0_expandList_136 : decode cX0_expandList 136 = .ok (.invokevirtual 111, 3) := by decide +kernel
theorem dX0_expandList_139 : decode cX0_expandList 139 = .ok (.goto 44, 3) := by decide +kernel
theorem dX0_expandList_142 : decode cX0_expandList 142 = .ok (.aload_n 0, 1) := by decide +kernel
theorem dX0_expandList_143 : decode cX0_expandList 143 = .ok (.iload_n 1, 1) := by decide +kernel
theorem dX0_expandList_144 : decode cX0_expandList 144 = .ok (.invokevirtual 114, 3) := by decide +kernel
theorem dX0_expandList_147 : decode cX0_expandList 147 = .ok (.goto 36, 3) := by decide +kernel
theorem dX0_expandList_150 : decode cX0_expandList 150 = .ok (.aload_n 0, 1) := by decide +kernel
theorem dX0_expandList_151 : decode cX0_expandList 151 = .ok (.iload_n 1, 1) := by decide +kernel
theorem dX0_expandList_152 : decode cX0_expandList 152 = .ok (.iload_n 2, 1) := by decide +kernel
theorem dX0_expandList_153 : decode cX0_expandList 153 = .ok (.invokevirtual 117, 3) := by decide +kernel
theorem dX0_expandList_156 : decode cX0_expandList 156 = .ok (.goto 27, 3) := by decide +kernel
theorem dX0_expandList_159 : decode cX0_expandList 159 = .ok (.aload_n 0, 1) := by decide +kernel
theorem dX0_expandList_160 : decode cX0_expandList 160 = .ok (.iload_n 1, 1) := by decide +kernel
theorem dX0_expandList_161 : decode cX0_expandList 161 = .ok (.aload_n 0, 1) := by decide +kernel
theorem dX0_expandList_162 : decode cX0_expandList 162 = .ok (.getfield 19, 3) := by decide +kernel
theorem dX0_expandList_165 : decode cX0_expandList 165 = .ok (.iload 4, 2) := by decide +kernel
theorem dX0_expandList_167 : decode cX0_expandList 167 = .ok (.invokevirtual 102, 3) := by decide +kernel
theorem dX0_expandList_170 : decode cX0_expandList 170 = .ok (.iload_n 2, 1) := by decide +kernel
theorem dX0_expandList_171 : decode cX0_expandList 171 = .ok (.invokevirtual 120, 3) := by decide +kernel
theorem dX0_expandList_174 : decode cX0_expandList 174 = .ok (.goto 9, 3) := by decide +kernel
theorem dX0_expandList_177 : decode cX0_expandList 177 = .ok (.aload_n 0, 1) := by decide +kernel
theorem dX0_expandList_178 : decode cX0_expandList 178 = .ok (.iload_n 1, 1) := by decide +kernel
theorem dX0_expandList_179 : decode cX0_expandList 179 = .ok (.iload_n 2, 1) := by decide +kernel
theorem dX0_expandList_180 : decode cX0_expandList 180 = .ok (.invokevirtual 124, 3) := by decide +kernel
theorem dX0_expandList_183 : decode cX0_expandList 183 = .ok (.return_, 1) := by decide +kernel
set_option maxRecDepth 20000 in
theorem ggX0_expandEach_X5_itemsFrom : GoodIn wsX0_expandEach wsX5_itemsFrom := goodIn_r _ [7, 8, 9, 339, 340, 341, 342, 343, 344] (by decide +kernel) (by decide +kernel)
set_option maxRecDepth 20000 in
theorem gX0_expandEach_X5_itemsFrom : GoodIn wsX0_expandEach (wsV RX0 127 RX5 yX5_itemsFrom wsX5_itemsFrom) := goodIn_app (goodIn_of _ (by decide +kernel)) ggX0_expandEach_X5_itemsFrom
set_option maxRecDepth 20000 in
theorem ggX0_expandEach_X2_put : GoodIn wsX0_expandEach wsX2_put := goodIn_r _ [14, 15, 16, 17, 336, 337, 338] (by decide +kernel) (by decide +kernel)
set_option maxRecDepth 20000 in
theorem gX0_expandEach_X2_put : GoodIn wsX0_expandEach (wsV RX0 130 RX2 yX2_put wsX2_put) := goodIn_app (goodIn_of _ (by decide +kernel)) ggX0_expandEach_X2_put
set_option maxRecDepth 100000 in
theorem gpX0_expandEach_X0_expandTree_0 : GoodIn wsX0_expandEach wsX0_expandTree_r1 := goodIn_r _ [2, 1, 170, 59, 60, 6, 61, 8, 9, 319, 320, 321, 21, 45, 46, 47, 322, 323, 324, 325, 183, 217, 218, 219] (by decide +kernel) (by decide +kernel)
set_option maxRecDepth 100000 in
theorem gpX0_expandEach_X0_expandTree_1 : GoodIn wsX0_expandEach wsX0_expandTree_r2 := goodIn_r _ [220, 185, 152, 153, 154, 43, 221, 222, 223, 189, 224, 191, 192, 193, 225, 226, 227, 228, 229, 230, 231, 232, 233, 234] (by decide +kernel) (by decide +kernel)
set_option maxRecDepth 100000 in
theorem gpX0_expandEach_X0_expandTree_2 : GoodIn wsX0_expandEach wsX0_expandTree_r3 := goodIn_r _ [235, 30, 31, 32, 13, 33, 15, 236, 237, 238, 239, 194, 201, 202, 203, 204, 205, 11, 12, 14, 16, 17, 266, 267] (by decide +kernel) (by decide +kernel)
set_option maxRecDepth 100000 in
theorem gpX0_expandEach_X0_expandTree_3 : GoodIn wsX0_expandEach wsX0_expandTree_r4 := goodIn_r _ [268, 269, 195, 206, 207, 208, 209, 210, 211, 212, 213, 261, 262, 326, 27, 28, 29, 34, 35, 36, 37, 38, 39, 40] (by decide +kernel) (by decide +kernel)
set_option maxRecDepth 100000 in
theorem gpX0_expandEach_X0_expandTree_4 : GoodIn wsX0_expandEach wsX0_expandTree_r5 := goodIn_r _ [41, 42, 44, 23, 24, 25, 26, 48, 49, 50, 51, 52, 53, 54, 55, 56, 57, 58, 62, 63, 64, 65, 66, 4] (by decide +kernel) (by decide +kernel)
set_option maxRecDepth 100000 in
theorem gpX0_expandEach_X0_expandTree_5 : GoodIn wsX0_expandEach wsX0_expandTree_r6 := goodIn_r _ [5, 7, 67, 68, 69, 70, 71, 72, 73, 74, 75, 76, 77, 78, 79, 80, 81, 82, 83, 84, 85, 86, 87, 88] (by decide +kernel) (by decide +kernel)
set_option maxRecDepth 100000 in
theorem gpX0_expandEach_X0_expandTree_6 : GoodIn wsX0_expandEach wsX0_expandTree_r7 := goodIn_r _ [89, 90, 91, 92, 93, 94, 95, 96, 97, 98, 99, 100, 101, 102, 103, 104, 105, 106, 107, 108, 109, 110, 111, 112] (by decide +kernel) (by decide +kernel)
set_option maxRecDepth 100000 in
theorem gpX0_expandEach_X0_expandTree_7 : GoodIn wsX0_expandEach wsX0_expandTree_r8 := goodIn_r _ [113, 114, 115, 116, 117, 118, 119, 120, 121, 122, 123, 124, 125, 126, 127, 128, 129, 130, 131, 132, 133, 134, 135, 136] (by decide +kernel) (by decide +kernel)
set_option maxRecDepth 100000 in
theorem gpX0_expandEach_X0_expandTree_8 : GoodIn wsX0_expandEach wsX0_expandTree_r9 := goodIn_r _ [137, 138, 139, 140, 141, 142, 143, 144, 145, 146, 147, 148, 149, 150, 151, 155, 156, 157, 158, 159, 160, 161, 162, 18] (by decide +kernel) (by decide +kernel)
set_option maxRecDepth 100000 in
theorem gpX0_expandEach_X0_expandTree_9 : GoodIn wsX0_expandEach wsX0_expandTree_r10 := goodIn_r _ [19, 20, 0, 3, 10, 22, 163, 164, 165, 166, 167, 168, 169, 171, 172, 173, 174, 175, 176, 177, 178, 179, 180, 181] (by decide +kernel) (by decide +kernel)
set_option maxRecDepth 100000 in
theorem gpX0_expandEach_X0_expandTree_10 : GoodIn wsX0_expandEach wsX0_expandTree_r11 := goodIn_r _ [182, 184, 186, 187, 188, 190, 196, 197, 198, 199, 200, 214, 215, 216, 240, 241, 242, 243, 244, 245, 246, 247, 248, 249] (by decide +kernel) (by decide +kernel)
set_option maxRecDepth 100000 in
theorem gpX0_expandEach_X0_expandTree_11 : GoodIn wsX0_expandEach wsX0_expandTree_r12 := goodIn_r _ [250, 251, 252, 253, 254, 255, 256, 257, 258, 259, 260, 263, 264, 265, 270, 271, 272, 273, 274, 275, 276, 277, 278, 279] (by decide +kernel) (by decide +kernel)
set_option maxRecDepth 100000 in
theorem gpX0_expandEach_X0_expandTree_12 : GoodIn wsX0_expandEach wsX0_expandTree_r13 := goodIn_r _ [280, 281, 282, 283, 284, 285, 286, 287, 288, 289, 290, 291, 292, 293, 294, 295, 296, 297, 298, 299, 300, 301, 302, 303] (by decide +kernel) (by decide +kernel)
set_option maxRecDepth 100000 in
theorem gpX0_expandEach_X0_expandTree_13 : GoodIn wsX0_expandEach wsX0_expandTree_r14 := goodIn_r _ [304, 305, 306, 307, 308, 309, 310, 311, 312, 313, 314, 315, 316, 317] (by decide +kernel) (by decide +kernel)
set_option maxRecDepth 100000 in
theorem gpX0_expandEach_X0_expandTree_14 : GoodIn wsX0_expandEach wsX00 := goodIn_r _ [327, 328, 329, 330, 331, 332, 333, 334, 335] (by decide +kernel) (by decide +kernel)
set_option maxRecDepth 100000 in
theorem gpX0_expandEach_X0_expandTree_15 : GoodIn wsX0_expandEach wsX20 := goodIn_r _ [336, 337, 338] (by decide +kernel) (by decide +kernel)
set_option maxRecDepth 100000 in
theorem gpX0_expandEach_X0_expandTree_16 : GoodIn wsX0_expandEach wsX50 := goodIn_r _ [339, 340, 341, 342, 343, 344] (by decide +kernel) (by decide +kernel)
set_option maxRecDepth 100000 in
theorem gpX0_expandEach_X0_expandTree_17 : GoodIn wsX0_expandEach wsX10 := goodIn_r _ [345, 346, 347, 348, 349, 350] (by decide +kernel) (by decide +kernel)
set_option maxRecDepth 100000 in
theorem gpX0_expandEach_X0_expandTree_18 : GoodIn wsX0_expandEach wsX40 := goodIn_r _ [351, 352, 353, 354] (by decide +kernel) (by decide +kernel)
set_option maxRecDepth 100000 in
theorem gpX0_expandEach_X0_expandTree_19 : GoodIn wsX0_expandEach wsX70 := goodIn_r _ [355, 356, 357, 358, 359, 360] (by decide +kernel) (by decide +kernel)
set_option maxRecDepth 100000 in
theorem gpX0_expandEach_X0_expandTree_20 : GoodIn wsX0_expandEach wsX60 := goodIn_r _ [361] (by decide +kernel) (by decide +kernel)
set_option maxRecDepth 100000 in
theorem gpX0_expandEach_X0_expandTree_c : GoodIn wsX0_expandEach [Cond.code yX0_expandTree cX0_expandTree 4 none] := goodIn_r _ [318] (by decide +kernel) (by decide +kernel)
theorem ggX0_expandEach_X0_expandTree : GoodIn wsX0_expandEach wsX0_expandTree := goodIn_cons2 gpX0_expandEach_X0_expandTree_c (goodIn_app (goodIn_app (goodIn_app (goodIn_app (goodIn_app (goodIn_app (goodIn_app (goodIn_app gpX0_expandEach_X0_expandTree_0 (goodIn_app gpX0_expandEach_X0_expandTree_1 (goodIn_app gpX0_expandEach_X0_expandTree_2 (goodIn_app gpX0_expandEach_X0_expandTree_3 (goodIn_app gpX0_expandEach_X0_expandTree_4 (goodIn_app gpX0_expandEach_X0_expandTree_5 (goodIn_app gpX0_expandEach_X0_expandTree_6 (goodIn_app gpX0_expandEach_X0_expandTree_7 (goodIn_app gpX0_expandEach_X0_expandTree_8 (goodIn_app gpX0_expandEach_X0_expandTree_9 (goodIn_app gpX0_expandEach_X0_expandTree_10 (goodIn_app gpX0_expandEach_X0_expandTree_11 (goodIn_app gpX0_expandEach_X0_expandTree_12 gpX0_expandEach_X0_expandTree_13))))))))))))) gpX0_expandEach_X0_expandTree_14) gpX0_expandEach_X0_expandTree_15) gpX0_expandEach_X0_expandTree_16) gpX0_expandEach_X0_expandTree_17) gpX0_expandEach_X0_expandTree_18) gpX0_expandEach_X0_expandTree_19) gpX0_expandEach_X0_expandTree_20)
set_option maxRecDepth 20000 in
theorem gX0_expandEach_X0_expandTree : GoodIn wsX0_expandEach (wsV RX0 133 RX0 yX0_expandTree wsX0_expandTree) := goodIn_app (goodIn_of _ (by decide +kernel)) ggX0_expandEach_X0_expandTree
set_option maxRecDepth 20000 in
theorem ggX0_expandEach_X5_after : GoodIn wsX0_expandEach wsX5_after := goodIn_r _ [25, 8, 26, 339, 340, 341, 342, 343, 344] (by decide +kernel) (by decide +kernel)
set_option maxRecDepth 20000 in
theorem gX0_expandEach_X5_after : GoodIn wsX0_expandEach (wsV RX0 136 RX5 yX5_after wsX5_after) := goodIn_app (goodIn_of _ (by decide +kernel)) ggX0_expandEach_X5_after
theorem dX0_expandEach_0 : decode cX0_expandEach 0 = .ok (.aload_n 0, 1) := by decide +kernel
theorem dX0_expandEach_1 : decode cX0_expandEach 1 = .ok (.getfield 9, 3) := by decide +kernel
theorem dX0_expandEach_4 : decode cX0_expandEach 4 = .ok (.iload_n 1, 1) := by decide +kernel
theorem dX0_expandEach_5 : decode cX0_expandEach 5 = .ok (.iconst 1, 1) := by decide +kernel
theorem dX0_expandEach_6 : decode cX0_expandEach 6 = .ok (.iadd, 1) := by decide +kernel
theorem dX0_expandEach_7 : decode cX0_expandEach 7 = .ok (.invokevirtual 127, 3) := by decide +kernel
theorem dX0_expandEach_10 : decode cX0_expandEach 10 = .ok (.istore_n 3, 1) := by decide +kernel
theorem dX0_expandEach_11 : decode cX0_expandEach 11 = .ok (.iload_n 1, 1) := by decide +kernel
theorem dX0_expandEach_12 : decode cX0_expandEach 12 = .ok (.iconst 1, 1) := by decide +kernel
theorem dX0_expandEach_13 : decode cX0_expandEach 13 = .ok (.iadd, 1) := by decide +kernel
theorem dX0_expandEach_14 : decode cX0_expandEach 14 = .ok (.istore 4, 2) := by decide +kernel
theorem dX0_expandEach_16 : decode cX0_expandEach 16 = .ok (.aload_n 0, 1) := by decide +kernel
theorem dX0_expandEach_17 : decode cX0_expandEach 17 = .ok (.getfield 23, 3) := by decide +kernel
theorem dX0_expandEach_20 : decode cX0_expandEach 20 = .ok (.bipush 40, 2) := by decide +kernel
theorem dX0_expandEach_22 : decode cX0_expandEach 22 = .ok (.invokevirtual 130, 3) := by decide +kernel
theorem dX0_expandEach_25 : decode cX0_expandEach 25 = .ok (.iconst 0, 1) := by decide +kernel
theorem dX0_expandEach_26 : decode cX0_expandEach 26 = .ok (.istore 5, 2) := by decide +kernel
theorem dX0_expandEach_28 : decode cX0_expandEach 28 = .ok (.iload 5, 2) := by decide +kernel
theorem dX0_expandEach_30 : decode cX0_expandEach 30 = .ok (.iload_n 3, 1) := by decide +kernel
theorem dX0_expandEach_31 : decode cX0_expandEach 31 = .ok (.if_icmp .ge 53, 3) := by decide +kernel
theorem dX0_expandEach_34 : decode cX0_expandEach 34 = .ok (.aload_n 0, 1) := by decide +kernel
theorem dX0_expandEach_35 : decode cX0_expandEach 35 = .ok (.getfield 23, 3) := by decide +kernel
theorem dX0_expandEach_38 : decode cX0_expandEach 38 = .ok (.getfield 54, 3) := by decide +kernel
theorem dX0_expandEach_41 : decode cX0_expandEach 41 = .ok (.ifCond .ne 43, 3) := by decide +kernel
theorem dX0_expandEach_44 : decode cX0_expandEach 44 = .ok (.iload 5, 2) := by decide +kernel
theorem dX0_expandEach_46 : decode cX0_expandEach 46 = .ok (.ifCond .le 12, 3) := by decide +kernel
theorem dX0_expandEach_49 : decode cX0_expandEach 49 = .ok (.aload_n 0, 1) := by decide +kernel
theorem dX0_expandEach_50 : decode cX0_expandEach 50 = .ok (.getfield 23, 3) := by decide +kernel
theorem dX0_expandEach_53 : decode cX0_expandEach 53 = .ok (.bipush 32, 2) := by decide +kernel
theorem dX0_expandEach_55 : decode cX0_expandEach 55 = .ok (.invokevirtual 130, 3) := by decide +kernel
theorem dX0_expandEach_58 : decode cX0_expandEach 58 = .ok (.aload_n 0, 1) := by decide +kernel
theorem dX0_expandEach_59 : decode cX0_expandEach 59 = .ok (.iload 4, 2) := by decide +kernel
theorem dX0_expandEach_61 : decode cX0_expandEach 61 = .ok (.iload_n 2, 1) := by decide +kernel
theorem dX0_expandEach_62 : decode cX0_expandEach 62 = .ok (.iconst 1, 1) := by decide +kernel
theorem dX0_expandEach_63 : decode cX0_expandEach 63 = .ok (.iadd, 1) := by decide +kernel
theorem dX0_expandEach_64 : decode cX0_expandEach 64 = .ok (.invokevirtual 133, 3) := by decide +kernel
theorem dX0_expandEach_67 : decode cX0_expandEach 67 = .ok (.aload_n 0, 1) := by decide +kernel
theorem dX0_expandEach_68 : decode cX0_expandEach 68 = .ok (.getfield 9, 3) := by decide +kernel
theorem dX0_expandEach_71 : decode cX0_expandEach 71 = .ok (.iload 4, 2) := by decide +kernel
theorem dX0_expandEach_73 : decode cX0_expandEach 73 = .ok (.invokevirtual 136, 3) := by decide +kernel
theorem dX0_expandEach_76 : decode cX0_expandEach 76 = .ok (.istore 4, 2) := by decide +kernel
theorem dX0_expandEach_78 : decode cX0_expandEach 78 = .ok (.iinc 5 1, 3) := by decide +kernel
theorem dX0_expandEach_81 : decode cX0_expandEach 81 = .ok (.goto (-53), 3) := by decide +kernel
theorem dX0_expandEach_84 : decode cX0_expandEach 84 = .ok (.aload_n 0, 1) := by decide +kernel
theorem dX0_expandEach_85 : decode cX0_expandEach 85 = .ok (.getfield 23, 3) := by decide +kernel
theorem dX0_expandEach_88 : decode cX0_expandEach 88 = .ok (.bipush 41, 2) := by decide +kernel
theorem dX0_expandEach_90 : decode cX0_expandEach 90 = .ok (.invokevirtual 130, 3) := by decide +kernel
theorem dX0_expandEach_93 : decode cX0_expandEach 93 = .ok (.return_, 1) := by decide +kernel
set_option maxRecDepth 20000 in
theorem ggX0_expandByRules_X2_fail : GoodIn wsX0_expandByRules wsX2_fail := goodIn_r _ [9, 10, 336, 337, 338] (by decide +kernel) (by decide +kernel)
set_option maxRecDepth 20000 in
theorem gX0_expandByRules_X2_fail : GoodIn wsX0_expandByRules (wsV RX0 83 RX2 yX2_fail wsX2_fail) := goodIn_app (goodIn_of _ (by decide +kernel)) ggX0_expandByRules_X2_fail
set_option maxRecDepth 20000 in
theorem ggX0_expandByRules_X0_newScope : GoodIn wsX0_expandByRules wsX0_newScope := goodIn_r _ [15, 16, 2, 5, 6, 7, 8, 9, 10, 327, 328, 329, 330, 331, 332, 333, 334, 335, 336, 337, 338] (by decide +kernel) (by decide +kernel)
set_option maxRecDepth 20000 in
theorem gX0_expandByRules_X0_newScope : GoodIn wsX0_expandByRules (wsV RX0 145 RX0 yX0_newScope wsX0_newScope) := goodIn_app (goodIn_of _ (by decide +kernel)) ggX0_expandByRules_X0_newScope
set_option maxRecDepth 20000 in
theorem ggX0_expandByRules_X5_turnScope : GoodIn wsX0_expandByRules wsX5_turnScope := goodIn_r _ [21, 22, 23, 24, 25, 26, 27, 20, 28, 29, 30, 31, 32, 339, 340, 341, 342, 343, 344] (by decide +kernel) (by decide +kernel)
set_option maxRecDepth 20000 in
theorem gX0_expandByRules_X5_turnScope : GoodIn wsX0_expandByRules (wsV RX0 149 RX5 yX5_turnScope wsX5_turnScope) := goodIn_app (goodIn_of _ (by decide +kernel)) ggX0_expandByRules_X5_turnScope
set_option maxRecDepth 100000 in
theorem gpX0_expandByRules_X1_firstRule_0 : GoodIn wsX0_expandByRules wsX1_firstRule_r1 := goodIn_r _ [38, 39, 40, 41, 20, 42, 43, 44, 45, 46, 22, 23, 47, 48, 49, 50, 51, 52, 53, 54, 55, 56, 57, 36] (by decide +kernel) (by decide +kernel)
set_option maxRecDepth 100000 in
theorem gpX0_expandByRules_X1_firstRule_1 : GoodIn wsX0_expandByRules wsX1_firstRule_r2 := goodIn_r _ [58, 59, 60, 61, 62, 63, 64, 65, 66, 67, 68, 69, 70, 71, 72, 73, 26, 27, 28, 29, 74, 75, 76, 77] (by decide +kernel) (by decide +kernel)
set_option maxRecDepth 100000 in
theorem gpX0_expandByRules_X1_firstRule_2 : GoodIn wsX0_expandByRules wsX1_firstRule_r3 := goodIn_r _ [78, 79, 80, 81, 82, 83, 84, 85, 86, 87, 88, 89, 90, 91, 92, 93, 94, 95, 96, 97, 30, 31, 32] (by decide +kernel) (by decide +kernel)
set_option maxRecDepth 100000 in
theorem gpX0_expandByRules_X1_firstRule_3 : GoodIn wsX0_expandByRules wsX10 := goodIn_r _ [345, 346, 347, 348, 349, 350] (by decide +kernel) (by decide +kernel)
set_option maxRecDepth 100000 in
theorem gpX0_expandByRules_X1_firstRule_4 : GoodIn wsX0_expandByRules wsX50 := goodIn_r _ [339, 340, 341, 342, 343, 344] (by decide +kernel) (by decide +kernel)
set_option maxRecDepth 100000 in
theorem gpX0_expandByRules_X1_firstRule_5 : GoodIn wsX0_expandByRules wsX40 := goodIn_r _ [351, 352, 353, 354] (by decide +kernel) (by decide +kernel)
set_option maxRecDepth 100000 in
theorem gpX0_expandByRules_X1_firstRule_c : GoodIn wsX0_expandByRules [Cond.code yX1_firstRule cX1_firstRule 6 (some .int)] := goodIn_r _ [37] (by decide +kernel) (by decide +kernel)
theorem ggX0_expandByRules_X1_firstRule : GoodIn wsX0_expandByRules wsX1_firstRule := goodIn_cons2 gpX0_expandByRules_X1_firstRule_c (goodIn_app (goodIn_app (goodIn_app (goodIn_app gpX0_expandByRules_X1_firstRule_0 (goodIn_app gpX0_expandByRules_X1_firstRule_1 gpX0_expandByRules_X1_firstRule_2)) gpX0_expandByRules_X1_firstRule_3) gpX0_expandByRules_X1_firstRule_4) gpX0_expandByRules_X1_firstRule_5)
set_option maxRecDepth 20000 in
theorem gX0_expandByRules_X1_firstRule : GoodIn wsX0_expandByRules (wsV RX0 177 RX1 yX1_firstRule wsX1_firstRule) := goodIn_app (goodIn_of _ (by decide +kernel)) ggX0_expandByRules_X1_firstRule
set_option maxRecDepth 100000 in
theorem gpX0_expandByRules_X1_fill_0 : GoodIn wsX0_expandByRules wsX1_fill_r1 := goodIn_r _ [102, 103, 104, 59, 38, 60, 105, 67, 68, 69, 70, 71, 72, 106, 107, 108, 20, 109, 110, 22, 73, 26, 27, 28] (by decide +kernel) (by decide +kernel)
set_option maxRecDepth 100000 in
theorem gpX0_expandByRules_X1_fill_1 : GoodIn wsX0_expandByRules wsX1_fill_r2 := goodIn_r _ [29, 74, 75, 76, 77, 23, 78, 79, 80, 81, 82, 83, 84, 85, 86, 111, 112, 113, 36, 114, 115, 116, 117, 118] (by decide +kernel) (by decide +kernel)
set_option maxRecDepth 100000 in
theorem gpX0_expandByRules_X1_fill_2 : GoodIn wsX0_expandByRules wsX1_fill_r3 := goodIn_r _ [119, 120, 121, 122, 123, 124, 125, 126, 127, 128, 129, 130, 131, 91, 65, 52, 53, 54, 132, 6, 7, 8, 9, 10] (by decide +kernel) (by decide +kernel)
set_option maxRecDepth 100000 in
theorem gpX0_expandByRules_X1_fill_3 : GoodIn wsX0_expandByRules wsX1_fill_r4 := goodIn_r _ [87, 88, 89, 90, 92, 93, 44, 45, 46, 94, 95, 96, 97, 133, 134, 135, 136, 137, 31, 138, 139, 140, 141, 142] (by decide +kernel) (by decide +kernel)
set_option maxRecDepth 100000 in
theorem gpX0_expandByRules_X1_fill_4 : GoodIn wsX0_expandByRules wsX1_fill_r5 := goodIn_r _ [24, 143, 144, 145, 146, 147, 148, 149, 150] (by decide +kernel) (by decide +kernel)
set_option maxRecDepth 100000 in
theorem gpX0_expandByRules_X1_fill_5 : GoodIn wsX0_expandByRules wsX10 := goodIn_r _ [345, 346, 347, 348, 349, 350] (by decide +kernel) (by decide +kernel)
set_option maxRecDepth 100000 in
theorem gpX0_expandByRules_X1_fill_6 : GoodIn wsX0_expandByRules wsX20 := goodIn_r _ [336, 337, 338] (by decide +kernel) (by decide +kernel)
set_option maxRecDepth 100000 in
theorem gpX0_expandByRules_X1_fill_7 : GoodIn wsX0_expandByRules wsX40 := goodIn_r _ [351, 352, 353, 354] (by decide +kernel) (by decide +kernel)
set_option maxRecDepth 100000 in
theorem gpX0_expandByRules_X1_fill_8 : GoodIn wsX0_expandByRules wsX50 := goodIn_r _ [339, 340, 341, 342, 343, 344] (by decide +kernel) (by decide +kernel)
set_option maxRecDepth 100000 in
theorem gpX0_expandByRules_X1_fill_c : GoodIn wsX0_expandByRules [Cond.code yX1_fill cX1_fill 8 (some .int)] := goodIn_r _ [101] (by decide +kernel) (by decide +kernel)
theorem ggX0_expandByRules_X1_fill : GoodIn wsX0_expandByRules wsX1_fill := goodIn_cons2 gpX0_expandByRules_X1_fill_c (goodIn_app (goodIn_app (goodIn_app (goodIn_app (goodIn_app gpX0_expandByRules_X1_fill_0 (goodIn_app gpX0_expandByRules_X1_fill_1 (goodIn_app gpX0_expandByRules_X1_fill_2 (goodIn_app gpX0_expandByRules_X1_fill_3 gpX0_expandByRules_X1_fill_4)))) gpX0_expandByRules_X1_fill_5) gpX0_expandByRules_X1_fill_6) gpX0_expandByRules_X1_fill_7) gpX0_expandByRules_X1_fill_8)
set_option maxRecDepth 20000 in
theorem gX0_expandByRules_X1_fill : GoodIn wsX0_expandByRules (wsV RX0 180 RX1 yX1_fill wsX1_fill) := goodIn_app (goodIn_of _ (by decide +kernel)) ggX0_expandByRules_X1_fill
set_option maxRecDepth 100000 in
theorem gpX0_expandByRules_X0_expandTree_0 : GoodIn wsX0_expandByRules wsX0_expandTree_r1 := goodIn_r _ [2, 3, 170, 44, 45, 20, 46, 22, 23, 319, 320, 321, 14, 30, 31, 32, 322, 323, 324, 325, 183, 217, 218, 219] (by decide +kernel) (by decide +kernel)
set_option maxRecDepth 100000 in
theorem gpX0_expandByRules_X0_expandTree_1 : GoodIn wsX0_expandByRules wsX0_expandTree_r2 := goodIn_r _ [220, 185, 140, 141, 142, 24, 221, 222, 223, 189, 224, 191, 192, 193, 225, 226, 227, 228, 229, 230, 231, 232, 233, 234] (by decide +kernel) (by decide +kernel)
set_option maxRecDepth 100000 in
theorem gpX0_expandByRules_X0_expandTree_2 : GoodIn wsX0_expandByRules wsX0_expandTree_r3 := goodIn_r _ [235, 5, 6, 7, 8, 9, 10, 236, 237, 238, 239, 194, 201, 202, 203, 204, 205, 157, 158, 159, 160, 161, 266, 267] (by decide +kernel) (by decide +kernel)
set_option maxRecDepth 100000 in
theorem gpX0_expandByRules_X0_expandTree_3 : GoodIn wsX0_expandByRules wsX0_expandTree_r4 := goodIn_r _ [268, 269, 195, 206, 207, 208, 209, 210, 211, 212, 213, 261, 262, 326, 0, 1, 4, 11, 12, 13, 15, 16, 17, 18] (by decide +kernel) (by decide +kernel)
set_option maxRecDepth 100000 in
theorem gpX0_expandByRules_X0_expandTree_4 : GoodIn wsX0_expandByRules wsX0_expandTree_r5 := goodIn_r _ [19, 21, 25, 26, 27, 28, 29, 33, 34, 35, 36, 37, 38, 39, 40, 41, 42, 43, 47, 48, 49, 50, 51, 52] (by decide +kernel) (by decide +kernel)
set_option maxRecDepth 100000 in
theorem gpX0_expandByRules_X0_expandTree_5 : GoodIn wsX0_expandByRules wsX0_expandTree_r6 := goodIn_r _ [53, 54, 55, 56, 57, 58, 59, 60, 61, 62, 63, 64, 65, 66, 67, 68, 69, 70, 71, 72, 73, 74, 75, 76] (by decide +kernel) (by decide +kernel)
set_option maxRecDepth 100000 in
theorem gpX0_expandByRules_X0_expandTree_6 : GoodIn wsX0_expandByRules wsX0_expandTree_r7 := goodIn_r _ [77, 78, 79, 80, 81, 82, 83, 84, 85, 86, 87, 88, 89, 90, 91, 92, 93, 94, 95, 96, 97, 98, 99, 100] (by decide +kernel) (by decide +kernel)
set_option maxRecDepth 100000 in
theorem gpX0_expandByRules_X0_expandTree_7 : GoodIn wsX0_expandByRules wsX0_expandTree_r8 := goodIn_r _ [101, 102, 103, 104, 105, 106, 107, 108, 109, 110, 111, 112, 113, 114, 115, 116, 117, 118, 119, 120, 121, 122, 123, 124] (by decide +kernel) (by decide +kernel)
set_option maxRecDepth 100000 in
theorem gpX0_expandByRules_X0_expandTree_8 : GoodIn wsX0_expandByRules wsX0_expandTree_r9 := goodIn_r _ [125, 126, 127, 128, 129, 130, 131, 132, 133, 134, 135, 136, 137, 138, 139, 143, 144, 145, 146, 147, 148, 149, 150, 151] (by decide +kernel) (by decide +kernel)
set_option maxRecDepth 100000 in
theorem gpX0_expandByRules_X0_expandTree_9 : GoodIn wsX0_expandByRules wsX0_expandTree_r10 := goodIn_r _ [152, 153, 154, 155, 156, 162, 163, 164, 165, 166, 167, 168, 169, 171, 172, 173, 174, 175, 176, 177, 178, 179, 180, 181] (by decide +kernel) (by decide +kernel)
set_option maxRecDepth 100000 in
theorem gpX0_expandByRules_X0_expandTree_10 : GoodIn wsX0_expandByRules wsX0_expandTree_r11 := goodIn_r _ [182, 184, 186, 187, 188, 190, 196, 197, 198, 199, 200, 214, 215, 216, 240, 241, 242, 243, 244, 245, 246, 247, 248, 249] (by decide +kernel) (by decide +kernel)
set_option maxRecDepth 100000 in
theorem gpX0_expandByRules_X0_expandTree_11 : GoodIn wsX0_expandByRules wsX0_expandTree_r12 := goodIn_r _ [250, 251, 252, 253, 254, 255, 256, 257, 258, 259, 260, 263, 264, 265, 270, 271, 272, 273, 274, 275, 276, 277, 278, 279] (by decide +kernel) (by decide +kernel)
set_option maxRecDepth 100000 in
theorem gpX0_expandByRules_X0_expandTree_12 : GoodIn wsX0_expandByRules wsX0_expandTree_r13 := goodIn_r _ [280, 281, 282, 283, 284, 285, 286, 287, 288, 289, 290, 291, 292, 293, 294, 295, 296, 297, 298, 299, 300, 301, 302, 303] (by decide +kernel) (by decide +kernel)
set_option maxRecDepth 100000 in
theorem gpX0_expandByRules_X0_expandTree_13 : GoodIn wsX0_expandByRules wsX0_expandTree_r14 := goodIn_r _ [304, 305, 306, 307, 308, 309, 310, 311, 312, 313, 314, 315, 316, 317] (by decide +kernel) (by decide +kernel)
set_option maxRecDepth 100000 in
theorem gpX0_expandByRules_X0_expandTree_14 : GoodIn wsX0_expandByRules wsX00 := goodIn_r _ [327, 328, 329, 330, 331, 332, 333, 334, 335] (by decide +kernel) (by decide +kernel)
set_option maxRecDepth 100000 in
theorem gpX0_expandByRules_X0_expandTree_15 : GoodIn wsX0_expandByRules wsX20 := goodIn_r _ [336, 337, 338] (by decide +kernel) (by decide +kernel)
set_option maxRecDepth 100000 in
theorem gpX0_expandByRules_X0_expandTree_16 : GoodIn wsX0_expandByRules wsX50 := goodIn_r _ [339, 340, 341, 342, 343, 344] (by decide +kernel) (by decide +kernel)
set_option maxRecDepth 100000 in
theorem gpX0_expandByRules_X0_expandTree_17 : GoodIn wsX0_expandByRules wsX10 := goodIn_r _ [345, 346, 347, 348, 349, 350] (by decide +kernel) (by decide +kernel)
set_option maxRecDepth 100000 in
theorem gpX0_expandByRules_X0_expandTree_18 : GoodIn wsX0_expandByRules wsX40 := goodIn_r _ [351, 352, 353, 354] (by decide +kernel) (by decide +kernel)
set_option maxRecDepth 100000 in
theorem gpX0_expandByRules_X0_expandTree_19 : GoodIn wsX0_expandByRules wsX70 := goodIn_r _ [355, 356, 357, 358, 359, 360] (by decide +kernel) (by decide +kernel)
set_option maxRecDepth 100000 in
theorem gpX0_expandByRules_X0_expandTree_20 : GoodIn wsX0_expandByRules wsX60 := goodIn_r _ [361] (by decide +kernel) (by decide +kernel)
set_option maxRecDepth 100000 in
theorem gpX0_expandByRules_X0_expandTree_c : GoodIn wsX0_expandByRules [Cond.code yX0_expandTree cX0_expandTree 4 none] := goodIn_r _ [318] (by decide +kernel) (by decide +kernel)
theorem ggX0_expandByRules_X0_expandTree : GoodIn wsX0_expandByRules wsX0_expandTree := goodIn_cons2 gpX0_expandByRules_X0_expandTree_c (goodIn_app (goodIn_app (goodIn_app (goodIn_app (goodIn_app (goodIn_app (goodIn_app (goodIn_app gpX0_expandByRules_X0_expandTree_0 (goodIn_app gpX0_expandByRules_X0_expandTree_1 (goodIn_app gpX0_expandByRules_X0_expandTree_2 (goodIn_app gpX0_expandByRules_X0_expandTree_3 (goodIn_app gpX0_expandByRules_X0_expandTree_4 (goodIn_app gpX0_expandByRules_X0_expandTree_5 (goodIn_app gpX0_expandByRules_X0_expandTree_6 (goodIn_app gpX0_expandByRules_X0_expandTree_7 (goodIn_app gpX0_expandByRules_X0_expandTree_8 (goodIn_app gpX0_expandByRules_X0_expandTree_9 (goodIn_app gpX0_expandByRules_X0_expandTree_10 (goodIn_app gpX0_expandByRules_X0_expandTree_11 (goodIn_app gpX0_expandByRules_X0_expandTree_12 gpX0_expandByRules_X0_expandTree_13))))))))))))) gpX0_expandByRules_X0_expandTree_14) gpX0_expandByRules_X0_expandTree_15) gpX0_expandByRules_X0_expandTree_16) gpX0_expandByRules_X0_expandTree_17) gpX0_expandByRules_X0_expandTree_18) gpX0_expandByRules_X0_expandTree_19) gpX0_expandByRules_X0_expandTree_20)
set_option maxRecDepth 20000 in
theorem gX0_expandByRules_X0_expandTree : GoodIn wsX0_expandByRules (wsV RX0 133 RX0 yX0_expandTree wsX0_expandTree) := goodIn_app (goodIn_of _ (by decide +kernel)) ggX0_expandByRules_X0_expandTree
theorem dX0_expandByRules_0 : decode cX0_expandByRules 0 = .ok (.aload_n 0, 1) := by decide +kernel
theorem dX0_expandByRules_1 : decode cX0_expandByRules 1 = .ok (.getfield 46, 3) := by decide +kernel
theorem dX0_expandByRules_4 : decode cX0_expandByRules 4 = .ok (.ifCond .gt 12, 3) := by decide +kernel
theorem dX0_expandByRules_7 : decode cX0_expandByRules 7 = .ok (.aload_n 0, 1) := by decide +kernel
theorem dX0_expandByRules_8 : decode cX0_expandByRules 8 = .ok (.getfield 23, 3) := by decide +kernel
theorem dX0_expandByRules_11 : decode cX0_expandByRules 11 = .ok (.iconst 5, 1) := by decide +kernel
theorem dX0_expandByRules_12 : decode cX0_expandByRules 12 = .ok (.invokevirtual 83, 3) := by decide +kernel
theorem dX0_expandByRules_15 : decode cX0_expandByRules 15 = .ok (.return_, 1) := by decide +kernel
theorem dX0_expandByRules_16 : decode cX0_expandByRules 16 = .ok (.aload_n 0, 1) := by decide +kernel
theorem dX0_expandByRules_17 : decode cX0_expandByRules 17 = .ok (.dup, 1) := by decide +kernel
theorem dX0_expandByRules_18 : decode cX0_expandByRules 18 = .ok (.getfield 46, 3) := by decide +kernel
theorem dX0_expandByRules_21 : decode cX0_expandByRules 21 = .ok (.iconst 1, 1) := by decide +kernel
theorem dX0_expandByRules_22 : decode cX0_expandByRules 22 = .ok (.isub, 1) := by decide +kernel
theorem dX0_expandByRules_23 : decode cX0_expandByRules 23 = .ok (.putfield 46, 3) := by decide +kernel
theorem dX0_expandByRules_26 : decode cX0_expandByRules 26 = .ok (.aload_n 0, 1) := by decide +kernel
theorem dX0_expandByRules_27 : decode cX0_expandByRules 27 = .ok (.invokevirtual 145, 3) := by decide +kernel
theorem dX0_expandByRules_30 : decode cX0_expandByRules 30 = .ok (.istore 4, 2) := by decide +kernel
theorem dX0_expandByRules_32 : decode cX0_expandByRules 32 = .ok (.iload 4, 2) := by decide +kernel
theorem dX0_expandByRules_34 : decode cX0_expandByRules 34 = .ok (.ifCond .ge 4, 3) := by decide +kernel
theorem dX0_expandByRules_37 : decode cX0_expandByRules 37 = .ok (.return_, 1) := by decide +kernel
theorem dX0_expandByRules_38 : decode cX0_expandByRules 38 = .ok (.aload_n 0, 1) := by decide +kernel
theorem dX0_expandByRules_39 : decode cX0_expandByRules 39 = .ok (.getfield 9, 3) := by decide +kernel
theorem dX0_expandByRules_42 : decode cX0_expandByRules 42 = .ok (.iload_n 1, 1) := by decide +kernel
theorem dX0_expandByRules_43 : decode cX0_expandByRules 43 = .ok (.iload 4, 2) := by decide +kernel
theorem dX0_expandByRules_45 : decode cX0_expandByRules 45 = .ok (.invokevirtual 149, 3) := by decide +kernel
theorem dX0_expandByRules_48 : decode cX0_expandByRules 48 = .ok (.aload_n 0, 1) := by decide +kernel
theorem dX0_expandByRules_49 : decode cX0_expandByRules 49 = .ok (.getfield 32, 3) := by decide +kernel
theorem dX0_expandByRules_52 : decode cX0_expandByRules 52 = .ok (.iload_n 2, 1) := by decide +kernel
theorem dX0_expandByRules_53 : decode cX0_expandByRules 53 = .ok (.iload_n 1, 1) := by decide +kernel
theorem dX0_expandByRules_54 : decode cX0_expandByRules 54 = .ok (.invokevirtual 177, 3) := by decide +kernel
theorem dX0_expandByRules_57 : decode cX0_expandByRules 57 = .ok (.istore 5, 2) := by decide +kernel
theorem dX0_expandByRules_59 : decode cX0_expandByRules 59 = .ok (.iload 5, 2) := by decide +kernel
theorem dX0_expandByRules_61 : decode cX0_expandByRules 61 = .ok (.ifCond .ge 12, 3) := by decide +kernel
theorem dX0_expandByRules_64 : decode cX0_expandByRules 64 = .ok (.aload_n 0, 1) := by decide +kernel
theorem dX0_expandByRules_65 : decode cX0_expandByRules 65 = .ok (.getfield 23, 3) := by decide +kernel
theorem dX0_expandByRules_68 : decode cX0_expandByRules 68 = .ok (.iconst 4, 1) := by decide +kernel
theorem dX0_expandByRules_69 : decode cX0_expandByRules 69 = .ok (.invokevirtual 83, 3) := by decide +kernel
theorem dX0_expandByRules_72 : decode cX0_expandByRules 72 = .ok (.return_, 1) := by decide +kernel
theorem dX0_expandByRules_73 : decode cX0_expandByRules 73 = .ok (.aload_n 0, 1) := by decide +kernel
theorem dX0_expandByRules_74 : decode cX0_expandByRules 74 = .ok (.getfield 32, 3) := by decide +kernel
theorem dX0_expandByRules_77 : decode cX0_expandByRules 77 = .ok (.iload 5, 2) := by decide +kernel
theorem dX0_expandByRules_79 : decode cX0_expandByRules 79 = .ok (.iload_n 1, 1) := by decide +kernel
theorem dX0_expandByRules_80 : decode cX0_expandByRules 80 = .ok (.invokevirtual 180, 3) := by decide +kernel
theorem dX0_expandByRules_83 : decode cX0_expandByRules 83 = .ok (.istore 6, 2) := by decide +kernel
theorem dX0_expandByRules_85 : decode cX0_expandByRules 85 = .ok (.aload_n 0, 1) := by decide +kernel
theorem dX0_expandByRules_86 : decode cX0_expandByRules 86 = .ok (.getfield 23, 3) := by decide +kernel
theorem dX0_expandByRules_89 : decode cX0_expandByRules 89 = .ok (.getfield 54, 3) := by decide +kernel
theorem dX0_expandByRules_92 : decode cX0_expandByRules 92 = .ok (.ifCond .eq 4, 3) := by decide +kernel
theorem dX0_expandByRules_95 : decode cX0_expandByRules 95 = .ok (.return_, 1) := by decide +kernel
theorem dX0_expandByRules_96 : decode cX0_expandByRules 96 = .ok (.aload_n 0, 1) := by decide +kernel
theorem dX0_expandByRules_97 : decode cX0_expandByRules 97 = .ok (.getfield 9, 3) := by decide +kernel
theorem dX0_expandByRules_100 : decode cX0_expandByRules 100 = .ok (.iload 6, 2) := by decide +kernel
theorem dX0_expandByRules_102 : decode cX0_expandByRules 102 = .ok (.iload 4, 2) := by decide +kernel
theorem dX0_expandByRules_104 : decode cX0_expandByRules 104 = .ok (.invokevirtual 149, 3) := by decide +kernel
theorem dX0_expandByRules_107 : decode cX0_expandByRules 107 = .ok (.aload_n 0, 1) := by decide +kernel
theorem dX0_expandByRules_108 : decode cX0_expandByRules 108 = .ok (.iload 6, 2) := by decide +kernel
theorem dX0_expandByRules_110 : decode cX0_expandByRules 110 = .ok (.iload_n 3, 1) := by decide +kernel
theorem dX0_expandByRules_111 : decode cX0_expandByRules 111 = .ok (.invokevirtual 133, 3) := by decide +kernel
theorem dX0_expandByRules_114 : decode cX0_expandByRules 114 = .ok (.return_, 1) := by decide +kernel
set_option maxRecDepth 20000 in
theorem ggX1_fill_X4_clear : GoodIn wsX1_fill wsX4_clear := goodIn_r _ [12, 13, 115, 116, 117, 118] (by decide +kernel) (by decide +kernel)
set_option maxRecDepth 20000 in
theorem gX1_fill_X4_clear : GoodIn wsX1_fill (wsV RX1 42 RX4 yX4_clear wsX4_clear) := goodIn_app (goodIn_of _ (by decide +kernel)) ggX1_fill_X4_clear
set_option maxRecDepth 20000 in
theorem ggX1_fill_X5_startTree : GoodIn wsX1_fill wsX5_startTree := goodIn_r _ [18, 19, 20, 119, 120, 121, 122, 123, 124] (by decide +kernel) (by decide +kernel)
set_option maxRecDepth 20000 in
theorem gX1_fill_X5_startTree : GoodIn wsX1_fill (wsV RX1 82 RX5 yX5_startTree wsX5_startTree) := goodIn_app (goodIn_of _ (by decide +kernel)) ggX1_fill_X5_startTree
set_option maxRecDepth 20000 in
theorem ggX1_fill_X5_after : GoodIn wsX1_fill wsX5_after := goodIn_r _ [24, 20, 25, 119, 120, 121, 122, 123, 124] (by decide +kernel) (by decide +kernel)
set_option maxRecDepth 20000 in
theorem gX1_fill_X5_after : GoodIn wsX1_fill (wsV RX1 36 RX5 yX5_after wsX5_after) := goodIn_app (goodIn_of _ (by decide +kernel)) ggX1_fill_X5_after
set_option maxRecDepth 20000 in
theorem ggX1_fill_X5_isHeld : GoodIn wsX1_fill wsX5_isHeld := goodIn_r _ [29, 20, 30, 25, 119, 120, 121, 122, 123, 124] (by decide +kernel) (by decide +kernel)
set_option maxRecDepth 20000 in
theorem gX1_fill_X5_isHeld : GoodIn wsX1_fill (wsV RX1 46 RX5 yX5_isHeld wsX5_isHeld) := goodIn_app (goodIn_of _ (by decide +kernel)) ggX1_fill_X5_isHeld
set_option maxRecDepth 20000 in
theorem ggX1_fill_X4_isIn : GoodIn wsX1_fill wsX4_isIn := goodIn_r _ [34, 35, 13, 36, 37, 38, 11, 39, 115, 116, 117, 118] (by decide +kernel) (by decide +kernel)
set_option maxRecDepth 20000 in
theorem gX1_fill_X4_isIn : GoodIn wsX1_fill (wsV RX1 50 RX4 yX4_isIn wsX4_isIn) := goodIn_app (goodIn_of _ (by decide +kernel)) ggX1_fill_X4_isIn
set_option maxRecDepth 100000 in
theorem gpX1_fill_X1_roundsFor_0 : GoodIn wsX1_fill wsX1_roundsFor_r1 := goodIn_r _ [5, 4, 7, 45, 46, 47, 48, 21, 22, 23, 17, 24, 20, 25, 49, 50, 51, 52, 53, 54, 55, 56, 43, 57] (by decide +kernel) (by decide +kernel)
set_option maxRecDepth 100000 in
theorem gpX1_fill_X1_roundsFor_1 : GoodIn wsX1_fill wsX1_roundsFor_r2 := goodIn_r _ [1, 2, 6, 26, 27, 28, 29, 30, 58, 59, 60, 11, 61, 13, 62, 63, 64, 65, 66, 67, 68, 69, 70, 71] (by decide +kernel) (by decide +kernel)
set_option maxRecDepth 100000 in
theorem gpX1_fill_X1_roundsFor_2 : GoodIn wsX1_fill wsX1_roundsFor_r3 := goodIn_r _ [72] (by decide +kernel) (by decide +kernel)
set_option maxRecDepth 100000 in
theorem gpX1_fill_X1_roundsFor_3 : GoodIn wsX1_fill wsX10 := goodIn_r _ [106, 107, 108, 109, 110, 111] (by decide +kernel) (by decide +kernel)
set_option maxRecDepth 100000 in
theorem gpX1_fill_X1_roundsFor_4 : GoodIn wsX1_fill wsX40 := goodIn_r _ [115, 116, 117, 118] (by decide +kernel) (by decide +kernel)
set_option maxRecDepth 100000 in
theorem gpX1_fill_X1_roundsFor_5 : GoodIn wsX1_fill wsX50 := goodIn_r _ [119, 120, 121, 122, 123, 124] (by decide +kernel) (by decide +kernel)
set_option maxRecDepth 100000 in
theorem gpX1_fill_X1_roundsFor_6 : GoodIn wsX1_fill wsX20 := goodIn_r _ [112, 113, 114] (by decide +kernel) (by decide +kernel)
set_option maxRecDepth 100000 in
theorem gpX1_fill_X1_roundsFor_c : GoodIn wsX1_fill [Cond.code yX1_roundsFor cX1_roundsFor 7 (some .int)] := goodIn_r _ [44] (by decide +kernel) (by decide +kernel)
theorem ggX1_fill_X1_roundsFor : GoodIn wsX1_fill wsX1_roundsFor := goodIn_cons2 gpX1_fill_X1_roundsFor_c (goodIn_app (goodIn_app (goodIn_app (goodIn_app (goodIn_app gpX1_fill_X1_roundsFor_0 (goodIn_app gpX1_fill_X1_roundsFor_1 gpX1_fill_X1_roundsFor_2)) gpX1_fill_X1_roundsFor_3) gpX1_fill_X1_roundsFor_4) gpX1_fill_X1_roundsFor_5) gpX1_fill_X1_roundsFor_6)
set_option maxRecDepth 20000 in
theorem gX1_fill_X1_roundsFor : GoodIn wsX1_fill (wsV RX1 91 RX1 yX1_roundsFor wsX1_roundsFor) := goodIn_app (goodIn_of _ (by decide +kernel)) ggX1_fill_X1_roundsFor
set_option maxRecDepth 20000 in
theorem ggX1_fill_X4_enter : GoodIn wsX1_fill wsX4_enter := goodIn_r _ [76, 13, 35, 62, 77, 115, 116, 117, 118] (by decide +kernel) (by decide +kernel)
set_option maxRecDepth 20000 in
theorem gX1_fill_X4_enter : GoodIn wsX1_fill (wsV RX1 56 RX4 yX4_enter wsX4_enter) := goodIn_app (goodIn_of _ (by decide +kernel)) ggX1_fill_X4_enter
set_option maxRecDepth 20000 in
theorem ggX1_fill_X5_wordAt : GoodIn wsX1_fill wsX5_wordAt := goodIn_r _ [81, 20, 30, 119, 120, 121, 122, 123, 124] (by decide +kernel) (by decide +kernel)
set_option maxRecDepth 20000 in
theorem gX1_fill_X5_wordAt : GoodIn wsX1_fill (wsV RX1 60 RX5 yX5_wordAt wsX5_wordAt) := goodIn_app (goodIn_of _ (by decide +kernel)) ggX1_fill_X5_wordAt
set_option maxRecDepth 20000 in
theorem ggX1_fill_X4_leave : GoodIn wsX1_fill wsX4_leave := goodIn_r _ [85, 62, 13, 77, 35, 36, 37, 38, 11, 39, 115, 116, 117, 118] (by decide +kernel) (by decide +kernel)
set_option maxRecDepth 20000 in
theorem gX1_fill_X4_leave : GoodIn wsX1_fill (wsV RX1 63 RX4 yX4_leave wsX4_leave) := goodIn_app (goodIn_of _ (by decide +kernel)) ggX1_fill_X4_leave
set_option maxRecDepth 100000 in
theorem gpX1_fill_X1_fillToken_0 : GoodIn wsX1_fill wsX1_fillToken_r1 := goodIn_r _ [5, 3, 7, 49, 50, 51, 17, 52, 20, 53, 54, 55, 56, 43, 57, 1, 2, 6, 4, 21, 22, 23, 24, 25] (by decide +kernel) (by decide +kernel)
set_option maxRecDepth 100000 in
theorem gpX1_fill_X1_fillToken_1 : GoodIn wsX1_fill wsX1_fillToken_r2 := goodIn_r _ [26, 27, 28, 29, 30, 58, 59, 60, 11, 61, 13, 62, 78, 79, 80, 81, 90, 91, 92, 67, 68, 69, 70, 71] (by decide +kernel) (by decide +kernel)
set_option maxRecDepth 100000 in
theorem gpX1_fill_X1_fillToken_2 : GoodIn wsX1_fill wsX1_fillToken_r3 := goodIn_r _ [72, 93, 94, 95, 96, 97, 98, 99, 100, 101, 19, 102, 103, 104, 105] (by decide +kernel) (by decide +kernel)
set_option maxRecDepth 100000 in
theorem gpX1_fill_X1_fillToken_3 : GoodIn wsX1_fill wsX10 := goodIn_r _ [106, 107, 108, 109, 110, 111] (by decide +kernel) (by decide +kernel)
set_option maxRecDepth 100000 in
theorem gpX1_fill_X1_fillToken_4 : GoodIn wsX1_fill wsX50 := goodIn_r _ [119, 120, 121, 122, 123, 124] (by decide +kernel) (by decide +kernel)
set_option maxRecDepth 100000 in
theorem gpX1_fill_X1_fillToken_5 : GoodIn wsX1_fill wsX40 := goodIn_r _ [115, 116, 117, 118] (by decide +kernel) (by decide +kernel)
set_option maxRecDepth 100000 in
theorem gpX1_fill_X1_fillToken_6 : GoodIn wsX1_fill wsX20 := goodIn_r _ [112, 113, 114] (by decide +kernel) (by decide +kernel)
set_option maxRecDepth 100000 in
theorem gpX1_fill_X1_fillToken_c : GoodIn wsX1_fill [Cond.code yX1_fillToken cX1_fillToken 6 none] := goodIn_r _ [89] (by decide +kernel) (by decide +kernel)
theorem ggX1_fill_X1_fillToken : GoodIn wsX1_fill wsX1_fillToken := goodIn_cons2 gpX1_fill_X1_fillToken_c (goodIn_app (goodIn_app (goodIn_app (goodIn_app (goodIn_app gpX1_fill_X1_fillToken_0 (goodIn_app gpX1_fill_X1_fillToken_1 gpX1_fill_X1_fillToken_2)) gpX1_fill_X1_fillToken_3) gpX1_fill_X1_fillToken_4) gpX1_fill_X1_fillToken_5) gpX1_fill_X1_fillToken_6)
set_option maxRecDepth 20000 in
theorem gX1_fill_X1_fillToken : GoodIn wsX1_fill (wsV RX1 94 RX1 yX1_fillToken wsX1_fillToken) := goodIn_app (goodIn_of _ (by decide +kernel)) ggX1_fill_X1_fillToken
theorem dX1_fill_0 : decode cX1_fill 0 = .ok (.aload_n 0, 1) := by decide +kernel
theorem dX1_fill_1 : decode cX1_fill 1 = .ok (.iload_n 1, 1) := by decide +kernel
theorem dX1_fill_2 : decode cX1_fill 2 = .ok (.iconst 1, 1) := by decide +kernel
theorem dX1_fill_3 : decode cX1_fill 3 = .ok (.iadd, 1) := by decide +kernel
theorem dX1_fill_4 : decode cX1_fill 4 = .ok (.putfield 72, 3) := by decide +kernel
theorem dX1_fill_7 : decode cX1_fill 7 = .ok (.aload_n 0, 1) := by decide +kernel
theorem dX1_fill_8 : decode cX1_fill 8 = .ok (.iload_n 2, 1) := by decide +kernel
theorem dX1_fill_9 : decode cX1_fill 9 = .ok (.putfield 76, 3) := by decide +kernel
theorem dX1_fill_12 : decode cX1_fill 12 = .ok (.aload_n 0, 1) := by decide +kernel
theorem dX1_fill_13 : decode cX1_fill 13 = .ok (.iconst 0, 1) := by decide +kernel
theorem dX1_fill_14 : decode cX1_fill 14 = .ok (.putfield 79, 3) := by decide +kernel
theorem dX1_fill_17 : decode cX1_fill 17 = .ok (.aload_n 0, 1) := by decide +kernel
theorem dX1_fill_18 : decode cX1_fill 18 = .ok (.getfield 12, 3) := by decide +kernel
theorem dX1_fill_21 : decode cX1_fill 21 = .ok (.invokevirtual 42, 3) := by decide +kernel
theorem dX1_fill_24 : decode cX1_fill 24 = .ok (.aload_n 0, 1) := by decide +kernel
theorem dX1_fill_25 : decode cX1_fill 25 = .ok (.getfield 18, 3) := by decide +kernel
theorem dX1_fill_28 : decode cX1_fill 28 = .ok (.invokevirtual 82, 3) := by decide +kernel
theorem dX1_fill_31 : decode cX1_fill 31 = .ok (.istore_n 3, 1) := by decide +kernel
theorem dX1_fill_32 : decode cX1_fill 32 = .ok (.aload_n 0, 1) := by decide +kernel
theorem dX1_fill_33 : decode cX1_fill 33 = .ok (.getfield 18, 3) := by decide +kernel
theorem dX1_fill_36 : decode cX1_fill 36 = .ok (.aload_n 0, 1) := by decide +kernel
theorem dX1_fill_37 : decode cX1_fill 37 = .ok (.getfield 72, 3) := by decide +kernel
theorem dX1_fill_40 : decode cX1_fill 40 = .ok (.invokevirtual 36, 3) := by decide +kernel
theorem dX1_fill_43 : decode cX1_fill 43 = .ok (.istore 4, 2) := by decide +kernel
theorem dX1_fill_45 : decode cX1_fill 45 = .ok (.aload_n 0, 1) := by decide +kernel
theorem dX1_fill_46 : decode cX1_fill 46 = .ok (.getfield 18, 3) := by decide +kernel
theorem dX1_fill_49 : decode cX1_fill 49 = .ok (.iload 4, 2) := by decide +kernel
theorem dX1_fill_51 : decode cX1_fill 51 = .ok (.invokevirtual 36, 3) := by decide +kernel
theorem dX1_fill_54 : decode cX1_fill 54 = .ok (.istore 5, 2) := by decide +kernel
theorem dX1_fill_56 : decode cX1_fill 56 = .ok (.iconst 0, 1) := by decide +kernel
theorem dX1_fill_57 : decode cX1_fill 57 = .ok (.istore 6, 2) := by decide +kernel
theorem dX1_fill_59 : decode cX1_fill 59 = .ok (.iload 6, 2) := by decide +kernel
theorem dX1_fill_61 : decode cX1_fill 61 = .ok (.ldc 45, 2) := by decide +kernel
theorem dX1_fill_63 : decode cX1_fill 63 = .ok (.if_icmp .ge 127, 3) := by decide +kernel
theorem dX1_fill_66 : decode cX1_fill 66 = .ok (.iload 4, 2) := by decide +kernel
theorem dX1_fill_68 : decode cX1_fill 68 = .ok (.iload 5, 2) := by decide +kernel
theorem dX1_fill_70 : decode cX1_fill 70 = .ok (.if_icmp .ge 120, 3) := by decide +kernel
theorem dX1_fill_73 : decode cX1_fill 73 = .ok (.aload_n 0, 1) := by decide +kernel
theorem dX1_fill_74 : decode cX1_fill 74 = .ok (.getfield 22, 3) := by decide +kernel
theorem dX1_fill_77 : decode cX1_fill 77 = .ok (.getfield 86, 3) := by decide +kernel
theorem dX1_fill_80 : decode cX1_fill 80 = .ok (.ifCond .ne 110, 3) := by decide +kernel
theorem dX1_fill_83 : decode cX1_fill 83 = .ok (.aload_n 0, 1) := by decide +kernel
theorem dX1_fill_84 : decode cX1_fill 84 = .ok (.getfield 18, 3) := by decide +kernel
theorem dX1_fill_87 : decode cX1_fill 87 = .ok (.iload 4, 2) := by decide +kernel
theorem dX1_fill_89 : decode cX1_fill 89 = .ok (.invokevirtual 46, 3) := by decide +kernel
theorem dX1_fill_92 : decode cX1_fill 92 = .ok (.ifCond .eq 55, 3) := by decide +kernel
theorem dX1_fill_95 : decode cX1_fill 95 = .ok (.aload_n 0, 1) := by decide +kernel
theorem dX1_fill_96 : decode cX1_fill 96 = .ok (.getfield 12, 3) := by decide +kernel
theorem dX1_fill_99 : decode cX1_fill 99 = .ok (.iload 4, 2) := by decide +kernel
theorem dX1_fill_101 : decode cX1_fill 101 = .ok (.invokevirtual 50, 3) := by decide +kernel
theorem dX1_fill_104 : decode cX1_fill 104 = .ok (.ifCond .ne 43, 3) := by decide +kernel
theorem dX1_fill_107 : decode cX1_fill 107 = .ok (.aload_n 0, 1) := by decide +kernel
theorem dX1_fill_108 : decode cX1_fill 108 = .ok (.iload 4, 2) := by decide +kernel
theorem dX1_fill_110 : decode cX1_fill 110 = .ok (.invokevirtual 91, 3) := by decide +kernel
theorem dX1_fill_113 : decode cX1_fill 113 = .ok (.istore 7, 2) := by decide +kernel
theorem dX1_fill_115 : decode cX1_fill 115 = .ok (.iload 7, 2) := by decide +kernel
theorem dX1_fill_117 : decode cX1_fill 117 = .ok (.ifCond .ne 19, 3) := by decide +kernel
theorem dX1_fill_120 : decode cX1_fill 120 = .ok (.aload_n 0, 1) := by decide +kernel
theorem dX1_fill_121 : decode cX1_fill 121 = .ok (.getfield 18, 3) := by decide +kernel
theorem dX1_fill_124 : decode cX1_fill 124 = .ok (.iload 4, 2) := by decide +kernel
theorem dX1_fill_126 : decode cX1_fill 126 = .ok (.invokevirtual 36, 3) := by decide +kernel
theorem dX1_fill_129 : decode cX1_fill 129 = .ok (.iconst 1, 1) := by decide +kernel
theorem dX1_fill_130 : decode cX1_fill 130 = .ok (.iadd, 1) := by decide +kernel
theorem dX1_fill_131 : decode cX1_fill 131 = .ok (.istore 4, 2) := by decide +kernel
theorem dX1_fill_133 : decode cX1_fill 133 = .ok (.goto 51, 3) := by decide +kernel
theorem dX1_fill_136 : decode cX1_fill 136 = .ok (.aload_n 0, 1) := by decide +kernel
theorem dX1_fill_137 : decode cX1_fill 137 = .ok (.getfield 12, 3) := by decide +kernel
theorem dX1_fill_140 : decode cX1_fill 140 = .ok (.iload 4, 2) := by decide +kernel
theorem dX1_fill_142 : decode cX1_fill 142 = .ok (.iload 7, 2) := by decide +kernel
theorem dX1_fill_144 : decode cX1_fill 144 = .ok (.invokevirtual 56, 3) := by decide +kernel
theorem dX1_fill_147 : decode cX1_fill 147 = .ok (.aload_n 0, 1) := by decide +kernel
theorem dX1_fill_148 : decode cX1_fill 148 = .ok (.getfield 18, 3) := by decide +kernel
theorem dX1_fill_151 : decode cX1_fill 151 = .ok (.iload 4, 2) := by decide +kernel
theorem dX1_fill_153 : decode cX1_fill 153 = .ok (.invokevirtual 60, 3) := by decide +kernel
theorem dX1_fill_156 : decode cX1_fill 156 = .ok (.bipush (-3), 2) := by decide +kernel
theorem dX1_fill_158 : decode cX1_fill 158 = .ok (.if_icmp .ne 17, 3) := by decide +kernel
theorem dX1_fill_161 : decode cX1_fill 161 = .ok (.aload_n 0, 1) := by decide +kernel
theorem dX1_fill_162 : decode cX1_fill 162 = .ok (.getfield 12, 3) := by decide +kernel
theorem dX1_fill_165 : decode cX1_fill 165 = .ok (.iload 4, 2) := by decide +kernel
theorem dX1_fill_167 : decode cX1_fill 167 = .ok (.invokevirtual 63, 3) := by decide +kernel
theorem dX1_fill_170 : decode cX1_fill 170 = .ok (.istore 4, 2) := by decide +kernel
theorem dX1_fill_172 : decode cX1_fill 172 = .ok (.goto 12, 3) := by decide +kernel
theorem dX1_fill_175 : decode cX1_fill 175 = .ok (.aload_n 0, 1) := by decide +kernel
theorem dX1_fill_176 : decode cX1_fill 176 = .ok (.iload 4, 2) := by decide +kernel
theorem dX1_fill_178 : decode cX1_fill 178 = .ok (.invokevirtual 94, 3) := by decide +kernel
theorem dX1_fill_181 : decode cX1_fill 181 = .ok (.iinc 4 1, 3) := by decide +kernel
theorem dX1_fill_184 : decode cX1_fill 184 = .ok (.iinc 6 1, 3) := by decide +kernel
theorem dX1_fill_187 : decode cX1_fill 187 = .ok (.goto (-128), 3) := by decide +kernel
theorem dX1_fill_190 : decode cX1_fill 190 = .ok (.iload_n 3, 1) := by decide +kernel
theorem dX1_fill_191 : decode cX1_fill 191 = .ok (.ireturn, 1) := by decide +kernel
set_option maxRecDepth 20000 in
theorem ggX1_fillToken_X5_variableAt : GoodIn wsX1_fillToken wsX5_variableAt := goodIn_r _ [8, 9, 10, 70, 71, 72, 73, 74, 75] (by decide +kernel) (by decide +kernel)
set_option maxRecDepth 20000 in
theorem gX1_fillToken_X5_variableAt : GoodIn wsX1_fillToken (wsV RX1 98 RX5 yX5_variableAt wsX5_variableAt) := goodIn_app (goodIn_of _ (by decide +kernel)) ggX1_fillToken_X5_variableAt
set_option maxRecDepth 20000 in
theorem ggX1_fillToken_X1_matchOf : GoodIn wsX1_fillToken wsX1_matchOf := goodIn_r _ [15, 16, 17, 18, 1, 19, 20, 21, 22, 7, 23, 9, 24, 25, 26, 27, 28, 29, 30, 31, 32, 33, 34, 35, 36, 64, 65, 66, 67, 68, 69, 70, 71, 72, 73, 74, 75, 76, 77, 78, 79] (by decide +kernel) (by decide +kernel)
set_option maxRecDepth 20000 in
theorem gX1_fillToken_X1_matchOf : GoodIn wsX1_fillToken (wsV RX1 104 RX1 yX1_matchOf wsX1_matchOf) := goodIn_app (goodIn_of _ (by decide +kernel)) ggX1_fillToken_X1_matchOf
set_option maxRecDepth 20000 in
theorem ggX1_fillToken_X5_after : GoodIn wsX1_fillToken wsX5_after := goodIn_r _ [23, 9, 24, 70, 71, 72, 73, 74, 75] (by decide +kernel) (by decide +kernel)
set_option maxRecDepth 20000 in
theorem gX1_fillToken_X5_after : GoodIn wsX1_fillToken (wsV RX1 36 RX5 yX5_after wsX5_after) := goodIn_app (goodIn_of _ (by decide +kernel)) ggX1_fillToken_X5_after
set_option maxRecDepth 20000 in
theorem ggX1_fillToken_X5_wordAt : GoodIn wsX1_fillToken wsX5_wordAt := goodIn_r _ [40, 9, 29, 70, 71, 72, 73, 74, 75] (by decide +kernel) (by decide +kernel)
set_option maxRecDepth 20000 in
theorem gX1_fillToken_X5_wordAt : GoodIn wsX1_fillToken (wsV RX1 60 RX5 yX5_wordAt wsX5_wordAt) := goodIn_app (goodIn_of _ (by decide +kernel)) ggX1_fillToken_X5_wordAt
set_option maxRecDepth 20000 in
theorem ggX1_fillToken_X8_isTree : GoodIn wsX1_fillToken wsX8_isTree := goodIn_r _ [43] (by decide +kernel) (by decide +kernel)
set_option maxRecDepth 20000 in
theorem ggX1_fillToken_X2_fail : GoodIn wsX1_fillToken wsX2_fail := goodIn_r _ [48, 49, 80, 81, 82] (by decide +kernel) (by decide +kernel)
set_option maxRecDepth 20000 in
theorem gX1_fillToken_X2_fail : GoodIn wsX1_fillToken (wsV RX1 108 RX2 yX2_fail wsX2_fail) := goodIn_app (goodIn_of _ (by decide +kernel)) ggX1_fillToken_X2_fail
set_option maxRecDepth 20000 in
theorem ggX1_fillToken_X5_marksAt : GoodIn wsX1_fillToken wsX5_marksAt := goodIn_r _ [53, 9, 54, 70, 71, 72, 73, 74, 75] (by decide +kernel) (by decide +kernel)
set_option maxRecDepth 20000 in
theorem gX1_fillToken_X5_marksAt : GoodIn wsX1_fillToken (wsV RX1 119 RX5 yX5_marksAt wsX5_marksAt) := goodIn_app (goodIn_of _ (by decide +kernel)) ggX1_fillToken_X5_marksAt
set_option maxRecDepth 20000 in
theorem ggX1_fillToken_X5_add : GoodIn wsX1_fillToken wsX5_add := goodIn_r _ [58, 9, 29, 54, 24, 10, 59, 60, 61, 62, 7, 63, 70, 71, 72, 73, 74, 75] (by decide +kernel) (by decide +kernel)
set_option maxRecDepth 20000 in
theorem gX1_fillToken_X5_add : GoodIn wsX1_fillToken (wsV RX1 122 RX5 yX5_add wsX5_add) := goodIn_app (goodIn_of _ (by decide +kernel)) ggX1_fillToken_X5_add
theorem dX1_fillToken_0 : decode cX1_fillToken 0 = .ok (.aload_n 0, 1) := by decide +kernel
theorem dX1_fillToken_1 : decode cX1_fillToken 1 = .ok (.getfield 18, 3) := by decide +kernel
theorem dX1_fillToken_4 : decode cX1_fillToken 4 = .ok (.iload_n 1, 1) := by decide +kernel
theorem dX1_fillToken_5 : decode cX1_fillToken 5 = .ok (.invokevirtual 98, 3) := by decide +kernel
theorem dX1_fillToken_8 : decode cX1_fillToken 8 = .ok (.istore_n 2, 1) := by decide +kernel
theorem dX1_fillToken_9 : decode cX1_fillToken 9 = .ok (.iload_n 2, 1) := by decide +kernel
theorem dX1_fillToken_10 : decode cX1_fillToken 10 = .ok (.ifCond .ge 7, 3) := by decide +kernel
theorem dX1_fillToken_13 : decode cX1_fillToken 13 = .ok (.iload_n 1, 1) := by decide +kernel
theorem dX1_fillToken_14 : decode cX1_fillToken 14 = .ok (.goto 9, 3) := by decide +kernel
theorem dX1_fillToken_17 : decode cX1_fillToken 17 = .ok (.aload_n 0, 1) := by decide +kernel
theorem dX1_fillToken_18 : decode cX1_fillToken 18 = .ok (.iload_n 2, 1) := by decide +kernel
theorem dX1_fillToken_19 : decode cX1_fillToken 19 = .ok (.iconst 2, 1) := by decide +kernel
theorem dX1_fillToken_20 : decode cX1_fillToken 20 = .ok (.invokevirtual 104, 3) := by decide +kernel
theorem dX1_fillToken_23 : decode cX1_fillToken 23 = .ok (.istore_n 3, 1) := by decide +kernel
theorem dX1_fillToken_24 : decode cX1_fillToken 24 = .ok (.iload_n 2, 1) := by decide +kernel
theorem dX1_fillToken_25 : decode cX1_fillToken 25 = .ok (.ifCond .ge 9, 3) := by decide +kernel
theorem dX1_fillToken_28 : decode cX1_fillToken 28 = .ok (.iload_n 1, 1) := by decide +kernel
theorem dX1_fillToken_29 : decode cX1_fillToken 29 = .ok (.iconst 1, 1) := by decide +kernel
theorem dX1_fillToken_30 : decode cX1_fillToken 30 = .ok (.iadd, 1) := by decide +kernel
theorem dX1_fillToken_31 : decode cX1_fillToken 31 = .ok (.goto 11, 3) := by decide +kernel
theorem dX1_fillToken_34 : decode cX1_fillToken 34 = .ok (.aload_n 0, 1) := by decide +kernel
theorem dX1_fillToken_35 : decode cX1_fillToken 35 = .ok (.getfield 18, 3) := by decide +kernel
theorem dX1_fillToken_38 : decode cX1_fillToken 38 = .ok (.iload_n 3, 1) := by decide +kernel
theorem dX1_fillToken_39 : decode cX1_fillToken 39 = .ok (.invokevirtual 36, 3) := by decide +kernel
theorem dX1_fillToken_42 : decode cX1_fillToken 42 = .ok (.istore 4, 2) := by decide +kernel
theorem dX1_fillToken_44 : decode cX1_fillToken 44 = .ok (.iload_n 3, 1) := by decide +kernel
theorem dX1_fillToken_45 : decode cX1_fillToken 45 = .ok (.istore 5, 2) := by decide +kernel
theorem dX1_fillToken_47 : decode cX1_fillToken 47 = .ok (.iload 5, 2) := by decide +kernel
theorem dX1_fillToken_49 : decode cX1_fillToken 49 = .ok (.iload 4, 2) := by decide +kernel
theorem dX1_fillToken_51 : decode cX1_fillToken 51 = .ok (.if_icmp .ge 82, 3) := by decide +kernel
theorem dX1_fillToken_54 : decode cX1_fillToken 54 = .ok (.aload_n 0, 1) := by decide +kernel
theorem dX1_fillToken_55 : decode cX1_fillToken 55 = .ok (.dup, 1) := by decide +kernel
theorem dX1_fillToken_56 : decode cX1_fillToken 56 = .ok (.getfield 79, 3) := by decide +kernel
theorem dX1_fillToken_59 : decode cX1_fillToken 59 = .ok (.aload_n 0, 1) := by decide +kernel
theorem dX1_fillToken_60 : decode cX1_fillToken 60 = .ok (.getfield 18, 3) := by decide +kernel
theorem dX1_fillToken_63 : decode cX1_fillToken 63 = .ok (.iload 5, 2) := by decide +kernel
theorem dX1_fillToken_65 : decode cX1_fillToken 65 = .ok (.invokevirtual 60, 3) := by decide +kernel
theorem dX1_fillToken_68 : decode cX1_fillToken 68 = .ok (.invokestatic 116, 3) := by decide +kernel
theorem dX1_fillToken_71 : decode cX1_fillToken 71 = .ok (.ifCond .eq 7, 3) := by decide +kernel
theorem dX1_fillToken_74 : decode cX1_fillToken 74 = .ok (.iconst 1, 1) := by decide +kernel
theorem dX1_fillToken_75 : decode cX1_fillToken 75 = .ok (.goto 4, 3) := by decide +kernel
theorem dX1_fillToken_78 : decode cX1_fillToken 78 = .ok (.iconst 0, 1) := by decide +kernel
theorem dX1_fillToken_79 : decode cX1_fillToken 79 = .ok (.iadd, 1) := by decide +kernel
theorem dX1_fillToken_80 : decode cX1_fillToken 80 = .ok (.putfield 79, 3) := by decide +kernel
theorem dX1_fillToken_83 : decode cX1_fillToken 83 = .ok (.aload_n 0, 1) := by decide +kernel
theorem dX1_fillToken_84 : decode cX1_fillToken 84 = .ok (.getfield 79, 3) := by decide +kernel
theorem dX1_fillToken_87 : decode cX1_fillToken 87 = .ok (.bipush 100, 2) := by decide +kernel
theorem dX1_fillToken_89 : decode cX1_fillToken 89 = .ok (.if_icmp .le 13, 3) := by decide +kernel
theorem dX1_fillToken_92 : decode cX1_fillToken 92 = .ok (.aload_n 0, 1) := by decide +kernel
theorem dX1_fillToken_93 : decode cX1_fillToken 93 = .ok (.getfield 22, 3) := by decide +kernel
theorem dX1_fillToken_96 : decode cX1_fillToken 96 = .ok (.bipush 6, 2) := by decide +kernel
theorem dX1_fillToken_98 : decode cX1_fillToken 98 = .ok (.invokevirtual 108, 3) := by decide +kernel
theorem dX1_fillToken_101 : decode cX1_fillToken 101 = .ok (.return_, 1) := by decide +kernel
theorem dX1_fillToken_102 : decode cX1_fillToken 102 = .ok (.aload_n 0, 1) := by decide +kernel
theorem dX1_fillToken_103 : decode cX1_fillToken 103 = .ok (.getfield 18, 3) := by decide +kernel
theorem dX1_fillToken_106 : decode cX1_fillToken 106 = .ok (.aload_n 0, 1) := by decide +kernel
theorem dX1_fillToken_107 : decode cX1_fillToken 107 = .ok (.getfield 18, 3) := by decide +kernel
theorem dX1_fillToken_110 : decode cX1_fillToken 110 = .ok (.iload 5, 2) := by decide +kernel
theorem dX1_fillToken_112 : decode cX1_fillToken 112 = .ok (.invokevirtual 60, 3) := by decide +kernel
theorem dX1_fillToken_115 : decode cX1_fillToken 115 = .ok (.aload_n 0, 1) := by decide +kernel
theorem dX1_fillToken_116 : decode cX1_fillToken 116 = .ok (.getfield 18, 3) := by decide +kernel
theorem dX1_fillToken_119 : decode cX1_fillToken 119 = .ok (.iload 5, 2) := by decide +kernel
theorem dX1_fillToken_121 : decode cX1_fillToken 121 = .ok (.invokevirtual 119, 3) := by decide +kernel
theorem dX1_fillToken_124 : decode cX1_fillToken 124 = .ok (.invokevirtual 122, 3) := by decide +kernel
theorem dX1_fillToken_127 : decode cX1_fillToken 127 = .ok (.iinc 5 1, 3) := by decide +kernel
theorem dX1_fillToken_130 : decode cX1_fillToken 130 = .ok (.goto (-83), 3) := by decide +kernel
theorem dX1_fillToken_133 : decode cX1_fillToken 133 = .ok (.return_, 1) := by decide +kernel
theorem dX3_isWhole_0 : decode cX3_isWhole 0 = .ok (.aload_n 0, 1) := by decide +kernel
theorem dX3_isWhole_1 : decode cX3_isWhole 1 = .ok (.getfield 20, 3) := by decide +kernel
theorem dX3_isWhole_4 : decode cX3_isWhole 4 = .ok (.ifCond .ne 20, 3) := by decide +kernel
theorem dX3_isWhole_7 : decode cX3_isWhole 7 = .ok (.aload_n 0, 1) := by decide +kernel
theorem dX3_isWhole_8 : decode cX3_isWhole 8 = .ok (.getfield 9, 3) := by decide +kernel
theorem dX3_isWhole_11 : decode cX3_isWhole 11 = .ok (.getfield 39, 3) := by decide +kernel
theorem dX3_isWhole_14 : decode cX3_isWhole 14 = .ok (.sipush 480, 3) := by decide +kernel
theorem dX3_isWhole_17 : decode cX3_isWhole 17 = .ok (.if_icmp .le 7, 3) := by decide +kernel
theorem dX3_isWhole_20 : decode cX3_isWhole 20 = .ok (.iconst 1, 1) := by decide +kernel
theorem dX3_isWhole_21 : decode cX3_isWhole 21 = .ok (.goto 4, 3) := by decide +kernel
theorem dX3_isWhole_24 : decode cX3_isWhole 24 = .ok (.iconst 0, 1) := by decide +kernel
theorem dX3_isWhole_25 : decode cX3_isWhole 25 = .ok (.ireturn, 1) := by decide +kernel
theorem dX3_runLength_0 : decode cX3_runLength 0 = .ok (.iconst 0, 1) := by decide +kernel
theorem dX3_runLength_1 : decode cX3_runLength 1 = .ok (.istore 5, 2) := by decide +kernel
theorem dX3_runLength_3 : decode cX3_runLength 3 = .ok (.iload_n 2, 1) := by decide +kernel
theorem dX3_runLength_4 : decode cX3_runLength 4 = .ok (.ifCond .ge 7, 3) := by decide +kernel
theorem dX3_runLength_7 : decode cX3_runLength 7 = .ok (.iconst 0, 1) := by decide +kernel
theorem dX3_runLength_8 : decode cX3_runLength 8 = .ok (.goto 4, 3) := by decide +kernel
theorem dX3_runLength_11 : decode cX3_runLength 11 = .ok (.iload_n 2, 1) := by decide +kernel
theorem dX3_runLength_12 : decode cX3_runLength 12 = .ok (.istore 6, 2) := by decide +kernel
theorem dX3_runLength_14 : decode cX3_runLength 14 = .ok (.iload 6, 2) := by decide +kernel
theorem dX3_runLength_16 : decode cX3_runLength 16 = .ok (.iload_n 1, 1) := by decide +kernel
theorem dX3_runLength_17 : decode cX3_runLength 17 = .ok (.if_icmp .ge 39, 3) := by decide +kernel
theorem dX3_runLength_20 : decode cX3_runLength 20 = .ok (.iload 6, 2) := by decide +kernel
theorem dX3_runLength_22 : decode cX3_runLength 22 = .ok (.aload_n 0, 1) := by decide +kernel
theorem dX3_runLength_23 : decode cX3_runLength 23 = .ok (.arraylength, 1) := by decide +kernel
theorem dX3_runLength_24 : decode cX3_runLength 24 = .ok (.if_icmp .ge 32, 3) := by decide +kernel
theorem dX3_runLength_27 : decode cX3_runLength 27 = .ok (.aload_n 0, 1) := by decide +kernel
theorem dX3_runLength_28 : decode cX3_runLength 28 = .ok (.iload 6, 2) := by decide +kernel
theorem dX3_runLength_30 : decode cX3_runLength 30 = .ok (.iaload, 1) := by decide +kernel
theorem dX3_runLength_31 : decode cX3_runLength 31 = .ok (.iload_n 3, 1) := by decide +kernel
theorem dX3_runLength_32 : decode cX3_runLength 32 = .ok (.if_icmp .lt 24, 3) := by decide +kernel
theorem dX3_runLength_35 : decode cX3_runLength 35 = .ok (.aload_n 0, 1) := by decide +kernel
theorem dX3_runLength_36 : decode cX3_runLength 36 = .ok (.iload 6, 2) := by decide +kernel
theorem dX3_runLength_38 : decode cX3_runLength 38 = .ok (.iaload, 1) := by decide +kernel
theorem dX3_runLength_39 : decode cX3_runLength 39 = .ok (.iload 4, 2) := by decide +kernel
theorem dX3_runLength_41 : decode cX3_runLength 41 = .ok (.if_icmp .le 6, 3) := by decide +kernel
theorem dX3_runLength_44 : decode cX3_runLength 44 = .ok (.goto 12, 3) := by decide +kernel
theorem dX3_runLength_47 : decode cX3_runLength 47 = .ok (.iinc 5 1, 3) := by decide +kernel
theorem dX3_runLength_50 : decode cX3_runLength 50 = .ok (.iinc 6 1, 3) := by decide +kernel
theorem dX3_runLength_53 : decode cX3_runLength 53 = .ok (.goto (-39), 3) := by decide +kernel
theorem dX3_runLength_56 : decode cX3_runLength 56 = .ok (.iload 5, 2) := by decide +kernel
theorem dX3_runLength_58 : decode cX3_runLength 58 = .ok (.ireturn, 1) := by decide +kernel
set_option maxRecDepth 20000 in
theorem ggX3_readName_X5_add : GoodIn wsX3_readName wsX5_add := goodIn_r _ [6, 7, 8, 9, 10, 11, 12, 13, 14, 15, 5, 16, 19, 20, 21, 22, 23, 24] (by decide +kernel) (by decide +kernel)
set_option maxRecDepth 20000 in
theorem gX3_readName_X5_add : GoodIn wsX3_readName (wsV RX3 63 RX5 yX5_add wsX5_add) := goodIn_app (goodIn_of _ (by decide +kernel)) ggX3_readName_X5_add
theorem dX3_readName_0 : decode cX3_readName 0 = .ok (.iload_n 3, 1) := by decide +kernel
theorem dX3_readName_1 : decode cX3_readName 1 = .ok (.iconst 3, 1) := by decide +kernel
theorem dX3_readName_2 : decode cX3_readName 2 = .ok (.if_icmp .le 5, 3) := by decide +kernel
theorem dX3_readName_5 : decode cX3_readName 5 = .ok (.iconst 0, 1) := by decide +kernel
theorem dX3_readName_6 : decode cX3_readName 6 = .ok (.ireturn, 1) := by decide +kernel
theorem dX3_readName_7 : decode cX3_readName 7 = .ok (.iconst 1, 1) := by decide +kernel
theorem dX3_readName_8 : decode cX3_readName 8 = .ok (.istore 4, 2) := by decide +kernel
theorem dX3_readName_10 : decode cX3_readName 10 = .ok (.iload_n 2, 1) := by decide +kernel
theorem dX3_readName_11 : decode cX3_readName 11 = .ok (.ifCond .ge 7, 3) := by decide +kernel
theorem dX3_readName_14 : decode cX3_readName 14 = .ok (.iconst 0, 1) := by decide +kernel
theorem dX3_readName_15 : decode cX3_readName 15 = .ok (.goto 4, 3) := by decide +kernel
theorem dX3_readName_18 : decode cX3_readName 18 = .ok (.iload_n 2, 1) := by decide +kernel
theorem dX3_readName_19 : decode cX3_readName 19 = .ok (.istore 5, 2) := by decide +kernel
theorem dX3_readName_21 : decode cX3_readName 21 = .ok (.iload 5, 2) := by decide +kernel
theorem dX3_readName_23 : decode cX3_readName 23 = .ok (.iload_n 2, 1) := by decide +kernel
theorem dX3_readName_24 : decode cX3_readName 24 = .ok (.iload_n 3, 1) := by decide +kernel
theorem dX3_readName_25 : decode cX3_readName 25 = .ok (.iadd, 1) := by decide +kernel
theorem dX3_readName_26 : decode cX3_readName 26 = .ok (.if_icmp .ge 28, 3) := by decide +kernel
theorem dX3_readName_29 : decode cX3_readName 29 = .ok (.iload 5, 2) := by decide +kernel
theorem dX3_readName_31 : decode cX3_readName 31 = .ok (.aload_n 1, 1) := by decide +kernel
theorem dX3_readName_32 : decode cX3_readName 32 = .ok (.arraylength, 1) := by decide +kernel
theorem dX3_readName_33 : decode cX3_readName 33 = .ok (.if_icmp .ge 21, 3) := by decide +kernel
theorem dX3_readName_36 : decode cX3_readName 36 = .ok (.iload 4, 2) := by decide +kernel
theorem dX3_readName_38 : decode cX3_readName 38 = .ok (.bipush 8, 2) := by decide +kernel
theorem dX3_readName_40 : decode cX3_readName 40 = .ok (.ishl, 1) := by decide +kernel
theorem dX3_readName_41 : decode cX3_readName 41 = .ok (.aload_n 1, 1) := by decide +kernel
theorem dX3_readName_42 : decode cX3_readName 42 = .ok (.iload 5, 2) := by decide +kernel
theorem dX3_readName_44 : decode cX3_readName 44 = .ok (.iaload, 1) := by decide +kernel
theorem dX3_readName_45 : decode cX3_readName 45 = .ok (.ior, 1) := by decide +kernel
theorem dX3_readName_46 : decode cX3_readName 46 = .ok (.istore 4, 2) := by decide +kernel
theorem dX3_readName_48 : decode cX3_readName 48 = .ok (.iinc 5 1, 3) := by decide +kernel
theorem dX3_readName_51 : decode cX3_readName 51 = .ok (.goto (-30), 3) := by decide +kernel
theorem dX3_readName_54 : decode cX3_readName 54 = .ok (.aload_n 0, 1) := by decide +kernel
theorem dX3_readName_55 : decode cX3_readName 55 = .ok (.getfield 9, 3) := by decide +kernel
theorem dX3_readName_58 : decode cX3_readName 58 = .ok (.iload 4, 2) := by decide +kernel
theorem dX3_readName_60 : decode cX3_readName 60 = .ok (.iconst 0, 1) := by decide +kernel
theorem dX3_readName_61 : decode cX3_readName 61 = .ok (.invokevirtual 63, 3) := by decide +kernel
theorem dX3_readName_64 : decode cX3_readName 64 = .ok (.iload_n 3, 1) := by decide +kernel
theorem dX3_readName_65 : decode cX3_readName 65 = .ok (.ireturn, 1) := by decide +kernel
set_option maxRecDepth 20000 in
theorem ggX3_readNumber_X5_add : GoodIn wsX3_readNumber wsX5_add := goodIn_r _ [6, 7, 8, 9, 10, 11, 12, 13, 14, 15, 5, 16, 19, 20, 21, 22, 23, 24] (by decide +kernel) (by decide +kernel)
set_option maxRecDepth 20000 in
theorem gX3_readNumber_X5_add : GoodIn wsX3_readNumber (wsV RX3 63 RX5 yX5_add wsX5_add) := goodIn_app (goodIn_of _ (by decide +kernel)) ggX3_readNumber_X5_add
theorem dX3_readNumber_0 : decode cX3_readNumber 0 = .ok (.iload_n 3, 1) := by decide +kernel
theorem dX3_readNumber_1 : decode cX3_readNumber 1 = .ok (.iconst 2, 1) := by decide +kernel
theorem dX3_readNumber_2 : decode cX3_readNumber 2 = .ok (.if_icmp .gt 26, 3) := by decide +kernel
theorem dX3_readNumber_5 : decode cX3_readNumber 5 = .ok (.iload_n 2, 1) := by decide +kernel
theorem dX3_readNumber_6 : decode cX3_readNumber 6 = .ok (.ifCond .lt 22, 3) := by decide +kernel
theorem dX3_readNumber_9 : decode cX3_readNumber 9 = .ok (.iload_n 2, 1) := by decide +kernel
theorem dX3_readNumber_10 : decode cX3_readNumber 10 = .ok (.aload_n 1, 1) := by decide +kernel
theorem dX3_readNumber_11 : decode cX3_readNumber 11 = .ok (.arraylength, 1) := by decide +kernel
theorem dX3_readNumber_12 : decode cX3_readNumber 12 = .ok (.if_icmp .ge 16, 3) := by decide +kernel
theorem dX3_readNumber_15 : decode cX3_readNumber 15 = .ok (.iload_n 3, 1) := by decide +kernel
theorem dX3_readNumber_16 : decode cX3_readNumber 16 = .ok (.iconst 2, 1) := by decide +kernel
theorem dX3_readNumber_17 : decode cX3_readNumber 17 = .ok (.if_icmp .ne 13, 3) := by decide +kernel
theorem dX3_readNumber_20 : decode cX3_readNumber 20 = .ok (.aload_n 1, 1) := by decide +kernel
theorem dX3_readNumber_21 : decode cX3_readNumber 21 = .ok (.iload_n 2, 1) := by decide +kernel
theorem dX3_readNumber_22 : decode cX3_readNumber 22 = .ok (.iaload, 1) := by decide +kernel
theorem dX3_readNumber_23 : decode cX3_readNumber 23 = .ok (.bipush 48, 2) := by decide +kernel
theorem dX3_readNumber_25 : decode cX3_readNumber 25 = .ok (.if_icmp .ne 5, 3) := by decide +kernel
theorem dX3_readNumber_28 : decode cX3_readNumber 28 = .ok (.iconst 0, 1) := by decide +kernel
theorem dX3_readNumber_29 : decode cX3_readNumber 29 = .ok (.ireturn, 1) := by decide +kernel
theorem dX3_readNumber_30 : decode cX3_readNumber 30 = .ok (.iconst 0, 1) := by decide +kernel
theorem dX3_readNumber_31 : decode cX3_readNumber 31 = .ok (.istore 4, 2) := by decide +kernel
theorem dX3_readNumber_33 : decode cX3_readNumber 33 = .ok (.iload_n 2, 1) := by decide +kernel
theorem dX3_readNumber_34 : decode cX3_readNumber 34 = .ok (.istore 5, 2) := by decide +kernel
theorem dX3_readNumber_36 : decode cX3_readNumber 36 = .ok (.iload 5, 2) := by decide +kernel
theorem dX3_readNumber_38 : decode cX3_readNumber 38 = .ok (.iload_n 2, 1) := by decide +kernel
theorem dX3_readNumber_39 : decode cX3_readNumber 39 = .ok (.iload_n 3, 1) := by decide +kernel
theorem dX3_readNumber_40 : decode cX3_readNumber 40 = .ok (.iadd, 1) := by decide +kernel
theorem dX3_readNumber_41 : decode cX3_readNumber 41 = .ok (.if_icmp .ge 31, 3) := by decide +kernel
theorem dX3_readNumber_44 : decode cX3_readNumber 44 = .ok (.iload 5, 2) := by decide +kernel
theorem dX3_readNumber_46 : decode cX3_readNumber 46 = .ok (.aload_n 1, 1) := by decide +kernel
theorem dX3_readNumber_47 : decode cX3_readNumber 47 = .ok (.arraylength, 1) := by decide +kernel
theorem dX3_readNumber_48 : decode cX3_readNumber 48 = .ok (.if_icmp .ge 24, 3) := by decide +kernel
theorem dX3_readNumber_51 : decode cX3_readNumber 51 = .ok (.iload 4, 2) := by decide +kernel
theorem dX3_readNumber_53 : decode cX3_readNumber 53 = .ok (.bipush 10, 2) := by decide +kernel
theorem dX3_readNumber_55 : decode cX3_readNumber 55 = .ok (.imul, 1) := by decide +kernel
theorem dX3_readNumber_56 : decode cX3_readNumber 56 = .ok (.aload_n 1, 1) := by decide +kernel
theorem dX3_readNumber_57 : decode cX3_readNumber 57 = .ok (.iload 5, 2) := by decide +kernel
theorem dX3_readNumber_59 : decode cX3_readNumber 59 = .ok (.iaload, 1) := by decide +kernel
theorem dX3_readNumber_60 : decode cX3_readNumber 60 = .ok (.iadd, 1) := by decide +kernel
theorem dX3_readNumber_61 : decode cX3_readNumber 61 = .ok (.bipush 48, 2) := by decide +kernel
theorem dX3_readNumber_63 : decode cX3_readNumber 63 = .ok (.isub, 1) := by decide +kernel
theorem dX3_readNumber_64 : decode cX3_readNumber 64 = .ok (.istore 4, 2) := by decide +kernel
theorem dX3_readNumber_66 : decode cX3_readNumber 66 = .ok (.iinc 5 1, 3) := by decide +kernel
theorem dX3_readNumber_69 : decode cX3_readNumber 69 = .ok (.goto (-33), 3) := by decide +kernel
theorem dX3_readNumber_72 : decode cX3_readNumber 72 = .ok (.aload_n 0, 1) := by decide +kernel
theorem dX3_readNumber_73 : decode cX3_readNumber 73 = .ok (.getfield 9, 3) := by decide +kernel
theorem dX3_readNumber_76 : decode cX3_readNumber 76 = .ok (.iload 4, 2) := by decide +kernel
theorem dX3_readNumber_78 : decode cX3_readNumber 78 = .ok (.iconst 0, 1) := by decide +kernel
theorem dX3_readNumber_79 : decode cX3_readNumber 79 = .ok (.invokevirtual 63, 3) := by decide +kernel
theorem dX3_readNumber_82 : decode cX3_readNumber 82 = .ok (.iload_n 3, 1) := by decide +kernel
theorem dX3_readNumber_83 : decode cX3_readNumber 83 = .ok (.ireturn, 1) := by decide +kernel
theorem dX5_restart_0 : decode cX5_restart 0 = .ok (.aload_n 0, 1) := by decide +kernel
theorem dX5_restart_1 : decode cX5_restart 1 = .ok (.sipush 480, 3) := by decide +kernel
theorem dX5_restart_4 : decode cX5_restart 4 = .ok (.putfield 24, 3) := by decide +kernel
theorem dX5_restart_7 : decode cX5_restart 7 = .ok (.aload_n 0, 1) := by decide +kernel
theorem dX5_restart_8 : decode cX5_restart 8 = .ok (.iconst (-1), 1) := by decide +kernel
theorem dX5_restart_9 : decode cX5_restart 9 = .ok (.putfield 28, 3) := by decide +kernel
theorem dX5_restart_12 : decode cX5_restart 12 = .ok (.return_, 1) := by decide +kernel
set_option maxRecDepth 20000 in
theorem ggX5_add_X5_closeBracket : GoodIn wsX5_add wsX5_closeBracket := goodIn_r _ [11, 6, 4, 1, 12, 13, 14, 15, 16, 17] (by decide +kernel) (by decide +kernel)
set_option maxRecDepth 20000 in
theorem gX5_add_X5_closeBracket : GoodIn wsX5_add (wsV RX5 31 RX5 yX5_closeBracket wsX5_closeBracket) := goodIn_app (goodIn_of _ (by decide +kernel)) ggX5_add_X5_closeBracket
theorem dX5_add_0 : decode cX5_add 0 = .ok (.aload_n 0, 1) := by decide +kernel
theorem dX5_add_1 : decode cX5_add 1 = .ok (.getfield 24, 3) := by decide +kernel
theorem dX5_add_4 : decode cX5_add 4 = .ok (.ifCond .lt 13, 3) := by decide +kernel
theorem dX5_add_7 : decode cX5_add 7 = .ok (.aload_n 0, 1) := by decide +kernel
theorem dX5_add_8 : decode cX5_add 8 = .ok (.getfield 24, 3) := by decide +kernel
theorem dX5_add_11 : decode cX5_add 11 = .ok (.sipush 3000, 3) := by decide +kernel
theorem dX5_add_14 : decode cX5_add 14 = .ok (.if_icmp .lt 4, 3) := by decide +kernel
theorem dX5_add_17 : decode cX5_add 17 = .ok (.return_, 1) := by decide +kernel
theorem dX5_add_18 : decode cX5_add 18 = .ok (.aload_n 0, 1) := by decide +kernel
theorem dX5_add_19 : decode cX5_add 19 = .ok (.getfield 9, 3) := by decide +kernel
theorem dX5_add_22 : decode cX5_add 22 = .ok (.aload_n 0, 1) := by decide +kernel
theorem dX5_add_23 : decode cX5_add 23 = .ok (.getfield 24, 3) := by decide +kernel
theorem dX5_add_26 : decode cX5_add 26 = .ok (.iload_n 1, 1) := by decide +kernel
theorem dX5_add_27 : decode cX5_add 27 = .ok (.iastore, 1) := by decide +kernel
theorem dX5_add_28 : decode cX5_add 28 = .ok (.aload_n 0, 1) := by decide +kernel
theorem dX5_add_29 : decode cX5_add 29 = .ok (.getfield 15, 3) := by decide +kernel
theorem dX5_add_32 : decode cX5_add 32 = .ok (.aload_n 0, 1) := by decide +kernel
theorem dX5_add_33 : decode cX5_add 33 = .ok (.getfield 24, 3) := by decide +kernel
theorem dX5_add_36 : decode cX5_add 36 = .ok (.iload_n 2, 1) := by decide +kernel
theorem dX5_add_37 : decode cX5_add 37 = .ok (.iastore, 1) := by decide +kernel
theorem dX5_add_38 : decode cX5_add 38 = .ok (.aload_n 0, 1) := by decide +kernel
theorem dX5_add_39 : decode cX5_add 39 = .ok (.getfield 18, 3) := by decide +kernel
theorem dX5_add_42 : decode cX5_add 42 = .ok (.aload_n 0, 1) := by decide +kernel
theorem dX5_add_43 : decode cX5_add 43 = .ok (.getfield 24, 3) := by decide +kernel
theorem dX5_add_46 : decode cX5_add 46 = .ok (.iconst 1, 1) := by decide +kernel
theorem dX5_add_47 : decode cX5_add 47 = .ok (.iastore, 1) := by decide +kernel
theorem dX5_add_48 : decode cX5_add 48 = .ok (.aload_n 0, 1) := by decide +kernel
theorem dX5_add_49 : decode cX5_add 49 = .ok (.getfield 21, 3) := by decide +kernel
theorem dX5_add_52 : decode cX5_add 52 = .ok (.aload_n 0, 1) := by decide +kernel
theorem dX5_add_53 : decode cX5_add 53 = .ok (.getfield 24, 3) := by decide +kernel
theorem dX5_add_56 : decode cX5_add 56 = .ok (.iconst 0, 1) := by decide +kernel
theorem dX5_add_57 : decode cX5_add 57 = .ok (.iastore, 1) := by decide +kernel
theorem dX5_add_58 : decode cX5_add 58 = .ok (.iload_n 1, 1) := by decide +kernel
theorem dX5_add_59 : decode cX5_add 59 = .ok (.iconst (-1), 1) := by decide +kernel
theorem dX5_add_60 : decode cX5_add 60 = .ok (.if_icmp .ne 27, 3) := by decide +kernel
theorem dX5_add_63 : decode cX5_add 63 = .ok (.aload_n 0, 1) := by decide +kernel
theorem dX5_add_64 : decode cX5_add 64 = .ok (.getfield 18, 3) := by decide +kernel
theorem dX5_add_67 : decode cX5_add 67 = .ok (.aload_n 0, 1) := by decide +kernel
theorem dX5_add_68 : decode cX5_add 68 = .ok (.getfield 24, 3) := by decide +kernel
theorem dX5_add_71 : decode cX5_add 71 = .ok (.aload_n 0, 1) := by decide +kernel
theorem dX5_add_72 : decode cX5_add 72 = .ok (.getfield 28, 3) := by decide +kernel
theorem dX5_add_75 : decode cX5_add 75 = .ok (.iastore, 1) := by decide +kernel
theorem dX5_add_76 : decode cX5_add 76 = .ok (.aload_n 0, 1) := by decide +kernel
theorem dX5_add_77 : decode cX5_add 77 = .ok (.aload_n 0, 1) := by decide +kernel
theorem dX5_add_78 : decode cX5_add 78 = .ok (.getfield 24, 3) := by decide +kernel
theorem dX5_add_81 : decode cX5_add 81 = .ok (.putfield 28, 3) := by decide +kernel
theorem dX5_add_84 : decode cX5_add 84 = .ok (.goto 13, 3) := by decide +kernel
theorem dX5_add_87 : decode cX5_add 87 = .ok (.iload_n 1, 1) := by decide +kernel
theorem dX5_add_88 : decode cX5_add 88 = .ok (.bipush (-2), 2) := by decide +kernel
theorem dX5_add_90 : decode cX5_add 90 = .ok (.if_icmp .ne 7, 3) := by decide +kernel
theorem dX5_add_93 : decode cX5_add 93 = .ok (.aload_n 0, 1) := by decide +kernel
theorem dX5_add_94 : decode cX5_add 94 = .ok (.invokevirtual 31, 3) := by decide +kernel
theorem dX5_add_97 : decode cX5_add 97 = .ok (.aload_n 0, 1) := by decide +kernel
theorem dX5_add_98 : decode cX5_add 98 = .ok (.dup, 1) := by decide +kernel
theorem dX5_add_99 : decode cX5_add 99 = .ok (.getfield 24, 3) := by decide +kernel
theorem dX5_add_102 : decode cX5_add 102 = .ok (.iconst 1, 1) := by decide +kernel
theorem dX5_add_103 : decode cX5_add 103 = .ok (.iadd, 1) := by decide +kernel
theorem dX5_add_104 : decode cX5_add 104 = .ok (.putfield 24, 3) := by decide +kernel
theorem dX5_add_107 : decode cX5_add 107 = .ok (.return_, 1) := by decide +kernel
set_option maxRecDepth 20000 in
theorem ggX8_type_X8_appendTyped : GoodIn wsX8_type wsX8_appendTyped := goodIn_r _ [6, 1, 7, 8, 9, 10, 11, 12, 13, 14, 15] (by decide +kernel) (by decide +kernel)
set_option maxRecDepth 20000 in
theorem gX8_type_X8_appendTyped : GoodIn wsX8_type (wsV RX8 63 RX8 yX8_appendTyped wsX8_appendTyped) := goodIn_app (goodIn_of _ (by decide +kernel)) ggX8_type_X8_appendTyped
theorem dX8_type_0 : decode cX8_type 0 = .ok (.iload_n 2, 1) := by decide +kernel
theorem dX8_type_1 : decode cX8_type 1 = .ok (.iconst 1, 1) := by decide +kernel
theorem dX8_type_2 : decode cX8_type 2 = .ok (.if_icmp .lt 19, 3) := by decide +kernel
theorem dX8_type_5 : decode cX8_type 5 = .ok (.iload_n 2, 1) := by decide +kernel
theorem dX8_type_6 : decode cX8_type 6 = .ok (.iconst 4, 1) := by decide +kernel
theorem dX8_type_7 : decode cX8_type 7 = .ok (.if_icmp .gt 14, 3) := by decide +kernel
theorem dX8_type_10 : decode cX8_type 10 = .ok (.aload_n 0, 1) := by decide +kernel
theorem dX8_type_11 : decode cX8_type 11 = .ok (.getfield 59, 3) := by decide +kernel
theorem dX8_type_14 : decode cX8_type 14 = .ok (.iload_n 2, 1) := by decide +kernel
theorem dX8_type_15 : decode cX8_type 15 = .ok (.iadd, 1) := by decide +kernel
theorem dX8_type_16 : decode cX8_type 16 = .ok (.bipush 120, 2) := by decide +kernel
theorem dX8_type_18 : decode cX8_type 18 = .ok (.if_icmp .le 5, 3) := by decide +kernel
theorem dX8_type_21 : decode cX8_type 21 = .ok (.iconst 0, 1) := by decide +kernel
theorem dX8_type_22 : decode cX8_type 22 = .ok (.ireturn, 1) := by decide +kernel
theorem dX8_type_23 : decode cX8_type 23 = .ok (.iconst 0, 1) := by decide +kernel
theorem dX8_type_24 : decode cX8_type 24 = .ok (.istore_n 3, 1) := by decide +kernel
theorem dX8_type_25 : decode cX8_type 25 = .ok (.iload_n 3, 1) := by decide +kernel
theorem dX8_type_26 : decode cX8_type 26 = .ok (.iload_n 2, 1) := by decide +kernel
theorem dX8_type_27 : decode cX8_type 27 = .ok (.if_icmp .ge 37, 3) := by decide +kernel
theorem dX8_type_30 : decode cX8_type 30 = .ok (.iload_n 1, 1) := by decide +kernel
theorem dX8_type_31 : decode cX8_type 31 = .ok (.bipush 8, 2) := by decide +kernel
theorem dX8_type_33 : decode cX8_type 33 = .ok (.iload_n 3, 1) := by decide +kernel
theorem dX8_type_34 : decode cX8_type 34 = .ok (.imul, 1) := by decide +kernel
theorem dX8_type_35 : decode cX8_type 35 = .ok (.ishr, 1) := by decide +kernel
theorem dX8_type_36 : decode cX8_type 36 = .ok (.sipush 255, 3) := by decide +kernel
theorem dX8_type_39 : decode cX8_type 39 = .ok (.iand, 1) := by decide +kernel
theorem dX8_type_40 : decode cX8_type 40 = .ok (.istore 4, 2) := by decide +kernel
theorem dX8_type_42 : decode cX8_type 42 = .ok (.iload 4, 2) := by decide +kernel
theorem dX8_type_44 : decode cX8_type 44 = .ok (.bipush 32, 2) := by decide +kernel
theorem dX8_type_46 : decode cX8_type 46 = .ok (.if_icmp .lt 10, 3) := by decide +kernel
theorem dX8_type_49 : decode cX8_type 49 = .ok (.iload 4, 2) := by decide +kernel
theorem dX8_type_51 : decode cX8_type 51 = .ok (.bipush 126, 2) := by decide +kernel
theorem dX8_type_53 : decode cX8_type 53 = .ok (.if_icmp .le 5, 3) := by decide +kernel
theorem dX8_type_56 : decode cX8_type 56 = .ok (.iconst 0, 1) := by decide +kernel
theorem dX8_type_57 : decode cX8_type 57 = .ok (.ireturn, 1) := by decide +kernel
theorem dX8_type_58 : decode cX8_type 58 = .ok (.iinc 3 1, 3) := by decide +kernel
theorem dX8_type_61 : decode cX8_type 61 = .ok (.goto (-36), 3) := by decide +kernel
theorem dX8_type_64 : decode cX8_type 64 = .ok (.iload_n 2, 1) := by decide +kernel
theorem dX8_type_65 : decode cX8_type 65 = .ok (.iconst 1, 1) := by decide +kernel
theorem dX8_type_66 : decode cX8_type 66 = .ok (.isub, 1) := by decide +kernel
theorem dX8_type_67 : decode cX8_type 67 = .ok (.istore_n 3, 1) := by decide +kernel
theorem dX8_type_68 : decode cX8_type 68 = .ok (.iload_n 3, 1) := by decide +kernel
theorem dX8_type_69 : decode cX8_type 69 = .ok (.ifCond .lt 23, 3) := by decide +kernel
theorem dX8_type_72 : decode cX8_type 72 = .ok (.aload_n 0, 1) := by decide +kernel
theorem dX8_type_73 : decode cX8_type 73 = .ok (.iload_n 1, 1) := by decide +kernel
theorem dX8_type_74 : decode cX8_type 74 = .ok (.bipush 8, 2) := by decide +kernel
theorem dX8_type_76 : decode cX8_type 76 = .ok (.iload_n 3, 1) := by decide +kernel
theorem dX8_type_77 : decode cX8_type 77 = .ok (.imul, 1) := by decide +kernel
theorem dX8_type_78 : decode cX8_type 78 = .ok (.ishr, 1) := by decide +kernel
theorem dX8_type_79 : decode cX8_type 79 = .ok (.sipush 255, 3) := by decide +kernel
theorem dX8_type_82 : decode cX8_type 82 = .ok (.iand, 1) := by decide +kernel
theorem dX8_type_83 : decode cX8_type 83 = .ok (.invokevirtual 63, 3) := by decide +kernel
theorem dX8_type_86 : decode cX8_type 86 = .ok (.iinc 3 (-1), 3) := by decide +kernel
theorem dX8_type_89 : decode cX8_type 89 = .ok (.goto (-21), 3) := by decide +kernel
theorem dX8_type_92 : decode cX8_type 92 = .ok (.iconst 1, 1) := by decide +kernel
theorem dX8_type_93 : decode cX8_type 93 = .ok (.ireturn, 1) := by decide +kernel
theorem dX8_appendTyped_0 : decode cX8_appendTyped 0 = .ok (.aload_n 0, 1) := by decide +kernel
theorem dX8_appendTyped_1 : decode cX8_appendTyped 1 = .ok (.getfield 59, 3) := by decide +kernel
theorem dX8_appendTyped_4 : decode cX8_appendTyped 4 = .ok (.ifCond .lt 35, 3) := by decide +kernel
theorem dX8_appendTyped_7 : decode cX8_appendTyped 7 = .ok (.aload_n 0, 1) := by decide +kernel
theorem dX8_appendTyped_8 : decode cX8_appendTyped 8 = .ok (.getfield 59, 3) := by decide +kernel
theorem dX8_appendTyped_11 : decode cX8_appendTyped 11 = .ok (.aload_n 0, 1) := by decide +kernel
theorem dX8_appendTyped_12 : decode cX8_appendTyped 12 = .ok (.getfield 9, 3) := by decide +kernel
theorem dX8_appendTyped_15 : decode cX8_appendTyped 15 = .ok (.arraylength, 1) := by decide +kernel
theorem dX8_appendTyped_16 : decode cX8_appendTyped 16 = .ok (.if_icmp .ge 23, 3) := by decide +kernel
theorem dX8_appendTyped_19 : decode cX8_appendTyped 19 = .ok (.aload_n 0, 1) := by decide +kernel
theorem dX8_appendTyped_20 : decode cX8_appendTyped 20 = .ok (.getfield 9, 3) := by decide +kernel
theorem dX8_appendTyped_23 : decode cX8_appendTyped 23 = .ok (.aload_n 0, 1) := by decide +kernel
theorem dX8_appendTyped_24 : decode cX8_appendTyped 24 = .ok (.getfield 59, 3) := by decide +kernel
theorem dX8_appendTyped_27 : decode cX8_appendTyped 27 = .ok (.iload_n 1, 1) := by decide +kernel
theorem dX8_appendTyped_28 : decode cX8_appendTyped 28 = .ok (.iastore, 1) := by decide +kernel
theorem dX8_appendTyped_29 : decode cX8_appendTyped 29 = .ok (.aload_n 0, 1) := by decide +kernel
theorem dX8_appendTyped_30 : decode cX8_appendTyped 30 = .ok (.dup, 1) := by decide +kernel
theorem dX8_appendTyped_31 : decode cX8_appendTyped 31 = .ok (.getfield 59, 3) := by decide +kernel
theorem dX8_appendTyped_34 : decode cX8_appendTyped 34 = .ok (.iconst 1, 1) := by decide +kernel
theorem dX8_appendTyped_35 : decode cX8_appendTyped 35 = .ok (.iadd, 1) := by decide +kernel
theorem dX8_appendTyped_36 : decode cX8_appendTyped 36 = .ok (.putfield 59, 3) := by decide +kernel
theorem dX8_appendTyped_39 : decode cX8_appendTyped 39 = .ok (.return_, 1) := by decide +kernel
theorem iw_X0_expandTree_X0 : ∀ w ∈ wsX00, w ∈ wsX0_expandTree := by decide +kernel
theorem lk_X0_expandTree_23 : Cond.fieldLink RX0 23 "MarkedNames$Expander" "outcome" "LMarkedNames$Outcome;" ∈ wsX0_expandTree := by decide +kernel
theorem iw_X0_expandTree_X2 : ∀ w ∈ wsX20, w ∈ wsX0_expandTree := by decide +kernel
theorem lk_X0_expandTree_9 : Cond.fieldLink RX0 9 "MarkedNames$Expander" "row" "LMarkedNames$Row;" ∈ wsX0_expandTree := by decide +kernel
theorem in_X0_expandTree_X8 : Cond.initialized RX8 ∈ wsX0_expandTree := by decide +kernel
theorem st_X0_expandTree_X8_isName : Cond.static yX8_isName ∈ wsX0_expandTree := by decide +kernel
theorem st_X0_expandTree_X8_isNumber : Cond.static yX8_isNumber ∈ wsX0_expandTree := by decide +kernel
theorem iw_X0_expandList_X0 : ∀ w ∈ wsX00, w ∈ wsX0_expandList := by decide +kernel
theorem lk_X0_expandList_9 : Cond.fieldLink RX0 9 "MarkedNames$Expander" "row" "LMarkedNames$Row;" ∈ wsX0_expandList := by decide +kernel
theorem in_X0_expandList_X8 : Cond.initialized RX8 ∈ wsX0_expandList := by decide +kernel
theorem st_X0_expandList_X8_isName : Cond.static yX8_isName ∈ wsX0_expandList := by decide +kernel
theorem lk_X0_expandList_23 : Cond.fieldLink RX0 23 "MarkedNames$Expander" "outcome" "LMarkedNames$Outcome;" ∈ wsX0_expandList := by decide +kernel
theorem iw_X0_expandList_X2 : ∀ w ∈ wsX20, w ∈ wsX0_expandList := by decide +kernel
theorem lk_X0_expandList_19 : Cond.fieldLink RX0 19 "MarkedNames$Expander" "table" "LMarkedNames$Table;" ∈ wsX0_expandList := by decide +kernel
theorem iw_X0_expandByRules_X0 : ∀ w ∈ wsX00, w ∈ wsX0_expandByRules := by decide +kernel
theorem lk_X0_expandByRules_46 : Cond.fieldLink RX0 46 "MarkedNames$Expander" "fuel" "I" ∈ wsX0_expandByRules := by decide +kernel
theorem lk_X0_expandByRules_9 : Cond.fieldLink RX0 9 "MarkedNames$Expander" "row" "LMarkedNames$Row;" ∈ wsX0_expandByRules := by decide +kernel
theorem lk_X0_expandByRules_32 : Cond.fieldLink RX0 32 "MarkedNames$Expander" "filler" "LMarkedNames$Filler;" ∈ wsX0_expandByRules := by decide +kernel
theorem iw_X1_fill_X1 : ∀ w ∈ wsX10, w ∈ wsX1_fill := by decide +kernel
theorem lk_X1_fill_72 : Cond.fieldLink RX1 72 "MarkedNames$Filler" "pattern" "I" ∈ wsX1_fill := by decide +kernel
theorem lk_X1_fill_76 : Cond.fieldLink RX1 76 "MarkedNames$Filler" "matched" "I" ∈ wsX1_fill := by decide +kernel
theorem lk_X1_fill_79 : Cond.fieldLink RX1 79 "MarkedNames$Filler" "filled" "I" ∈ wsX1_fill := by decide +kernel
theorem lk_X1_fill_12 : Cond.fieldLink RX1 12 "MarkedNames$Filler" "rounds" "LMarkedNames$Rounds;" ∈ wsX1_fill := by decide +kernel
theorem lk_X1_fill_18 : Cond.fieldLink RX1 18 "MarkedNames$Filler" "row" "LMarkedNames$Row;" ∈ wsX1_fill := by decide +kernel
theorem mw_X1_fill__constant_RX1_45_1000000_Int32_ : Cond.constant RX1 45 (1000000 : Int32) ∈ wsX1_fill := by decide +kernel
theorem lk_X1_fill_22 : Cond.fieldLink RX1 22 "MarkedNames$Filler" "outcome" "LMarkedNames$Outcome;" ∈ wsX1_fill := by decide +kernel
theorem iw_X1_fill_X2 : ∀ w ∈ wsX20, w ∈ wsX1_fill := by decide +kernel
theorem iw_X1_fillToken_X1 : ∀ w ∈ wsX10, w ∈ wsX1_fillToken := by decide +kernel
theorem lk_X1_fillToken_18 : Cond.fieldLink RX1 18 "MarkedNames$Filler" "row" "LMarkedNames$Row;" ∈ wsX1_fillToken := by decide +kernel
theorem lk_X1_fillToken_79 : Cond.fieldLink RX1 79 "MarkedNames$Filler" "filled" "I" ∈ wsX1_fillToken := by decide +kernel
theorem in_X1_fillToken_X8 : Cond.initialized RX8 ∈ wsX1_fillToken := by decide +kernel
theorem st_X1_fillToken_X8_isTree : Cond.static yX8_isTree ∈ wsX1_fillToken := by decide +kernel
theorem iw_X5_add_X5 : ∀ w ∈ wsX50, w ∈ wsX5_add := by decide +kernel
theorem lk_X5_add_24 : Cond.fieldLink RX5 24 "MarkedNames$Row" "top" "I" ∈ wsX5_add := by decide +kernel
theorem lk_X5_add_9 : Cond.fieldLink RX5 9 "MarkedNames$Row" "word" "[I" ∈ wsX5_add := by decide +kernel
theorem lk_X5_add_15 : Cond.fieldLink RX5 15 "MarkedNames$Row" "marks" "[I" ∈ wsX5_add := by decide +kernel
theorem lk_X5_add_18 : Cond.fieldLink RX5 18 "MarkedNames$Row" "size" "[I" ∈ wsX5_add := by decide +kernel
theorem lk_X5_add_21 : Cond.fieldLink RX5 21 "MarkedNames$Row" "use" "[I" ∈ wsX5_add := by decide +kernel
theorem lk_X5_add_28 : Cond.fieldLink RX5 28 "MarkedNames$Row" "open" "I" ∈ wsX5_add := by decide +kernel
theorem lk_X1_fillToken_22 : Cond.fieldLink RX1 22 "MarkedNames$Filler" "outcome" "LMarkedNames$Outcome;" ∈ wsX1_fillToken := by decide +kernel
theorem lk_X0_expandByRules_23 : Cond.fieldLink RX0 23 "MarkedNames$Expander" "outcome" "LMarkedNames$Outcome;" ∈ wsX0_expandByRules := by decide +kernel
theorem iw_X0_expandByRules_X2 : ∀ w ∈ wsX20, w ∈ wsX0_expandByRules := by decide +kernel
theorem iw_X0_expandEach_X0 : ∀ w ∈ wsX00, w ∈ wsX0_expandEach := by decide +kernel
theorem lk_X0_expandEach_9 : Cond.fieldLink RX0 9 "MarkedNames$Expander" "row" "LMarkedNames$Row;" ∈ wsX0_expandEach := by decide +kernel
theorem lk_X0_expandEach_23 : Cond.fieldLink RX0 23 "MarkedNames$Expander" "outcome" "LMarkedNames$Outcome;" ∈ wsX0_expandEach := by decide +kernel
theorem iw_X0_expandEach_X2 : ∀ w ∈ wsX20, w ∈ wsX0_expandEach := by decide +kernel
theorem iw_X8_type_X8 : ∀ w ∈ wsX80, w ∈ wsX8_type := by decide +kernel
theorem lk_X8_type_59 : Cond.fieldLink RX8 59 "MarkedNames" "typedLength" "I" ∈ wsX8_type := by decide +kernel
theorem iw_X8_appendTyped_X8 : ∀ w ∈ wsX80, w ∈ wsX8_appendTyped := by decide +kernel
theorem lk_X8_appendTyped_59 : Cond.fieldLink RX8 59 "MarkedNames" "typedLength" "I" ∈ wsX8_appendTyped := by decide +kernel
theorem lk_X8_appendTyped_9 : Cond.fieldLink RX8 9 "MarkedNames" "typed" "[I" ∈ wsX8_appendTyped := by decide +kernel
theorem iw_X5_restart_X5 : ∀ w ∈ wsX50, w ∈ wsX5_restart := by decide +kernel
theorem lk_X5_restart_24 : Cond.fieldLink RX5 24 "MarkedNames$Row" "top" "I" ∈ wsX5_restart := by decide +kernel
theorem lk_X5_restart_28 : Cond.fieldLink RX5 28 "MarkedNames$Row" "open" "I" ∈ wsX5_restart := by decide +kernel
theorem iw_X3_isWhole_X3 : ∀ w ∈ wsX30, w ∈ wsX3_isWhole := by decide +kernel
theorem lk_X3_isWhole_20 : Cond.fieldLink RX3 20 "MarkedNames$Reader" "depth" "I" ∈ wsX3_isWhole := by decide +kernel
theorem lk_X3_isWhole_9 : Cond.fieldLink RX3 9 "MarkedNames$Reader" "row" "LMarkedNames$Row;" ∈ wsX3_isWhole := by decide +kernel
theorem iw_X3_isWhole_X5 : ∀ w ∈ wsX50, w ∈ wsX3_isWhole := by decide +kernel
theorem iw_X3_readName_X3 : ∀ w ∈ wsX30, w ∈ wsX3_readName := by decide +kernel
theorem lk_X3_readName_9 : Cond.fieldLink RX3 9 "MarkedNames$Reader" "row" "LMarkedNames$Row;" ∈ wsX3_readName := by decide +kernel
theorem iw_X3_readNumber_X3 : ∀ w ∈ wsX30, w ∈ wsX3_readNumber := by decide +kernel
theorem lk_X3_readNumber_9 : Cond.fieldLink RX3 9 "MarkedNames$Reader" "row" "LMarkedNames$Row;" ∈ wsX3_readNumber := by decide +kernel
section
variable {l : Launch} {p : Program} {e : Env} {s : State} {m : MethodId} {args : Array Value} {below : List Frame} {meth : Method} {c : Code} {A : Nat → Prop} {dC : Nat → ClassId} {dI : Nat → Nat → Nat} {cA : ClassId} {a b : Nat → Nat} {lev : Nat}
set_option maxHeartbeats 4000000 in
set_option maxRecDepth 100000 in
theorem wj_X5_add_97_ok (C : mC p s m args meth c cX5_add 3 wsX5_add RX5 none (dC, dI) vwCl [(cA, .int)] A) (hs : eA a A s) (hlev : 1 ≤ lev) {post : mS → Prop} {u : mS} (hw : wj_X5_add_97 post  u) : mV p l e (mRm lev) s m args below meth c 3 (dC, dI) vwCl A 0 0 (mQv below args s (dC, dI) vwCl [(cA, .int)] (wA cA a) A post) (wA cA a u) 97 [(0, .ref (a 2))] [] := by
  unfold wj_X5_add_97 at hw
  refine mv_aload_n C dX5_add_97 rfl 0 rfl ?_
  refine mv_dup C dX5_add_98 rfl ?_
  refine mv_get (v := .int (u.1 1)) C iw_X5_add_X5 2 rfl rfl 4 (by decide) lk_X5_add_24 rfl rfl dX5_add_99 ?_
  refine mv_topi (fun y22 ey22 => ?_)
  have hw := hw y22 ey22
  refine mv_iconst (v := (1 : Int32)) C dX5_add_102 (by decide) ?_
  refine mv_iadd C dX5_add_103 ?_
  refine mv_topi (fun y23 ey23 => ?_)
  have hw := hw y23 ey23
  refine mv_put (ty := .int) (ws1 := wA cA a (mSet u 1 y23)) C iw_X5_add_X5 tyX5 tyX5_ok nmX5 2 rfl rfl 4 (by decide) lk_X5_add_24 rfl rfl rfl rfl rfl (Nat.le_of_ble_eq_true rfl) rfl dX5_add_104 ?_
  refine mv_nm (f := wA cA a) (fun u24 eu24 => ?_)
  have hw := hw u24 eu24
  exact mv_vret C dX5_add_107 hw
set_option maxHeartbeats 4000000 in
set_option maxRecDepth 100000 in
theorem X5_add_met (hlev : 1 ≤ lev) {x1 x2 : Int32} {u : mS} {post : mS → Prop} (hw : wp_X5_add x1 x2 u post) : mKv l yX5_add wsX5_add lev (eA a) (dC, dI) vwCl [(cA, .int)] (wA cA a) [.ref (a 2), .int x1, .int x2] u post := by
  refine mKv_of (cc := cX5_add) (maxL := 3) (by decide) rfl rfl (Nat.le_of_ble_eq_true rfl) rfl ?_
  intro p e s m args below meth c A C hs
  unfold wp_X5_add at hw
  refine mv_aload_n C dX5_add_0 rfl 0 rfl ?_
  refine mv_get (v := .int (u.1 1)) C iw_X5_add_X5 2 rfl rfl 4 (by decide) lk_X5_add_24 rfl rfl dX5_add_1 ?_
  refine mv_topi (fun y1 ey1 => ?_)
  have hw := hw y1 ey1
  refine mv_if_lt (tgt := 17) C dX5_add_4 (by decide) (fun h2 => ?_) (fun h2 => ?_)
  · have hw := hw.1 h2
    exact mv_vret C dX5_add_17 hw
  · have hw := hw.2 h2
    refine mv_aload_n C dX5_add_7 rfl 0 rfl ?_
    refine mv_get (v := .int (u.1 1)) C iw_X5_add_X5 2 rfl rfl 4 (by decide) lk_X5_add_24 rfl rfl dX5_add_8 ?_
    refine mv_topi (fun y3 ey3 => ?_)
    have hw := hw y3 ey3
    refine mv_sipush (v := (3000 : Int32)) C dX5_add_11 (by decide) ?_
    refine mv_icmp_lt (tgt := 18) C dX5_add_14 (by decide) (fun h4 => ?_) (fun h4 => ?_)
    · have hw := hw.1 h4
      refine mv_aload_n C dX5_add_18 rfl 0 rfl ?_
      refine mv_get (v := .ref (a 3)) C iw_X5_add_X5 2 rfl rfl 0 (by decide) lk_X5_add_9 rfl rfl dX5_add_19 ?_
      refine mv_aload_n C dX5_add_22 rfl 0 rfl ?_
      refine mv_get (v := .int (u.1 1)) C iw_X5_add_X5 2 rfl rfl 4 (by decide) lk_X5_add_24 rfl rfl dX5_add_23 ?_
      refine mv_topi (fun y5 ey5 => ?_)
      have hw := hw y5 ey5
      refine mv_iload_n C dX5_add_26 rfl 1 rfl ?_
      refine mv_iast (f := u.2 1) (ws1 := wA cA a (mPut u 1 y5.toNatClampNeg x1)) C 3 0 rfl rfl hw.1 rfl dX5_add_27 ?_
      refine mv_nm (f := wA cA a) (fun u6 eu6 => ?_)
      have hw := hw.2 u6 eu6
      refine mv_aload_n C dX5_add_28 rfl 0 rfl ?_
      refine mv_get (v := .ref (a 4)) C iw_X5_add_X5 2 rfl rfl 1 (by decide) lk_X5_add_15 rfl rfl dX5_add_29 ?_
      refine mv_aload_n C dX5_add_32 rfl 0 rfl ?_
      refine mv_get (v := .int (u6.1 1)) C iw_X5_add_X5 2 rfl rfl 4 (by decide) lk_X5_add_24 rfl rfl dX5_add_33 ?_
      refine mv_topi (fun y7 ey7 => ?_)
      have hw := hw y7 ey7
      refine mv_iload_n C dX5_add_36 rfl 2 rfl ?_
      refine mv_iast (f := u6.2 2) (ws1 := wA cA a (mPut u6 2 y7.toNatClampNeg x2)) C 4 0 rfl rfl hw.1 rfl dX5_add_37 ?_
      refine mv_nm (f := wA cA a) (fun u8 eu8 => ?_)
      have hw := hw.2 u8 eu8
      refine mv_aload_n C dX5_add_38 rfl 0 rfl ?_
      refine mv_get (v := .ref (a 5)) C iw_X5_add_X5 2 rfl rfl 2 (by decide) lk_X5_add_18 rfl rfl dX5_add_39 ?_
      refine mv_aload_n C dX5_add_42 rfl 0 rfl ?_
      refine mv_get (v := .int (u8.1 1)) C iw_X5_add_X5 2 rfl rfl 4 (by decide) lk_X5_add_24 rfl rfl dX5_add_43 ?_
      refine mv_topi (fun y9 ey9 => ?_)
      have hw := hw y9 ey9
      refine mv_iconst (v := (1 : Int32)) C dX5_add_46 (by decide) ?_
      refine mv_iast (f := u8.2 3) (ws1 := wA cA a (mPut u8 3 y9.toNatClampNeg (1 : Int32))) C 5 0 rfl rfl hw.1 rfl dX5_add_47 ?_
      refine mv_nm (f := wA cA a) (fun u10 eu10 => ?_)
      have hw := hw.2 u10 eu10
      refine mv_aload_n C dX5_add_48 rfl 0 rfl ?_
      refine mv_get (v := .ref (a 6)) C iw_X5_add_X5 2 rfl rfl 3 (by decide) lk_X5_add_21 rfl rfl dX5_add_49 ?_
      refine mv_aload_n C dX5_add_52 rfl 0 rfl ?_
      refine mv_get (v := .int (u10.1 1)) C iw_X5_add_X5 2 rfl rfl 4 (by decide) lk_X5_add_24 rfl rfl dX5_add_53 ?_
      refine mv_topi (fun y11 ey11 => ?_)
      have hw := hw y11 ey11
      refine mv_iconst (v := (0 : Int32)) C dX5_add_56 (by decide) ?_
      refine mv_iast (f := u10.2 4) (ws1 := wA cA a (mPut u10 4 y11.toNatClampNeg (0 : Int32))) C 6 0 rfl rfl hw.1 rfl dX5_add_57 ?_
      refine mv_nm (f := wA cA a) (fun u12 eu12 => ?_)
      have hw := hw.2 u12 eu12
      refine mv_iload_n C dX5_add_58 rfl 1 rfl ?_
      refine mv_iconst (v := (-1 : Int32)) C dX5_add_59 (by decide) ?_
      refine mv_icmp_ne (tgt := 87) C dX5_add_60 (by decide) (fun h13 => ?_) (fun h13 => ?_)
      · have hw := hw.1 h13
        refine mv_iload_n C dX5_add_87 rfl 1 rfl ?_
        refine mv_bipush (v := (-2 : Int32)) C dX5_add_88 (by decide) ?_
        refine mv_icmp_ne (tgt := 97) C dX5_add_90 (by decide) (fun h14 => ?_) (fun h14 => ?_)
        · have hw := hw.1 h14
          refine mv_sub [0] rfl ?_
          exact wj_X5_add_97_ok C hs hlev hw
        · have hw := hw.2 h14
          refine mv_aload_n C dX5_add_93 rfl 0 rfl ?_
          refine mv_callVv (f := wA cA a) (As := []) (rest := []) C (eA_ok a) hs 2 rfl rfl (X5_closeBracket_met (l := l) (lev := lev - 1) (by omega) hw) (cwV 0 C.2.2.2.2.1 gX5_add_X5_closeBracket rfl rfl rfl (by decide +kernel) (mRm_le (by omega) (by decide))) rfl rfl (Nat.le_of_ble_eq_true rfl) dX5_add_94 ⟨Nat.le_refl 0, Nat.le_refl 0⟩ (fun u16 hw => ?_)
          refine mv_sub [0] rfl ?_
          exact wj_X5_add_97_ok C hs hlev hw
      · have hw := hw.2 h13
        refine mv_aload_n C dX5_add_63 rfl 0 rfl ?_
        refine mv_get (v := .ref (a 5)) C iw_X5_add_X5 2 rfl rfl 2 (by decide) lk_X5_add_18 rfl rfl dX5_add_64 ?_
        refine mv_aload_n C dX5_add_67 rfl 0 rfl ?_
        refine mv_get (v := .int (u12.1 1)) C iw_X5_add_X5 2 rfl rfl 4 (by decide) lk_X5_add_24 rfl rfl dX5_add_68 ?_
        refine mv_topi (fun y17 ey17 => ?_)
        have hw := hw y17 ey17
        refine mv_aload_n C dX5_add_71 rfl 0 rfl ?_
        refine mv_get (v := .int (u12.1 2)) C iw_X5_add_X5 2 rfl rfl 5 (by decide) lk_X5_add_28 rfl rfl dX5_add_72 ?_
        refine mv_topi (fun y18 ey18 => ?_)
        have hw := hw y18 ey18
        refine mv_iast (f := u12.2 3) (ws1 := wA cA a (mPut u12 3 y17.toNatClampNeg y18)) C 5 0 rfl rfl hw.1 rfl dX5_add_75 ?_
        refine mv_nm (f := wA cA a) (fun u19 eu19 => ?_)
        have hw := hw.2 u19 eu19
        refine mv_aload_n C dX5_add_76 rfl 0 rfl ?_
        refine mv_aload_n C dX5_add_77 rfl 0 rfl ?_
        refine mv_get (v := .int (u19.1 1)) C iw_X5_add_X5 2 rfl rfl 4 (by decide) lk_X5_add_24 rfl rfl dX5_add_78 ?_
        refine mv_topi (fun y20 ey20 => ?_)
        have hw := hw y20 ey20
        refine mv_put (ty := .int) (ws1 := wA cA a (mSet u19 2 y20)) C iw_X5_add_X5 tyX5 tyX5_ok nmX5 2 rfl rfl 5 (by decide) lk_X5_add_28 rfl rfl rfl rfl rfl (Nat.le_of_ble_eq_true rfl) rfl dX5_add_81 ?_
        refine mv_nm (f := wA cA a) (fun u21 eu21 => ?_)
        have hw := hw u21 eu21
        refine mv_goto (tgt := 97) C dX5_add_84 (by decide) ?_
        refine mv_sub [0] rfl ?_
        exact wj_X5_add_97_ok C hs hlev hw
    · have hw := hw.2 h4
      exact mv_vret C dX5_add_17 hw
set_option maxHeartbeats 4000000 in
set_option maxRecDepth 100000 in
theorem wj_X1_fillToken_79_ok (C : mC p s m args meth c cX1_fillToken 6 wsX1_fillToken RX1 none (dC, dI) vwCl [(cA, .int)] A) (hs : eA a A s) (hlev : 2 ≤ lev) {post : mS → Prop} {K47 : Int32 → Int32 → mS → Prop} (hK47 : ∀ (x4 x5 : Int32) (u : mS), K47 x4 x5 u → mV p l e (mRm lev) s m args below meth c 6 (dC, dI) vwCl A 0 0 (mQv below args s (dC, dI) vwCl [(cA, .int)] (wA cA a) A post) (wA cA a u) 47 [(0, .ref (a 17)), (4, .int x4), (5, .int x5)] []) {x4 x5 z0 z1 : Int32} {u : mS} (hw : wj_X1_fillToken_79 K47 post x4 x5 z0 z1 u) : mV p l e (mRm lev) s m args below meth c 6 (dC, dI) vwCl A 0 0 (mQv below args s (dC, dI) vwCl [(cA, .int)] (wA cA a) A post) (wA cA a u) 79 [(0, .ref (a 17)), (4, .int x4), (5, .int x5)] [.int z0, .int z1, .ref (a 17)] := by
  unfold wj_X1_fillToken_79 at hw
  refine mv_iadd C dX1_fillToken_79 ?_
  refine mv_topi (fun y17 ey17 => ?_)
  have hw := hw y17 ey17
  refine mv_put (ty := .int) (ws1 := wA cA a (mSet u 14 y17)) C iw_X1_fillToken_X1 tyX1 tyX1_ok nmX1 17 rfl rfl 5 (by decide) lk_X1_fillToken_79 rfl rfl rfl rfl rfl (Nat.le_of_ble_eq_true rfl) rfl dX1_fillToken_80 ?_
  refine mv_nm (f := wA cA a) (fun u18 eu18 => ?_)
  have hw := hw u18 eu18
  refine mv_aload_n C dX1_fillToken_83 rfl 0 rfl ?_
  refine mv_get (v := .int (u18.1 14)) C iw_X1_fillToken_X1 17 rfl rfl 5 (by decide) lk_X1_fillToken_79 rfl rfl dX1_fillToken_84 ?_
  refine mv_topi (fun y19 ey19 => ?_)
  have hw := hw y19 ey19
  refine mv_bipush (v := (100 : Int32)) C dX1_fillToken_87 (by decide) ?_
  refine mv_icmp_le (tgt := 102) C dX1_fillToken_89 (by decide) (fun h20 => ?_) (fun h20 => ?_)
  · have hw := hw.1 h20
    refine mv_aload_n C dX1_fillToken_102 rfl 0 rfl ?_
    refine mv_get (v := .ref (a 2)) C iw_X1_fillToken_X1 17 rfl rfl 0 (by decide) lk_X1_fillToken_18 rfl rfl dX1_fillToken_103 ?_
    refine mv_aload_n C dX1_fillToken_106 rfl 0 rfl ?_
    refine mv_get (v := .ref (a 2)) C iw_X1_fillToken_X1 17 rfl rfl 0 (by decide) lk_X1_fillToken_18 rfl rfl dX1_fillToken_107 ?_
    refine mv_iload C dX1_fillToken_110 2 rfl ?_
    refine mv_callVi (f := wA cA a) (As := [.int x5]) (rest := [.ref (a 2)]) C (eA_ok a) hs 2 rfl rfl (X5_wordAt_met (l := l) (lev := lev - 1) (by omega) hw) (cwV 1 C.2.2.2.2.1 gX1_fillToken_X5_wordAt rfl rfl rfl (by decide +kernel) (mRm_le (by omega) (by decide))) rfl rfl (Nat.le_of_ble_eq_true rfl) dX1_fillToken_112 ⟨Nat.le_refl 0, Nat.le_refl 0⟩ (fun r21 u22 hw => ?_)
    refine mv_aload_n C dX1_fillToken_115 rfl 0 rfl ?_
    refine mv_get (v := .ref (a 2)) C iw_X1_fillToken_X1 17 rfl rfl 0 (by decide) lk_X1_fillToken_18 rfl rfl dX1_fillToken_116 ?_
    refine mv_iload C dX1_fillToken_119 2 rfl ?_
    refine mv_callVi (f := wA cA a) (As := [.int x5]) (rest := [.int r21, .ref (a 2)]) C (eA_ok a) hs 2 rfl rfl (X5_marksAt_met (l := l) (lev := lev - 1) (by omega) hw) (cwV 1 C.2.2.2.2.1 gX1_fillToken_X5_marksAt rfl rfl rfl (by decide +kernel) (mRm_le (by omega) (by decide))) rfl rfl (Nat.le_of_ble_eq_true rfl) dX1_fillToken_121 ⟨Nat.le_refl 0, Nat.le_refl 0⟩ (fun r23 u24 hw => ?_)
    refine mv_callVv (f := wA cA a) (As := [.int r21, .int r23]) (rest := []) C (eA_ok a) hs 2 rfl rfl (X5_add_met (l := l) (lev := lev - 1) (by omega) hw) (cwV 2 C.2.2.2.2.1 gX1_fillToken_X5_add rfl rfl rfl (by decide +kernel) (mRm_le (by omega) (by decide))) rfl rfl (Nat.le_of_ble_eq_true rfl) dX1_fillToken_124 ⟨Nat.le_refl 0, Nat.le_refl 0⟩ (fun u26 hw => ?_)
    obtain ⟨y27, ey27⟩ : ∃ z : Int32, z = x5 + (1 : Int32) := ⟨_, rfl⟩
    have hw := hw y27 ey27
    refine mv_iinc (v := y27) (lv1 := [(5, .int y27), (0, .ref (a 17)), (4, .int x4)]) C dX1_fillToken_127 2 rfl (by rw [ey27]; rfl) (by decide) rfl ?_
    refine mv_goto (tgt := 47) C dX1_fillToken_130 (by decide) ?_
    refine mv_sub [1, 2, 0] rfl ?_
    exact hK47 x4 y27 u26 hw
  · have hw := hw.2 h20
    refine mv_aload_n C dX1_fillToken_92 rfl 0 rfl ?_
    refine mv_get (v := .ref (a 14)) C iw_X1_fillToken_X1 17 rfl rfl 1 (by decide) lk_X1_fillToken_22 rfl rfl dX1_fillToken_93 ?_
    refine mv_bipush (v := (6 : Int32)) C dX1_fillToken_96 (by decide) ?_
    refine mv_callVv (f := wA cA a) (As := [.int (6 : Int32)]) (rest := []) C (eA_ok a) hs 14 rfl rfl (X2_fail_met (l := l) (lev := lev - 1) (by omega) hw) (cwV 1 C.2.2.2.2.1 gX1_fillToken_X2_fail rfl rfl rfl (by decide +kernel) (mRm_le (by omega) (by decide))) rfl rfl (Nat.le_of_ble_eq_true rfl) dX1_fillToken_98 ⟨Nat.le_refl 0, Nat.le_refl 0⟩ (fun u29 hw => ?_)
    exact mv_vret C dX1_fillToken_101 hw
set_option maxHeartbeats 4000000 in
set_option maxRecDepth 100000 in
theorem wj_X1_fillToken_47_ok (C : mC p s m args meth c cX1_fillToken 6 wsX1_fillToken RX1 none (dC, dI) vwCl [(cA, .int)] A) (hs : eA a A s) (hlev : 2 ≤ lev) {post : mS → Prop} {K47 : Int32 → Int32 → mS → Prop} (hK47 : ∀ (x4 x5 : Int32) (u : mS), K47 x4 x5 u → mV p l e (mRm lev) s m args below meth c 6 (dC, dI) vwCl A 0 0 (mQv below args s (dC, dI) vwCl [(cA, .int)] (wA cA a) A post) (wA cA a u) 47 [(0, .ref (a 17)), (4, .int x4), (5, .int x5)] []) {x4 x5 : Int32} {u : mS} (hw : wj_X1_fillToken_47 K47 post x4 x5 u) : mV p l e (mRm lev) s m args below meth c 6 (dC, dI) vwCl A 0 0 (mQv below args s (dC, dI) vwCl [(cA, .int)] (wA cA a) A post) (wA cA a u) 47 [(0, .ref (a 17)), (4, .int x4), (5, .int x5)] [] := by
  unfold wj_X1_fillToken_47 at hw
  refine mv_iload C dX1_fillToken_47 2 rfl ?_
  refine mv_iload C dX1_fillToken_49 1 rfl ?_
  refine mv_icmp_ge (tgt := 133) C dX1_fillToken_51 (by decide) (fun h10 => ?_) (fun h10 => ?_)
  · have hw := hw.1 h10
    exact mv_vret C dX1_fillToken_133 hw
  · have hw := hw.2 h10
    refine mv_aload_n C dX1_fillToken_54 rfl 0 rfl ?_
    refine mv_dup C dX1_fillToken_55 rfl ?_
    refine mv_get (v := .int (u.1 14)) C iw_X1_fillToken_X1 17 rfl rfl 5 (by decide) lk_X1_fillToken_79 rfl rfl dX1_fillToken_56 ?_
    refine mv_topi (fun y11 ey11 => ?_)
    have hw := hw y11 ey11
    refine mv_aload_n C dX1_fillToken_59 rfl 0 rfl ?_
    refine mv_get (v := .ref (a 2)) C iw_X1_fillToken_X1 17 rfl rfl 0 (by decide) lk_X1_fillToken_18 rfl rfl dX1_fillToken_60 ?_
    refine mv_iload C dX1_fillToken_63 2 rfl ?_
    refine mv_callVi (f := wA cA a) (As := [.int x5]) (rest := [.int y11, .ref (a 17)]) C (eA_ok a) hs 2 rfl rfl (X5_wordAt_met (l := l) (lev := lev - 1) (by omega) hw) (cwV 1 C.2.2.2.2.1 gX1_fillToken_X5_wordAt rfl rfl rfl (by decide +kernel) (mRm_le (by omega) (by decide))) rfl rfl (Nat.le_of_ble_eq_true rfl) dX1_fillToken_65 ⟨Nat.le_refl 0, Nat.le_refl 0⟩ (fun r12 u13 hw => ?_)
    refine mv_callSNi (f := wA cA a) (As := [.int r12]) (rest := [.int y11, .ref (a 17)]) C (eA_ok a) hs (X8_isTree_met (l := l) (lev := lev - 1) (by omega) hw) ⟨va_cnB 1 C.2.2.2.2.1 ggX1_fillToken_X8_isTree rfl rfl rfl (hs.1 _ nw_22) (C.2.2.2.2.1 _ in_X1_fillToken_X8) (by decide +kernel) (mRm_le (by omega) (by decide)), C.2.2.2.2.1 _ st_X1_fillToken_X8_isTree, trivial⟩ rfl rfl (Nat.le_of_ble_eq_true rfl) dX1_fillToken_68 ⟨Nat.le_refl 0, Nat.le_refl 0⟩ (fun r14 u15 hw => ?_)
    obtain ⟨gr14, hw⟩ := hw
    refine mv_if_eq (tgt := 78) C dX1_fillToken_71 (by decide) (fun h16 => ?_) (fun h16 => ?_)
    · have hw := hw.1 h16
      refine mv_iconst (v := (0 : Int32)) C dX1_fillToken_78 (by decide) ?_
      exact wj_X1_fillToken_79_ok C hs hlev hK47 hw
    · have hw := hw.2 h16
      refine mv_iconst (v := (1 : Int32)) C dX1_fillToken_74 (by decide) ?_
      refine mv_goto (tgt := 79) C dX1_fillToken_75 (by decide) ?_
      exact wj_X1_fillToken_79_ok C hs hlev hK47 hw
set_option maxHeartbeats 4000000 in
set_option maxRecDepth 100000 in
theorem wj_X1_fillToken_42_ok (C : mC p s m args meth c cX1_fillToken 6 wsX1_fillToken RX1 none (dC, dI) vwCl [(cA, .int)] A) (hs : eA a A s) (hlev : 2 ≤ lev) {post : mS → Prop} {x3 z0 : Int32} {u : mS} (hw : wj_X1_fillToken_42 post x3 z0 u) : mV p l e (mRm lev) s m args below meth c 6 (dC, dI) vwCl A 0 0 (mQv below args s (dC, dI) vwCl [(cA, .int)] (wA cA a) A post) (wA cA a u) 42 [(0, .ref (a 17)), (3, .int x3)] [.int z0] := by
  unfold wj_X1_fillToken_42 at hw
  refine mv_istore (lv1 := [(4, .int z0), (0, .ref (a 17)), (3, .int x3)]) C dX1_fillToken_42 (by decide) rfl ?_
  refine mv_iload_n C dX1_fillToken_44 rfl 2 rfl ?_
  refine mv_istore (lv1 := [(5, .int x3), (4, .int z0), (0, .ref (a 17)), (3, .int x3)]) C dX1_fillToken_45 (by decide) rfl ?_
  refine mv_sub [2, 1, 0] rfl ?_
  obtain ⟨n, hw⟩ := hw
  exact mL3_of (fun K hK b0 b1 b2 hw => wj_X1_fillToken_47_ok C hs hlev hK hw) n z0 x3 u hw
set_option maxHeartbeats 4000000 in
set_option maxRecDepth 100000 in
theorem wj_X1_fillToken_23_ok (C : mC p s m args meth c cX1_fillToken 6 wsX1_fillToken RX1 none (dC, dI) vwCl [(cA, .int)] A) (hs : eA a A s) (hlev : 2 ≤ lev) {post : mS → Prop} {x1 x2 z0 : Int32} {u : mS} (hw : wj_X1_fillToken_23 post x1 x2 z0 u) : mV p l e (mRm lev) s m args below meth c 6 (dC, dI) vwCl A 0 0 (mQv below args s (dC, dI) vwCl [(cA, .int)] (wA cA a) A post) (wA cA a u) 23 [(0, .ref (a 17)), (1, .int x1), (2, .int x2)] [.int z0] := by
  unfold wj_X1_fillToken_23 at hw
  refine mv_istore_n (lv1 := [(3, .int z0), (0, .ref (a 17)), (1, .int x1), (2, .int x2)]) C dX1_fillToken_23 rfl (by decide) rfl ?_
  refine mv_iload_n C dX1_fillToken_24 rfl 3 rfl ?_
  refine mv_if_ge (tgt := 34) C dX1_fillToken_25 (by decide) (fun h6 => ?_) (fun h6 => ?_)
  · have hw := hw.1 h6
    refine mv_aload_n C dX1_fillToken_34 rfl 1 rfl ?_
    refine mv_get (v := .ref (a 2)) C iw_X1_fillToken_X1 17 rfl rfl 0 (by decide) lk_X1_fillToken_18 rfl rfl dX1_fillToken_35 ?_
    refine mv_iload_n C dX1_fillToken_38 rfl 0 rfl ?_
    refine mv_callVi (f := wA cA a) (As := [.int z0]) (rest := []) C (eA_ok a) hs 2 rfl rfl (X5_after_met (l := l) (lev := lev - 1) (by omega) hw) (cwV 1 C.2.2.2.2.1 gX1_fillToken_X5_after rfl rfl rfl (by decide +kernel) (mRm_le (by omega) (by decide))) rfl rfl (Nat.le_of_ble_eq_true rfl) dX1_fillToken_39 ⟨Nat.le_refl 0, Nat.le_refl 0⟩ (fun r7 u8 hw => ?_)
    refine mv_sub [1, 0] rfl ?_
    exact wj_X1_fillToken_42_ok C hs hlev hw
  · have hw := hw.2 h6
    refine mv_iload_n C dX1_fillToken_28 rfl 2 rfl ?_
    refine mv_iconst (v := (1 : Int32)) C dX1_fillToken_29 (by decide) ?_
    refine mv_iadd C dX1_fillToken_30 ?_
    refine mv_topi (fun y9 ey9 => ?_)
    have hw := hw y9 ey9
    refine mv_goto (tgt := 42) C dX1_fillToken_31 (by decide) ?_
    refine mv_sub [1, 0] rfl ?_
    exact wj_X1_fillToken_42_ok C hs hlev hw
set_option maxHeartbeats 4000000 in
set_option maxRecDepth 100000 in
theorem X1_fillToken_met (hlev : 2 ≤ lev) {x1 : Int32} {u : mS} {post : mS → Prop} (hw : wp_X1_fillToken x1 u post) : mKv l yX1_fillToken wsX1_fillToken lev (eA a) (dC, dI) vwCl [(cA, .int)] (wA cA a) [.ref (a 17), .int x1] u post := by
  refine mKv_of (cc := cX1_fillToken) (maxL := 6) (by decide) rfl rfl (Nat.le_of_ble_eq_true rfl) rfl ?_
  intro p e s m args below meth c A C hs
  unfold wp_X1_fillToken at hw
  refine mv_aload_n C dX1_fillToken_0 rfl 0 rfl ?_
  refine mv_get (v := .ref (a 2)) C iw_X1_fillToken_X1 17 rfl rfl 0 (by decide) lk_X1_fillToken_18 rfl rfl dX1_fillToken_1 ?_
  refine mv_iload_n C dX1_fillToken_4 rfl 1 rfl ?_
  refine mv_callVi (f := wA cA a) (As := [.int x1]) (rest := []) C (eA_ok a) hs 2 rfl rfl (X5_variableAt_met (l := l) (lev := lev - 1) (by omega) hw) (cwV 1 C.2.2.2.2.1 gX1_fillToken_X5_variableAt rfl rfl rfl (by decide +kernel) (mRm_le (by omega) (by decide))) rfl rfl (Nat.le_of_ble_eq_true rfl) dX1_fillToken_5 ⟨Nat.le_refl 0, Nat.le_refl 0⟩ (fun r1 u2 hw => ?_)
  refine mv_istore_n (lv1 := [(2, .int r1), (0, .ref (a 17)), (1, .int x1)]) C dX1_fillToken_8 rfl (by decide) rfl ?_
  refine mv_iload_n C dX1_fillToken_9 rfl 0 rfl ?_
  refine mv_if_ge (tgt := 17) C dX1_fillToken_10 (by decide) (fun h3 => ?_) (fun h3 => ?_)
  · have hw := hw.1 h3
    refine mv_aload_n C dX1_fillToken_17 rfl 1 rfl ?_
    refine mv_iload_n C dX1_fillToken_18 rfl 0 rfl ?_
    refine mv_iconst (v := (2 : Int32)) C dX1_fillToken_19 (by decide) ?_
    refine mv_callVi (f := wA cA a) (As := [.int r1, .int (2 : Int32)]) (rest := []) C (eA_ok a) hs 17 rfl rfl (X1_matchOf_met (l := l) (lev := lev - 1) (by omega) hw) (cwV 2 C.2.2.2.2.1 gX1_fillToken_X1_matchOf rfl rfl rfl (by decide +kernel) (mRm_le (by omega) (by decide))) rfl rfl (Nat.le_of_ble_eq_true rfl) dX1_fillToken_20 ⟨Nat.le_refl 0, Nat.le_refl 0⟩ (fun r4 u5 hw => ?_)
    refine mv_sub [1, 2, 0] rfl ?_
    exact wj_X1_fillToken_23_ok C hs hlev hw
  · have hw := hw.2 h3
    refine mv_iload_n C dX1_fillToken_13 rfl 2 rfl ?_
    refine mv_goto (tgt := 23) C dX1_fillToken_14 (by decide) ?_
    refine mv_sub [1, 2, 0] rfl ?_
    exact wj_X1_fillToken_23_ok C hs hlev hw
set_option maxHeartbeats 4000000 in
set_option maxRecDepth 100000 in
theorem wj_X1_fill_184_ok (C : mC p s m args meth c cX1_fill 8 wsX1_fill RX1 (some .int) (dC, dI) vwCl [(cA, .int)] A) (hs : eA a A s) (hlev : 3 ≤ lev) {post : Int32 → mS → Prop} {K59 : Int32 → Int32 → Int32 → Int32 → mS → Prop} (hK59 : ∀ (x3 x4 x5 x6 : Int32) (u : mS), K59 x3 x4 x5 x6 u → mV p l e (mRm lev) s m args below meth c 8 (dC, dI) vwCl A 0 0 (mQi below args s (dC, dI) vwCl [(cA, .int)] (wA cA a) A post) (wA cA a u) 59 [(0, .ref (a 17)), (3, .int x3), (4, .int x4), (5, .int x5), (6, .int x6)] []) {x3 x4 x5 x6 : Int32} {u : mS} (hw : wj_X1_fill_184 K59 post x3 x4 x5 x6 u) : mV p l e (mRm lev) s m args below meth c 8 (dC, dI) vwCl A 0 0 (mQi below args s (dC, dI) vwCl [(cA, .int)] (wA cA a) A post) (wA cA a u) 184 [(0, .ref (a 17)), (3, .int x3), (4, .int x4), (5, .int x5), (6, .int x6)] [] := by
  unfold wj_X1_fill_184 at hw
  obtain ⟨y32, ey32⟩ : ∃ z : Int32, z = x6 + (1 : Int32) := ⟨_, rfl⟩
  have hw := hw y32 ey32
  refine mv_iinc (v := y32) (lv1 := [(6, .int y32), (0, .ref (a 17)), (3, .int x3), (4, .int x4), (5, .int x5)]) C dX1_fill_184 4 rfl (by rw [ey32]; rfl) (by decide) rfl ?_
  refine mv_goto (tgt := 59) C dX1_fill_187 (by decide) ?_
  refine mv_sub [1, 2, 3, 4, 0] rfl ?_
  exact hK59 x3 x4 x5 y32 u hw
set_option maxHeartbeats 4000000 in
set_option maxRecDepth 100000 in
theorem wj_X1_fill_147_ok (C : mC p s m args meth c cX1_fill 8 wsX1_fill RX1 (some .int) (dC, dI) vwCl [(cA, .int)] A) (hs : eA a A s) (hlev : 3 ≤ lev) {post : Int32 → mS → Prop} {K59 : Int32 → Int32 → Int32 → Int32 → mS → Prop} (hK59 : ∀ (x3 x4 x5 x6 : Int32) (u : mS), K59 x3 x4 x5 x6 u → mV p l e (mRm lev) s m args below meth c 8 (dC, dI) vwCl A 0 0 (mQi below args s (dC, dI) vwCl [(cA, .int)] (wA cA a) A post) (wA cA a u) 59 [(0, .ref (a 17)), (3, .int x3), (4, .int x4), (5, .int x5), (6, .int x6)] []) {x3 x4 x5 x6 : Int32} {u : mS} (hw : wj_X1_fill_147 K59 post x3 x4 x5 x6 u) : mV p l e (mRm lev) s m args below meth c 8 (dC, dI) vwCl A 0 0 (mQi below args s (dC, dI) vwCl [(cA, .int)] (wA cA a) A post) (wA cA a u) 147 [(0, .ref (a 17)), (3, .int x3), (4, .int x4), (5, .int x5), (6, .int x6)] [] := by
  unfold wj_X1_fill_147 at hw
  refine mv_aload_n C dX1_fill_147 rfl 0 rfl ?_
  refine mv_get (v := .ref (a 2)) C iw_X1_fill_X1 17 rfl rfl 0 (by decide) lk_X1_fill_18 rfl rfl dX1_fill_148 ?_
  refine mv_iload C dX1_fill_151 2 rfl ?_
  refine mv_callVi (f := wA cA a) (As := [.int x4]) (rest := []) C (eA_ok a) hs 2 rfl rfl (X5_wordAt_met (l := l) (lev := lev - 1) (by omega) hw) (cwV 1 C.2.2.2.2.1 gX1_fill_X5_wordAt rfl rfl rfl (by decide +kernel) (mRm_le (by omega) (by decide))) rfl rfl (Nat.le_of_ble_eq_true rfl) dX1_fill_153 ⟨Nat.le_refl 0, Nat.le_refl 0⟩ (fun r33 u34 hw => ?_)
  refine mv_bipush (v := (-3 : Int32)) C dX1_fill_156 (by decide) ?_
  refine mv_icmp_ne (tgt := 175) C dX1_fill_158 (by decide) (fun h35 => ?_) (fun h35 => ?_)
  · have hw := hw.1 h35
    refine mv_aload_n C dX1_fill_175 rfl 0 rfl ?_
    refine mv_iload C dX1_fill_176 2 rfl ?_
    refine mv_callVv (f := wA cA a) (As := [.int x4]) (rest := []) C (eA_ok a) hs 17 rfl rfl (X1_fillToken_met (l := l) (lev := lev - 1) (by omega) hw) (cwV 1 C.2.2.2.2.1 gX1_fill_X1_fillToken rfl rfl rfl (by decide +kernel) (mRm_le (by omega) (by decide))) rfl rfl (Nat.le_of_ble_eq_true rfl) dX1_fill_178 ⟨Nat.le_refl 0, Nat.le_refl 0⟩ (fun u37 hw => ?_)
    obtain ⟨y38, ey38⟩ : ∃ z : Int32, z = x4 + (1 : Int32) := ⟨_, rfl⟩
    have hw := hw y38 ey38
    refine mv_iinc (v := y38) (lv1 := [(4, .int y38), (0, .ref (a 17)), (3, .int x3), (5, .int x5), (6, .int x6)]) C dX1_fill_181 2 rfl (by rw [ey38]; rfl) (by decide) rfl ?_
    refine mv_sub [1, 2, 0, 3, 4] rfl ?_
    exact wj_X1_fill_184_ok C hs hlev hK59 hw
  · have hw := hw.2 h35
    refine mv_aload_n C dX1_fill_161 rfl 0 rfl ?_
    refine mv_get (v := .ref (a 18)) C iw_X1_fill_X1 17 rfl rfl 2 (by decide) lk_X1_fill_12 rfl rfl dX1_fill_162 ?_
    refine mv_iload C dX1_fill_165 2 rfl ?_
    refine mv_callVi (f := wA cA a) (As := [.int x4]) (rest := []) C (eA_ok a) hs 18 rfl rfl (X4_leave_met (l := l) (lev := lev - 1) (by omega) hw) (cwV 1 C.2.2.2.2.1 gX1_fill_X4_leave rfl rfl rfl (by decide +kernel) (mRm_le (by omega) (by decide))) rfl rfl (Nat.le_of_ble_eq_true rfl) dX1_fill_167 ⟨Nat.le_refl 0, Nat.le_refl 0⟩ (fun r39 u40 hw => ?_)
    refine mv_istore (lv1 := [(4, .int r39), (0, .ref (a 17)), (3, .int x3), (5, .int x5), (6, .int x6)]) C dX1_fill_170 (by decide) rfl ?_
    refine mv_goto (tgt := 184) C dX1_fill_172 (by decide) ?_
    refine mv_sub [1, 2, 0, 3, 4] rfl ?_
    exact wj_X1_fill_184_ok C hs hlev hK59 hw
set_option maxHeartbeats 4000000 in
set_option maxRecDepth 100000 in
theorem wj_X1_fill_190_ok (C : mC p s m args meth c cX1_fill 8 wsX1_fill RX1 (some .int) (dC, dI) vwCl [(cA, .int)] A) (hs : eA a A s) (hlev : 3 ≤ lev) {post : Int32 → mS → Prop} {x3 : Int32} {u : mS} (hw : wj_X1_fill_190 post x3 u) : mV p l e (mRm lev) s m args below meth c 8 (dC, dI) vwCl A 0 0 (mQi below args s (dC, dI) vwCl [(cA, .int)] (wA cA a) A post) (wA cA a u) 190 [(3, .int x3)] [] := by
  unfold wj_X1_fill_190 at hw
  refine mv_iload_n C dX1_fill_190 rfl 0 rfl ?_
  exact mv_iret C dX1_fill_191 hw
set_option maxHeartbeats 4000000 in
set_option maxRecDepth 100000 in
theorem wj_X1_fill_59_ok (C : mC p s m args meth c cX1_fill 8 wsX1_fill RX1 (some .int) (dC, dI) vwCl [(cA, .int)] A) (hs : eA a A s) (hlev : 3 ≤ lev) {post : Int32 → mS → Prop} {K59 : Int32 → Int32 → Int32 → Int32 → mS → Prop} (hK59 : ∀ (x3 x4 x5 x6 : Int32) (u : mS), K59 x3 x4 x5 x6 u → mV p l e (mRm lev) s m args below meth c 8 (dC, dI) vwCl A 0 0 (mQi below args s (dC, dI) vwCl [(cA, .int)] (wA cA a) A post) (wA cA a u) 59 [(0, .ref (a 17)), (3, .int x3), (4, .int x4), (5, .int x5), (6, .int x6)] []) {x3 x4 x5 x6 : Int32} {u : mS} (hw : wj_X1_fill_59 K59 post x3 x4 x5 x6 u) : mV p l e (mRm lev) s m args below meth c 8 (dC, dI) vwCl A 0 0 (mQi below args s (dC, dI) vwCl [(cA, .int)] (wA cA a) A post) (wA cA a u) 59 [(0, .ref (a 17)), (3, .int x3), (4, .int x4), (5, .int x5), (6, .int x6)] [] := by
  unfold wj_X1_fill_59 at hw
  refine mv_iload C dX1_fill_59 4 rfl ?_
  refine mv_ldc (v := (1000000 : Int32)) C mw_X1_fill__constant_RX1_45_1000000_Int32_ dX1_fill_61 ?_
  refine mv_icmp_ge (tgt := 190) C dX1_fill_63 (by decide) (fun h14 => ?_) (fun h14 => ?_)
  · have hw := hw.1 h14
    refine mv_sub [1] rfl ?_
    exact wj_X1_fill_190_ok C hs hlev hw
  · have hw := hw.2 h14
    refine mv_iload C dX1_fill_66 2 rfl ?_
    refine mv_iload C dX1_fill_68 3 rfl ?_
    refine mv_icmp_ge (tgt := 190) C dX1_fill_70 (by decide) (fun h15 => ?_) (fun h15 => ?_)
    · have hw := hw.1 h15
      refine mv_sub [1] rfl ?_
      exact wj_X1_fill_190_ok C hs hlev hw
    · have hw := hw.2 h15
      refine mv_aload_n C dX1_fill_73 rfl 0 rfl ?_
      refine mv_get (v := .ref (a 14)) C iw_X1_fill_X1 17 rfl rfl 1 (by decide) lk_X1_fill_22 rfl rfl dX1_fill_74 ?_
      refine mv_getN (v := .int (u.1 7)) C iw_X1_fill_X2 14 rfl rfl 2 (by decide) (hs.1 _ nw_6) rfl rfl dX1_fill_77 ?_
      refine mv_topi (fun y16 ey16 => ?_)
      have hw := hw y16 ey16
      refine mv_if_ne (tgt := 190) C dX1_fill_80 (by decide) (fun h17 => ?_) (fun h17 => ?_)
      · have hw := hw.1 h17
        refine mv_sub [1] rfl ?_
        exact wj_X1_fill_190_ok C hs hlev hw
      · have hw := hw.2 h17
        refine mv_aload_n C dX1_fill_83 rfl 0 rfl ?_
        refine mv_get (v := .ref (a 2)) C iw_X1_fill_X1 17 rfl rfl 0 (by decide) lk_X1_fill_18 rfl rfl dX1_fill_84 ?_
        refine mv_iload C dX1_fill_87 2 rfl ?_
        refine mv_callVi (f := wA cA a) (As := [.int x4]) (rest := []) C (eA_ok a) hs 2 rfl rfl (X5_isHeld_met (l := l) (lev := lev - 1) (by omega) hw) (cwV 1 C.2.2.2.2.1 gX1_fill_X5_isHeld rfl rfl rfl (by decide +kernel) (mRm_le (by omega) (by decide))) rfl rfl (Nat.le_of_ble_eq_true rfl) dX1_fill_89 ⟨Nat.le_refl 0, Nat.le_refl 0⟩ (fun r18 u19 hw => ?_)
        obtain ⟨gr18, hw⟩ := hw
        refine mv_if_eq (tgt := 147) C dX1_fill_92 (by decide) (fun h20 => ?_) (fun h20 => ?_)
        · have hw := hw.1 h20
          exact wj_X1_fill_147_ok C hs hlev hK59 hw
        · have hw := hw.2 h20
          refine mv_aload_n C dX1_fill_95 rfl 0 rfl ?_
          refine mv_get (v := .ref (a 18)) C iw_X1_fill_X1 17 rfl rfl 2 (by decide) lk_X1_fill_12 rfl rfl dX1_fill_96 ?_
          refine mv_iload C dX1_fill_99 2 rfl ?_
          refine mv_callVi (f := wA cA a) (As := [.int x4]) (rest := []) C (eA_ok a) hs 18 rfl rfl (X4_isIn_met (l := l) (lev := lev - 1) (by omega) hw) (cwV 1 C.2.2.2.2.1 gX1_fill_X4_isIn rfl rfl rfl (by decide +kernel) (mRm_le (by omega) (by decide))) rfl rfl (Nat.le_of_ble_eq_true rfl) dX1_fill_101 ⟨Nat.le_refl 0, Nat.le_refl 0⟩ (fun r21 u22 hw => ?_)
          obtain ⟨gr21, hw⟩ := hw
          refine mv_if_ne (tgt := 147) C dX1_fill_104 (by decide) (fun h23 => ?_) (fun h23 => ?_)
          · have hw := hw.1 h23
            exact wj_X1_fill_147_ok C hs hlev hK59 hw
          · have hw := hw.2 h23
            refine mv_aload_n C dX1_fill_107 rfl 0 rfl ?_
            refine mv_iload C dX1_fill_108 2 rfl ?_
            refine mv_callVi (f := wA cA a) (As := [.int x4]) (rest := []) C (eA_ok a) hs 17 rfl rfl (X1_roundsFor_met (l := l) (lev := lev - 1) (by omega) hw) (cwV 1 C.2.2.2.2.1 gX1_fill_X1_roundsFor rfl rfl rfl (by decide +kernel) (mRm_le (by omega) (by decide))) rfl rfl (Nat.le_of_ble_eq_true rfl) dX1_fill_110 ⟨Nat.le_refl 0, Nat.le_refl 0⟩ (fun r24 u25 hw => ?_)
            refine mv_istore (lv1 := [(7, .int r24), (0, .ref (a 17)), (3, .int x3), (4, .int x4), (5, .int x5), (6, .int x6)]) C dX1_fill_113 (by decide) rfl ?_
            refine mv_iload C dX1_fill_115 0 rfl ?_
            refine mv_if_ne (tgt := 136) C dX1_fill_117 (by decide) (fun h26 => ?_) (fun h26 => ?_)
            · have hw := hw.1 h26
              refine mv_aload_n C dX1_fill_136 rfl 1 rfl ?_
              refine mv_get (v := .ref (a 18)) C iw_X1_fill_X1 17 rfl rfl 2 (by decide) lk_X1_fill_12 rfl rfl dX1_fill_137 ?_
              refine mv_iload C dX1_fill_140 3 rfl ?_
              refine mv_iload C dX1_fill_142 0 rfl ?_
              refine mv_callVv (f := wA cA a) (As := [.int x4, .int r24]) (rest := []) C (eA_ok a) hs 18 rfl rfl (X4_enter_met (l := l) (lev := lev - 1) (by omega) hw) (cwV 2 C.2.2.2.2.1 gX1_fill_X4_enter rfl rfl rfl (by decide +kernel) (mRm_le (by omega) (by decide))) rfl rfl (Nat.le_of_ble_eq_true rfl) dX1_fill_144 ⟨Nat.le_refl 0, Nat.le_refl 0⟩ (fun u28 hw => ?_)
              refine mv_sub [1, 2, 3, 4, 5] rfl ?_
              exact wj_X1_fill_147_ok C hs hlev hK59 hw
            · have hw := hw.2 h26
              refine mv_aload_n C dX1_fill_120 rfl 1 rfl ?_
              refine mv_get (v := .ref (a 2)) C iw_X1_fill_X1 17 rfl rfl 0 (by decide) lk_X1_fill_18 rfl rfl dX1_fill_121 ?_
              refine mv_iload C dX1_fill_124 3 rfl ?_
              refine mv_callVi (f := wA cA a) (As := [.int x4]) (rest := []) C (eA_ok a) hs 2 rfl rfl (X5_after_met (l := l) (lev := lev - 1) (by omega) hw) (cwV 1 C.2.2.2.2.1 gX1_fill_X5_after rfl rfl rfl (by decide +kernel) (mRm_le (by omega) (by decide))) rfl rfl (Nat.le_of_ble_eq_true rfl) dX1_fill_126 ⟨Nat.le_refl 0, Nat.le_refl 0⟩ (fun r29 u30 hw => ?_)
              refine mv_iconst (v := (1 : Int32)) C dX1_fill_129 (by decide) ?_
              refine mv_iadd C dX1_fill_130 ?_
              refine mv_topi (fun y31 ey31 => ?_)
              have hw := hw y31 ey31
              refine mv_istore (lv1 := [(4, .int y31), (7, .int r24), (0, .ref (a 17)), (3, .int x3), (5, .int x5), (6, .int x6)]) C dX1_fill_131 (by decide) rfl ?_
              refine mv_goto (tgt := 184) C dX1_fill_133 (by decide) ?_
              refine mv_sub [2, 3, 0, 4, 5] rfl ?_
              exact wj_X1_fill_184_ok C hs hlev hK59 hw
set_option maxHeartbeats 4000000 in
set_option maxRecDepth 100000 in
theorem X1_fill_met (hlev : 3 ≤ lev) {x1 x2 : Int32} {u : mS} {post : Int32 → mS → Prop} (hw : wp_X1_fill x1 x2 u post) : mKi l yX1_fill wsX1_fill lev (eA a) (dC, dI) vwCl [(cA, .int)] (wA cA a) [.ref (a 17), .int x1, .int x2] u post := by
  refine mKi_of (cc := cX1_fill) (maxL := 8) (by decide) rfl rfl (Nat.le_of_ble_eq_true rfl) rfl ?_
  intro p e s m args below meth c A C hs
  unfold wp_X1_fill at hw
  refine mv_aload_n C dX1_fill_0 rfl 0 rfl ?_
  refine mv_iload_n C dX1_fill_1 rfl 1 rfl ?_
  refine mv_iconst (v := (1 : Int32)) C dX1_fill_2 (by decide) ?_
  refine mv_iadd C dX1_fill_3 ?_
  refine mv_topi (fun y1 ey1 => ?_)
  have hw := hw y1 ey1
  refine mv_put (ty := .int) (ws1 := wA cA a (mSet u 12 y1)) C iw_X1_fill_X1 tyX1 tyX1_ok nmX1 17 rfl rfl 3 (by decide) lk_X1_fill_72 rfl rfl rfl rfl rfl (Nat.le_of_ble_eq_true rfl) rfl dX1_fill_4 ?_
  refine mv_nm (f := wA cA a) (fun u2 eu2 => ?_)
  have hw := hw u2 eu2
  refine mv_aload_n C dX1_fill_7 rfl 0 rfl ?_
  refine mv_iload_n C dX1_fill_8 rfl 2 rfl ?_
  refine mv_put (ty := .int) (ws1 := wA cA a (mSet u2 13 x2)) C iw_X1_fill_X1 tyX1 tyX1_ok nmX1 17 rfl rfl 4 (by decide) lk_X1_fill_76 rfl rfl rfl rfl rfl (Nat.le_of_ble_eq_true rfl) rfl dX1_fill_9 ?_
  refine mv_nm (f := wA cA a) (fun u3 eu3 => ?_)
  have hw := hw u3 eu3
  refine mv_aload_n C dX1_fill_12 rfl 0 rfl ?_
  refine mv_iconst (v := (0 : Int32)) C dX1_fill_13 (by decide) ?_
  refine mv_put (ty := .int) (ws1 := wA cA a (mSet u3 14 (0 : Int32))) C iw_X1_fill_X1 tyX1 tyX1_ok nmX1 17 rfl rfl 5 (by decide) lk_X1_fill_79 rfl rfl rfl rfl rfl (Nat.le_of_ble_eq_true rfl) rfl dX1_fill_14 ?_
  refine mv_nm (f := wA cA a) (fun u4 eu4 => ?_)
  have hw := hw u4 eu4
  refine mv_aload_n C dX1_fill_17 rfl 0 rfl ?_
  refine mv_get (v := .ref (a 18)) C iw_X1_fill_X1 17 rfl rfl 2 (by decide) lk_X1_fill_12 rfl rfl dX1_fill_18 ?_
  refine mv_callVv (f := wA cA a) (As := []) (rest := []) C (eA_ok a) hs 18 rfl rfl (X4_clear_met (l := l) (lev := lev - 1) (by omega) hw) (cwV 0 C.2.2.2.2.1 gX1_fill_X4_clear rfl rfl rfl (by decide +kernel) (mRm_le (by omega) (by decide))) rfl rfl (Nat.le_of_ble_eq_true rfl) dX1_fill_21 ⟨Nat.le_refl 0, Nat.le_refl 0⟩ (fun u6 hw => ?_)
  refine mv_aload_n C dX1_fill_24 rfl 0 rfl ?_
  refine mv_get (v := .ref (a 2)) C iw_X1_fill_X1 17 rfl rfl 0 (by decide) lk_X1_fill_18 rfl rfl dX1_fill_25 ?_
  refine mv_callVi (f := wA cA a) (As := []) (rest := []) C (eA_ok a) hs 2 rfl rfl (X5_startTree_met (l := l) (lev := lev - 1) (by omega) hw) (cwV 0 C.2.2.2.2.1 gX1_fill_X5_startTree rfl rfl rfl (by decide +kernel) (mRm_le (by omega) (by decide))) rfl rfl (Nat.le_of_ble_eq_true rfl) dX1_fill_28 ⟨Nat.le_refl 0, Nat.le_refl 0⟩ (fun r7 u8 hw => ?_)
  refine mv_istore_n (lv1 := [(3, .int r7), (0, .ref (a 17)), (1, .int x1), (2, .int x2)]) C dX1_fill_31 rfl (by decide) rfl ?_
  refine mv_aload_n C dX1_fill_32 rfl 1 rfl ?_
  refine mv_get (v := .ref (a 2)) C iw_X1_fill_X1 17 rfl rfl 0 (by decide) lk_X1_fill_18 rfl rfl dX1_fill_33 ?_
  refine mv_aload_n C dX1_fill_36 rfl 1 rfl ?_
  refine mv_get (v := .int (u8.1 12)) C iw_X1_fill_X1 17 rfl rfl 3 (by decide) lk_X1_fill_72 rfl rfl dX1_fill_37 ?_
  refine mv_topi (fun y9 ey9 => ?_)
  have hw := hw y9 ey9
  refine mv_callVi (f := wA cA a) (As := [.int y9]) (rest := []) C (eA_ok a) hs 2 rfl rfl (X5_after_met (l := l) (lev := lev - 1) (by omega) hw) (cwV 1 C.2.2.2.2.1 gX1_fill_X5_after rfl rfl rfl (by decide +kernel) (mRm_le (by omega) (by decide))) rfl rfl (Nat.le_of_ble_eq_true rfl) dX1_fill_40 ⟨Nat.le_refl 0, Nat.le_refl 0⟩ (fun r10 u11 hw => ?_)
  refine mv_istore (lv1 := [(4, .int r10), (3, .int r7), (0, .ref (a 17)), (1, .int x1), (2, .int x2)]) C dX1_fill_43 (by decide) rfl ?_
  refine mv_aload_n C dX1_fill_45 rfl 2 rfl ?_
  refine mv_get (v := .ref (a 2)) C iw_X1_fill_X1 17 rfl rfl 0 (by decide) lk_X1_fill_18 rfl rfl dX1_fill_46 ?_
  refine mv_iload C dX1_fill_49 0 rfl ?_
  refine mv_callVi (f := wA cA a) (As := [.int r10]) (rest := []) C (eA_ok a) hs 2 rfl rfl (X5_after_met (l := l) (lev := lev - 1) (by omega) hw) (cwV 1 C.2.2.2.2.1 gX1_fill_X5_after rfl rfl rfl (by decide +kernel) (mRm_le (by omega) (by decide))) rfl rfl (Nat.le_of_ble_eq_true rfl) dX1_fill_51 ⟨Nat.le_refl 0, Nat.le_refl 0⟩ (fun r12 u13 hw => ?_)
  refine mv_istore (lv1 := [(5, .int r12), (4, .int r10), (3, .int r7), (0, .ref (a 17)), (1, .int x1), (2, .int x2)]) C dX1_fill_54 (by decide) rfl ?_
  refine mv_iconst (v := (0 : Int32)) C dX1_fill_56 (by decide) ?_
  refine mv_istore (lv1 := [(6, .int (0 : Int32)), (5, .int r12), (4, .int r10), (3, .int r7), (0, .ref (a 17)), (1, .int x1), (2, .int x2)]) C dX1_fill_57 (by decide) rfl ?_
  refine mv_sub [4, 3, 2, 1, 0] rfl ?_
  obtain ⟨n, hw⟩ := hw
  exact mL5_of (fun K hK b0 b1 b2 b3 b4 hw => wj_X1_fill_59_ok C hs hlev hK hw) n r7 r10 r12 (0 : Int32) u13 hw
set_option maxHeartbeats 4000000 in
set_option maxRecDepth 100000 in
theorem X0_expandByRules_met (hlev : 5 ≤ lev) {X : Int32 → Int32 → mS → (mS → Prop) → Prop} {levX : Nat} (hlx : levX + 1 ≤ lev) (hX : ∀ (t r : Int32) (u : mS) (post : mS → Prop), X t r u post → mKv l yX0_expandTree wsX0_expandTree levX (eA a) (dC, dI) vwCl [(cA, .int)] (wA cA a) [.ref (a 16), .int t, .int r] u post) {x1 x2 x3 : Int32} {u : mS} {post : mS → Prop} (hw : wp_X0_expandByRules X x1 x2 x3 u post) : mKv l yX0_expandByRules wsX0_expandByRules lev (eA a) (dC, dI) vwCl [(cA, .int)] (wA cA a) [.ref (a 16), .int x1, .int x2, .int x3] u post := by
  refine mKv_of (cc := cX0_expandByRules) (maxL := 7) (by decide) rfl rfl (Nat.le_of_ble_eq_true rfl) rfl ?_
  intro p e s m args below meth c A C hs
  unfold wp_X0_expandByRules at hw
  refine mv_aload_n C dX0_expandByRules_0 rfl 0 rfl ?_
  refine mv_get (v := .int (u.1 11)) C iw_X0_expandByRules_X0 16 rfl rfl 8 (by decide) lk_X0_expandByRules_46 rfl rfl dX0_expandByRules_1 ?_
  refine mv_topi (fun y1 ey1 => ?_)
  have hw := hw y1 ey1
  refine mv_if_gt (tgt := 16) C dX0_expandByRules_4 (by decide) (fun h2 => ?_) (fun h2 => ?_)
  · have hw := hw.1 h2
    refine mv_aload_n C dX0_expandByRules_16 rfl 0 rfl ?_
    refine mv_dup C dX0_expandByRules_17 rfl ?_
    refine mv_get (v := .int (u.1 11)) C iw_X0_expandByRules_X0 16 rfl rfl 8 (by decide) lk_X0_expandByRules_46 rfl rfl dX0_expandByRules_18 ?_
    refine mv_topi (fun y3 ey3 => ?_)
    have hw := hw y3 ey3
    refine mv_iconst (v := (1 : Int32)) C dX0_expandByRules_21 (by decide) ?_
    refine mv_isub C dX0_expandByRules_22 ?_
    refine mv_topi (fun y4 ey4 => ?_)
    have hw := hw y4 ey4
    refine mv_put (ty := .int) (ws1 := wA cA a (mSet u 11 y4)) C iw_X0_expandByRules_X0 tyX0 tyX0_ok nmX0 16 rfl rfl 8 (by decide) lk_X0_expandByRules_46 rfl rfl rfl rfl rfl (Nat.le_of_ble_eq_true rfl) rfl dX0_expandByRules_23 ?_
    refine mv_nm (f := wA cA a) (fun u5 eu5 => ?_)
    have hw := hw u5 eu5
    refine mv_aload_n C dX0_expandByRules_26 rfl 0 rfl ?_
    refine mv_callVi (f := wA cA a) (As := []) (rest := []) C (eA_ok a) hs 16 rfl rfl (X0_newScope_met (l := l) (lev := lev - 1) (by omega) hw) (cwV 0 C.2.2.2.2.1 gX0_expandByRules_X0_newScope rfl rfl rfl (by decide +kernel) (mRm_le (by omega) (by decide))) rfl rfl (Nat.le_of_ble_eq_true rfl) dX0_expandByRules_27 ⟨Nat.le_refl 0, Nat.le_refl 0⟩ (fun r6 u7 hw => ?_)
    refine mv_istore (lv1 := [(4, .int r6), (0, .ref (a 16)), (1, .int x1), (2, .int x2), (3, .int x3)]) C dX0_expandByRules_30 (by decide) rfl ?_
    refine mv_iload C dX0_expandByRules_32 0 rfl ?_
    refine mv_if_ge (tgt := 38) C dX0_expandByRules_34 (by decide) (fun h8 => ?_) (fun h8 => ?_)
    · have hw := hw.1 h8
      refine mv_aload_n C dX0_expandByRules_38 rfl 1 rfl ?_
      refine mv_get (v := .ref (a 2)) C iw_X0_expandByRules_X0 16 rfl rfl 0 (by decide) lk_X0_expandByRules_9 rfl rfl dX0_expandByRules_39 ?_
      refine mv_iload_n C dX0_expandByRules_42 rfl 2 rfl ?_
      refine mv_iload C dX0_expandByRules_43 0 rfl ?_
      refine mv_callVv (f := wA cA a) (As := [.int x1, .int r6]) (rest := []) C (eA_ok a) hs 2 rfl rfl (X5_turnScope_met (l := l) (lev := lev - 1) (by omega) hw) (cwV 2 C.2.2.2.2.1 gX0_expandByRules_X5_turnScope rfl rfl rfl (by decide +kernel) (mRm_le (by omega) (by decide))) rfl rfl (Nat.le_of_ble_eq_true rfl) dX0_expandByRules_45 ⟨Nat.le_refl 0, Nat.le_refl 0⟩ (fun u10 hw => ?_)
      refine mv_aload_n C dX0_expandByRules_48 rfl 1 rfl ?_
      refine mv_get (v := .ref (a 17)) C iw_X0_expandByRules_X0 16 rfl rfl 4 (by decide) lk_X0_expandByRules_32 rfl rfl dX0_expandByRules_49 ?_
      refine mv_iload_n C dX0_expandByRules_52 rfl 3 rfl ?_
      refine mv_iload_n C dX0_expandByRules_53 rfl 2 rfl ?_
      refine mv_callVi (f := wA cA a) (As := [.int x2, .int x1]) (rest := []) C (eA_ok a) hs 17 rfl rfl (X1_firstRule_met (l := l) (lev := lev - 1) (by omega) hw) (cwV 2 C.2.2.2.2.1 gX0_expandByRules_X1_firstRule rfl rfl rfl (by decide +kernel) (mRm_le (by omega) (by decide))) rfl rfl (Nat.le_of_ble_eq_true rfl) dX0_expandByRules_54 ⟨Nat.le_refl 0, Nat.le_refl 0⟩ (fun r11 u12 hw => ?_)
      refine mv_istore (lv1 := [(5, .int r11), (4, .int r6), (0, .ref (a 16)), (1, .int x1), (2, .int x2), (3, .int x3)]) C dX0_expandByRules_57 (by decide) rfl ?_
      refine mv_iload C dX0_expandByRules_59 0 rfl ?_
      refine mv_if_ge (tgt := 73) C dX0_expandByRules_61 (by decide) (fun h13 => ?_) (fun h13 => ?_)
      · have hw := hw.1 h13
        refine mv_aload_n C dX0_expandByRules_73 rfl 2 rfl ?_
        refine mv_get (v := .ref (a 17)) C iw_X0_expandByRules_X0 16 rfl rfl 4 (by decide) lk_X0_expandByRules_32 rfl rfl dX0_expandByRules_74 ?_
        refine mv_iload C dX0_expandByRules_77 0 rfl ?_
        refine mv_iload_n C dX0_expandByRules_79 rfl 3 rfl ?_
        refine mv_callVi (f := wA cA a) (As := [.int r11, .int x1]) (rest := []) C (eA_ok a) hs 17 rfl rfl (X1_fill_met (l := l) (lev := lev - 1) (by omega) hw) (cwV 2 C.2.2.2.2.1 gX0_expandByRules_X1_fill rfl rfl rfl (by decide +kernel) (mRm_le (by omega) (by decide))) rfl rfl (Nat.le_of_ble_eq_true rfl) dX0_expandByRules_80 ⟨Nat.le_refl 0, Nat.le_refl 0⟩ (fun r14 u15 hw => ?_)
        refine mv_istore (lv1 := [(6, .int r14), (5, .int r11), (4, .int r6), (0, .ref (a 16)), (1, .int x1), (2, .int x2), (3, .int x3)]) C dX0_expandByRules_83 (by decide) rfl ?_
        refine mv_aload_n C dX0_expandByRules_85 rfl 3 rfl ?_
        refine mv_get (v := .ref (a 14)) C iw_X0_expandByRules_X0 16 rfl rfl 3 (by decide) lk_X0_expandByRules_23 rfl rfl dX0_expandByRules_86 ?_
        refine mv_getN (v := .int (u15.1 7)) C iw_X0_expandByRules_X2 14 rfl rfl 2 (by decide) (hs.1 _ nw_4) rfl rfl dX0_expandByRules_89 ?_
        refine mv_topi (fun y16 ey16 => ?_)
        have hw := hw y16 ey16
        refine mv_if_eq (tgt := 96) C dX0_expandByRules_92 (by decide) (fun h17 => ?_) (fun h17 => ?_)
        · have hw := hw.1 h17
          refine mv_aload_n C dX0_expandByRules_96 rfl 3 rfl ?_
          refine mv_get (v := .ref (a 2)) C iw_X0_expandByRules_X0 16 rfl rfl 0 (by decide) lk_X0_expandByRules_9 rfl rfl dX0_expandByRules_97 ?_
          refine mv_iload C dX0_expandByRules_100 0 rfl ?_
          refine mv_iload C dX0_expandByRules_102 2 rfl ?_
          refine mv_callVv (f := wA cA a) (As := [.int r14, .int r6]) (rest := []) C (eA_ok a) hs 2 rfl rfl (X5_turnScope_met (l := l) (lev := lev - 1) (by omega) hw) (cwV 2 C.2.2.2.2.1 gX0_expandByRules_X5_turnScope rfl rfl rfl (by decide +kernel) (mRm_le (by omega) (by decide))) rfl rfl (Nat.le_of_ble_eq_true rfl) dX0_expandByRules_104 ⟨Nat.le_refl 0, Nat.le_refl 0⟩ (fun u19 hw => ?_)
          refine mv_aload_n C dX0_expandByRules_107 rfl 3 rfl ?_
          refine mv_iload C dX0_expandByRules_108 0 rfl ?_
          refine mv_iload_n C dX0_expandByRules_110 rfl 6 rfl ?_
          refine mv_callVv (f := wA cA a) (As := [.int r14, .int x3]) (rest := []) C (eA_ok a) hs 16 rfl rfl (hX _ _ _ _ hw) (cwV 2 C.2.2.2.2.1 gX0_expandByRules_X0_expandTree rfl rfl rfl (by decide +kernel) (mRm_le (by omega) (by decide))) rfl rfl (Nat.le_of_ble_eq_true rfl) dX0_expandByRules_111 ⟨Nat.le_refl 0, Nat.le_refl 0⟩ (fun u20 hw => ?_)
          exact mv_vret C dX0_expandByRules_114 hw
        · have hw := hw.2 h17
          exact mv_vret C dX0_expandByRules_95 hw
      · have hw := hw.2 h13
        refine mv_aload_n C dX0_expandByRules_64 rfl 2 rfl ?_
        refine mv_get (v := .ref (a 14)) C iw_X0_expandByRules_X0 16 rfl rfl 3 (by decide) lk_X0_expandByRules_23 rfl rfl dX0_expandByRules_65 ?_
        refine mv_iconst (v := (4 : Int32)) C dX0_expandByRules_68 (by decide) ?_
        refine mv_callVv (f := wA cA a) (As := [.int (4 : Int32)]) (rest := []) C (eA_ok a) hs 14 rfl rfl (X2_fail_met (l := l) (lev := lev - 1) (by omega) hw) (cwV 1 C.2.2.2.2.1 gX0_expandByRules_X2_fail rfl rfl rfl (by decide +kernel) (mRm_le (by omega) (by decide))) rfl rfl (Nat.le_of_ble_eq_true rfl) dX0_expandByRules_69 ⟨Nat.le_refl 0, Nat.le_refl 0⟩ (fun u22 hw => ?_)
        exact mv_vret C dX0_expandByRules_72 hw
    · have hw := hw.2 h8
      exact mv_vret C dX0_expandByRules_37 hw
  · have hw := hw.2 h2
    refine mv_aload_n C dX0_expandByRules_7 rfl 0 rfl ?_
    refine mv_get (v := .ref (a 14)) C iw_X0_expandByRules_X0 16 rfl rfl 3 (by decide) lk_X0_expandByRules_23 rfl rfl dX0_expandByRules_8 ?_
    refine mv_iconst (v := (5 : Int32)) C dX0_expandByRules_11 (by decide) ?_
    refine mv_callVv (f := wA cA a) (As := [.int (5 : Int32)]) (rest := []) C (eA_ok a) hs 14 rfl rfl (X2_fail_met (l := l) (lev := lev - 1) (by omega) hw) (cwV 1 C.2.2.2.2.1 gX0_expandByRules_X2_fail rfl rfl rfl (by decide +kernel) (mRm_le (by omega) (by decide))) rfl rfl (Nat.le_of_ble_eq_true rfl) dX0_expandByRules_12 ⟨Nat.le_refl 0, Nat.le_refl 0⟩ (fun u24 hw => ?_)
    exact mv_vret C dX0_expandByRules_15 hw
set_option maxHeartbeats 4000000 in
set_option maxRecDepth 100000 in
theorem wj_X0_expandEach_58_ok (C : mC p s m args meth c cX0_expandEach 6 wsX0_expandEach RX0 none (dC, dI) vwCl [(cA, .int)] A) (hs : eA a A s) (hlev : 1 ≤ lev) {X : Int32 → Int32 → mS → (mS → Prop) → Prop} {levX : Nat} (hlx : levX + 1 ≤ lev) (hX : ∀ (t r : Int32) (u : mS) (post : mS → Prop), X t r u post → mKv l yX0_expandTree wsX0_expandTree levX (eA a) (dC, dI) vwCl [(cA, .int)] (wA cA a) [.ref (a 16), .int t, .int r] u post) {post : mS → Prop} {K28 : Int32 → Int32 → Int32 → Int32 → mS → Prop} (hK28 : ∀ (x2 x3 x4 x5 : Int32) (u : mS), K28 x2 x3 x4 x5 u → mV p l e (mRm lev) s m args below meth c 6 (dC, dI) vwCl A 0 0 (mQv below args s (dC, dI) vwCl [(cA, .int)] (wA cA a) A post) (wA cA a u) 28 [(0, .ref (a 16)), (2, .int x2), (3, .int x3), (4, .int x4), (5, .int x5)] []) {x2 x3 x4 x5 : Int32} {u : mS} (hw : wj_X0_expandEach_58 X K28 post x2 x3 x4 x5 u) : mV p l e (mRm lev) s m args below meth c 6 (dC, dI) vwCl A 0 0 (mQv below args s (dC, dI) vwCl [(cA, .int)] (wA cA a) A post) (wA cA a u) 58 [(0, .ref (a 16)), (2, .int x2), (3, .int x3), (4, .int x4), (5, .int x5)] [] := by
  unfold wj_X0_expandEach_58 at hw
  refine mv_aload_n C dX0_expandEach_58 rfl 0 rfl ?_
  refine mv_iload C dX0_expandEach_59 3 rfl ?_
  refine mv_iload_n C dX0_expandEach_61 rfl 1 rfl ?_
  refine mv_iconst (v := (1 : Int32)) C dX0_expandEach_62 (by decide) ?_
  refine mv_iadd C dX0_expandEach_63 ?_
  refine mv_topi (fun y13 ey13 => ?_)
  have hw := hw y13 ey13
  refine mv_callVv (f := wA cA a) (As := [.int x4, .int y13]) (rest := []) C (eA_ok a) hs 16 rfl rfl (hX _ _ _ _ hw) (cwV 2 C.2.2.2.2.1 gX0_expandEach_X0_expandTree rfl rfl rfl (by decide +kernel) (mRm_le (by omega) (by decide))) rfl rfl (Nat.le_of_ble_eq_true rfl) dX0_expandEach_64 ⟨Nat.le_refl 0, Nat.le_refl 0⟩ (fun u14 hw => ?_)
  refine mv_aload_n C dX0_expandEach_67 rfl 0 rfl ?_
  refine mv_get (v := .ref (a 2)) C iw_X0_expandEach_X0 16 rfl rfl 0 (by decide) lk_X0_expandEach_9 rfl rfl dX0_expandEach_68 ?_
  refine mv_iload C dX0_expandEach_71 3 rfl ?_
  refine mv_callVi (f := wA cA a) (As := [.int x4]) (rest := []) C (eA_ok a) hs 2 rfl rfl (X5_after_met (l := l) (lev := lev - 1) (by omega) hw) (cwV 1 C.2.2.2.2.1 gX0_expandEach_X5_after rfl rfl rfl (by decide +kernel) (mRm_le (by omega) (by decide))) rfl rfl (Nat.le_of_ble_eq_true rfl) dX0_expandEach_73 ⟨Nat.le_refl 0, Nat.le_refl 0⟩ (fun r15 u16 hw => ?_)
  refine mv_istore (lv1 := [(4, .int r15), (0, .ref (a 16)), (2, .int x2), (3, .int x3), (5, .int x5)]) C dX0_expandEach_76 (by decide) rfl ?_
  obtain ⟨y17, ey17⟩ : ∃ z : Int32, z = x5 + (1 : Int32) := ⟨_, rfl⟩
  have hw := hw y17 ey17
  refine mv_iinc (v := y17) (lv1 := [(5, .int y17), (4, .int r15), (0, .ref (a 16)), (2, .int x2), (3, .int x3)]) C dX0_expandEach_78 4 rfl (by rw [ey17]; rfl) (by decide) rfl ?_
  refine mv_goto (tgt := 28) C dX0_expandEach_81 (by decide) ?_
  refine mv_sub [2, 3, 4, 1, 0] rfl ?_
  exact hK28 x2 x3 r15 y17 u16 hw
set_option maxHeartbeats 4000000 in
set_option maxRecDepth 100000 in
theorem wj_X0_expandEach_84_ok (C : mC p s m args meth c cX0_expandEach 6 wsX0_expandEach RX0 none (dC, dI) vwCl [(cA, .int)] A) (hs : eA a A s) (hlev : 1 ≤ lev) {X : Int32 → Int32 → mS → (mS → Prop) → Prop} {levX : Nat} (hlx : levX + 1 ≤ lev) (hX : ∀ (t r : Int32) (u : mS) (post : mS → Prop), X t r u post → mKv l yX0_expandTree wsX0_expandTree levX (eA a) (dC, dI) vwCl [(cA, .int)] (wA cA a) [.ref (a 16), .int t, .int r] u post) {post : mS → Prop} {u : mS} (hw : wj_X0_expandEach_84 X post  u) : mV p l e (mRm lev) s m args below meth c 6 (dC, dI) vwCl A 0 0 (mQv below args s (dC, dI) vwCl [(cA, .int)] (wA cA a) A post) (wA cA a u) 84 [(0, .ref (a 16))] [] := by
  unfold wj_X0_expandEach_84 at hw
  refine mv_aload_n C dX0_expandEach_84 rfl 0 rfl ?_
  refine mv_get (v := .ref (a 14)) C iw_X0_expandEach_X0 16 rfl rfl 3 (by decide) lk_X0_expandEach_23 rfl rfl dX0_expandEach_85 ?_
  refine mv_bipush (v := (41 : Int32)) C dX0_expandEach_88 (by decide) ?_
  refine mv_callVv (f := wA cA a) (As := [.int (41 : Int32)]) (rest := []) C (eA_ok a) hs 14 rfl rfl (X2_put_met (l := l) (lev := lev - 1) (by omega) hw) (cwV 1 C.2.2.2.2.1 gX0_expandEach_X2_put rfl rfl rfl (by decide +kernel) (mRm_le (by omega) (by decide))) rfl rfl (Nat.le_of_ble_eq_true rfl) dX0_expandEach_90 ⟨Nat.le_refl 0, Nat.le_refl 0⟩ (fun u19 hw => ?_)
  exact mv_vret C dX0_expandEach_93 hw
set_option maxHeartbeats 4000000 in
set_option maxRecDepth 100000 in
theorem wj_X0_expandEach_28_ok (C : mC p s m args meth c cX0_expandEach 6 wsX0_expandEach RX0 none (dC, dI) vwCl [(cA, .int)] A) (hs : eA a A s) (hlev : 1 ≤ lev) {X : Int32 → Int32 → mS → (mS → Prop) → Prop} {levX : Nat} (hlx : levX + 1 ≤ lev) (hX : ∀ (t r : Int32) (u : mS) (post : mS → Prop), X t r u post → mKv l yX0_expandTree wsX0_expandTree levX (eA a) (dC, dI) vwCl [(cA, .int)] (wA cA a) [.ref (a 16), .int t, .int r] u post) {post : mS → Prop} {K28 : Int32 → Int32 → Int32 → Int32 → mS → Prop} (hK28 : ∀ (x2 x3 x4 x5 : Int32) (u : mS), K28 x2 x3 x4 x5 u → mV p l e (mRm lev) s m args below meth c 6 (dC, dI) vwCl A 0 0 (mQv below args s (dC, dI) vwCl [(cA, .int)] (wA cA a) A post) (wA cA a u) 28 [(0, .ref (a 16)), (2, .int x2), (3, .int x3), (4, .int x4), (5, .int x5)] []) {x2 x3 x4 x5 : Int32} {u : mS} (hw : wj_X0_expandEach_28 X K28 post x2 x3 x4 x5 u) : mV p l e (mRm lev) s m args below meth c 6 (dC, dI) vwCl A 0 0 (mQv below args s (dC, dI) vwCl [(cA, .int)] (wA cA a) A post) (wA cA a u) 28 [(0, .ref (a 16)), (2, .int x2), (3, .int x3), (4, .int x4), (5, .int x5)] [] := by
  unfold wj_X0_expandEach_28 at hw
  refine mv_iload C dX0_expandEach_28 4 rfl ?_
  refine mv_iload_n C dX0_expandEach_30 rfl 2 rfl ?_
  refine mv_icmp_ge (tgt := 84) C dX0_expandEach_31 (by decide) (fun h7 => ?_) (fun h7 => ?_)
  · have hw := hw.1 h7
    refine mv_sub [0] rfl ?_
    exact wj_X0_expandEach_84_ok C hs hlev hlx hX hw
  · have hw := hw.2 h7
    refine mv_aload_n C dX0_expandEach_34 rfl 0 rfl ?_
    refine mv_get (v := .ref (a 14)) C iw_X0_expandEach_X0 16 rfl rfl 3 (by decide) lk_X0_expandEach_23 rfl rfl dX0_expandEach_35 ?_
    refine mv_getN (v := .int (u.1 7)) C iw_X0_expandEach_X2 14 rfl rfl 2 (by decide) (hs.1 _ nw_4) rfl rfl dX0_expandEach_38 ?_
    refine mv_topi (fun y8 ey8 => ?_)
    have hw := hw y8 ey8
    refine mv_if_ne (tgt := 84) C dX0_expandEach_41 (by decide) (fun h9 => ?_) (fun h9 => ?_)
    · have hw := hw.1 h9
      refine mv_sub [0] rfl ?_
      exact wj_X0_expandEach_84_ok C hs hlev hlx hX hw
    · have hw := hw.2 h9
      refine mv_iload C dX0_expandEach_44 4 rfl ?_
      refine mv_if_le (tgt := 58) C dX0_expandEach_46 (by decide) (fun h10 => ?_) (fun h10 => ?_)
      · have hw := hw.1 h10
        exact wj_X0_expandEach_58_ok C hs hlev hlx hX hK28 hw
      · have hw := hw.2 h10
        refine mv_aload_n C dX0_expandEach_49 rfl 0 rfl ?_
        refine mv_get (v := .ref (a 14)) C iw_X0_expandEach_X0 16 rfl rfl 3 (by decide) lk_X0_expandEach_23 rfl rfl dX0_expandEach_50 ?_
        refine mv_bipush (v := (32 : Int32)) C dX0_expandEach_53 (by decide) ?_
        refine mv_callVv (f := wA cA a) (As := [.int (32 : Int32)]) (rest := []) C (eA_ok a) hs 14 rfl rfl (X2_put_met (l := l) (lev := lev - 1) (by omega) hw) (cwV 1 C.2.2.2.2.1 gX0_expandEach_X2_put rfl rfl rfl (by decide +kernel) (mRm_le (by omega) (by decide))) rfl rfl (Nat.le_of_ble_eq_true rfl) dX0_expandEach_55 ⟨Nat.le_refl 0, Nat.le_refl 0⟩ (fun u12 hw => ?_)
        exact wj_X0_expandEach_58_ok C hs hlev hlx hX hK28 hw
set_option maxHeartbeats 4000000 in
set_option maxRecDepth 100000 in
theorem X0_expandEach_met (hlev : 1 ≤ lev) {X : Int32 → Int32 → mS → (mS → Prop) → Prop} {levX : Nat} (hlx : levX + 1 ≤ lev) (hX : ∀ (t r : Int32) (u : mS) (post : mS → Prop), X t r u post → mKv l yX0_expandTree wsX0_expandTree levX (eA a) (dC, dI) vwCl [(cA, .int)] (wA cA a) [.ref (a 16), .int t, .int r] u post) {x1 x2 : Int32} {u : mS} {post : mS → Prop} (hw : wp_X0_expandEach X x1 x2 u post) : mKv l yX0_expandEach wsX0_expandEach lev (eA a) (dC, dI) vwCl [(cA, .int)] (wA cA a) [.ref (a 16), .int x1, .int x2] u post := by
  refine mKv_of (cc := cX0_expandEach) (maxL := 6) (by decide) rfl rfl (Nat.le_of_ble_eq_true rfl) rfl ?_
  intro p e s m args below meth c A C hs
  unfold wp_X0_expandEach at hw
  refine mv_aload_n C dX0_expandEach_0 rfl 0 rfl ?_
  refine mv_get (v := .ref (a 2)) C iw_X0_expandEach_X0 16 rfl rfl 0 (by decide) lk_X0_expandEach_9 rfl rfl dX0_expandEach_1 ?_
  refine mv_iload_n C dX0_expandEach_4 rfl 1 rfl ?_
  refine mv_iconst (v := (1 : Int32)) C dX0_expandEach_5 (by decide) ?_
  refine mv_iadd C dX0_expandEach_6 ?_
  refine mv_topi (fun y1 ey1 => ?_)
  have hw := hw y1 ey1
  refine mv_callVi (f := wA cA a) (As := [.int y1]) (rest := []) C (eA_ok a) hs 2 rfl rfl (X5_itemsFrom_met (l := l) (lev := lev - 1) (by omega) hw) (cwV 1 C.2.2.2.2.1 gX0_expandEach_X5_itemsFrom rfl rfl rfl (by decide +kernel) (mRm_le (by omega) (by decide))) rfl rfl (Nat.le_of_ble_eq_true rfl) dX0_expandEach_7 ⟨Nat.le_refl 0, Nat.le_refl 0⟩ (fun r2 u3 hw => ?_)
  refine mv_istore_n (lv1 := [(3, .int r2), (0, .ref (a 16)), (1, .int x1), (2, .int x2)]) C dX0_expandEach_10 rfl (by decide) rfl ?_
  refine mv_iload_n C dX0_expandEach_11 rfl 2 rfl ?_
  refine mv_iconst (v := (1 : Int32)) C dX0_expandEach_12 (by decide) ?_
  refine mv_iadd C dX0_expandEach_13 ?_
  refine mv_topi (fun y4 ey4 => ?_)
  have hw := hw y4 ey4
  refine mv_istore (lv1 := [(4, .int y4), (3, .int r2), (0, .ref (a 16)), (1, .int x1), (2, .int x2)]) C dX0_expandEach_14 (by decide) rfl ?_
  refine mv_aload_n C dX0_expandEach_16 rfl 2 rfl ?_
  refine mv_get (v := .ref (a 14)) C iw_X0_expandEach_X0 16 rfl rfl 3 (by decide) lk_X0_expandEach_23 rfl rfl dX0_expandEach_17 ?_
  refine mv_bipush (v := (40 : Int32)) C dX0_expandEach_20 (by decide) ?_
  refine mv_callVv (f := wA cA a) (As := [.int (40 : Int32)]) (rest := []) C (eA_ok a) hs 14 rfl rfl (X2_put_met (l := l) (lev := lev - 1) (by omega) hw) (cwV 1 C.2.2.2.2.1 gX0_expandEach_X2_put rfl rfl rfl (by decide +kernel) (mRm_le (by omega) (by decide))) rfl rfl (Nat.le_of_ble_eq_true rfl) dX0_expandEach_22 ⟨Nat.le_refl 0, Nat.le_refl 0⟩ (fun u6 hw => ?_)
  refine mv_iconst (v := (0 : Int32)) C dX0_expandEach_25 (by decide) ?_
  refine mv_istore (lv1 := [(5, .int (0 : Int32)), (4, .int y4), (3, .int r2), (0, .ref (a 16)), (1, .int x1), (2, .int x2)]) C dX0_expandEach_26 (by decide) rfl ?_
  refine mv_sub [3, 5, 2, 1, 0] rfl ?_
  obtain ⟨n, hw⟩ := hw
  exact mL5_of (fun K hK b0 b1 b2 b3 b4 hw => wj_X0_expandEach_28_ok C hs hlev hlx hX hK hw) n x2 r2 y4 (0 : Int32) u6 hw
set_option maxHeartbeats 4000000 in
set_option maxRecDepth 100000 in
theorem wj_X0_expandList_60_ok (C : mC p s m args meth c cX0_expandList 5 wsX0_expandList RX0 none (dC, dI) vwCl [(cA, .int)] A) (hs : eA a A s) (hlev : 6 ≤ lev) {X : Int32 → Int32 → mS → (mS → Prop) → Prop} {levX : Nat} (hlx : levX + 2 ≤ lev) (hX : ∀ (t r : Int32) (u : mS) (post : mS → Prop), X t r u post → mKv l yX0_expandTree wsX0_expandTree levX (eA a) (dC, dI) vwCl [(cA, .int)] (wA cA a) [.ref (a 16), .int t, .int r] u post) {post : mS → Prop} {x1 x2 z0 : Int32} {u : mS} (hw : wj_X0_expandList_60 X post x1 x2 z0 u) : mV p l e (mRm lev) s m args below meth c 5 (dC, dI) vwCl A 0 0 (mQv below args s (dC, dI) vwCl [(cA, .int)] (wA cA a) A post) (wA cA a u) 60 [(0, .ref (a 16)), (1, .int x1), (2, .int x2)] [.int z0] := by
  unfold wj_X0_expandList_60 at hw
  refine mv_istore (lv1 := [(4, .int z0), (0, .ref (a 16)), (1, .int x1), (2, .int x2)]) C dX0_expandList_60 (by decide) rfl ?_
  refine mv_aload_n C dX0_expandList_62 rfl 1 rfl ?_
  refine mv_get (v := .ref (a 14)) C iw_X0_expandList_X0 16 rfl rfl 3 (by decide) lk_X0_expandList_23 rfl rfl dX0_expandList_63 ?_
  refine mv_getN (v := .int (u.1 7)) C iw_X0_expandList_X2 14 rfl rfl 2 (by decide) (hs.1 _ nw_4) rfl rfl dX0_expandList_66 ?_
  refine mv_topi (fun y16 ey16 => ?_)
  have hw := hw y16 ey16
  refine mv_if_eq (tgt := 73) C dX0_expandList_69 (by decide) (fun h17 => ?_) (fun h17 => ?_)
  · have hw := hw.1 h17
    refine mv_aload_n C dX0_expandList_73 rfl 1 rfl ?_
    refine mv_get (v := .ref (a 9)) C iw_X0_expandList_X0 16 rfl rfl 2 (by decide) lk_X0_expandList_19 rfl rfl dX0_expandList_74 ?_
    refine mv_iload C dX0_expandList_77 0 rfl ?_
    refine mv_callVi (f := wA cA a) (As := [.int z0]) (rest := []) C (eA_ok a) hs 9 rfl rfl (X7_kindOf_met (l := l) (lev := lev - 1) (by omega) hw) (cwV 1 C.2.2.2.2.1 gX0_expandList_X7_kindOf rfl rfl rfl (by decide +kernel) (mRm_le (by omega) (by decide))) rfl rfl (Nat.le_of_ble_eq_true rfl) dX0_expandList_79 ⟨Nat.le_refl 0, Nat.le_refl 0⟩ (fun r18 u19 hw => ?_)
    by_cases hc82_0 : r18 = (0 : Int32)
    · have hw := hw.1 hc82_0
      refine mv_tableIn (tgt := 124) C dX0_expandList_82 (by rw [hc82_0]; decide) (by rw [hc82_0]; decide) (by rw [hc82_0]; rfl) (by decide) ?_
      refine mv_aload_n C dX0_expandList_124 rfl 1 rfl ?_
      refine mv_iload_n C dX0_expandList_125 rfl 2 rfl ?_
      refine mv_iload_n C dX0_expandList_126 rfl 3 rfl ?_
      refine mv_callVv (f := wA cA a) (As := [.int x1, .int x2]) (rest := []) C (eA_ok a) hs 16 rfl rfl (X0_expandFn_met (l := l) (lev := lev - 1) (by omega) (by omega) hX hw) (cwV 2 C.2.2.2.2.1 gX0_expandList_X0_expandFn rfl rfl rfl (by decide +kernel) (mRm_le (by omega) (by decide))) rfl rfl (Nat.le_of_ble_eq_true rfl) dX0_expandList_127 ⟨Nat.le_refl 0, Nat.le_refl 0⟩ (fun u21 hw => ?_)
      refine mv_goto (tgt := 183) C dX0_expandList_130 (by decide) ?_
      exact mv_vret C dX0_expandList_183 hw
    by_cases hc82_1 : r18 = (1 : Int32)
    · have hw := hw.2.1 hc82_1
      refine mv_tableIn (tgt := 133) C dX0_expandList_82 (by rw [hc82_1]; decide) (by rw [hc82_1]; decide) (by rw [hc82_1]; rfl) (by decide) ?_
      refine mv_aload_n C dX0_expandList_133 rfl 1 rfl ?_
      refine mv_iload_n C dX0_expandList_134 rfl 2 rfl ?_
      refine mv_iload_n C dX0_expandList_135 rfl 3 rfl ?_
      refine mv_callVv (f := wA cA a) (As := [.int x1, .int x2]) (rest := []) C (eA_ok a) hs 16 rfl rfl (X0_expandIf_met (l := l) (lev := lev - 1) (by omega) (by omega) hX hw) (cwV 2 C.2.2.2.2.1 gX0_expandList_X0_expandIf rfl rfl rfl (by decide +kernel) (mRm_le (by omega) (by decide))) rfl rfl (Nat.le_of_ble_eq_true rfl) dX0_expandList_136 ⟨Nat.le_refl 0, Nat.le_refl 0⟩ (fun u23 hw => ?_)
      refine mv_goto (tgt := 183) C dX0_expandList_139 (by decide) ?_
      exact mv_vret C dX0_expandList_183 hw
    by_cases hc82_2 : r18 = (2 : Int32)
    · have hw := hw.2.2.1 hc82_2
      refine mv_tableIn (tgt := 142) C dX0_expandList_82 (by rw [hc82_2]; decide) (by rw [hc82_2]; decide) (by rw [hc82_2]; rfl) (by decide) ?_
      refine mv_aload_n C dX0_expandList_142 rfl 1 rfl ?_
      refine mv_iload_n C dX0_expandList_143 rfl 2 rfl ?_
      refine mv_callVv (f := wA cA a) (As := [.int x1]) (rest := []) C (eA_ok a) hs 16 rfl rfl (X0_expandQ_met (l := l) (lev := lev - 1) (by omega) hw) (cwV 1 C.2.2.2.2.1 gX0_expandList_X0_expandQ rfl rfl rfl (by decide +kernel) (mRm_le (by omega) (by decide))) rfl rfl (Nat.le_of_ble_eq_true rfl) dX0_expandList_144 ⟨Nat.le_refl 0, Nat.le_refl 0⟩ (fun u25 hw => ?_)
      refine mv_goto (tgt := 183) C dX0_expandList_147 (by decide) ?_
      exact mv_vret C dX0_expandList_183 hw
    by_cases hc82_3 : r18 = (3 : Int32)
    · have hw := hw.2.2.2.1 hc82_3
      refine mv_tableIn (tgt := 150) C dX0_expandList_82 (by rw [hc82_3]; decide) (by rw [hc82_3]; decide) (by rw [hc82_3]; rfl) (by decide) ?_
      refine mv_aload_n C dX0_expandList_150 rfl 1 rfl ?_
      refine mv_iload_n C dX0_expandList_151 rfl 2 rfl ?_
      refine mv_iload_n C dX0_expandList_152 rfl 3 rfl ?_
      refine mv_callVv (f := wA cA a) (As := [.int x1, .int x2]) (rest := []) C (eA_ok a) hs 16 rfl rfl (X0_expandLs_met (l := l) (lev := lev - 1) (by omega) (by omega) hX hw) (cwV 2 C.2.2.2.2.1 gX0_expandList_X0_expandLs rfl rfl rfl (by decide +kernel) (mRm_le (by omega) (by decide))) rfl rfl (Nat.le_of_ble_eq_true rfl) dX0_expandList_153 ⟨Nat.le_refl 0, Nat.le_refl 0⟩ (fun u27 hw => ?_)
      refine mv_goto (tgt := 183) C dX0_expandList_156 (by decide) ?_
      exact mv_vret C dX0_expandList_183 hw
    by_cases hc82_4 : r18 = (6 : Int32)
    · have hw := hw.2.2.2.2.1 hc82_4
      refine mv_tableIn (tgt := 159) C dX0_expandList_82 (by rw [hc82_4]; decide) (by rw [hc82_4]; decide) (by rw [hc82_4]; rfl) (by decide) ?_
      refine mv_aload_n C dX0_expandList_159 rfl 1 rfl ?_
      refine mv_iload_n C dX0_expandList_160 rfl 2 rfl ?_
      refine mv_aload_n C dX0_expandList_161 rfl 1 rfl ?_
      refine mv_get (v := .ref (a 9)) C iw_X0_expandList_X0 16 rfl rfl 2 (by decide) lk_X0_expandList_19 rfl rfl dX0_expandList_162 ?_
      refine mv_iload C dX0_expandList_165 0 rfl ?_
      refine mv_callVi (f := wA cA a) (As := [.int z0]) (rest := [.int x1, .ref (a 16)]) C (eA_ok a) hs 9 rfl rfl (X7_valueOf_met (l := l) (lev := lev - 1) (by omega) hw) (cwV 1 C.2.2.2.2.1 gX0_expandList_X7_valueOf rfl rfl rfl (by decide +kernel) (mRm_le (by omega) (by decide))) rfl rfl (Nat.le_of_ble_eq_true rfl) dX0_expandList_167 ⟨Nat.le_refl 0, Nat.le_refl 0⟩ (fun r28 u29 hw => ?_)
      refine mv_iload_n C dX0_expandList_170 rfl 3 rfl ?_
      refine mv_callVv (f := wA cA a) (As := [.int x1, .int r28, .int x2]) (rest := []) C (eA_ok a) hs 16 rfl rfl (X0_expandByRules_met (l := l) (lev := lev - 1) (by omega) (by omega) hX hw) (cwV 3 C.2.2.2.2.1 gX0_expandList_X0_expandByRules rfl rfl rfl (by decide +kernel) (mRm_le (by omega) (by decide))) rfl rfl (Nat.le_of_ble_eq_true rfl) dX0_expandList_171 ⟨Nat.le_refl 0, Nat.le_refl 0⟩ (fun u31 hw => ?_)
      refine mv_goto (tgt := 183) C dX0_expandList_174 (by decide) ?_
      exact mv_vret C dX0_expandList_183 hw
    have hw := hw.2.2.2.2.2 hc82_0 hc82_1 hc82_2 hc82_3 hc82_4
    have hdft : mV p l e (mRm lev) s m args below meth c 5 (dC, dI) vwCl A 0 0 (mQv below args s (dC, dI) vwCl [(cA, .int)] (wA cA a) A post) (wA cA a u19) 177 [(4, .int z0), (0, .ref (a 16)), (1, .int x1), (2, .int x2)] [] := by
      refine mv_aload_n C dX0_expandList_177 rfl 1 rfl ?_
      refine mv_iload_n C dX0_expandList_178 rfl 2 rfl ?_
      refine mv_iload_n C dX0_expandList_179 rfl 3 rfl ?_
      refine mv_callVv (f := wA cA a) (As := [.int x1, .int x2]) (rest := []) C (eA_ok a) hs 16 rfl rfl (X0_expandEach_met (l := l) (lev := lev - 1) (by omega) (by omega) hX hw) (cwV 2 C.2.2.2.2.1 gX0_expandList_X0_expandEach rfl rfl rfl (by decide +kernel) (mRm_le (by omega) (by decide))) rfl rfl (Nat.le_of_ble_eq_true rfl) dX0_expandList_180 ⟨Nat.le_refl 0, Nat.le_refl 0⟩ (fun u33 hw => ?_)
      exact mv_vret C dX0_expandList_183 hw
    by_cases hc82_o4 : r18 = (4 : Int32)
    · exact mv_tableIn (tgt := 177) C dX0_expandList_82 (by rw [hc82_o4]; decide) (by rw [hc82_o4]; decide) (by rw [hc82_o4]; rfl) (by decide) hdft
    by_cases hc82_o5 : r18 = (5 : Int32)
    · exact mv_tableIn (tgt := 177) C dX0_expandList_82 (by rw [hc82_o5]; decide) (by rw [hc82_o5]; decide) (by rw [hc82_o5]; rfl) (by decide) hdft
    exact mv_tableOut (tgt := 177) C dX0_expandList_82 (by have q0 : ¬ r18.toInt = 0 := mne hc82_0; have q1 : ¬ r18.toInt = 1 := mne hc82_1; have q2 : ¬ r18.toInt = 2 := mne hc82_2; have q3 : ¬ r18.toInt = 3 := mne hc82_3; have q4 : ¬ r18.toInt = 4 := mne hc82_o4; have q5 : ¬ r18.toInt = 5 := mne hc82_o5; have q6 : ¬ r18.toInt = 6 := mne hc82_4; omega) (by decide) hdft
  · have hw := hw.2 h17
    exact mv_vret C dX0_expandList_72 hw
set_option maxHeartbeats 4000000 in
set_option maxRecDepth 100000 in
theorem X0_expandList_met (hlev : 6 ≤ lev) {X : Int32 → Int32 → mS → (mS → Prop) → Prop} {levX : Nat} (hlx : levX + 2 ≤ lev) (hX : ∀ (t r : Int32) (u : mS) (post : mS → Prop), X t r u post → mKv l yX0_expandTree wsX0_expandTree levX (eA a) (dC, dI) vwCl [(cA, .int)] (wA cA a) [.ref (a 16), .int t, .int r] u post) {x1 x2 : Int32} {u : mS} {post : mS → Prop} (hw : wp_X0_expandList X x1 x2 u post) : mKv l yX0_expandList wsX0_expandList lev (eA a) (dC, dI) vwCl [(cA, .int)] (wA cA a) [.ref (a 16), .int x1, .int x2] u post := by
  refine mKv_of (cc := cX0_expandList) (maxL := 5) (by decide) rfl rfl (Nat.le_of_ble_eq_true rfl) rfl ?_
  intro p e s m args below meth c A C hs
  unfold wp_X0_expandList at hw
  refine mv_aload_n C dX0_expandList_0 rfl 0 rfl ?_
  refine mv_get (v := .ref (a 2)) C iw_X0_expandList_X0 16 rfl rfl 0 (by decide) lk_X0_expandList_9 rfl rfl dX0_expandList_1 ?_
  refine mv_iload_n C dX0_expandList_4 rfl 1 rfl ?_
  refine mv_iconst (v := (1 : Int32)) C dX0_expandList_5 (by decide) ?_
  refine mv_iadd C dX0_expandList_6 ?_
  refine mv_topi (fun y1 ey1 => ?_)
  have hw := hw y1 ey1
  refine mv_callVi (f := wA cA a) (As := [.int y1]) (rest := []) C (eA_ok a) hs 2 rfl rfl (X5_wordAt_met (l := l) (lev := lev - 1) (by omega) hw) (cwV 1 C.2.2.2.2.1 gX0_expandList_X5_wordAt rfl rfl rfl (by decide +kernel) (mRm_le (by omega) (by decide))) rfl rfl (Nat.le_of_ble_eq_true rfl) dX0_expandList_7 ⟨Nat.le_refl 0, Nat.le_refl 0⟩ (fun r2 u3 hw => ?_)
  refine mv_istore_n (lv1 := [(3, .int r2), (0, .ref (a 16)), (1, .int x1), (2, .int x2)]) C dX0_expandList_10 rfl (by decide) rfl ?_
  refine mv_iload_n C dX0_expandList_11 rfl 3 rfl ?_
  refine mv_bipush (v := (9 : Int32)) C dX0_expandList_12 (by decide) ?_
  refine mv_icmp_le (tgt := 27) C dX0_expandList_14 (by decide) (fun h4 => ?_) (fun h4 => ?_)
  · have hw := hw.1 h4
    refine mv_iload_n C dX0_expandList_27 rfl 0 rfl ?_
    refine mv_bipush (v := (-2 : Int32)) C dX0_expandList_28 (by decide) ?_
    refine mv_icmp_ne (tgt := 42) C dX0_expandList_30 (by decide) (fun h5 => ?_) (fun h5 => ?_)
    · have hw := hw.1 h5
      refine mv_iload_n C dX0_expandList_42 rfl 0 rfl ?_
      refine mv_callSNi (f := wA cA a) (As := [.int r2]) (rest := []) C (eA_ok a) hs (X8_isName_met (l := l) (lev := lev - 1) (by omega) hw) ⟨va_cnB 1 C.2.2.2.2.1 ggX0_expandList_X8_isName rfl rfl rfl (hs.1 _ nw_17) (C.2.2.2.2.1 _ in_X0_expandList_X8) (by decide +kernel) (mRm_le (by omega) (by decide)), C.2.2.2.2.1 _ st_X0_expandList_X8_isName, trivial⟩ rfl rfl (Nat.le_of_ble_eq_true rfl) dX0_expandList_43 ⟨Nat.le_refl 0, Nat.le_refl 0⟩ (fun r6 u7 hw => ?_)
      obtain ⟨gr6, hw⟩ := hw
      refine mv_if_eq (tgt := 59) C dX0_expandList_46 (by decide) (fun h8 => ?_) (fun h8 => ?_)
      · have hw := hw.1 h8
        refine mv_iconst (v := (-1 : Int32)) C dX0_expandList_59 (by decide) ?_
        refine mv_sub [1, 2, 3] rfl ?_
        exact wj_X0_expandList_60_ok C hs hlev hlx hX hw
      · have hw := hw.2 h8
        refine mv_aload_n C dX0_expandList_49 rfl 1 rfl ?_
        refine mv_iload_n C dX0_expandList_50 rfl 2 rfl ?_
        refine mv_iconst (v := (1 : Int32)) C dX0_expandList_51 (by decide) ?_
        refine mv_iadd C dX0_expandList_52 ?_
        refine mv_topi (fun y9 ey9 => ?_)
        have hw := hw y9 ey9
        refine mv_callVi (f := wA cA a) (As := [.int y9]) (rest := []) C (eA_ok a) hs 16 rfl rfl (X0_meaningOf_met (l := l) (lev := lev - 1) (by omega) hw) (cwV 1 C.2.2.2.2.1 gX0_expandList_X0_meaningOf rfl rfl rfl (by decide +kernel) (mRm_le (by omega) (by decide))) rfl rfl (Nat.le_of_ble_eq_true rfl) dX0_expandList_53 ⟨Nat.le_refl 0, Nat.le_refl 0⟩ (fun r10 u11 hw => ?_)
        refine mv_goto (tgt := 60) C dX0_expandList_56 (by decide) ?_
        refine mv_sub [1, 2, 3] rfl ?_
        exact wj_X0_expandList_60_ok C hs hlev hlx hX hw
    · have hw := hw.2 h5
      refine mv_aload_n C dX0_expandList_33 rfl 1 rfl ?_
      refine mv_get (v := .ref (a 14)) C iw_X0_expandList_X0 16 rfl rfl 3 (by decide) lk_X0_expandList_23 rfl rfl dX0_expandList_34 ?_
      refine mv_iconst (v := (3 : Int32)) C dX0_expandList_37 (by decide) ?_
      refine mv_callVv (f := wA cA a) (As := [.int (3 : Int32)]) (rest := []) C (eA_ok a) hs 14 rfl rfl (X2_fail_met (l := l) (lev := lev - 1) (by omega) hw) (cwV 1 C.2.2.2.2.1 gX0_expandList_X2_fail rfl rfl rfl (by decide +kernel) (mRm_le (by omega) (by decide))) rfl rfl (Nat.le_of_ble_eq_true rfl) dX0_expandList_38 ⟨Nat.le_refl 0, Nat.le_refl 0⟩ (fun u13 hw => ?_)
      exact mv_vret C dX0_expandList_41 hw
  · have hw := hw.2 h4
    refine mv_aload_n C dX0_expandList_17 rfl 1 rfl ?_
    refine mv_get (v := .ref (a 14)) C iw_X0_expandList_X0 16 rfl rfl 3 (by decide) lk_X0_expandList_23 rfl rfl dX0_expandList_18 ?_
    refine mv_bipush (v := (6 : Int32)) C dX0_expandList_21 (by decide) ?_
    refine mv_callVv (f := wA cA a) (As := [.int (6 : Int32)]) (rest := []) C (eA_ok a) hs 14 rfl rfl (X2_fail_met (l := l) (lev := lev - 1) (by omega) hw) (cwV 1 C.2.2.2.2.1 gX0_expandList_X2_fail rfl rfl rfl (by decide +kernel) (mRm_le (by omega) (by decide))) rfl rfl (Nat.le_of_ble_eq_true rfl) dX0_expandList_23 ⟨Nat.le_refl 0, Nat.le_refl 0⟩ (fun u15 hw => ?_)
    exact mv_vret C dX0_expandList_26 hw
set_option maxHeartbeats 4000000 in
set_option maxRecDepth 100000 in
theorem X0_expandTree_met (hlev : 7 ≤ lev) {X : Int32 → Int32 → mS → (mS → Prop) → Prop} {levX : Nat} (hlx : levX + 3 ≤ lev) (hX : ∀ (t r : Int32) (u : mS) (post : mS → Prop), X t r u post → mKv l yX0_expandTree wsX0_expandTree levX (eA a) (dC, dI) vwCl [(cA, .int)] (wA cA a) [.ref (a 16), .int t, .int r] u post) {x1 x2 : Int32} {u : mS} {post : mS → Prop} (hw : wp_X0_expandTree X x1 x2 u post) : mKv l yX0_expandTree wsX0_expandTree lev (eA a) (dC, dI) vwCl [(cA, .int)] (wA cA a) [.ref (a 16), .int x1, .int x2] u post := by
  refine mKv_of (cc := cX0_expandTree) (maxL := 4) (by decide) rfl rfl (Nat.le_of_ble_eq_true rfl) rfl ?_
  intro p e s m args below meth c A C hs
  unfold wp_X0_expandTree at hw
  refine mv_aload_n C dX0_expandTree_0 rfl 0 rfl ?_
  refine mv_get (v := .ref (a 14)) C iw_X0_expandTree_X0 16 rfl rfl 3 (by decide) lk_X0_expandTree_23 rfl rfl dX0_expandTree_1 ?_
  refine mv_getN (v := .int (u.1 7)) C iw_X0_expandTree_X2 14 rfl rfl 2 (by decide) (hs.1 _ nw_4) rfl rfl dX0_expandTree_4 ?_
  refine mv_topi (fun y1 ey1 => ?_)
  have hw := hw y1 ey1
  refine mv_if_eq (tgt := 11) C dX0_expandTree_7 (by decide) (fun h2 => ?_) (fun h2 => ?_)
  · have hw := hw.1 h2
    refine mv_aload_n C dX0_expandTree_11 rfl 0 rfl ?_
    refine mv_get (v := .ref (a 2)) C iw_X0_expandTree_X0 16 rfl rfl 0 (by decide) lk_X0_expandTree_9 rfl rfl dX0_expandTree_12 ?_
    refine mv_iload_n C dX0_expandTree_15 rfl 1 rfl ?_
    refine mv_callVi (f := wA cA a) (As := [.int x1]) (rest := []) C (eA_ok a) hs 2 rfl rfl (X5_wordAt_met (l := l) (lev := lev - 1) (by omega) hw) (cwV 1 C.2.2.2.2.1 gX0_expandTree_X5_wordAt rfl rfl rfl (by decide +kernel) (mRm_le (by omega) (by decide))) rfl rfl (Nat.le_of_ble_eq_true rfl) dX0_expandTree_16 ⟨Nat.le_refl 0, Nat.le_refl 0⟩ (fun r3 u4 hw => ?_)
    refine mv_istore_n (lv1 := [(3, .int r3), (0, .ref (a 16)), (1, .int x1), (2, .int x2)]) C dX0_expandTree_19 rfl (by decide) rfl ?_
    refine mv_iload_n C dX0_expandTree_20 rfl 0 rfl ?_
    refine mv_iconst (v := (-1 : Int32)) C dX0_expandTree_21 (by decide) ?_
    refine mv_icmp_ne (tgt := 34) C dX0_expandTree_22 (by decide) (fun h5 => ?_) (fun h5 => ?_)
    · have hw := hw.1 h5
      refine mv_iload_n C dX0_expandTree_34 rfl 0 rfl ?_
      refine mv_callSNi (f := wA cA a) (As := [.int r3]) (rest := []) C (eA_ok a) hs (X8_isName_met (l := l) (lev := lev - 1) (by omega) hw) ⟨va_cnB 1 C.2.2.2.2.1 ggX0_expandTree_X8_isName rfl rfl rfl (hs.1 _ nw_17) (C.2.2.2.2.1 _ in_X0_expandTree_X8) (by decide +kernel) (mRm_le (by omega) (by decide)), C.2.2.2.2.1 _ st_X0_expandTree_X8_isName, trivial⟩ rfl rfl (Nat.le_of_ble_eq_true rfl) dX0_expandTree_35 ⟨Nat.le_refl 0, Nat.le_refl 0⟩ (fun r6 u7 hw => ?_)
      obtain ⟨gr6, hw⟩ := hw
      refine mv_if_eq (tgt := 49) C dX0_expandTree_38 (by decide) (fun h8 => ?_) (fun h8 => ?_)
      · have hw := hw.1 h8
        refine mv_iload_n C dX0_expandTree_49 rfl 0 rfl ?_
        refine mv_callSNi (f := wA cA a) (As := [.int r3]) (rest := []) C (eA_ok a) hs (X8_isNumber_met (l := l) (lev := lev - 1) (by omega) hw) ⟨va_cnB 1 C.2.2.2.2.1 ggX0_expandTree_X8_isNumber rfl rfl rfl (hs.1 _ nw_23) (C.2.2.2.2.1 _ in_X0_expandTree_X8) (by decide +kernel) (mRm_le (by omega) (by decide)), C.2.2.2.2.1 _ st_X0_expandTree_X8_isNumber, trivial⟩ rfl rfl (Nat.le_of_ble_eq_true rfl) dX0_expandTree_50 ⟨Nat.le_refl 0, Nat.le_refl 0⟩ (fun r9 u10 hw => ?_)
        obtain ⟨gr9, hw⟩ := hw
        refine mv_if_eq (tgt := 67) C dX0_expandTree_53 (by decide) (fun h11 => ?_) (fun h11 => ?_)
        · have hw := hw.1 h11
          refine mv_aload_n C dX0_expandTree_67 rfl 1 rfl ?_
          refine mv_get (v := .ref (a 14)) C iw_X0_expandTree_X0 16 rfl rfl 3 (by decide) lk_X0_expandTree_23 rfl rfl dX0_expandTree_68 ?_
          refine mv_iconst (v := (3 : Int32)) C dX0_expandTree_71 (by decide) ?_
          refine mv_callVv (f := wA cA a) (As := [.int (3 : Int32)]) (rest := []) C (eA_ok a) hs 14 rfl rfl (X2_fail_met (l := l) (lev := lev - 1) (by omega) hw) (cwV 1 C.2.2.2.2.1 gX0_expandTree_X2_fail rfl rfl rfl (by decide +kernel) (mRm_le (by omega) (by decide))) rfl rfl (Nat.le_of_ble_eq_true rfl) dX0_expandTree_72 ⟨Nat.le_refl 0, Nat.le_refl 0⟩ (fun u13 hw => ?_)
          exact mv_vret C dX0_expandTree_75 hw
        · have hw := hw.2 h11
          refine mv_aload_n C dX0_expandTree_56 rfl 1 rfl ?_
          refine mv_get (v := .ref (a 14)) C iw_X0_expandTree_X0 16 rfl rfl 3 (by decide) lk_X0_expandTree_23 rfl rfl dX0_expandTree_57 ?_
          refine mv_iload_n C dX0_expandTree_60 rfl 0 rfl ?_
          refine mv_callVv (f := wA cA a) (As := [.int r3]) (rest := []) C (eA_ok a) hs 14 rfl rfl (X2_putNumber_met (l := l) (lev := lev - 1) (by omega) hw) (cwV 1 C.2.2.2.2.1 gX0_expandTree_X2_putNumber rfl rfl rfl (by decide +kernel) (mRm_le (by omega) (by decide))) rfl rfl (Nat.le_of_ble_eq_true rfl) dX0_expandTree_61 ⟨Nat.le_refl 0, Nat.le_refl 0⟩ (fun u15 hw => ?_)
          refine mv_goto (tgt := 75) C dX0_expandTree_64 (by decide) ?_
          exact mv_vret C dX0_expandTree_75 hw
      · have hw := hw.2 h8
        refine mv_aload_n C dX0_expandTree_41 rfl 1 rfl ?_
        refine mv_iload_n C dX0_expandTree_42 rfl 2 rfl ?_
        refine mv_callVv (f := wA cA a) (As := [.int x1]) (rest := []) C (eA_ok a) hs 16 rfl rfl (X0_expandName_met (l := l) (lev := lev - 1) (by omega) hw) (cwV 1 C.2.2.2.2.1 gX0_expandTree_X0_expandName rfl rfl rfl (by decide +kernel) (mRm_le (by omega) (by decide))) rfl rfl (Nat.le_of_ble_eq_true rfl) dX0_expandTree_43 ⟨Nat.le_refl 0, Nat.le_refl 0⟩ (fun u17 hw => ?_)
        refine mv_goto (tgt := 75) C dX0_expandTree_46 (by decide) ?_
        exact mv_vret C dX0_expandTree_75 hw
    · have hw := hw.2 h5
      refine mv_aload_n C dX0_expandTree_25 rfl 1 rfl ?_
      refine mv_iload_n C dX0_expandTree_26 rfl 2 rfl ?_
      refine mv_iload_n C dX0_expandTree_27 rfl 3 rfl ?_
      refine mv_callVv (f := wA cA a) (As := [.int x1, .int x2]) (rest := []) C (eA_ok a) hs 16 rfl rfl (X0_expandList_met (l := l) (lev := lev - 1) (by omega) (by omega) hX hw) (cwV 2 C.2.2.2.2.1 gX0_expandTree_X0_expandList rfl rfl rfl (by decide +kernel) (mRm_le (by omega) (by decide))) rfl rfl (Nat.le_of_ble_eq_true rfl) dX0_expandTree_28 ⟨Nat.le_refl 0, Nat.le_refl 0⟩ (fun u19 hw => ?_)
      refine mv_goto (tgt := 75) C dX0_expandTree_31 (by decide) ?_
      exact mv_vret C dX0_expandTree_75 hw
  · have hw := hw.2 h2
    exact mv_vret C dX0_expandTree_10 hw
set_option maxHeartbeats 4000000 in
set_option maxRecDepth 100000 in
theorem wpT_met : ∀ (d lev : Nat), 7 + 3 * d ≤ lev → ∀ {t r : Int32} {u : mS} {post : mS → Prop}, wpT d t r u post → mKv l yX0_expandTree wsX0_expandTree lev (eA a) (dC, dI) vwCl [(cA, .int)] (wA cA a) [.ref (a 16), .int t, .int r] u post := by
  intro d
  induction d with
  | zero => intro lev _ t r u post hw; exact hw.elim
  | succ d ih => intro lev hlev t r u post hw; exact X0_expandTree_met (by omega) (levX := lev - 3) (by omega) (fun t r u post h => ih (lev - 3) (by omega) h) hw
set_option maxHeartbeats 4000000 in
set_option maxRecDepth 100000 in
theorem X8_appendTyped_met (hlev : 0 ≤ lev) {x1 : Int32} {u : mS} {post : mS → Prop} (hw : wp_X8_appendTyped x1 u post) : mKv l yX8_appendTyped wsX8_appendTyped lev (eA a) (dC, dI) vwCl [(cA, .int)] (wA cA a) [.ref (a 0), .int x1] u post := by
  refine mKv_of (cc := cX8_appendTyped) (maxL := 2) (by decide) rfl rfl (Nat.le_of_ble_eq_true rfl) rfl ?_
  intro p e s m args below meth c A C hs
  unfold wp_X8_appendTyped at hw
  refine mv_aload_n C dX8_appendTyped_0 rfl 0 rfl ?_
  refine mv_get (v := .int (u.1 0)) C iw_X8_appendTyped_X8 0 rfl rfl 1 (by decide) lk_X8_appendTyped_59 rfl rfl dX8_appendTyped_1 ?_
  refine mv_topi (fun y1 ey1 => ?_)
  have hw := hw y1 ey1
  refine mv_if_lt (tgt := 39) C dX8_appendTyped_4 (by decide) (fun h2 => ?_) (fun h2 => ?_)
  · have hw := hw.1 h2
    exact mv_vret C dX8_appendTyped_39 hw
  · have hw := hw.2 h2
    refine mv_aload_n C dX8_appendTyped_7 rfl 0 rfl ?_
    refine mv_get (v := .int (u.1 0)) C iw_X8_appendTyped_X8 0 rfl rfl 1 (by decide) lk_X8_appendTyped_59 rfl rfl dX8_appendTyped_8 ?_
    refine mv_topi (fun y3 ey3 => ?_)
    have hw := hw y3 ey3
    refine mv_aload_n C dX8_appendTyped_11 rfl 0 rfl ?_
    refine mv_get (v := .ref (a 1)) C iw_X8_appendTyped_X8 0 rfl rfl 0 (by decide) lk_X8_appendTyped_9 rfl rfl dX8_appendTyped_12 ?_
    refine mv_alen (v := (120 : Int32)) C 1 0 rfl rfl (by decide) dX8_appendTyped_15 ?_
    refine mv_icmp_ge (tgt := 39) C dX8_appendTyped_16 (by decide) (fun h4 => ?_) (fun h4 => ?_)
    · have hw := hw.1 h4
      exact mv_vret C dX8_appendTyped_39 hw
    · have hw := hw.2 h4
      refine mv_aload_n C dX8_appendTyped_19 rfl 0 rfl ?_
      refine mv_get (v := .ref (a 1)) C iw_X8_appendTyped_X8 0 rfl rfl 0 (by decide) lk_X8_appendTyped_9 rfl rfl dX8_appendTyped_20 ?_
      refine mv_aload_n C dX8_appendTyped_23 rfl 0 rfl ?_
      refine mv_get (v := .int (u.1 0)) C iw_X8_appendTyped_X8 0 rfl rfl 1 (by decide) lk_X8_appendTyped_59 rfl rfl dX8_appendTyped_24 ?_
      refine mv_topi (fun y5 ey5 => ?_)
      have hw := hw y5 ey5
      refine mv_iload_n C dX8_appendTyped_27 rfl 1 rfl ?_
      refine mv_iast (f := u.2 0) (ws1 := wA cA a (mPut u 0 y5.toNatClampNeg x1)) C 1 0 rfl rfl hw.1 rfl dX8_appendTyped_28 ?_
      refine mv_nm (f := wA cA a) (fun u6 eu6 => ?_)
      have hw := hw.2 u6 eu6
      refine mv_aload_n C dX8_appendTyped_29 rfl 0 rfl ?_
      refine mv_dup C dX8_appendTyped_30 rfl ?_
      refine mv_get (v := .int (u6.1 0)) C iw_X8_appendTyped_X8 0 rfl rfl 1 (by decide) lk_X8_appendTyped_59 rfl rfl dX8_appendTyped_31 ?_
      refine mv_topi (fun y7 ey7 => ?_)
      have hw := hw y7 ey7
      refine mv_iconst (v := (1 : Int32)) C dX8_appendTyped_34 (by decide) ?_
      refine mv_iadd C dX8_appendTyped_35 ?_
      refine mv_topi (fun y8 ey8 => ?_)
      have hw := hw y8 ey8
      refine mv_put (ty := .int) (ws1 := wA cA a (mSet u6 0 y8)) C iw_X8_appendTyped_X8 tyX8 tyX8_ok nmX8 0 rfl rfl 1 (by decide) lk_X8_appendTyped_59 rfl rfl rfl rfl rfl (Nat.le_of_ble_eq_true rfl) rfl dX8_appendTyped_36 ?_
      refine mv_nm (f := wA cA a) (fun u9 eu9 => ?_)
      have hw := hw u9 eu9
      exact mv_vret C dX8_appendTyped_39 hw
set_option maxHeartbeats 4000000 in
set_option maxRecDepth 100000 in
theorem wj_X8_type_68_ok (C : mC p s m args meth c cX8_type 5 wsX8_type RX8 (some .boolean) (dC, dI) vwCl [(cA, .int)] A) (hs : eA a A s) (hlev : 1 ≤ lev) {post : Int32 → mS → Prop} {K68 : Int32 → Int32 → mS → Prop} (hK68 : ∀ (x1 x3 : Int32) (u : mS), K68 x1 x3 u → mV p l e (mRm lev) s m args below meth c 5 (dC, dI) vwCl A 0 0 (mQi below args s (dC, dI) vwCl [(cA, .int)] (wA cA a) A (fun r w => (r = 0 ∨ r = 1) ∧ post r w)) (wA cA a u) 68 [(0, .ref (a 0)), (1, .int x1), (3, .int x3)] []) {x1 x3 : Int32} {u : mS} (hw : wj_X8_type_68 K68 post x1 x3 u) : mV p l e (mRm lev) s m args below meth c 5 (dC, dI) vwCl A 0 0 (mQi below args s (dC, dI) vwCl [(cA, .int)] (wA cA a) A (fun r w => (r = 0 ∨ r = 1) ∧ post r w)) (wA cA a u) 68 [(0, .ref (a 0)), (1, .int x1), (3, .int x3)] [] := by
  unfold wj_X8_type_68 at hw
  refine mv_iload_n C dX8_type_68 rfl 2 rfl ?_
  refine mv_if_lt (tgt := 92) C dX8_type_69 (by decide) (fun h14 => ?_) (fun h14 => ?_)
  · have hw := hw.1 h14
    refine mv_iconst (v := (1 : Int32)) C dX8_type_92 (by decide) ?_
    exact mv_zret C dX8_type_93 (Or.inr rfl) hw
  · have hw := hw.2 h14
    refine mv_aload_n C dX8_type_72 rfl 0 rfl ?_
    refine mv_iload_n C dX8_type_73 rfl 1 rfl ?_
    refine mv_bipush (v := (8 : Int32)) C dX8_type_74 (by decide) ?_
    refine mv_iload_n C dX8_type_76 rfl 2 rfl ?_
    refine mv_imul C dX8_type_77 ?_
    refine mv_topi (fun y15 ey15 => ?_)
    have hw := hw y15 ey15
    refine mv_ishr C dX8_type_78 ?_
    refine mv_topi (fun y16 ey16 => ?_)
    have hw := hw y16 ey16
    refine mv_sipush (v := (255 : Int32)) C dX8_type_79 (by decide) ?_
    refine mv_iand C dX8_type_82 ?_
    refine mv_topi (fun y17 ey17 => ?_)
    have hw := hw y17 ey17
    refine mv_callVv (f := wA cA a) (As := [.int y17]) (rest := []) C (eA_ok a) hs 0 rfl rfl (X8_appendTyped_met (l := l) (lev := lev - 1) (by omega) hw) (cwV 1 C.2.2.2.2.1 gX8_type_X8_appendTyped rfl rfl rfl (by decide +kernel) (mRm_le (by omega) (by decide))) rfl rfl (Nat.le_of_ble_eq_true rfl) dX8_type_83 ⟨Nat.le_refl 0, Nat.le_refl 0⟩ (fun u19 hw => ?_)
    obtain ⟨y20, ey20⟩ : ∃ z : Int32, z = x3 + (-1 : Int32) := ⟨_, rfl⟩
    have hw := hw y20 ey20
    refine mv_iinc (v := y20) (lv1 := [(3, .int y20), (0, .ref (a 0)), (1, .int x1)]) C dX8_type_86 2 rfl (by rw [ey20]; rfl) (by decide) rfl ?_
    refine mv_goto (tgt := 68) C dX8_type_89 (by decide) ?_
    refine mv_sub [1, 2, 0] rfl ?_
    exact hK68 x1 y20 u19 hw
set_option maxHeartbeats 4000000 in
set_option maxRecDepth 100000 in
theorem wj_X8_type_25_ok (C : mC p s m args meth c cX8_type 5 wsX8_type RX8 (some .boolean) (dC, dI) vwCl [(cA, .int)] A) (hs : eA a A s) (hlev : 1 ≤ lev) {post : Int32 → mS → Prop} {K25 : Int32 → Int32 → Int32 → mS → Prop} (hK25 : ∀ (x1 x2 x3 : Int32) (u : mS), K25 x1 x2 x3 u → mV p l e (mRm lev) s m args below meth c 5 (dC, dI) vwCl A 0 0 (mQi below args s (dC, dI) vwCl [(cA, .int)] (wA cA a) A (fun r w => (r = 0 ∨ r = 1) ∧ post r w)) (wA cA a u) 25 [(0, .ref (a 0)), (1, .int x1), (2, .int x2), (3, .int x3)] []) {x1 x2 x3 : Int32} {u : mS} (hw : wj_X8_type_25 K25 post x1 x2 x3 u) : mV p l e (mRm lev) s m args below meth c 5 (dC, dI) vwCl A 0 0 (mQi below args s (dC, dI) vwCl [(cA, .int)] (wA cA a) A (fun r w => (r = 0 ∨ r = 1) ∧ post r w)) (wA cA a u) 25 [(0, .ref (a 0)), (1, .int x1), (2, .int x2), (3, .int x3)] [] := by
  unfold wj_X8_type_25 at hw
  refine mv_iload_n C dX8_type_25 rfl 3 rfl ?_
  refine mv_iload_n C dX8_type_26 rfl 2 rfl ?_
  refine mv_icmp_ge (tgt := 64) C dX8_type_27 (by decide) (fun h6 => ?_) (fun h6 => ?_)
  · have hw := hw.1 h6
    refine mv_iload_n C dX8_type_64 rfl 2 rfl ?_
    refine mv_iconst (v := (1 : Int32)) C dX8_type_65 (by decide) ?_
    refine mv_isub C dX8_type_66 ?_
    refine mv_topi (fun y7 ey7 => ?_)
    have hw := hw y7 ey7
    refine mv_istore_n (lv1 := [(3, .int y7), (0, .ref (a 0)), (1, .int x1), (2, .int x2)]) C dX8_type_67 rfl (by decide) rfl ?_
    refine mv_sub [1, 2, 0] rfl ?_
    obtain ⟨n, hw⟩ := hw
    exact mL3_of (fun K hK b0 b1 b2 hw => wj_X8_type_68_ok C hs hlev hK hw) n x1 y7 u hw
  · have hw := hw.2 h6
    refine mv_iload_n C dX8_type_30 rfl 1 rfl ?_
    refine mv_bipush (v := (8 : Int32)) C dX8_type_31 (by decide) ?_
    refine mv_iload_n C dX8_type_33 rfl 3 rfl ?_
    refine mv_imul C dX8_type_34 ?_
    refine mv_topi (fun y8 ey8 => ?_)
    have hw := hw y8 ey8
    refine mv_ishr C dX8_type_35 ?_
    refine mv_topi (fun y9 ey9 => ?_)
    have hw := hw y9 ey9
    refine mv_sipush (v := (255 : Int32)) C dX8_type_36 (by decide) ?_
    refine mv_iand C dX8_type_39 ?_
    refine mv_topi (fun y10 ey10 => ?_)
    have hw := hw y10 ey10
    refine mv_istore (lv1 := [(4, .int y10), (0, .ref (a 0)), (1, .int x1), (2, .int x2), (3, .int x3)]) C dX8_type_40 (by decide) rfl ?_
    refine mv_iload C dX8_type_42 0 rfl ?_
    refine mv_bipush (v := (32 : Int32)) C dX8_type_44 (by decide) ?_
    refine mv_icmp_lt (tgt := 56) C dX8_type_46 (by decide) (fun h11 => ?_) (fun h11 => ?_)
    · have hw := hw.1 h11
      refine mv_iconst (v := (0 : Int32)) C dX8_type_56 (by decide) ?_
      exact mv_zret C dX8_type_57 (Or.inl rfl) hw
    · have hw := hw.2 h11
      refine mv_iload C dX8_type_49 0 rfl ?_
      refine mv_bipush (v := (126 : Int32)) C dX8_type_51 (by decide) ?_
      refine mv_icmp_le (tgt := 58) C dX8_type_53 (by decide) (fun h12 => ?_) (fun h12 => ?_)
      · have hw := hw.1 h12
        obtain ⟨y13, ey13⟩ : ∃ z : Int32, z = x3 + (1 : Int32) := ⟨_, rfl⟩
        have hw := hw y13 ey13
        refine mv_iinc (v := y13) (lv1 := [(3, .int y13), (4, .int y10), (0, .ref (a 0)), (1, .int x1), (2, .int x2)]) C dX8_type_58 4 rfl (by rw [ey13]; rfl) (by decide) rfl ?_
        refine mv_goto (tgt := 25) C dX8_type_61 (by decide) ?_
        refine mv_sub [2, 3, 4, 0] rfl ?_
        exact hK25 x1 x2 y13 u hw
      · have hw := hw.2 h12
        refine mv_iconst (v := (0 : Int32)) C dX8_type_56 (by decide) ?_
        exact mv_zret C dX8_type_57 (Or.inl rfl) hw
set_option maxHeartbeats 4000000 in
set_option maxRecDepth 100000 in
theorem X8_type_met (hlev : 1 ≤ lev) {x1 x2 : Int32} {u : mS} {post : Int32 → mS → Prop} (hw : wp_X8_type x1 x2 u post) : mKi l yX8_type wsX8_type lev (eA a) (dC, dI) vwCl [(cA, .int)] (wA cA a) [.ref (a 0), .int x1, .int x2] u (fun r w => (r = 0 ∨ r = 1) ∧ post r w) := by
  refine mKz_of (cc := cX8_type) (maxL := 5) (by decide) rfl rfl (Nat.le_of_ble_eq_true rfl) rfl ?_
  intro p e s m args below meth c A C hs
  unfold wp_X8_type at hw
  refine mv_iload_n C dX8_type_0 rfl 2 rfl ?_
  refine mv_iconst (v := (1 : Int32)) C dX8_type_1 (by decide) ?_
  refine mv_icmp_lt (tgt := 21) C dX8_type_2 (by decide) (fun h1 => ?_) (fun h1 => ?_)
  · have hw := hw.1 h1
    refine mv_iconst (v := (0 : Int32)) C dX8_type_21 (by decide) ?_
    exact mv_zret C dX8_type_22 (Or.inl rfl) hw
  · have hw := hw.2 h1
    refine mv_iload_n C dX8_type_5 rfl 2 rfl ?_
    refine mv_iconst (v := (4 : Int32)) C dX8_type_6 (by decide) ?_
    refine mv_icmp_gt (tgt := 21) C dX8_type_7 (by decide) (fun h2 => ?_) (fun h2 => ?_)
    · have hw := hw.1 h2
      refine mv_iconst (v := (0 : Int32)) C dX8_type_21 (by decide) ?_
      exact mv_zret C dX8_type_22 (Or.inl rfl) hw
    · have hw := hw.2 h2
      refine mv_aload_n C dX8_type_10 rfl 0 rfl ?_
      refine mv_get (v := .int (u.1 0)) C iw_X8_type_X8 0 rfl rfl 1 (by decide) lk_X8_type_59 rfl rfl dX8_type_11 ?_
      refine mv_topi (fun y3 ey3 => ?_)
      have hw := hw y3 ey3
      refine mv_iload_n C dX8_type_14 rfl 2 rfl ?_
      refine mv_iadd C dX8_type_15 ?_
      refine mv_topi (fun y4 ey4 => ?_)
      have hw := hw y4 ey4
      refine mv_bipush (v := (120 : Int32)) C dX8_type_16 (by decide) ?_
      refine mv_icmp_le (tgt := 23) C dX8_type_18 (by decide) (fun h5 => ?_) (fun h5 => ?_)
      · have hw := hw.1 h5
        refine mv_iconst (v := (0 : Int32)) C dX8_type_23 (by decide) ?_
        refine mv_istore_n (lv1 := [(3, .int (0 : Int32)), (0, .ref (a 0)), (1, .int x1), (2, .int x2)]) C dX8_type_24 rfl (by decide) rfl ?_
        refine mv_sub [1, 2, 3, 0] rfl ?_
        obtain ⟨n, hw⟩ := hw
        exact mL4_of (fun K hK b0 b1 b2 b3 hw => wj_X8_type_25_ok C hs hlev hK hw) n x1 x2 (0 : Int32) u hw
      · have hw := hw.2 h5
        refine mv_iconst (v := (0 : Int32)) C dX8_type_21 (by decide) ?_
        exact mv_zret C dX8_type_22 (Or.inl rfl) hw
set_option maxHeartbeats 4000000 in
set_option maxRecDepth 100000 in
theorem X5_restart_met (hlev : 0 ≤ lev) {u : mS} {post : mS → Prop} (hw : wp_X5_restart  u post) : mKv l yX5_restart wsX5_restart lev (eA a) (dC, dI) vwCl [(cA, .int)] (wA cA a) [.ref (a 2)] u post := by
  refine mKv_of (cc := cX5_restart) (maxL := 1) (by decide) rfl rfl (Nat.le_of_ble_eq_true rfl) rfl ?_
  intro p e s m args below meth c A C hs
  unfold wp_X5_restart at hw
  refine mv_aload_n C dX5_restart_0 rfl 0 rfl ?_
  refine mv_sipush (v := (480 : Int32)) C dX5_restart_1 (by decide) ?_
  refine mv_put (ty := .int) (ws1 := wA cA a (mSet u 1 (480 : Int32))) C iw_X5_restart_X5 tyX5 tyX5_ok nmX5 2 rfl rfl 4 (by decide) lk_X5_restart_24 rfl rfl rfl rfl rfl (Nat.le_of_ble_eq_true rfl) rfl dX5_restart_4 ?_
  refine mv_nm (f := wA cA a) (fun u1 eu1 => ?_)
  have hw := hw u1 eu1
  refine mv_aload_n C dX5_restart_7 rfl 0 rfl ?_
  refine mv_iconst (v := (-1 : Int32)) C dX5_restart_8 (by decide) ?_
  refine mv_put (ty := .int) (ws1 := wA cA a (mSet u1 2 (-1 : Int32))) C iw_X5_restart_X5 tyX5 tyX5_ok nmX5 2 rfl rfl 5 (by decide) lk_X5_restart_28 rfl rfl rfl rfl rfl (Nat.le_of_ble_eq_true rfl) rfl dX5_restart_9 ?_
  refine mv_nm (f := wA cA a) (fun u2 eu2 => ?_)
  have hw := hw u2 eu2
  exact mv_vret C dX5_restart_12 hw
set_option maxHeartbeats 4000000 in
set_option maxRecDepth 100000 in
theorem X3_isWhole_met (hlev : 0 ≤ lev) {u : mS} {post : Int32 → mS → Prop} (hw : wp_X3_isWhole  u post) : mKi l yX3_isWhole wsX3_isWhole lev (eA a) (dC, dI) vwCl [(cA, .int)] (wA cA a) [.ref (a 7)] u (fun r w => (r = 0 ∨ r = 1) ∧ post r w) := by
  refine mKz_of (cc := cX3_isWhole) (maxL := 1) (by decide) rfl rfl (Nat.le_of_ble_eq_true rfl) rfl ?_
  intro p e s m args below meth c A C hs
  unfold wp_X3_isWhole at hw
  refine mv_aload_n C dX3_isWhole_0 rfl 0 rfl ?_
  refine mv_get (v := .int (u.1 3)) C iw_X3_isWhole_X3 7 rfl rfl 1 (by decide) lk_X3_isWhole_20 rfl rfl dX3_isWhole_1 ?_
  refine mv_topi (fun y1 ey1 => ?_)
  have hw := hw y1 ey1
  refine mv_if_ne (tgt := 24) C dX3_isWhole_4 (by decide) (fun h2 => ?_) (fun h2 => ?_)
  · have hw := hw.1 h2
    refine mv_iconst (v := (0 : Int32)) C dX3_isWhole_24 (by decide) ?_
    exact mv_zret C dX3_isWhole_25 (Or.inl rfl) hw
  · have hw := hw.2 h2
    refine mv_aload_n C dX3_isWhole_7 rfl 0 rfl ?_
    refine mv_get (v := .ref (a 2)) C iw_X3_isWhole_X3 7 rfl rfl 0 (by decide) lk_X3_isWhole_9 rfl rfl dX3_isWhole_8 ?_
    refine mv_getN (v := .int (u.1 1)) C iw_X3_isWhole_X5 2 rfl rfl 4 (by decide) (hs.1 _ nw_0) rfl rfl dX3_isWhole_11 ?_
    refine mv_topi (fun y3 ey3 => ?_)
    have hw := hw y3 ey3
    refine mv_sipush (v := (480 : Int32)) C dX3_isWhole_14 (by decide) ?_
    refine mv_icmp_le (tgt := 24) C dX3_isWhole_17 (by decide) (fun h4 => ?_) (fun h4 => ?_)
    · have hw := hw.1 h4
      refine mv_iconst (v := (0 : Int32)) C dX3_isWhole_24 (by decide) ?_
      exact mv_zret C dX3_isWhole_25 (Or.inl rfl) hw
    · have hw := hw.2 h4
      refine mv_iconst (v := (1 : Int32)) C dX3_isWhole_20 (by decide) ?_
      refine mv_goto (tgt := 25) C dX3_isWhole_21 (by decide) ?_
      exact mv_zret C dX3_isWhole_25 (Or.inr rfl) hw
set_option maxHeartbeats 4000000 in
set_option maxRecDepth 100000 in
theorem wj_X3_runLength_1_56_ok (C : mC p s m args meth c cX3_runLength 7 wsX3_runLength RX3 (some .int) (dC, dI) vwCl [(cA, .int)] A) (hs : eA a A s) (hlev : 0 ≤ lev) {post : Int32 → mS → Prop} {x5 : Int32} {u : mS} (hw : wj_X3_runLength_1_56 post x5 u) : mV p l e (mRm lev) s m args below meth c 7 (dC, dI) vwCl A 0 0 (mQi below args s (dC, dI) vwCl [(cA, .int)] (wA cA a) A post) (wA cA a u) 56 [(5, .int x5)] [] := by
  unfold wj_X3_runLength_1_56 at hw
  refine mv_iload C dX3_runLength_56 0 rfl ?_
  exact mv_iret C dX3_runLength_58 hw
set_option maxHeartbeats 4000000 in
set_option maxRecDepth 100000 in
theorem wj_X3_runLength_1_14_ok (C : mC p s m args meth c cX3_runLength 7 wsX3_runLength RX3 (some .int) (dC, dI) vwCl [(cA, .int)] A) (hs : eA a A s) (hlev : 0 ≤ lev) {post : Int32 → mS → Prop} {K14 : Int32 → Int32 → Int32 → Int32 → Int32 → mS → Prop} (hK14 : ∀ (x1 x3 x4 x5 x6 : Int32) (u : mS), K14 x1 x3 x4 x5 x6 u → mV p l e (mRm lev) s m args below meth c 7 (dC, dI) vwCl A 0 0 (mQi below args s (dC, dI) vwCl [(cA, .int)] (wA cA a) A post) (wA cA a u) 14 [(0, .ref (a 1)), (1, .int x1), (3, .int x3), (4, .int x4), (5, .int x5), (6, .int x6)] []) {x1 x3 x4 x5 x6 : Int32} {u : mS} (hw : wj_X3_runLength_1_14 K14 post x1 x3 x4 x5 x6 u) : mV p l e (mRm lev) s m args below meth c 7 (dC, dI) vwCl A 0 0 (mQi below args s (dC, dI) vwCl [(cA, .int)] (wA cA a) A post) (wA cA a u) 14 [(0, .ref (a 1)), (1, .int x1), (3, .int x3), (4, .int x4), (5, .int x5), (6, .int x6)] [] := by
  unfold wj_X3_runLength_1_14 at hw
  refine mv_iload C dX3_runLength_14 5 rfl ?_
  refine mv_iload_n C dX3_runLength_16 rfl 1 rfl ?_
  refine mv_icmp_ge (tgt := 56) C dX3_runLength_17 (by decide) (fun h2 => ?_) (fun h2 => ?_)
  · have hw := hw.1 h2
    refine mv_sub [4] rfl ?_
    exact wj_X3_runLength_1_56_ok C hs hlev hw
  · have hw := hw.2 h2
    refine mv_iload C dX3_runLength_20 5 rfl ?_
    refine mv_aload_n C dX3_runLength_22 rfl 0 rfl ?_
    refine mv_alen (v := (120 : Int32)) C 1 0 rfl rfl (by decide) dX3_runLength_23 ?_
    refine mv_icmp_ge (tgt := 56) C dX3_runLength_24 (by decide) (fun h3 => ?_) (fun h3 => ?_)
    · have hw := hw.1 h3
      refine mv_sub [4] rfl ?_
      exact wj_X3_runLength_1_56_ok C hs hlev hw
    · have hw := hw.2 h3
      refine mv_aload_n C dX3_runLength_27 rfl 0 rfl ?_
      refine mv_iload C dX3_runLength_28 5 rfl ?_
      refine mv_iald (f := u.2 0) C 1 0 rfl rfl hw.1 dX3_runLength_30 ?_
      refine mv_topi (fun y4 ey4 => ?_)
      have hw := hw.2 y4 ey4
      refine mv_iload_n C dX3_runLength_31 rfl 2 rfl ?_
      refine mv_icmp_lt (tgt := 56) C dX3_runLength_32 (by decide) (fun h5 => ?_) (fun h5 => ?_)
      · have hw := hw.1 h5
        refine mv_sub [4] rfl ?_
        exact wj_X3_runLength_1_56_ok C hs hlev hw
      · have hw := hw.2 h5
        refine mv_aload_n C dX3_runLength_35 rfl 0 rfl ?_
        refine mv_iload C dX3_runLength_36 5 rfl ?_
        refine mv_iald (f := u.2 0) C 1 0 rfl rfl hw.1 dX3_runLength_38 ?_
        refine mv_topi (fun y6 ey6 => ?_)
        have hw := hw.2 y6 ey6
        refine mv_iload C dX3_runLength_39 3 rfl ?_
        refine mv_icmp_le (tgt := 47) C dX3_runLength_41 (by decide) (fun h7 => ?_) (fun h7 => ?_)
        · have hw := hw.1 h7
          obtain ⟨y8, ey8⟩ : ∃ z : Int32, z = x5 + (1 : Int32) := ⟨_, rfl⟩
          have hw := hw y8 ey8
          refine mv_iinc (v := y8) (lv1 := [(5, .int y8), (0, .ref (a 1)), (1, .int x1), (3, .int x3), (4, .int x4), (6, .int x6)]) C dX3_runLength_47 4 rfl (by rw [ey8]; rfl) (by decide) rfl ?_
          obtain ⟨y9, ey9⟩ : ∃ z : Int32, z = x6 + (1 : Int32) := ⟨_, rfl⟩
          have hw := hw y9 ey9
          refine mv_iinc (v := y9) (lv1 := [(6, .int y9), (5, .int y8), (0, .ref (a 1)), (1, .int x1), (3, .int x3), (4, .int x4)]) C dX3_runLength_50 5 rfl (by rw [ey9]; rfl) (by decide) rfl ?_
          refine mv_goto (tgt := 14) C dX3_runLength_53 (by decide) ?_
          refine mv_sub [2, 3, 4, 5, 1, 0] rfl ?_
          exact hK14 x1 x3 x4 y8 y9 u hw
        · have hw := hw.2 h7
          refine mv_goto (tgt := 56) C dX3_runLength_44 (by decide) ?_
          refine mv_sub [4] rfl ?_
          exact wj_X3_runLength_1_56_ok C hs hlev hw
set_option maxHeartbeats 4000000 in
set_option maxRecDepth 100000 in
theorem wj_X3_runLength_1_12_ok (C : mC p s m args meth c cX3_runLength 7 wsX3_runLength RX3 (some .int) (dC, dI) vwCl [(cA, .int)] A) (hs : eA a A s) (hlev : 0 ≤ lev) {post : Int32 → mS → Prop} {x1 x3 x4 x5 z0 : Int32} {u : mS} (hw : wj_X3_runLength_1_12 post x1 x3 x4 x5 z0 u) : mV p l e (mRm lev) s m args below meth c 7 (dC, dI) vwCl A 0 0 (mQi below args s (dC, dI) vwCl [(cA, .int)] (wA cA a) A post) (wA cA a u) 12 [(0, .ref (a 1)), (1, .int x1), (3, .int x3), (4, .int x4), (5, .int x5)] [.int z0] := by
  unfold wj_X3_runLength_1_12 at hw
  refine mv_istore (lv1 := [(6, .int z0), (0, .ref (a 1)), (1, .int x1), (3, .int x3), (4, .int x4), (5, .int x5)]) C dX3_runLength_12 (by decide) rfl ?_
  refine mv_sub [1, 2, 3, 4, 5, 0] rfl ?_
  obtain ⟨n, hw⟩ := hw
  exact mL6_of (fun K hK b0 b1 b2 b3 b4 b5 hw => wj_X3_runLength_1_14_ok C hs hlev hK hw) n x1 x3 x4 x5 z0 u hw
set_option maxHeartbeats 4000000 in
set_option maxRecDepth 100000 in
theorem X3_runLength_1_met (hlev : 0 ≤ lev) {x1 x2 x3 x4 : Int32} {u : mS} {post : Int32 → mS → Prop} (hw : wp_X3_runLength_1 x1 x2 x3 x4 u post) : mKi l yX3_runLength wsX3_runLength lev (eA a) (dC, dI) vwCl [(cA, .int)] (wA cA a) [.ref (a 1), .int x1, .int x2, .int x3, .int x4] u post := by
  refine mKi_of (cc := cX3_runLength) (maxL := 7) (by decide) rfl rfl (Nat.le_of_ble_eq_true rfl) rfl ?_
  intro p e s m args below meth c A C hs
  unfold wp_X3_runLength_1 at hw
  refine mv_iconst (v := (0 : Int32)) C dX3_runLength_0 (by decide) ?_
  refine mv_istore (lv1 := [(5, .int (0 : Int32)), (0, .ref (a 1)), (1, .int x1), (2, .int x2), (3, .int x3), (4, .int x4)]) C dX3_runLength_1 (by decide) rfl ?_
  refine mv_iload_n C dX3_runLength_3 rfl 3 rfl ?_
  refine mv_if_ge (tgt := 11) C dX3_runLength_4 (by decide) (fun h1 => ?_) (fun h1 => ?_)
  · have hw := hw.1 h1
    refine mv_iload_n C dX3_runLength_11 rfl 3 rfl ?_
    refine mv_sub [1, 2, 4, 5, 0] rfl ?_
    exact wj_X3_runLength_1_12_ok C hs hlev hw
  · have hw := hw.2 h1
    refine mv_iconst (v := (0 : Int32)) C dX3_runLength_7 (by decide) ?_
    refine mv_goto (tgt := 12) C dX3_runLength_8 (by decide) ?_
    refine mv_sub [1, 2, 4, 5, 0] rfl ?_
    exact wj_X3_runLength_1_12_ok C hs hlev hw
set_option maxHeartbeats 4000000 in
set_option maxRecDepth 100000 in
theorem wj_X3_readName_1_54_ok (C : mC p s m args meth c cX3_readName 6 wsX3_readName RX3 (some .int) (dC, dI) vwCl [(cA, .int)] A) (hs : eA a A s) (hlev : 2 ≤ lev) {post : Int32 → mS → Prop} {x3 x4 : Int32} {u : mS} (hw : wj_X3_readName_1_54 post x3 x4 u) : mV p l e (mRm lev) s m args below meth c 6 (dC, dI) vwCl A 0 0 (mQi below args s (dC, dI) vwCl [(cA, .int)] (wA cA a) A post) (wA cA a u) 54 [(0, .ref (a 7)), (3, .int x3), (4, .int x4)] [] := by
  unfold wj_X3_readName_1_54 at hw
  refine mv_aload_n C dX3_readName_54 rfl 0 rfl ?_
  refine mv_get (v := .ref (a 2)) C iw_X3_readName_X3 7 rfl rfl 0 (by decide) lk_X3_readName_9 rfl rfl dX3_readName_55 ?_
  refine mv_iload C dX3_readName_58 2 rfl ?_
  refine mv_iconst (v := (0 : Int32)) C dX3_readName_60 (by decide) ?_
  refine mv_callVv (f := wA cA a) (As := [.int x4, .int (0 : Int32)]) (rest := []) C (eA_ok a) hs 2 rfl rfl (X5_add_met (l := l) (lev := lev - 1) (by omega) hw) (cwV 2 C.2.2.2.2.1 gX3_readName_X5_add rfl rfl rfl (by decide +kernel) (mRm_le (by omega) (by decide))) rfl rfl (Nat.le_of_ble_eq_true rfl) dX3_readName_61 ⟨Nat.le_refl 0, Nat.le_refl 0⟩ (fun u11 hw => ?_)
  refine mv_iload_n C dX3_readName_64 rfl 1 rfl ?_
  exact mv_iret C dX3_readName_65 hw
set_option maxHeartbeats 4000000 in
set_option maxRecDepth 100000 in
theorem wj_X3_readName_1_21_ok (C : mC p s m args meth c cX3_readName 6 wsX3_readName RX3 (some .int) (dC, dI) vwCl [(cA, .int)] A) (hs : eA a A s) (hlev : 2 ≤ lev) {post : Int32 → mS → Prop} {K21 : Int32 → Int32 → Int32 → Int32 → mS → Prop} (hK21 : ∀ (x2 x3 x4 x5 : Int32) (u : mS), K21 x2 x3 x4 x5 u → mV p l e (mRm lev) s m args below meth c 6 (dC, dI) vwCl A 0 0 (mQi below args s (dC, dI) vwCl [(cA, .int)] (wA cA a) A post) (wA cA a u) 21 [(0, .ref (a 7)), (1, .ref (a 1)), (2, .int x2), (3, .int x3), (4, .int x4), (5, .int x5)] []) {x2 x3 x4 x5 : Int32} {u : mS} (hw : wj_X3_readName_1_21 K21 post x2 x3 x4 x5 u) : mV p l e (mRm lev) s m args below meth c 6 (dC, dI) vwCl A 0 0 (mQi below args s (dC, dI) vwCl [(cA, .int)] (wA cA a) A post) (wA cA a u) 21 [(0, .ref (a 7)), (1, .ref (a 1)), (2, .int x2), (3, .int x3), (4, .int x4), (5, .int x5)] [] := by
  unfold wj_X3_readName_1_21 at hw
  refine mv_iload C dX3_readName_21 5 rfl ?_
  refine mv_iload_n C dX3_readName_23 rfl 2 rfl ?_
  refine mv_iload_n C dX3_readName_24 rfl 3 rfl ?_
  refine mv_iadd C dX3_readName_25 ?_
  refine mv_topi (fun y3 ey3 => ?_)
  have hw := hw y3 ey3
  refine mv_icmp_ge (tgt := 54) C dX3_readName_26 (by decide) (fun h4 => ?_) (fun h4 => ?_)
  · have hw := hw.1 h4
    refine mv_sub [0, 3, 4] rfl ?_
    exact wj_X3_readName_1_54_ok C hs hlev hw
  · have hw := hw.2 h4
    refine mv_iload C dX3_readName_29 5 rfl ?_
    refine mv_aload_n C dX3_readName_31 rfl 1 rfl ?_
    refine mv_alen (v := (120 : Int32)) C 1 0 rfl rfl (by decide) dX3_readName_32 ?_
    refine mv_icmp_ge (tgt := 54) C dX3_readName_33 (by decide) (fun h5 => ?_) (fun h5 => ?_)
    · have hw := hw.1 h5
      refine mv_sub [0, 3, 4] rfl ?_
      exact wj_X3_readName_1_54_ok C hs hlev hw
    · have hw := hw.2 h5
      refine mv_iload C dX3_readName_36 4 rfl ?_
      refine mv_bipush (v := (8 : Int32)) C dX3_readName_38 (by decide) ?_
      refine mv_ishl C dX3_readName_40 ?_
      refine mv_topi (fun y6 ey6 => ?_)
      have hw := hw y6 ey6
      refine mv_aload_n C dX3_readName_41 rfl 1 rfl ?_
      refine mv_iload C dX3_readName_42 5 rfl ?_
      refine mv_iald (f := u.2 0) C 1 0 rfl rfl hw.1 dX3_readName_44 ?_
      refine mv_topi (fun y7 ey7 => ?_)
      have hw := hw.2 y7 ey7
      refine mv_ior C dX3_readName_45 ?_
      refine mv_topi (fun y8 ey8 => ?_)
      have hw := hw y8 ey8
      refine mv_istore (lv1 := [(4, .int y8), (0, .ref (a 7)), (1, .ref (a 1)), (2, .int x2), (3, .int x3), (5, .int x5)]) C dX3_readName_46 (by decide) rfl ?_
      obtain ⟨y9, ey9⟩ : ∃ z : Int32, z = x5 + (1 : Int32) := ⟨_, rfl⟩
      have hw := hw y9 ey9
      refine mv_iinc (v := y9) (lv1 := [(5, .int y9), (4, .int y8), (0, .ref (a 7)), (1, .ref (a 1)), (2, .int x2), (3, .int x3)]) C dX3_readName_48 5 rfl (by rw [ey9]; rfl) (by decide) rfl ?_
      refine mv_goto (tgt := 21) C dX3_readName_51 (by decide) ?_
      refine mv_sub [2, 3, 4, 5, 1, 0] rfl ?_
      exact hK21 x2 x3 y8 y9 u hw
set_option maxHeartbeats 4000000 in
set_option maxRecDepth 100000 in
theorem wj_X3_readName_1_19_ok (C : mC p s m args meth c cX3_readName 6 wsX3_readName RX3 (some .int) (dC, dI) vwCl [(cA, .int)] A) (hs : eA a A s) (hlev : 2 ≤ lev) {post : Int32 → mS → Prop} {x2 x3 x4 z0 : Int32} {u : mS} (hw : wj_X3_readName_1_19 post x2 x3 x4 z0 u) : mV p l e (mRm lev) s m args below meth c 6 (dC, dI) vwCl A 0 0 (mQi below args s (dC, dI) vwCl [(cA, .int)] (wA cA a) A post) (wA cA a u) 19 [(0, .ref (a 7)), (1, .ref (a 1)), (2, .int x2), (3, .int x3), (4, .int x4)] [.int z0] := by
  unfold wj_X3_readName_1_19 at hw
  refine mv_istore (lv1 := [(5, .int z0), (0, .ref (a 7)), (1, .ref (a 1)), (2, .int x2), (3, .int x3), (4, .int x4)]) C dX3_readName_19 (by decide) rfl ?_
  refine mv_sub [1, 2, 3, 4, 5, 0] rfl ?_
  obtain ⟨n, hw⟩ := hw
  exact mL5_of (fun K hK b0 b1 b2 b3 b4 hw => wj_X3_readName_1_21_ok C hs hlev hK hw) n x2 x3 x4 z0 u hw
set_option maxHeartbeats 4000000 in
set_option maxRecDepth 100000 in
theorem X3_readName_1_met (hlev : 2 ≤ lev) {x2 x3 : Int32} {u : mS} {post : Int32 → mS → Prop} (hw : wp_X3_readName_1 x2 x3 u post) : mKi l yX3_readName wsX3_readName lev (eA a) (dC, dI) vwCl [(cA, .int)] (wA cA a) [.ref (a 7), .ref (a 1), .int x2, .int x3] u post := by
  refine mKi_of (cc := cX3_readName) (maxL := 6) (by decide) rfl rfl (Nat.le_of_ble_eq_true rfl) rfl ?_
  intro p e s m args below meth c A C hs
  unfold wp_X3_readName_1 at hw
  refine mv_iload_n C dX3_readName_0 rfl 3 rfl ?_
  refine mv_iconst (v := (3 : Int32)) C dX3_readName_1 (by decide) ?_
  refine mv_icmp_le (tgt := 7) C dX3_readName_2 (by decide) (fun h1 => ?_) (fun h1 => ?_)
  · have hw := hw.1 h1
    refine mv_iconst (v := (1 : Int32)) C dX3_readName_7 (by decide) ?_
    refine mv_istore (lv1 := [(4, .int (1 : Int32)), (0, .ref (a 7)), (1, .ref (a 1)), (2, .int x2), (3, .int x3)]) C dX3_readName_8 (by decide) rfl ?_
    refine mv_iload_n C dX3_readName_10 rfl 3 rfl ?_
    refine mv_if_ge (tgt := 18) C dX3_readName_11 (by decide) (fun h2 => ?_) (fun h2 => ?_)
    · have hw := hw.1 h2
      refine mv_iload_n C dX3_readName_18 rfl 3 rfl ?_
      refine mv_sub [1, 2, 3, 4, 0] rfl ?_
      exact wj_X3_readName_1_19_ok C hs hlev hw
    · have hw := hw.2 h2
      refine mv_iconst (v := (0 : Int32)) C dX3_readName_14 (by decide) ?_
      refine mv_goto (tgt := 19) C dX3_readName_15 (by decide) ?_
      refine mv_sub [1, 2, 3, 4, 0] rfl ?_
      exact wj_X3_readName_1_19_ok C hs hlev hw
  · have hw := hw.2 h1
    refine mv_iconst (v := (0 : Int32)) C dX3_readName_5 (by decide) ?_
    exact mv_iret C dX3_readName_6 hw
set_option maxHeartbeats 4000000 in
set_option maxRecDepth 100000 in
theorem wj_X3_readNumber_1_72_ok (C : mC p s m args meth c cX3_readNumber 6 wsX3_readNumber RX3 (some .int) (dC, dI) vwCl [(cA, .int)] A) (hs : eA a A s) (hlev : 2 ≤ lev) {post : Int32 → mS → Prop} {x3 x4 : Int32} {u : mS} (hw : wj_X3_readNumber_1_72 post x3 x4 u) : mV p l e (mRm lev) s m args below meth c 6 (dC, dI) vwCl A 0 0 (mQi below args s (dC, dI) vwCl [(cA, .int)] (wA cA a) A post) (wA cA a u) 72 [(0, .ref (a 7)), (3, .int x3), (4, .int x4)] [] := by
  unfold wj_X3_readNumber_1_72 at hw
  refine mv_aload_n C dX3_readNumber_72 rfl 0 rfl ?_
  refine mv_get (v := .ref (a 2)) C iw_X3_readNumber_X3 7 rfl rfl 0 (by decide) lk_X3_readNumber_9 rfl rfl dX3_readNumber_73 ?_
  refine mv_iload C dX3_readNumber_76 2 rfl ?_
  refine mv_iconst (v := (0 : Int32)) C dX3_readNumber_78 (by decide) ?_
  refine mv_callVv (f := wA cA a) (As := [.int x4, .int (0 : Int32)]) (rest := []) C (eA_ok a) hs 2 rfl rfl (X5_add_met (l := l) (lev := lev - 1) (by omega) hw) (cwV 2 C.2.2.2.2.1 gX3_readNumber_X5_add rfl rfl rfl (by decide +kernel) (mRm_le (by omega) (by decide))) rfl rfl (Nat.le_of_ble_eq_true rfl) dX3_readNumber_79 ⟨Nat.le_refl 0, Nat.le_refl 0⟩ (fun u16 hw => ?_)
  refine mv_iload_n C dX3_readNumber_82 rfl 1 rfl ?_
  exact mv_iret C dX3_readNumber_83 hw
set_option maxHeartbeats 4000000 in
set_option maxRecDepth 100000 in
theorem wj_X3_readNumber_1_36_ok (C : mC p s m args meth c cX3_readNumber 6 wsX3_readNumber RX3 (some .int) (dC, dI) vwCl [(cA, .int)] A) (hs : eA a A s) (hlev : 2 ≤ lev) {post : Int32 → mS → Prop} {K36 : Int32 → Int32 → Int32 → Int32 → mS → Prop} (hK36 : ∀ (x2 x3 x4 x5 : Int32) (u : mS), K36 x2 x3 x4 x5 u → mV p l e (mRm lev) s m args below meth c 6 (dC, dI) vwCl A 0 0 (mQi below args s (dC, dI) vwCl [(cA, .int)] (wA cA a) A post) (wA cA a u) 36 [(0, .ref (a 7)), (1, .ref (a 1)), (2, .int x2), (3, .int x3), (4, .int x4), (5, .int x5)] []) {x2 x3 x4 x5 : Int32} {u : mS} (hw : wj_X3_readNumber_1_36 K36 post x2 x3 x4 x5 u) : mV p l e (mRm lev) s m args below meth c 6 (dC, dI) vwCl A 0 0 (mQi below args s (dC, dI) vwCl [(cA, .int)] (wA cA a) A post) (wA cA a u) 36 [(0, .ref (a 7)), (1, .ref (a 1)), (2, .int x2), (3, .int x3), (4, .int x4), (5, .int x5)] [] := by
  unfold wj_X3_readNumber_1_36 at hw
  refine mv_iload C dX3_readNumber_36 5 rfl ?_
  refine mv_iload_n C dX3_readNumber_38 rfl 2 rfl ?_
  refine mv_iload_n C dX3_readNumber_39 rfl 3 rfl ?_
  refine mv_iadd C dX3_readNumber_40 ?_
  refine mv_topi (fun y7 ey7 => ?_)
  have hw := hw y7 ey7
  refine mv_icmp_ge (tgt := 72) C dX3_readNumber_41 (by decide) (fun h8 => ?_) (fun h8 => ?_)
  · have hw := hw.1 h8
    refine mv_sub [0, 3, 4] rfl ?_
    exact wj_X3_readNumber_1_72_ok C hs hlev hw
  · have hw := hw.2 h8
    refine mv_iload C dX3_readNumber_44 5 rfl ?_
    refine mv_aload_n C dX3_readNumber_46 rfl 1 rfl ?_
    refine mv_alen (v := (120 : Int32)) C 1 0 rfl rfl (by decide) dX3_readNumber_47 ?_
    refine mv_icmp_ge (tgt := 72) C dX3_readNumber_48 (by decide) (fun h9 => ?_) (fun h9 => ?_)
    · have hw := hw.1 h9
      refine mv_sub [0, 3, 4] rfl ?_
      exact wj_X3_readNumber_1_72_ok C hs hlev hw
    · have hw := hw.2 h9
      refine mv_iload C dX3_readNumber_51 4 rfl ?_
      refine mv_bipush (v := (10 : Int32)) C dX3_readNumber_53 (by decide) ?_
      refine mv_imul C dX3_readNumber_55 ?_
      refine mv_topi (fun y10 ey10 => ?_)
      have hw := hw y10 ey10
      refine mv_aload_n C dX3_readNumber_56 rfl 1 rfl ?_
      refine mv_iload C dX3_readNumber_57 5 rfl ?_
      refine mv_iald (f := u.2 0) C 1 0 rfl rfl hw.1 dX3_readNumber_59 ?_
      refine mv_topi (fun y11 ey11 => ?_)
      have hw := hw.2 y11 ey11
      refine mv_iadd C dX3_readNumber_60 ?_
      refine mv_topi (fun y12 ey12 => ?_)
      have hw := hw y12 ey12
      refine mv_bipush (v := (48 : Int32)) C dX3_readNumber_61 (by decide) ?_
      refine mv_isub C dX3_readNumber_63 ?_
      refine mv_topi (fun y13 ey13 => ?_)
      have hw := hw y13 ey13
      refine mv_istore (lv1 := [(4, .int y13), (0, .ref (a 7)), (1, .ref (a 1)), (2, .int x2), (3, .int x3), (5, .int x5)]) C dX3_readNumber_64 (by decide) rfl ?_
      obtain ⟨y14, ey14⟩ : ∃ z : Int32, z = x5 + (1 : Int32) := ⟨_, rfl⟩
      have hw := hw y14 ey14
      refine mv_iinc (v := y14) (lv1 := [(5, .int y14), (4, .int y13), (0, .ref (a 7)), (1, .ref (a 1)), (2, .int x2), (3, .int x3)]) C dX3_readNumber_66 5 rfl (by rw [ey14]; rfl) (by decide) rfl ?_
      refine mv_goto (tgt := 36) C dX3_readNumber_69 (by decide) ?_
      refine mv_sub [2, 3, 4, 5, 1, 0] rfl ?_
      exact hK36 x2 x3 y13 y14 u hw
set_option maxHeartbeats 4000000 in
set_option maxRecDepth 100000 in
theorem wj_X3_readNumber_1_30_ok (C : mC p s m args meth c cX3_readNumber 6 wsX3_readNumber RX3 (some .int) (dC, dI) vwCl [(cA, .int)] A) (hs : eA a A s) (hlev : 2 ≤ lev) {post : Int32 → mS → Prop} {x2 x3 : Int32} {u : mS} (hw : wj_X3_readNumber_1_30 post x2 x3 u) : mV p l e (mRm lev) s m args below meth c 6 (dC, dI) vwCl A 0 0 (mQi below args s (dC, dI) vwCl [(cA, .int)] (wA cA a) A post) (wA cA a u) 30 [(0, .ref (a 7)), (1, .ref (a 1)), (2, .int x2), (3, .int x3)] [] := by
  unfold wj_X3_readNumber_1_30 at hw
  refine mv_iconst (v := (0 : Int32)) C dX3_readNumber_30 (by decide) ?_
  refine mv_istore (lv1 := [(4, .int (0 : Int32)), (0, .ref (a 7)), (1, .ref (a 1)), (2, .int x2), (3, .int x3)]) C dX3_readNumber_31 (by decide) rfl ?_
  refine mv_iload_n C dX3_readNumber_33 rfl 3 rfl ?_
  refine mv_istore (lv1 := [(5, .int x2), (4, .int (0 : Int32)), (0, .ref (a 7)), (1, .ref (a 1)), (2, .int x2), (3, .int x3)]) C dX3_readNumber_34 (by decide) rfl ?_
  refine mv_sub [2, 3, 4, 5, 1, 0] rfl ?_
  obtain ⟨n, hw⟩ := hw
  exact mL5_of (fun K hK b0 b1 b2 b3 b4 hw => wj_X3_readNumber_1_36_ok C hs hlev hK hw) n x2 x3 (0 : Int32) x2 u hw
set_option maxHeartbeats 4000000 in
set_option maxRecDepth 100000 in
theorem X3_readNumber_1_met (hlev : 2 ≤ lev) {x2 x3 : Int32} {u : mS} {post : Int32 → mS → Prop} (hw : wp_X3_readNumber_1 x2 x3 u post) : mKi l yX3_readNumber wsX3_readNumber lev (eA a) (dC, dI) vwCl [(cA, .int)] (wA cA a) [.ref (a 7), .ref (a 1), .int x2, .int x3] u post := by
  refine mKi_of (cc := cX3_readNumber) (maxL := 6) (by decide) rfl rfl (Nat.le_of_ble_eq_true rfl) rfl ?_
  intro p e s m args below meth c A C hs
  unfold wp_X3_readNumber_1 at hw
  refine mv_iload_n C dX3_readNumber_0 rfl 3 rfl ?_
  refine mv_iconst (v := (2 : Int32)) C dX3_readNumber_1 (by decide) ?_
  refine mv_icmp_gt (tgt := 28) C dX3_readNumber_2 (by decide) (fun h1 => ?_) (fun h1 => ?_)
  · have hw := hw.1 h1
    refine mv_iconst (v := (0 : Int32)) C dX3_readNumber_28 (by decide) ?_
    exact mv_iret C dX3_readNumber_29 hw
  · have hw := hw.2 h1
    refine mv_iload_n C dX3_readNumber_5 rfl 2 rfl ?_
    refine mv_if_lt (tgt := 28) C dX3_readNumber_6 (by decide) (fun h2 => ?_) (fun h2 => ?_)
    · have hw := hw.1 h2
      refine mv_iconst (v := (0 : Int32)) C dX3_readNumber_28 (by decide) ?_
      exact mv_iret C dX3_readNumber_29 hw
    · have hw := hw.2 h2
      refine mv_iload_n C dX3_readNumber_9 rfl 2 rfl ?_
      refine mv_aload_n C dX3_readNumber_10 rfl 1 rfl ?_
      refine mv_alen (v := (120 : Int32)) C 1 0 rfl rfl (by decide) dX3_readNumber_11 ?_
      refine mv_icmp_ge (tgt := 28) C dX3_readNumber_12 (by decide) (fun h3 => ?_) (fun h3 => ?_)
      · have hw := hw.1 h3
        refine mv_iconst (v := (0 : Int32)) C dX3_readNumber_28 (by decide) ?_
        exact mv_iret C dX3_readNumber_29 hw
      · have hw := hw.2 h3
        refine mv_iload_n C dX3_readNumber_15 rfl 3 rfl ?_
        refine mv_iconst (v := (2 : Int32)) C dX3_readNumber_16 (by decide) ?_
        refine mv_icmp_ne (tgt := 30) C dX3_readNumber_17 (by decide) (fun h4 => ?_) (fun h4 => ?_)
        · have hw := hw.1 h4
          exact wj_X3_readNumber_1_30_ok C hs hlev hw
        · have hw := hw.2 h4
          refine mv_aload_n C dX3_readNumber_20 rfl 1 rfl ?_
          refine mv_iload_n C dX3_readNumber_21 rfl 2 rfl ?_
          refine mv_iald (f := u.2 0) C 1 0 rfl rfl hw.1 dX3_readNumber_22 ?_
          refine mv_topi (fun y5 ey5 => ?_)
          have hw := hw.2 y5 ey5
          refine mv_bipush (v := (48 : Int32)) C dX3_readNumber_23 (by decide) ?_
          refine mv_icmp_ne (tgt := 30) C dX3_readNumber_25 (by decide) (fun h6 => ?_) (fun h6 => ?_)
          · have hw := hw.1 h6
            exact wj_X3_readNumber_1_30_ok C hs hlev hw
          · have hw := hw.2 h6
            refine mv_iconst (v := (0 : Int32)) C dX3_readNumber_28 (by decide) ?_
            exact mv_iret C dX3_readNumber_29 hw
end
