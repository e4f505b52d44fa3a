set_option maxRecDepth 20000 in
theorem ggX0_expandLs_X5_after : GoodIn wsX0_expandLs wsX5_after := goodIn_r _ [8, 9, 10, 339, 340, 341, 342, 343, 344] (by decide +kernel) (by decide +kernel)
set_option maxRecDepth 20000 in
theorem gX0_expandLs_X5_after : GoodIn wsX0_expandLs (wsV RX0 136 RX5 yX5_after wsX5_after) := goodIn_app (goodIn_of _ (by decide +kernel)) ggX0_expandLs_X5_after
set_option maxRecDepth 20000 in
theorem ggX0_expandLs_X5_plainLength : GoodIn wsX0_expandLs wsX5_plainLength := goodIn_r _ [14, 15, 16, 17, 7, 18, 9, 19, 20, 21, 22, 23, 24, 25, 26, 27, 339, 340, 341, 342, 343, 344] (by decide +kernel) (by decide +kernel)
set_option maxRecDepth 20000 in
theorem gX0_expandLs_X5_plainLength : GoodIn wsX0_expandLs (wsV RX0 139 RX5 yX5_plainLength wsX5_plainLength) := goodIn_app (goodIn_of _ (by decide +kernel)) ggX0_expandLs_X5_plainLength
set_option maxRecDepth 100000 in
theorem gpX0_expandLs_X6_isNameWithRules_0 : GoodIn wsX0_expandLs wsX6_isNameWithRules_r1 := goodIn_r _ [33, 34, 12, 13, 7, 14, 15, 16, 17, 18, 9, 19, 20, 21, 22, 23, 24, 25, 26, 27, 35, 36, 37, 38] (by decide +kernel) (by decide +kernel)
set_option maxRecDepth 100000 in
theorem gpX0_expandLs_X6_isNameWithRules_1 : GoodIn wsX0_expandLs wsX6_isNameWithRules_r2 := goodIn_r _ [39, 40, 41, 31, 42, 43, 5, 6, 8, 10, 44, 45, 46, 47, 48, 49, 50, 51, 52, 53, 54, 55, 56, 57] (by decide +kernel) (by decide +kernel)
set_option maxRecDepth 100000 in
theorem gpX0_expandLs_X6_isNameWithRules_2 : GoodIn wsX0_expandLs wsX6_isNameWithRules_r3 := goodIn_r _ [58, 59, 60, 61, 62, 63, 64, 65, 66, 67, 68, 69, 70, 71, 72, 73, 74, 75, 76, 77, 78, 79, 80, 81] (by decide +kernel) (by decide +kernel)
set_option maxRecDepth 100000 in
theorem gpX0_expandLs_X6_isNameWithRules_3 : GoodIn wsX0_expandLs wsX6_isNameWithRules_r4 := goodIn_r _ [82, 83] (by decide +kernel) (by decide +kernel)
set_option maxRecDepth 100000 in
theorem gpX0_expandLs_X6_isNameWithRules_4 : GoodIn wsX0_expandLs wsX60 := goodIn_r _ [361] (by decide +kernel) (by decide +kernel)
set_option maxRecDepth 100000 in
theorem gpX0_expandLs_X6_isNameWithRules_5 : GoodIn wsX0_expandLs wsX50 := goodIn_r _ [339, 340, 341, 342, 343, 344] (by decide +kernel) (by decide +kernel)
set_option maxRecDepth 100000 in
theorem gpX0_expandLs_X6_isNameWithRules_c : GoodIn wsX0_expandLs [Cond.code yX6_isNameWithRules cX6_isNameWithRules 5 (some .boolean)] := goodIn_r _ [32] (by decide +kernel) (by decide +kernel)
theorem ggX0_expandLs_X6_isNameWithRules : GoodIn wsX0_expandLs wsX6_isNameWithRules := goodIn_cons2 gpX0_expandLs_X6_isNameWithRules_c (goodIn_app (goodIn_app (goodIn_app gpX0_expandLs_X6_isNameWithRules_0 (goodIn_app gpX0_expandLs_X6_isNameWithRules_1 (goodIn_app gpX0_expandLs_X6_isNameWithRules_2 gpX0_expandLs_X6_isNameWithRules_3))) gpX0_expandLs_X6_isNameWithRules_4) gpX0_expandLs_X6_isNameWithRules_5)
set_option maxRecDepth 20000 in
theorem gX0_expandLs_X6_isNameWithRules : GoodIn wsX0_expandLs (wsV RX0 172 RX6 yX6_isNameWithRules wsX6_isNameWithRules) := goodIn_app (goodIn_of _ (by decide +kernel)) ggX0_expandLs_X6_isNameWithRules
set_option maxRecDepth 20000 in
theorem ggX0_expandLs_X2_fail : GoodIn wsX0_expandLs wsX2_fail := goodIn_r _ [88, 89, 336, 337, 338] (by decide +kernel) (by decide +kernel)
set_option maxRecDepth 20000 in
theorem gX0_expandLs_X2_fail : GoodIn wsX0_expandLs (wsV RX0 83 RX2 yX2_fail wsX2_fail) := goodIn_app (goodIn_of _ (by decide +kernel)) ggX0_expandLs_X2_fail
set_option maxRecDepth 20000 in
theorem ggX0_expandLs_X0_newScope : GoodIn wsX0_expandLs wsX0_newScope := goodIn_r _ [94, 95, 3, 84, 85, 86, 87, 88, 89, 327, 328, 329, 330, 331, 332, 333, 334, 335, 336, 337, 338] (by decide +kernel) (by decide +kernel)
set_option maxRecDepth 20000 in
theorem gX0_expandLs_X0_newScope : GoodIn wsX0_expandLs (wsV RX0 145 RX0 yX0_newScope wsX0_newScope) := goodIn_app (goodIn_of _ (by decide +kernel)) ggX0_expandLs_X0_newScope
set_option maxRecDepth 20000 in
theorem ggX0_expandLs_X5_turnScope : GoodIn wsX0_expandLs wsX5_turnScope := goodIn_r _ [99, 9, 19, 62, 100, 5, 6, 7, 8, 10, 36, 37, 38, 339, 340, 341, 342, 343, 344] (by decide +kernel) (by decide +kernel)
set_option maxRecDepth 20000 in
theorem gX0_expandLs_X5_turnScope : GoodIn wsX0_expandLs (wsV RX0 149 RX5 yX5_turnScope wsX5_turnScope) := goodIn_app (goodIn_of _ (by decide +kernel)) ggX0_expandLs_X5_turnScope
set_option maxRecDepth 100000 in
theorem gpX0_expandLs_X0_bind_0 : GoodIn wsX0_expandLs wsX0_bind_r1 := goodIn_r _ [105, 1, 3, 106, 107, 16, 17, 7, 18, 9, 19, 108, 109, 110, 111, 62, 112, 113, 114, 115, 116, 117, 118, 119] (by decide +kernel) (by decide +kernel)
set_option maxRecDepth 100000 in
theorem gpX0_expandLs_X0_bind_1 : GoodIn wsX0_expandLs wsX0_bind_r2 := goodIn_r _ [120, 121, 84, 85, 86, 87, 88, 89] (by decide +kernel) (by decide +kernel)
set_option maxRecDepth 100000 in
theorem gpX0_expandLs_X0_bind_2 : GoodIn wsX0_expandLs wsX00 := goodIn_r _ [327, 328, 329, 330, 331, 332, 333, 334, 335] (by decide +kernel) (by decide +kernel)
set_option maxRecDepth 100000 in
theorem gpX0_expandLs_X0_bind_3 : GoodIn wsX0_expandLs wsX50 := goodIn_r _ [339, 340, 341, 342, 343, 344] (by decide +kernel) (by decide +kernel)
set_option maxRecDepth 100000 in
theorem gpX0_expandLs_X0_bind_4 : GoodIn wsX0_expandLs wsX70 := goodIn_r _ [355, 356, 357, 358, 359, 360] (by decide +kernel) (by decide +kernel)
set_option maxRecDepth 100000 in
theorem gpX0_expandLs_X0_bind_5 : GoodIn wsX0_expandLs wsX20 := goodIn_r _ [336, 337, 338] (by decide +kernel) (by decide +kernel)
set_option maxRecDepth 100000 in
theorem gpX0_expandLs_X0_bind_c : GoodIn wsX0_expandLs [Cond.code yX0_bind cX0_bind 4 (some .boolean)] := goodIn_r _ [104] (by decide +kernel) (by decide +kernel)
theorem ggX0_expandLs_X0_bind : GoodIn wsX0_expandLs wsX0_bind := goodIn_cons2 gpX0_expandLs_X0_bind_c (goodIn_app (goodIn_app (goodIn_app (goodIn_app (goodIn_app gpX0_expandLs_X0_bind_0 gpX0_expandLs_X0_bind_1) gpX0_expandLs_X0_bind_2) gpX0_expandLs_X0_bind_3) gpX0_expandLs_X0_bind_4) gpX0_expandLs_X0_bind_5)
set_option maxRecDepth 20000 in
theorem gX0_expandLs_X0_bind : GoodIn wsX0_expandLs (wsV RX0 163 RX0 yX0_bind wsX0_bind) := goodIn_app (goodIn_of _ (by decide +kernel)) ggX0_expandLs_X0_bind
set_option maxRecDepth 100000 in
theorem gpX0_expandLs_X0_expandTree_0 : GoodIn wsX0_expandLs wsX0_expandTree_r1 := goodIn_r _ [3, 1, 107, 16, 17, 7, 18, 9, 19, 319, 320, 321, 93, 36, 37, 38, 322, 323, 324, 325, 105, 259, 260, 261] (by decide +kernel) (by decide +kernel)
set_option maxRecDepth 100000 in
theorem gpX0_expandLs_X0_expandTree_1 : GoodIn wsX0_expandLs wsX0_expandTree_r2 := goodIn_r _ [262, 108, 109, 110, 111, 62, 263, 264, 265, 115, 266, 117, 118, 119, 267, 268, 269, 270, 271, 272, 273, 274, 275, 276] (by decide +kernel) (by decide +kernel)
set_option maxRecDepth 100000 in
theorem gpX0_expandLs_X0_expandTree_2 : GoodIn wsX0_expandLs wsX0_expandTree_r3 := goodIn_r _ [277, 84, 85, 86, 87, 88, 89, 278, 279, 280, 281, 120, 243, 244, 245, 246, 247, 222, 223, 224, 225, 226, 308, 309] (by decide +kernel) (by decide +kernel)
set_option maxRecDepth 100000 in
theorem gpX0_expandLs_X0_expandTree_3 : GoodIn wsX0_expandLs wsX0_expandTree_r4 := goodIn_r _ [310, 311, 121, 248, 249, 250, 251, 252, 253, 254, 255, 303, 304, 326, 125, 126, 127, 90, 91, 92, 94, 95, 96, 97] (by decide +kernel) (by decide +kernel)
set_option maxRecDepth 100000 in
theorem gpX0_expandLs_X0_expandTree_4 : GoodIn wsX0_expandLs wsX0_expandTree_r5 := goodIn_r _ [98, 99, 100, 5, 6, 8, 10, 128, 129, 130, 131, 132, 133, 134, 12, 13, 14, 15, 20, 21, 22, 23, 24, 25] (by decide +kernel) (by decide +kernel)
set_option maxRecDepth 100000 in
theorem gpX0_expandLs_X0_expandTree_5 : GoodIn wsX0_expandLs wsX0_expandTree_r6 := goodIn_r _ [26, 27, 135, 136, 137, 138, 139, 140, 141, 142, 143, 144, 145, 146, 147, 148, 149, 150, 151, 152, 153, 154, 49, 50] (by decide +kernel) (by decide +kernel)
set_option maxRecDepth 100000 in
theorem gpX0_expandLs_X0_expandTree_6 : GoodIn wsX0_expandLs wsX0_expandTree_r7 := goodIn_r _ [51, 155, 156, 157, 158, 159, 160, 161, 162, 163, 164, 165, 166, 167, 168, 169, 170, 171, 172, 173, 174, 175, 176, 177] (by decide +kernel) (by decide +kernel)
set_option maxRecDepth 100000 in
theorem gpX0_expandLs_X0_expandTree_7 : GoodIn wsX0_expandLs wsX0_expandTree_r8 := goodIn_r _ [178, 179, 180, 181, 182, 183, 184, 185, 186, 187, 188, 189, 190, 191, 192, 193, 194, 195, 196, 77, 78, 79, 71, 197] (by decide +kernel) (by decide +kernel)
set_option maxRecDepth 100000 in
theorem gpX0_expandLs_X0_expandTree_8 : GoodIn wsX0_expandLs wsX0_expandTree_r9 := goodIn_r _ [198, 199, 200, 201, 202, 203, 204, 205, 206, 207, 208, 209, 52, 53, 210, 211, 212, 213, 214, 215, 216, 217, 218, 122] (by decide +kernel) (by decide +kernel)
set_option maxRecDepth 100000 in
theorem gpX0_expandLs_X0_expandTree_9 : GoodIn wsX0_expandLs wsX0_expandTree_r10 := goodIn_r _ [123, 124, 219, 220, 221, 4, 227, 228, 11, 229, 230, 231, 232, 233, 234, 235, 236, 237, 59, 60, 61, 101, 102, 103] (by decide +kernel) (by decide +kernel)
set_option maxRecDepth 100000 in
theorem gpX0_expandLs_X0_expandTree_10 : GoodIn wsX0_expandLs wsX0_expandTree_r11 := goodIn_r _ [104, 106, 112, 113, 114, 116, 238, 239, 240, 241, 242, 256, 257, 258, 282, 283, 284, 285, 286, 287, 288, 289, 290, 291] (by decide +kernel) (by decide +kernel)
set_option maxRecDepth 100000 in
theorem gpX0_expandLs_X0_expandTree_11 : GoodIn wsX0_expandLs wsX0_expandTree_r12 := goodIn_r _ [292, 293, 294, 295, 296, 297, 298, 299, 300, 301, 302, 305, 306, 307, 312, 313, 314, 315, 316, 317, 0, 2, 28, 29] (by decide +kernel) (by decide +kernel)
set_option maxRecDepth 100000 in
theorem gpX0_expandLs_X0_expandTree_12 : GoodIn wsX0_expandLs wsX0_expandTree_r13 := goodIn_r _ [30, 31, 32, 33, 34, 35, 39, 40, 41, 42, 43, 44, 45, 46, 47, 48, 54, 55, 56, 57, 58, 63, 64, 65] (by decide +kernel) (by decide +kernel)
set_option maxRecDepth 100000 in
theorem gpX0_expandLs_X0_expandTree_13 : GoodIn wsX0_expandLs wsX0_expandTree_r14 := goodIn_r _ [66, 67, 68, 69, 70, 72, 73, 74, 75, 76, 80, 81, 82, 83] (by decide +kernel) (by decide +kernel)
set_option maxRecDepth 100000 in
theorem gpX0_expandLs_X0_expandTree_14 : GoodIn wsX0_expandLs wsX00 := goodIn_r _ [327, 328, 329, 330, 331, 332, 333, 334, 335] (by decide +kernel) (by decide +kernel)
set_option maxRecDepth 100000 in
theorem gpX0_expandLs_X0_expandTree_15 : GoodIn wsX0_expandLs wsX20 := goodIn_r _ [336, 337, 338] (by decide +kernel) (by decide +kernel)
set_option maxRecDepth 100000 in
theorem gpX0_expandLs_X0_expandTree_16 : GoodIn wsX0_expandLs wsX50 := goodIn_r _ [339, 340, 341, 342, 343, 344] (by decide +kernel) (by decide +kernel)
set_option maxRecDepth 100000 in
theorem gpX0_expandLs_X0_expandTree_17 : GoodIn wsX0_expandLs wsX10 := goodIn_r _ [345, 346, 347, 348, 349, 350] (by decide +kernel) (by decide +kernel)
set_option maxRecDepth 100000 in
theorem gpX0_expandLs_X0_expandTree_18 : GoodIn wsX0_expandLs wsX40 := goodIn_r _ [351, 352, 353, 354] (by decide +kernel) (by decide +kernel)
set_option maxRecDepth 100000 in
theorem gpX0_expandLs_X0_expandTree_19 : GoodIn wsX0_expandLs wsX70 := goodIn_r _ [355, 356, 357, 358, 359, 360] (by decide +kernel) (by decide +kernel)
set_option maxRecDepth 100000 in
theorem gpX0_expandLs_X0_expandTree_20 : GoodIn wsX0_expandLs wsX60 := goodIn_r _ [361] (by decide +kernel) (by decide +kernel)
set_option maxRecDepth 100000 in
theorem gpX0_expandLs_X0_expandTree_c : GoodIn wsX0_expandLs [Cond.code yX0_expandTree cX0_expandTree 4 none] := goodIn_r _ [318] (by decide +kernel) (by decide +kernel)
theorem ggX0_expandLs_X0_expandTree : GoodIn wsX0_expandLs wsX0_expandTree := goodIn_cons2 gpX0_expandLs_X0_expandTree_c (goodIn_app (goodIn_app (goodIn_app (goodIn_app (goodIn_app (goodIn_app (goodIn_app (goodIn_app gpX0_expandLs_X0_expandTree_0 (goodIn_app gpX0_expandLs_X0_expandTree_1 (goodIn_app gpX0_expandLs_X0_expandTree_2 (goodIn_app gpX0_expandLs_X0_expandTree_3 (goodIn_app gpX0_expandLs_X0_expandTree_4 (goodIn_app gpX0_expandLs_X0_expandTree_5 (goodIn_app gpX0_expandLs_X0_expandTree_6 (goodIn_app gpX0_expandLs_X0_expandTree_7 (goodIn_app gpX0_expandLs_X0_expandTree_8 (goodIn_app gpX0_expandLs_X0_expandTree_9 (goodIn_app gpX0_expandLs_X0_expandTree_10 (goodIn_app gpX0_expandLs_X0_expandTree_11 (goodIn_app gpX0_expandLs_X0_expandTree_12 gpX0_expandLs_X0_expandTree_13))))))))))))) gpX0_expandLs_X0_expandTree_14) gpX0_expandLs_X0_expandTree_15) gpX0_expandLs_X0_expandTree_16) gpX0_expandLs_X0_expandTree_17) gpX0_expandLs_X0_expandTree_18) gpX0_expandLs_X0_expandTree_19) gpX0_expandLs_X0_expandTree_20)
set_option maxRecDepth 20000 in
theorem gX0_expandLs_X0_expandTree : GoodIn wsX0_expandLs (wsV RX0 133 RX0 yX0_expandTree wsX0_expandTree) := goodIn_app (goodIn_of _ (by decide +kernel)) ggX0_expandLs_X0_expandTree
theorem dX0_expandLs_0 : decode cX0_expandLs 0 = .ok (.iload_n 1, 1) := by decide +kernel
theorem dX0_expandLs_1 : decode cX0_expandLs 1 = .ok (.iconst 2, 1) := by decide +kernel
theorem dX0_expandLs_2 : decode cX0_expandLs 2 = .ok (.iadd, 1) := by decide +kernel
theorem dX0_expandLs_3 : decode cX0_expandLs 3 = .ok (.istore_n 3, 1) := by decide +kernel
theorem dX0_expandLs_4 : decode cX0_expandLs 4 = .ok (.aload_n 0, 1) := by decide +kernel
theorem dX0_expandLs_5 : decode cX0_expandLs 5 = .ok (.getfield 9, 3) := by decide +kernel
theorem dX0_expandLs_8 : decode cX0_expandLs 8 = .ok (.iload_n 3, 1) := by decide +kernel
theorem dX0_expandLs_9 : decode cX0_expandLs 9 = .ok (.invokevirtual 136, 3) := by decide +kernel
theorem dX0_expandLs_12 : decode cX0_expandLs 12 = .ok (.istore 4, 2) := by decide +kernel
theorem dX0_expandLs_14 : decode cX0_expandLs 14 = .ok (.aload_n 0, 1) := by decide +kernel
theorem dX0_expandLs_15 : decode cX0_expandLs 15 = .ok (.getfield 9, 3) := by decide +kernel
theorem dX0_expandLs_18 : decode cX0_expandLs 18 = .ok (.iload_n 1, 1) := by decide +kernel
theorem dX0_expandLs_19 : decode cX0_expandLs 19 = .ok (.invokevirtual 139, 3) := by decide +kernel
theorem dX0_expandLs_22 : decode cX0_expandLs 22 = .ok (.iconst 3, 1) := by decide +kernel
theorem dX0_expandLs_23 : decode cX0_expandLs 23 = .ok (.if_icmp .ne 14, 3) := by decide +kernel
theorem dX0_expandLs_26 : decode cX0_expandLs 26 = .ok (.aload_n 0, 1) := by decide +kernel
theorem dX0_expandLs_27 : decode cX0_expandLs 27 = .ok (.getfield 15, 3) := by decide +kernel
theorem dX0_expandLs_30 : decode cX0_expandLs 30 = .ok (.iload_n 3, 1) := by decide +kernel
theorem dX0_expandLs_31 : decode cX0_expandLs 31 = .ok (.invokevirtual 172, 3) := by decide +kernel
theorem dX0_expandLs_34 : decode cX0_expandLs 34 = .ok (.ifCond .ne 12, 3) := by decide +kernel
theorem dX0_expandLs_37 : decode cX0_expandLs 37 = .ok (.aload_n 0, 1) := by decide +kernel
theorem dX0_expandLs_38 : decode cX0_expandLs 38 = .ok (.getfield 23, 3) := by decide +kernel
theorem dX0_expandLs_41 : decode cX0_expandLs 41 = .ok (.iconst 3, 1) := by decide +kernel
theorem dX0_expandLs_42 : decode cX0_expandLs 42 = .ok (.invokevirtual 83, 3) := by decide +kernel
theorem dX0_expandLs_45 : decode cX0_expandLs 45 = .ok (.return_, 1) := by decide +kernel
theorem dX0_expandLs_46 : decode cX0_expandLs 46 = .ok (.aload_n 0, 1) := by decide +kernel
theorem dX0_expandLs_47 : decode cX0_expandLs 47 = .ok (.invokevirtual 145, 3) := by decide +kernel
theorem dX0_expandLs_50 : decode cX0_expandLs 50 = .ok (.istore 5, 2) := by decide +kernel
theorem dX0_expandLs_52 : decode cX0_expandLs 52 = .ok (.iload 5, 2) := by decide +kernel
theorem dX0_expandLs_54 : decode cX0_expandLs 54 = .ok (.ifCond .ge 4, 3) := by decide +kernel
theorem dX0_expandLs_57 : decode cX0_expandLs 57 = .ok (.return_, 1) := by decide +kernel
theorem dX0_expandLs_58 : decode cX0_expandLs 58 = .ok (.aload_n 0, 1) := by decide +kernel
theorem dX0_expandLs_59 : decode cX0_expandLs 59 = .ok (.getfield 9, 3) := by decide +kernel
theorem dX0_expandLs_62 : decode cX0_expandLs 62 = .ok (.iload_n 3, 1) := by decide +kernel
theorem dX0_expandLs_63 : decode cX0_expandLs 63 = .ok (.iconst 1, 1) := by decide +kernel
theorem dX0_expandLs_64 : decode cX0_expandLs 64 = .ok (.iadd, 1) := by decide +kernel
theorem dX0_expandLs_65 : decode cX0_expandLs 65 = .ok (.iload 5, 2) := by decide +kernel
theorem dX0_expandLs_67 : decode cX0_expandLs 67 = .ok (.invokevirtual 149, 3) := by decide +kernel
theorem dX0_expandLs_70 : decode cX0_expandLs 70 = .ok (.aload_n 0, 1) := by decide +kernel
theorem dX0_expandLs_71 : decode cX0_expandLs 71 = .ok (.getfield 9, 3) := by decide +kernel
theorem dX0_expandLs_74 : decode cX0_expandLs 74 = .ok (.iload 4, 2) := by decide +kernel
theorem dX0_expandLs_76 : decode cX0_expandLs 76 = .ok (.iload 5, 2) := by decide +kernel
theorem dX0_expandLs_78 : decode cX0_expandLs 78 = .ok (.invokevirtual 149, 3) := by decide +kernel
theorem dX0_expandLs_81 : decode cX0_expandLs 81 = .ok (.aload_n 0, 1) := by decide +kernel
theorem dX0_expandLs_82 : decode cX0_expandLs 82 = .ok (.iload_n 3, 1) := by decide +kernel
theorem dX0_expandLs_83 : decode cX0_expandLs 83 = .ok (.iconst 1, 1) := by decide +kernel
theorem dX0_expandLs_84 : decode cX0_expandLs 84 = .ok (.iadd, 1) := by decide +kernel
theorem dX0_expandLs_85 : decode cX0_expandLs 85 = .ok (.bipush 6, 2) := by decide +kernel
theorem dX0_expandLs_87 : decode cX0_expandLs 87 = .ok (.iload_n 3, 1) := by decide +kernel
theorem dX0_expandLs_88 : decode cX0_expandLs 88 = .ok (.invokevirtual 163, 3) := by decide +kernel
theorem dX0_expandLs_91 : decode cX0_expandLs 91 = .ok (.ifCond .eq 12, 3) := by decide +kernel
theorem dX0_expandLs_94 : decode cX0_expandLs 94 = .ok (.aload_n 0, 1) := by decide +kernel
theorem dX0_expandLs_95 : decode cX0_expandLs 95 = .ok (.iload 4, 2) := by decide +kernel
theorem dX0_expandLs_97 : decode cX0_expandLs 97 = .ok (.iload_n 2, 1) := by decide +kernel
theorem dX0_expandLs_98 : decode cX0_expandLs 98 = .ok (.iconst 1, 1) := by decide +kernel
theorem dX0_expandLs_99 : decode cX0_expandLs 99 = .ok (.iadd, 1) := by decide +kernel
theorem dX0_expandLs_100 : decode cX0_expandLs 100 = .ok (.invokevirtual 133, 3) := by decide +kernel
theorem dX0_expandLs_103 : decode cX0_expandLs 103 = .ok (.return_, 1) := by decide +kernel
set_option maxRecDepth 20000 in
theorem ggX1_firstRule_X5_plainLength : GoodIn wsX1_firstRule wsX5_plainLength := goodIn_r _ [6, 7, 8, 9, 5, 10, 11, 12, 13, 14, 15, 16, 17, 18, 19, 20, 78, 79, 80, 81, 82, 83] (by decide +kernel) (by decide +kernel)
set_option maxRecDepth 20000 in
theorem gX1_firstRule_X5_plainLength : GoodIn wsX1_firstRule (wsV RX1 26 RX5 yX5_plainLength wsX5_plainLength) := goodIn_app (goodIn_of _ (by decide +kernel)) ggX1_firstRule_X5_plainLength
set_option maxRecDepth 100000 in
theorem gpX1_firstRule_X1_matches_0 : GoodIn wsX1_firstRule wsX1_matches_r1 := goodIn_r _ [26, 1, 27, 28, 29, 30, 24, 31, 2, 3, 4, 5, 6, 7, 8, 9, 10, 11, 12, 13, 14, 15, 16, 17] (by decide +kernel) (by decide +kernel)
set_option maxRecDepth 100000 in
theorem gpX1_firstRule_X1_matches_1 : GoodIn wsX1_firstRule wsX1_matches_r2 := goodIn_r _ [18, 19, 20, 32, 33, 34, 35, 36, 37, 38, 39, 40, 41, 42, 43, 44, 45, 46, 47, 48, 49, 50, 51, 52] (by decide +kernel) (by decide +kernel)
set_option maxRecDepth 100000 in
theorem gpX1_firstRule_X1_matches_2 : GoodIn wsX1_firstRule wsX1_matches_r3 := goodIn_r _ [53, 54, 55, 56, 57, 58, 59, 60, 61, 62, 63, 64, 65, 66, 67, 68, 69, 70, 71] (by decide +kernel) (by decide +kernel)
set_option maxRecDepth 100000 in
theorem gpX1_firstRule_X1_matches_3 : GoodIn wsX1_firstRule wsX10 := goodIn_r _ [72, 73, 74, 75, 76, 77] (by decide +kernel) (by decide +kernel)
set_option maxRecDepth 100000 in
theorem gpX1_firstRule_X1_matches_4 : GoodIn wsX1_firstRule wsX50 := goodIn_r _ [78, 79, 80, 81, 82, 83] (by decide +kernel) (by decide +kernel)
set_option maxRecDepth 100000 in
theorem gpX1_firstRule_X1_matches_5 : GoodIn wsX1_firstRule wsX40 := goodIn_r _ [84, 85, 86, 87] (by decide +kernel) (by decide +kernel)
set_option maxRecDepth 100000 in
theorem gpX1_firstRule_X1_matches_c : GoodIn wsX1_firstRule [Cond.code yX1_matches cX1_matches 8 (some .boolean)] := goodIn_r _ [25] (by decide +kernel) (by decide +kernel)
theorem ggX1_firstRule_X1_matches : GoodIn wsX1_firstRule wsX1_matches := goodIn_cons2 gpX1_firstRule_X1_matches_c (goodIn_app (goodIn_app (goodIn_app (goodIn_app gpX1_firstRule_X1_matches_0 (goodIn_app gpX1_firstRule_X1_matches_1 gpX1_firstRule_X1_matches_2)) gpX1_firstRule_X1_matches_3) gpX1_firstRule_X1_matches_4) gpX1_firstRule_X1_matches_5)
set_option maxRecDepth 20000 in
theorem gX1_firstRule_X1_matches : GoodIn wsX1_firstRule (wsV RX1 32 RX1 yX1_matches wsX1_matches) := goodIn_app (goodIn_of _ (by decide +kernel)) ggX1_firstRule_X1_matches
set_option maxRecDepth 20000 in
theorem ggX1_firstRule_X5_after : GoodIn wsX1_firstRule wsX5_after := goodIn_r _ [43, 11, 44, 78, 79, 80, 81, 82, 83] (by decide +kernel) (by decide +kernel)
set_option maxRecDepth 20000 in
theorem gX1_firstRule_X5_after : GoodIn wsX1_firstRule (wsV RX1 36 RX5 yX5_after wsX5_after) := goodIn_app (goodIn_of _ (by decide +kernel)) ggX1_firstRule_X5_after
theorem dX1_firstRule_0 : decode cX1_firstRule 0 = .ok (.aload_n 0, 1) := by decide +kernel
theorem dX1_firstRule_1 : decode cX1_firstRule 1 = .ok (.getfield 18, 3) := by decide +kernel
theorem dX1_firstRule_4 : decode cX1_firstRule 4 = .ok (.iload_n 1, 1) := by decide +kernel
theorem dX1_firstRule_5 : decode cX1_firstRule 5 = .ok (.invokevirtual 26, 3) := by decide +kernel
theorem dX1_firstRule_8 : decode cX1_firstRule 8 = .ok (.istore_n 3, 1) := by decide +kernel
theorem dX1_firstRule_9 : decode cX1_firstRule 9 = .ok (.iload_n 1, 1) := by decide +kernel
theorem dX1_firstRule_10 : decode cX1_firstRule 10 = .ok (.iconst 2, 1) := by decide +kernel
theorem dX1_firstRule_11 : decode cX1_firstRule 11 = .ok (.iadd, 1) := by decide +kernel
theorem dX1_firstRule_12 : decode cX1_firstRule 12 = .ok (.istore 4, 2) := by decide +kernel
theorem dX1_firstRule_14 : decode cX1_firstRule 14 = .ok (.iconst 1, 1) := by decide +kernel
theorem dX1_firstRule_15 : decode cX1_firstRule 15 = .ok (.istore 5, 2) := by decide +kernel
theorem dX1_firstRule_17 : decode cX1_firstRule 17 = .ok (.iload 5, 2) := by decide +kernel
theorem dX1_firstRule_19 : decode cX1_firstRule 19 = .ok (.iload_n 3, 1) := by decide +kernel
theorem dX1_firstRule_20 : decode cX1_firstRule 20 = .ok (.if_icmp .ge 35, 3) := by decide +kernel
theorem dX1_firstRule_23 : decode cX1_firstRule 23 = .ok (.aload_n 0, 1) := by decide +kernel
theorem dX1_firstRule_24 : decode cX1_firstRule 24 = .ok (.iload 4, 2) := by decide +kernel
theorem dX1_firstRule_26 : decode cX1_firstRule 26 = .ok (.iconst 1, 1) := by decide +kernel
theorem dX1_firstRule_27 : decode cX1_firstRule 27 = .ok (.iadd, 1) := by decide +kernel
theorem dX1_firstRule_28 : decode cX1_firstRule 28 = .ok (.iload_n 2, 1) := by decide +kernel
theorem dX1_firstRule_29 : decode cX1_firstRule 29 = .ok (.invokevirtual 32, 3) := by decide +kernel
theorem dX1_firstRule_32 : decode cX1_firstRule 32 = .ok (.ifCond .eq 6, 3) := by decide +kernel
theorem dX1_firstRule_35 : decode cX1_firstRule 35 = .ok (.iload 4, 2) := by decide +kernel
theorem dX1_firstRule_37 : decode cX1_firstRule 37 = .ok (.ireturn, 1) := by decide +kernel
theorem dX1_firstRule_38 : decode cX1_firstRule 38 = .ok (.aload_n 0, 1) := by decide +kernel
theorem dX1_firstRule_39 : decode cX1_firstRule 39 = .ok (.getfield 18, 3) := by decide +kernel
theorem dX1_firstRule_42 : decode cX1_firstRule 42 = .ok (.iload 4, 2) := by decide +kernel
theorem dX1_firstRule_44 : decode cX1_firstRule 44 = .ok (.invokevirtual 36, 3) := by decide +kernel
theorem dX1_firstRule_47 : decode cX1_firstRule 47 = .ok (.istore 4, 2) := by decide +kernel
theorem dX1_firstRule_49 : decode cX1_firstRule 49 = .ok (.iinc 5 1, 3) := by decide +kernel
theorem dX1_firstRule_52 : decode cX1_firstRule 52 = .ok (.goto (-35), 3) := by decide +kernel
theorem dX1_firstRule_55 : decode cX1_firstRule 55 = .ok (.iconst (-1), 1) := by decide +kernel
theorem dX1_firstRule_56 : decode cX1_firstRule 56 = .ok (.ireturn, 1) := by decide +kernel
set_option maxRecDepth 20000 in
theorem ggX1_matches_X1_hasRoomFor : GoodIn wsX1_matches wsX1_hasRoomFor := goodIn_r _ [8, 2, 9, 10, 11, 12, 13, 14, 15, 16, 17, 18, 19, 20, 21, 22, 23, 24, 25, 26, 27, 28, 29, 68, 69, 70, 71, 72, 73, 74, 75, 76, 77, 78, 79] (by decide +kernel) (by decide +kernel)
set_option maxRecDepth 20000 in
theorem gX1_matches_X1_hasRoomFor : GoodIn wsX1_matches (wsV RX1 39 RX1 yX1_hasRoomFor wsX1_hasRoomFor) := goodIn_app (goodIn_of _ (by decide +kernel)) ggX1_matches_X1_hasRoomFor
set_option maxRecDepth 20000 in
theorem ggX1_matches_X4_clear : GoodIn wsX1_matches wsX4_clear := goodIn_r _ [34, 35, 80, 81, 82, 83] (by decide +kernel) (by decide +kernel)
set_option maxRecDepth 20000 in
theorem gX1_matches_X4_clear : GoodIn wsX1_matches (wsV RX1 42 RX4 yX4_clear wsX4_clear) := goodIn_app (goodIn_of _ (by decide +kernel)) ggX1_matches_X4_clear
set_option maxRecDepth 20000 in
theorem ggX1_matches_X5_after : GoodIn wsX1_matches wsX5_after := goodIn_r _ [39, 18, 40, 74, 75, 76, 77, 78, 79] (by decide +kernel) (by decide +kernel)
set_option maxRecDepth 20000 in
theorem gX1_matches_X5_after : GoodIn wsX1_matches (wsV RX1 36 RX5 yX5_after wsX5_after) := goodIn_app (goodIn_of _ (by decide +kernel)) ggX1_matches_X5_after
set_option maxRecDepth 20000 in
theorem ggX1_matches_X5_isHeld : GoodIn wsX1_matches wsX5_isHeld := goodIn_r _ [44, 18, 19, 40, 74, 75, 76, 77, 78, 79] (by decide +kernel) (by decide +kernel)
set_option maxRecDepth 20000 in
theorem gX1_matches_X5_isHeld : GoodIn wsX1_matches (wsV RX1 46 RX5 yX5_isHeld wsX5_isHeld) := goodIn_app (goodIn_of _ (by decide +kernel)) ggX1_matches_X5_isHeld
set_option maxRecDepth 20000 in
theorem ggX1_matches_X4_isIn : GoodIn wsX1_matches wsX4_isIn := goodIn_r _ [48, 49, 35, 50, 51, 52, 33, 53, 80, 81, 82, 83] (by decide +kernel) (by decide +kernel)
set_option maxRecDepth 20000 in
theorem gX1_matches_X4_isIn : GoodIn wsX1_matches (wsV RX1 50 RX4 yX4_isIn wsX4_isIn) := goodIn_app (goodIn_of _ (by decide +kernel)) ggX1_matches_X4_isIn
set_option maxRecDepth 20000 in
theorem ggX1_matches_X5_itemsFrom : GoodIn wsX1_matches wsX5_itemsFrom := goodIn_r _ [27, 18, 19, 74, 75, 76, 77, 78, 79] (by decide +kernel) (by decide +kernel)
set_option maxRecDepth 20000 in
theorem gX1_matches_X5_itemsFrom : GoodIn wsX1_matches (wsV RX1 53 RX5 yX5_itemsFrom wsX5_itemsFrom) := goodIn_app (goodIn_of _ (by decide +kernel)) ggX1_matches_X5_itemsFrom
set_option maxRecDepth 20000 in
theorem ggX1_matches_X4_enter : GoodIn wsX1_matches wsX4_enter := goodIn_r _ [57, 35, 49, 58, 59, 80, 81, 82, 83] (by decide +kernel) (by decide +kernel)
set_option maxRecDepth 20000 in
theorem gX1_matches_X4_enter : GoodIn wsX1_matches (wsV RX1 56 RX4 yX4_enter wsX4_enter) := goodIn_app (goodIn_of _ (by decide +kernel)) ggX1_matches_X4_enter
set_option maxRecDepth 20000 in
theorem ggX1_matches_X5_wordAt : GoodIn wsX1_matches wsX5_wordAt := goodIn_r _ [17, 18, 19, 74, 75, 76, 77, 78, 79] (by decide +kernel) (by decide +kernel)
set_option maxRecDepth 20000 in
theorem gX1_matches_X5_wordAt : GoodIn wsX1_matches (wsV RX1 60 RX5 yX5_wordAt wsX5_wordAt) := goodIn_app (goodIn_of _ (by decide +kernel)) ggX1_matches_X5_wordAt
set_option maxRecDepth 20000 in
theorem ggX1_matches_X4_leave : GoodIn wsX1_matches wsX4_leave := goodIn_r _ [64, 58, 35, 59, 49, 50, 51, 52, 33, 53, 80, 81, 82, 83] (by decide +kernel) (by decide +kernel)
set_option maxRecDepth 20000 in
theorem gX1_matches_X4_leave : GoodIn wsX1_matches (wsV RX1 63 RX4 yX4_leave wsX4_leave) := goodIn_app (goodIn_of _ (by decide +kernel)) ggX1_matches_X4_leave
set_option maxRecDepth 20000 in
theorem ggX1_matches_X8_isName : GoodIn wsX1_matches wsX8_isName := goodIn_r _ [67] (by decide +kernel) (by decide +kernel)
theorem dX1_matches_0 : decode cX1_matches 0 = .ok (.aload_n 0, 1) := by decide +kernel
theorem dX1_matches_1 : decode cX1_matches 1 = .ok (.iload_n 1, 1) := by decide +kernel
theorem dX1_matches_2 : decode cX1_matches 2 = .ok (.iload_n 2, 1) := by decide +kernel
theorem dX1_matches_3 : decode cX1_matches 3 = .ok (.invokevirtual 39, 3) := by decide +kernel
theorem dX1_matches_6 : decode cX1_matches 6 = .ok (.ifCond .ne 5, 3) := by decide +kernel
theorem dX1_matches_9 : decode cX1_matches 9 = .ok (.iconst 0, 1) := by decide +kernel
theorem dX1_matches_10 : decode cX1_matches 10 = .ok (.ireturn, 1) := by decide +kernel
theorem dX1_matches_11 : decode cX1_matches 11 = .ok (.aload_n 0, 1) := by decide +kernel
theorem dX1_matches_12 : decode cX1_matches 12 = .ok (.getfield 12, 3) := by decide +kernel
theorem dX1_matches_15 : decode cX1_matches 15 = .ok (.invokevirtual 42, 3) := by decide +kernel
theorem dX1_matches_18 : decode cX1_matches 18 = .ok (.aload_n 0, 1) := by decide +kernel
theorem dX1_matches_19 : decode cX1_matches 19 = .ok (.getfield 18, 3) := by decide +kernel
theorem dX1_matches_22 : decode cX1_matches 22 = .ok (.iload_n 1, 1) := by decide +kernel
theorem dX1_matches_23 : decode cX1_matches 23 = .ok (.invokevirtual 36, 3) := by decide +kernel
theorem dX1_matches_26 : decode cX1_matches 26 = .ok (.istore_n 3, 1) := by decide +kernel
theorem dX1_matches_27 : decode cX1_matches 27 = .ok (.aload_n 0, 1) := by decide +kernel
theorem dX1_matches_28 : decode cX1_matches 28 = .ok (.getfield 18, 3) := by decide +kernel
theorem dX1_matches_31 : decode cX1_matches 31 = .ok (.iload_n 1, 1) := by decide +kernel
theorem dX1_matches_32 : decode cX1_matches 32 = .ok (.iconst 1, 1) := by decide +kernel
theorem dX1_matches_33 : decode cX1_matches 33 = .ok (.iadd, 1) := by decide +kernel
theorem dX1_matches_34 : decode cX1_matches 34 = .ok (.invokevirtual 36, 3) := by decide +kernel
theorem dX1_matches_37 : decode cX1_matches 37 = .ok (.istore 4, 2) := by decide +kernel
theorem dX1_matches_39 : decode cX1_matches 39 = .ok (.aload_n 0, 1) := by decide +kernel
theorem dX1_matches_40 : decode cX1_matches 40 = .ok (.getfield 18, 3) := by decide +kernel
theorem dX1_matches_43 : decode cX1_matches 43 = .ok (.iload_n 2, 1) := by decide +kernel
theorem dX1_matches_44 : decode cX1_matches 44 = .ok (.iconst 1, 1) := by decide +kernel
theorem dX1_matches_45 : decode cX1_matches 45 = .ok (.iadd, 1) := by decide +kernel
theorem dX1_matches_46 : decode cX1_matches 46 = .ok (.invokevirtual 36, 3) := by decide +kernel
theorem dX1_matches_49 : decode cX1_matches 49 = .ok (.istore 5, 2) := by decide +kernel
theorem dX1_matches_51 : decode cX1_matches 51 = .ok (.iconst 0, 1) := by decide +kernel
theorem dX1_matches_52 : decode cX1_matches 52 = .ok (.istore 6, 2) := by decide +kernel
theorem dX1_matches_54 : decode cX1_matches 54 = .ok (.iload 6, 2) := by decide +kernel
theorem dX1_matches_56 : decode cX1_matches 56 = .ok (.ldc 45, 2) := by decide +kernel
theorem dX1_matches_58 : decode cX1_matches 58 = .ok (.if_icmp .ge 191, 3) := by decide +kernel
theorem dX1_matches_61 : decode cX1_matches 61 = .ok (.iload 4, 2) := by decide +kernel
theorem dX1_matches_63 : decode cX1_matches 63 = .ok (.iload_n 3, 1) := by decide +kernel
theorem dX1_matches_64 : decode cX1_matches 64 = .ok (.if_icmp .ge 185, 3) := by decide +kernel
theorem dX1_matches_67 : decode cX1_matches 67 = .ok (.aload_n 0, 1) := by decide +kernel
theorem dX1_matches_68 : decode cX1_matches 68 = .ok (.getfield 18, 3) := by decide +kernel
theorem dX1_matches_71 : decode cX1_matches 71 = .ok (.iload 4, 2) := by decide +kernel
theorem dX1_matches_73 : decode cX1_matches 73 = .ok (.invokevirtual 46, 3) := by decide +kernel
theorem dX1_matches_76 : decode cX1_matches 76 = .ok (.ifCond .eq 58, 3) := by decide +kernel
theorem dX1_matches_79 : decode cX1_matches 79 = .ok (.aload_n 0, 1) := by decide +kernel
theorem dX1_matches_80 : decode cX1_matches 80 = .ok (.getfield 12, 3) := by decide +kernel
theorem dX1_matches_83 : decode cX1_matches 83 = .ok (.iload 4, 2) := by decide +kernel
theorem dX1_matches_85 : decode cX1_matches 85 = .ok (.invokevirtual 50, 3) := by decide +kernel
theorem dX1_matches_88 : decode cX1_matches 88 = .ok (.ifCond .ne 46, 3) := by decide +kernel
theorem dX1_matches_91 : decode cX1_matches 91 = .ok (.aload_n 0, 1) := by decide +kernel
theorem dX1_matches_92 : decode cX1_matches 92 = .ok (.getfield 18, 3) := by decide +kernel
theorem dX1_matches_95 : decode cX1_matches 95 = .ok (.iload 5, 2) := by decide +kernel
theorem dX1_matches_97 : decode cX1_matches 97 = .ok (.invokevirtual 53, 3) := by decide +kernel
theorem dX1_matches_100 : decode cX1_matches 100 = .ok (.istore 7, 2) := by decide +kernel
theorem dX1_matches_102 : decode cX1_matches 102 = .ok (.iload 7, 2) := by decide +kernel
theorem dX1_matches_104 : decode cX1_matches 104 = .ok (.ifCond .ne 19, 3) := by decide +kernel
theorem dX1_matches_107 : decode cX1_matches 107 = .ok (.aload_n 0, 1) := by decide +kernel
theorem dX1_matches_108 : decode cX1_matches 108 = .ok (.getfield 18, 3) := by decide +kernel
theorem dX1_matches_111 : decode cX1_matches 111 = .ok (.iload 4, 2) := by decide +kernel
theorem dX1_matches_113 : decode cX1_matches 113 = .ok (.invokevirtual 36, 3) := by decide +kernel
theorem dX1_matches_116 : decode cX1_matches 116 = .ok (.iconst 1, 1) := by decide +kernel
theorem dX1_matches_117 : decode cX1_matches 117 = .ok (.iadd, 1) := by decide +kernel
theorem dX1_matches_118 : decode cX1_matches 118 = .ok (.istore 4, 2) := by decide +kernel
theorem dX1_matches_120 : decode cX1_matches 120 = .ok (.goto 123, 3) := by decide +kernel
theorem dX1_matches_123 : decode cX1_matches 123 = .ok (.aload_n 0, 1) := by decide +kernel
theorem dX1_matches_124 : decode cX1_matches 124 = .ok (.getfield 12, 3) := by decide +kernel
theorem dX1_matches_127 : decode cX1_matches 127 = .ok (.iload 4, 2) := by decide +kernel
theorem dX1_matches_129 : decode cX1_matches 129 = .ok (.iload 7, 2) := by decide +kernel
theorem dX1_matches_131 : decode cX1_matches 131 = .ok (.invokevirtual 56, 3) := by decide +kernel
theorem dX1_matches_134 : decode cX1_matches 134 = .ok (.aload_n 0, 1) := by decide +kernel
theorem dX1_matches_135 : decode cX1_matches 135 = .ok (.getfield 18, 3) := by decide +kernel
theorem dX1_matches_138 : decode cX1_matches 138 = .ok (.iload 4, 2) := by decide +kernel
theorem dX1_matches_140 : decode cX1_matches 140 = .ok (.invokevirtual 60, 3) := by decide +kernel
theorem dX1_matches_143 : decode cX1_matches 143 = .ok (.istore 7, 2) := by decide +kernel
theorem dX1_matches_145 : decode cX1_matches 145 = .ok (.iload 7, 2) := by decide +kernel
theorem dX1_matches_147 : decode cX1_matches 147 = .ok (.bipush (-3), 2) := by decide +kernel
theorem dX1_matches_149 : decode cX1_matches 149 = .ok (.if_icmp .ne 17, 3) := by decide +kernel
theorem dX1_matches_152 : decode cX1_matches 152 = .ok (.aload_n 0, 1) := by decide +kernel
theorem dX1_matches_153 : decode cX1_matches 153 = .ok (.getfield 12, 3) := by decide +kernel
theorem dX1_matches_156 : decode cX1_matches 156 = .ok (.iload 4, 2) := by decide +kernel
theorem dX1_matches_158 : decode cX1_matches 158 = .ok (.invokevirtual 63, 3) := by decide +kernel
theorem dX1_matches_161 : decode cX1_matches 161 = .ok (.istore 4, 2) := by decide +kernel
theorem dX1_matches_163 : decode cX1_matches 163 = .ok (.goto 80, 3) := by decide +kernel
theorem dX1_matches_166 : decode cX1_matches 166 = .ok (.iload 7, 2) := by decide +kernel
theorem dX1_matches_168 : decode cX1_matches 168 = .ok (.invokestatic 66, 3) := by decide +kernel
theorem dX1_matches_171 : decode cX1_matches 171 = .ok (.ifCond .ne 10, 3) := by decide +kernel
theorem dX1_matches_174 : decode cX1_matches 174 = .ok (.iload 7, 2) := by decide +kernel
theorem dX1_matches_176 : decode cX1_matches 176 = .ok (.bipush (-4), 2) := by decide +kernel
theorem dX1_matches_178 : decode cX1_matches 178 = .ok (.if_icmp .ne 20, 3) := by decide +kernel
theorem dX1_matches_181 : decode cX1_matches 181 = .ok (.iinc 4 1, 3) := by decide +kernel
theorem dX1_matches_184 : decode cX1_matches 184 = .ok (.aload_n 0, 1) := by decide +kernel
theorem dX1_matches_185 : decode cX1_matches 185 = .ok (.getfield 18, 3) := by decide +kernel
theorem dX1_matches_188 : decode cX1_matches 188 = .ok (.iload 5, 2) := by decide +kernel
theorem dX1_matches_190 : decode cX1_matches 190 = .ok (.invokevirtual 36, 3) := by decide +kernel
theorem dX1_matches_193 : decode cX1_matches 193 = .ok (.istore 5, 2) := by decide +kernel
theorem dX1_matches_195 : decode cX1_matches 195 = .ok (.goto 48, 3) := by decide +kernel
theorem dX1_matches_198 : decode cX1_matches 198 = .ok (.iload 7, 2) := by decide +kernel
theorem dX1_matches_200 : decode cX1_matches 200 = .ok (.iconst (-1), 1) := by decide +kernel
theorem dX1_matches_201 : decode cX1_matches 201 = .ok (.if_icmp .ne 17, 3) := by decide +kernel
theorem dX1_matches_204 : decode cX1_matches 204 = .ok (.aload_n 0, 1) := by decide +kernel
theorem dX1_matches_205 : decode cX1_matches 205 = .ok (.iload 4, 2) := by decide +kernel
theorem dX1_matches_207 : decode cX1_matches 207 = .ok (.iload 5, 2) := by decide +kernel
theorem dX1_matches_209 : decode cX1_matches 209 = .ok (.invokevirtual 39, 3) := by decide +kernel
theorem dX1_matches_212 : decode cX1_matches 212 = .ok (.ifCond .eq 29, 3) := by decide +kernel
theorem dX1_matches_215 : decode cX1_matches 215 = .ok (.goto 17, 3) := by decide +kernel
theorem dX1_matches_218 : decode cX1_matches 218 = .ok (.aload_n 0, 1) := by decide +kernel
theorem dX1_matches_219 : decode cX1_matches 219 = .ok (.getfield 18, 3) := by decide +kernel
theorem dX1_matches_222 : decode cX1_matches 222 = .ok (.iload 5, 2) := by decide +kernel
theorem dX1_matches_224 : decode cX1_matches 224 = .ok (.invokevirtual 60, 3) := by decide +kernel
theorem dX1_matches_227 : decode cX1_matches 227 = .ok (.iload 7, 2) := by decide +kernel
theorem dX1_matches_229 : decode cX1_matches 229 = .ok (.if_icmp .ne 12, 3) := by decide +kernel
theorem dX1_matches_232 : decode cX1_matches 232 = .ok (.iinc 4 1, 3) := by decide +kernel
theorem dX1_matches_235 : decode cX1_matches 235 = .ok (.iinc 5 1, 3) := by decide +kernel
theorem dX1_matches_238 : decode cX1_matches 238 = .ok (.goto 5, 3) := by decide +kernel
theorem dX1_matches_241 : decode cX1_matches 241 = .ok (.iconst 0, 1) := by decide +kernel
theorem dX1_matches_242 : decode cX1_matches 242 = .ok (.ireturn, 1) := by decide +kernel
theorem dX1_matches_243 : decode cX1_matches 243 = .ok (.iinc 6 1, 3) := by decide +kernel
theorem dX1_matches_246 : decode cX1_matches 246 = .ok (.goto (-192), 3) := by decide +kernel
theorem dX1_matches_249 : decode cX1_matches 249 = .ok (.iconst 1, 1) := by decide +kernel
theorem dX1_matches_250 : decode cX1_matches 250 = .ok (.ireturn, 1) := by decide +kernel
set_option maxRecDepth 20000 in
theorem ggX1_hasRoomFor_X5_plainLength : GoodIn wsX1_hasRoomFor wsX5_plainLength := goodIn_r _ [6, 7, 8, 9, 5, 10, 11, 12, 13, 14, 15, 16, 17, 18, 19, 20, 29, 30, 31, 32, 33, 34] (by decide +kernel) (by decide +kernel)
set_option maxRecDepth 20000 in
theorem gX1_hasRoomFor_X5_plainLength : GoodIn wsX1_hasRoomFor (wsV RX1 26 RX5 yX5_plainLength wsX5_plainLength) := goodIn_app (goodIn_of _ (by decide +kernel)) ggX1_hasRoomFor_X5_plainLength
set_option maxRecDepth 20000 in
theorem ggX1_hasRoomFor_X5_itemsFrom : GoodIn wsX1_hasRoomFor wsX5_itemsFrom := goodIn_r _ [20, 11, 12, 29, 30, 31, 32, 33, 34] (by decide +kernel) (by decide +kernel)
set_option maxRecDepth 20000 in
theorem gX1_hasRoomFor_X5_itemsFrom : GoodIn wsX1_hasRoomFor (wsV RX1 53 RX5 yX5_itemsFrom wsX5_itemsFrom) := goodIn_app (goodIn_of _ (by decide +kernel)) ggX1_hasRoomFor_X5_itemsFrom
set_option maxRecDepth 20000 in
theorem ggX1_hasRoomFor_X5_hasDots : GoodIn wsX1_hasRoomFor wsX5_hasDots := goodIn_r _ [16, 11, 12, 29, 30, 31, 32, 33, 34] (by decide +kernel) (by decide +kernel)
set_option maxRecDepth 20000 in
theorem gX1_hasRoomFor_X5_hasDots : GoodIn wsX1_hasRoomFor (wsV RX1 69 RX5 yX5_hasDots wsX5_hasDots) := goodIn_app (goodIn_of _ (by decide +kernel)) ggX1_hasRoomFor_X5_hasDots
theorem dX1_hasRoomFor_0 : decode cX1_hasRoomFor 0 = .ok (.aload_n 0, 1) := by decide +kernel
theorem dX1_hasRoomFor_1 : decode cX1_hasRoomFor 1 = .ok (.getfield 18, 3) := by decide +kernel
theorem dX1_hasRoomFor_4 : decode cX1_hasRoomFor 4 = .ok (.iload_n 2, 1) := by decide +kernel
theorem dX1_hasRoomFor_5 : decode cX1_hasRoomFor 5 = .ok (.invokevirtual 26, 3) := by decide +kernel
theorem dX1_hasRoomFor_8 : decode cX1_hasRoomFor 8 = .ok (.istore_n 3, 1) := by decide +kernel
theorem dX1_hasRoomFor_9 : decode cX1_hasRoomFor 9 = .ok (.aload_n 0, 1) := by decide +kernel
theorem dX1_hasRoomFor_10 : decode cX1_hasRoomFor 10 = .ok (.getfield 18, 3) := by decide +kernel
theorem dX1_hasRoomFor_13 : decode cX1_hasRoomFor 13 = .ok (.iload_n 1, 1) := by decide +kernel
theorem dX1_hasRoomFor_14 : decode cX1_hasRoomFor 14 = .ok (.iconst 1, 1) := by decide +kernel
theorem dX1_hasRoomFor_15 : decode cX1_hasRoomFor 15 = .ok (.iadd, 1) := by decide +kernel
theorem dX1_hasRoomFor_16 : decode cX1_hasRoomFor 16 = .ok (.invokevirtual 53, 3) := by decide +kernel
theorem dX1_hasRoomFor_19 : decode cX1_hasRoomFor 19 = .ok (.istore 4, 2) := by decide +kernel
theorem dX1_hasRoomFor_21 : decode cX1_hasRoomFor 21 = .ok (.aload_n 0, 1) := by decide +kernel
theorem dX1_hasRoomFor_22 : decode cX1_hasRoomFor 22 = .ok (.getfield 18, 3) := by decide +kernel
theorem dX1_hasRoomFor_25 : decode cX1_hasRoomFor 25 = .ok (.iload_n 1, 1) := by decide +kernel
theorem dX1_hasRoomFor_26 : decode cX1_hasRoomFor 26 = .ok (.invokevirtual 69, 3) := by decide +kernel
theorem dX1_hasRoomFor_29 : decode cX1_hasRoomFor 29 = .ok (.ifCond .eq 19, 3) := by decide +kernel
theorem dX1_hasRoomFor_32 : decode cX1_hasRoomFor 32 = .ok (.iload_n 3, 1) := by decide +kernel
theorem dX1_hasRoomFor_33 : decode cX1_hasRoomFor 33 = .ok (.iload 4, 2) := by decide +kernel
theorem dX1_hasRoomFor_35 : decode cX1_hasRoomFor 35 = .ok (.iconst 2, 1) := by decide +kernel
theorem dX1_hasRoomFor_36 : decode cX1_hasRoomFor 36 = .ok (.isub, 1) := by decide +kernel
theorem dX1_hasRoomFor_37 : decode cX1_hasRoomFor 37 = .ok (.if_icmp .lt 7, 3) := by decide +kernel
theorem dX1_hasRoomFor_40 : decode cX1_hasRoomFor 40 = .ok (.iconst 1, 1) := by decide +kernel
theorem dX1_hasRoomFor_41 : decode cX1_hasRoomFor 41 = .ok (.goto 18, 3) := by decide +kernel
theorem dX1_hasRoomFor_44 : decode cX1_hasRoomFor 44 = .ok (.iconst 0, 1) := by decide +kernel
theorem dX1_hasRoomFor_45 : decode cX1_hasRoomFor 45 = .ok (.goto 14, 3) := by decide +kernel
theorem dX1_hasRoomFor_48 : decode cX1_hasRoomFor 48 = .ok (.iload_n 3, 1) := by decide +kernel
theorem dX1_hasRoomFor_49 : decode cX1_hasRoomFor 49 = .ok (.iload 4, 2) := by decide +kernel
theorem dX1_hasRoomFor_51 : decode cX1_hasRoomFor 51 = .ok (.if_icmp .ne 7, 3) := by decide +kernel
theorem dX1_hasRoomFor_54 : decode cX1_hasRoomFor 54 = .ok (.iconst 1, 1) := by decide +kernel
theorem dX1_hasRoomFor_55 : decode cX1_hasRoomFor 55 = .ok (.goto 4, 3) := by decide +kernel
theorem dX1_hasRoomFor_58 : decode cX1_hasRoomFor 58 = .ok (.iconst 0, 1) := by decide +kernel
theorem dX1_hasRoomFor_59 : decode cX1_hasRoomFor 59 = .ok (.ireturn, 1) := by decide +kernel
set_option maxRecDepth 20000 in
theorem ggX1_roundsFor_X5_after : GoodIn wsX1_roundsFor wsX5_after := goodIn_r _ [12, 13, 14, 60, 61, 62, 63, 64, 65] (by decide +kernel) (by decide +kernel)
set_option maxRecDepth 20000 in
theorem gX1_roundsFor_X5_after : GoodIn wsX1_roundsFor (wsV RX1 36 RX5 yX5_after wsX5_after) := goodIn_app (goodIn_of _ (by decide +kernel)) ggX1_roundsFor_X5_after
set_option maxRecDepth 20000 in
theorem ggX1_roundsFor_X5_variableAt : GoodIn wsX1_roundsFor wsX5_variableAt := goodIn_r _ [18, 13, 19, 60, 61, 62, 63, 64, 65] (by decide +kernel) (by decide +kernel)
set_option maxRecDepth 20000 in
theorem gX1_roundsFor_X5_variableAt : GoodIn wsX1_roundsFor (wsV RX1 98 RX5 yX5_variableAt wsX5_variableAt) := goodIn_app (goodIn_of _ (by decide +kernel)) ggX1_roundsFor_X5_variableAt
set_option maxRecDepth 20000 in
theorem ggX1_roundsFor_X1_matchOf : GoodIn wsX1_roundsFor wsX1_matchOf := goodIn_r _ [24, 25, 26, 27, 1, 2, 8, 9, 10, 11, 12, 13, 14, 28, 29, 30, 31, 32, 33, 34, 35, 36, 37, 38, 39, 50, 51, 52, 53, 54, 55, 60, 61, 62, 63, 64, 65, 56, 57, 58, 59] (by decide +kernel) (by decide +kernel)
set_option maxRecDepth 20000 in
theorem gX1_roundsFor_X1_matchOf : GoodIn wsX1_roundsFor (wsV RX1 104 RX1 yX1_matchOf wsX1_matchOf) := goodIn_app (goodIn_of _ (by decide +kernel)) ggX1_roundsFor_X1_matchOf
set_option maxRecDepth 20000 in
theorem ggX1_roundsFor_X5_itemsFrom : GoodIn wsX1_roundsFor wsX5_itemsFrom := goodIn_r _ [43, 13, 32, 60, 61, 62, 63, 64, 65] (by decide +kernel) (by decide +kernel)
set_option maxRecDepth 20000 in
theorem gX1_roundsFor_X5_itemsFrom : GoodIn wsX1_roundsFor (wsV RX1 53 RX5 yX5_itemsFrom wsX5_itemsFrom) := goodIn_app (goodIn_of _ (by decide +kernel)) ggX1_roundsFor_X5_itemsFrom
set_option maxRecDepth 20000 in
theorem ggX1_roundsFor_X2_fail : GoodIn wsX1_roundsFor wsX2_fail := goodIn_r _ [48, 49, 66, 67, 68] (by decide +kernel) (by decide +kernel)
set_option maxRecDepth 20000 in
theorem gX1_roundsFor_X2_fail : GoodIn wsX1_roundsFor (wsV RX1 108 RX2 yX2_fail wsX2_fail) := goodIn_app (goodIn_of _ (by decide +kernel)) ggX1_roundsFor_X2_fail
theorem dX1_roundsFor_0 : decode cX1_roundsFor 0 = .ok (.iconst (-1), 1) := by decide +kernel
theorem dX1_roundsFor_1 : decode cX1_roundsFor 1 = .ok (.istore_n 2, 1) := by decide +kernel
theorem dX1_roundsFor_2 : decode cX1_roundsFor 2 = .ok (.aload_n 0, 1) := by decide +kernel
theorem dX1_roundsFor_3 : decode cX1_roundsFor 3 = .ok (.getfield 18, 3) := by decide +kernel
theorem dX1_roundsFor_6 : decode cX1_roundsFor 6 = .ok (.iload_n 1, 1) := by decide +kernel
theorem dX1_roundsFor_7 : decode cX1_roundsFor 7 = .ok (.invokevirtual 36, 3) := by decide +kernel
theorem dX1_roundsFor_10 : decode cX1_roundsFor 10 = .ok (.istore_n 3, 1) := by decide +kernel
theorem dX1_roundsFor_11 : decode cX1_roundsFor 11 = .ok (.iload_n 1, 1) := by decide +kernel
theorem dX1_roundsFor_12 : decode cX1_roundsFor 12 = .ok (.istore 4, 2) := by decide +kernel
theorem dX1_roundsFor_14 : decode cX1_roundsFor 14 = .ok (.iload 4, 2) := by decide +kernel
theorem dX1_roundsFor_16 : decode cX1_roundsFor 16 = .ok (.iload_n 3, 1) := by decide +kernel
theorem dX1_roundsFor_17 : decode cX1_roundsFor 17 = .ok (.if_icmp .ge 70, 3) := by decide +kernel
theorem dX1_roundsFor_20 : decode cX1_roundsFor 20 = .ok (.aload_n 0, 1) := by decide +kernel
theorem dX1_roundsFor_21 : decode cX1_roundsFor 21 = .ok (.getfield 18, 3) := by decide +kernel
theorem dX1_roundsFor_24 : decode cX1_roundsFor 24 = .ok (.iload 4, 2) := by decide +kernel
theorem dX1_roundsFor_26 : decode cX1_roundsFor 26 = .ok (.invokevirtual 98, 3) := by decide +kernel
theorem dX1_roundsFor_29 : decode cX1_roundsFor 29 = .ok (.istore 5, 2) := by decide +kernel
theorem dX1_roundsFor_31 : decode cX1_roundsFor 31 = .ok (.iload 5, 2) := by decide +kernel
theorem dX1_roundsFor_33 : decode cX1_roundsFor 33 = .ok (.ifCond .lt 48, 3) := by decide +kernel
theorem dX1_roundsFor_36 : decode cX1_roundsFor 36 = .ok (.aload_n 0, 1) := by decide +kernel
theorem dX1_roundsFor_37 : decode cX1_roundsFor 37 = .ok (.getfield 18, 3) := by decide +kernel
theorem dX1_roundsFor_40 : decode cX1_roundsFor 40 = .ok (.aload_n 0, 1) := by decide +kernel
theorem dX1_roundsFor_41 : decode cX1_roundsFor 41 = .ok (.iload 5, 2) := by decide +kernel
theorem dX1_roundsFor_43 : decode cX1_roundsFor 43 = .ok (.aload_n 0, 1) := by decide +kernel
theorem dX1_roundsFor_44 : decode cX1_roundsFor 44 = .ok (.getfield 12, 3) := by decide +kernel
theorem dX1_roundsFor_47 : decode cX1_roundsFor 47 = .ok (.getfield 101, 3) := by decide +kernel
theorem dX1_roundsFor_50 : decode cX1_roundsFor 50 = .ok (.invokevirtual 104, 3) := by decide +kernel
theorem dX1_roundsFor_53 : decode cX1_roundsFor 53 = .ok (.invokevirtual 53, 3) := by decide +kernel
theorem dX1_roundsFor_56 : decode cX1_roundsFor 56 = .ok (.istore 6, 2) := by decide +kernel
theorem dX1_roundsFor_58 : decode cX1_roundsFor 58 = .ok (.iload_n 2, 1) := by decide +kernel
theorem dX1_roundsFor_59 : decode cX1_roundsFor 59 = .ok (.ifCond .lt 19, 3) := by decide +kernel
theorem dX1_roundsFor_62 : decode cX1_roundsFor 62 = .ok (.iload_n 2, 1) := by decide +kernel
theorem dX1_roundsFor_63 : decode cX1_roundsFor 63 = .ok (.iload 6, 2) := by decide +kernel
theorem dX1_roundsFor_65 : decode cX1_roundsFor 65 = .ok (.if_icmp .eq 13, 3) := by decide +kernel
theorem dX1_roundsFor_68 : decode cX1_roundsFor 68 = .ok (.aload_n 0, 1) := by decide +kernel
theorem dX1_roundsFor_69 : decode cX1_roundsFor 69 = .ok (.getfield 22, 3) := by decide +kernel
theorem dX1_roundsFor_72 : decode cX1_roundsFor 72 = .ok (.iconst 4, 1) := by decide +kernel
theorem dX1_roundsFor_73 : decode cX1_roundsFor 73 = .ok (.invokevirtual 108, 3) := by decide +kernel
theorem dX1_roundsFor_76 : decode cX1_roundsFor 76 = .ok (.iconst 0, 1) := by decide +kernel
theorem dX1_roundsFor_77 : decode cX1_roundsFor 77 = .ok (.ireturn, 1) := by decide +kernel
theorem dX1_roundsFor_78 : decode cX1_roundsFor 78 = .ok (.iload 6, 2) := by decide +kernel
theorem dX1_roundsFor_80 : decode cX1_roundsFor 80 = .ok (.istore_n 2, 1) := by decide +kernel
theorem dX1_roundsFor_81 : decode cX1_roundsFor 81 = .ok (.iinc 4 1, 3) := by decide +kernel
theorem dX1_roundsFor_84 : decode cX1_roundsFor 84 = .ok (.goto (-70), 3) := by decide +kernel
theorem dX1_roundsFor_87 : decode cX1_roundsFor 87 = .ok (.iload_n 2, 1) := by decide +kernel
theorem dX1_roundsFor_88 : decode cX1_roundsFor 88 = .ok (.iconst 0, 1) := by decide +kernel
theorem dX1_roundsFor_89 : decode cX1_roundsFor 89 = .ok (.invokestatic 111, 3) := by decide +kernel
theorem dX1_roundsFor_92 : decode cX1_roundsFor 92 = .ok (.ireturn, 1) := by decide +kernel
set_option maxRecDepth 20000 in
theorem ggX1_matchOf_X5_after : GoodIn wsX1_matchOf wsX5_after := goodIn_r _ [10, 11, 12, 31, 32, 33, 34, 35, 36] (by decide +kernel) (by decide +kernel)
set_option maxRecDepth 20000 in
theorem gX1_matchOf_X5_after : GoodIn wsX1_matchOf (wsV RX1 36 RX5 yX5_after wsX5_after) := goodIn_app (goodIn_of _ (by decide +kernel)) ggX1_matchOf_X5_after
set_option maxRecDepth 20000 in
theorem ggX1_matchOf_X5_isHeld : GoodIn wsX1_matchOf wsX5_isHeld := goodIn_r _ [16, 11, 17, 12, 31, 32, 33, 34, 35, 36] (by decide +kernel) (by decide +kernel)
set_option maxRecDepth 20000 in
theorem gX1_matchOf_X5_isHeld : GoodIn wsX1_matchOf (wsV RX1 46 RX5 yX5_isHeld wsX5_isHeld) := goodIn_app (goodIn_of _ (by decide +kernel)) ggX1_matchOf_X5_isHeld
set_option maxRecDepth 20000 in
theorem ggX1_matchOf_X4_roundOf : GoodIn wsX1_matchOf wsX4_roundOf := goodIn_r _ [22, 23, 24, 37, 38, 39, 40] (by decide +kernel) (by decide +kernel)
set_option maxRecDepth 20000 in
theorem gX1_matchOf_X4_roundOf : GoodIn wsX1_matchOf (wsV RX1 125 RX4 yX4_roundOf wsX4_roundOf) := goodIn_app (goodIn_of _ (by decide +kernel)) ggX1_matchOf_X4_roundOf
theorem dX1_matchOf_0 : decode cX1_matchOf 0 = .ok (.aload_n 0, 1) := by decide +kernel
theorem dX1_matchOf_1 : decode cX1_matchOf 1 = .ok (.getfield 72, 3) := by decide +kernel
theorem dX1_matchOf_4 : decode cX1_matchOf 4 = .ok (.istore_n 3, 1) := by decide +kernel
theorem dX1_matchOf_5 : decode cX1_matchOf 5 = .ok (.aload_n 0, 1) := by decide +kernel
theorem dX1_matchOf_6 : decode cX1_matchOf 6 = .ok (.getfield 76, 3) := by decide +kernel
theorem dX1_matchOf_9 : decode cX1_matchOf 9 = .ok (.istore 4, 2) := by decide +kernel
theorem dX1_matchOf_11 : decode cX1_matchOf 11 = .ok (.iconst 0, 1) := by decide +kernel
theorem dX1_matchOf_12 : decode cX1_matchOf 12 = .ok (.istore 5, 2) := by decide +kernel
theorem dX1_matchOf_14 : decode cX1_matchOf 14 = .ok (.iconst 0, 1) := by decide +kernel
theorem dX1_matchOf_15 : decode cX1_matchOf 15 = .ok (.istore 6, 2) := by decide +kernel
theorem dX1_matchOf_17 : decode cX1_matchOf 17 = .ok (.iload 6, 2) := by decide +kernel
theorem dX1_matchOf_19 : decode cX1_matchOf 19 = .ok (.ldc 45, 2) := by decide +kernel
theorem dX1_matchOf_21 : decode cX1_matchOf 21 = .ok (.if_icmp .ge 119, 3) := by decide +kernel
theorem dX1_matchOf_24 : decode cX1_matchOf 24 = .ok (.aload_n 0, 1) := by decide +kernel
theorem dX1_matchOf_25 : decode cX1_matchOf 25 = .ok (.getfield 18, 3) := by decide +kernel
theorem dX1_matchOf_28 : decode cX1_matchOf 28 = .ok (.iload_n 3, 1) := by decide +kernel
theorem dX1_matchOf_29 : decode cX1_matchOf 29 = .ok (.invokevirtual 36, 3) := by decide +kernel
theorem dX1_matchOf_32 : decode cX1_matchOf 32 = .ok (.iload_n 1, 1) := by decide +kernel
theorem dX1_matchOf_33 : decode cX1_matchOf 33 = .ok (.if_icmp .gt 26, 3) := by decide +kernel
theorem dX1_matchOf_36 : decode cX1_matchOf 36 = .ok (.aload_n 0, 1) := by decide +kernel
theorem dX1_matchOf_37 : decode cX1_matchOf 37 = .ok (.getfield 18, 3) := by decide +kernel
theorem dX1_matchOf_40 : decode cX1_matchOf 40 = .ok (.iload_n 3, 1) := by decide +kernel
theorem dX1_matchOf_41 : decode cX1_matchOf 41 = .ok (.invokevirtual 36, 3) := by decide +kernel
theorem dX1_matchOf_44 : decode cX1_matchOf 44 = .ok (.istore_n 3, 1) := by decide +kernel
theorem dX1_matchOf_45 : decode cX1_matchOf 45 = .ok (.aload_n 0, 1) := by decide +kernel
theorem dX1_matchOf_46 : decode cX1_matchOf 46 = .ok (.getfield 18, 3) := by decide +kernel
theorem dX1_matchOf_49 : decode cX1_matchOf 49 = .ok (.iload 4, 2) := by decide +kernel
theorem dX1_matchOf_51 : decode cX1_matchOf 51 = .ok (.invokevirtual 36, 3) := by decide +kernel
theorem dX1_matchOf_54 : decode cX1_matchOf 54 = .ok (.istore 4, 2) := by decide +kernel
theorem dX1_matchOf_56 : decode cX1_matchOf 56 = .ok (.goto 78, 3) := by decide +kernel
theorem dX1_matchOf_59 : decode cX1_matchOf 59 = .ok (.aload_n 0, 1) := by decide +kernel
theorem dX1_matchOf_60 : decode cX1_matchOf 60 = .ok (.getfield 18, 3) := by decide +kernel
theorem dX1_matchOf_63 : decode cX1_matchOf 63 = .ok (.iload_n 3, 1) := by decide +kernel
theorem dX1_matchOf_64 : decode cX1_matchOf 64 = .ok (.invokevirtual 46, 3) := by decide +kernel
theorem dX1_matchOf_67 : decode cX1_matchOf 67 = .ok (.ifCond .eq 53, 3) := by decide +kernel
theorem dX1_matchOf_70 : decode cX1_matchOf 70 = .ok (.iload 5, 2) := by decide +kernel
theorem dX1_matchOf_72 : decode cX1_matchOf 72 = .ok (.iload_n 2, 1) := by decide +kernel
theorem dX1_matchOf_73 : decode cX1_matchOf 73 = .ok (.if_icmp .lt 6, 3) := by decide +kernel
theorem dX1_matchOf_76 : decode cX1_matchOf 76 = .ok (.goto 64, 3) := by decide +kernel
theorem dX1_matchOf_79 : decode cX1_matchOf 79 = .ok (.aload_n 0, 1) := by decide +kernel
theorem dX1_matchOf_80 : decode cX1_matchOf 80 = .ok (.getfield 12, 3) := by decide +kernel
theorem dX1_matchOf_83 : decode cX1_matchOf 83 = .ok (.iload 5, 2) := by decide +kernel
theorem dX1_matchOf_85 : decode cX1_matchOf 85 = .ok (.invokevirtual 125, 3) := by decide +kernel
theorem dX1_matchOf_88 : decode cX1_matchOf 88 = .ok (.istore 7, 2) := by decide +kernel
theorem dX1_matchOf_90 : decode cX1_matchOf 90 = .ok (.iconst 0, 1) := by decide +kernel
theorem dX1_matchOf_91 : decode cX1_matchOf 91 = .ok (.istore 8, 2) := by decide +kernel
theorem dX1_matchOf_93 : decode cX1_matchOf 93 = .ok (.iload 8, 2) := by decide +kernel
theorem dX1_matchOf_95 : decode cX1_matchOf 95 = .ok (.iload 7, 2) := by decide +kernel
theorem dX1_matchOf_97 : decode cX1_matchOf 97 = .ok (.if_icmp .ge 20, 3) := by decide +kernel
theorem dX1_matchOf_100 : decode cX1_matchOf 100 = .ok (.aload_n 0, 1) := by decide +kernel
theorem dX1_matchOf_101 : decode cX1_matchOf 101 = .ok (.getfield 18, 3) := by decide +kernel
theorem dX1_matchOf_104 : decode cX1_matchOf 104 = .ok (.iload 4, 2) := by decide +kernel
theorem dX1_matchOf_106 : decode cX1_matchOf 106 = .ok (.invokevirtual 36, 3) := by decide +kernel
theorem dX1_matchOf_109 : decode cX1_matchOf 109 = .ok (.istore 4, 2) := by decide +kernel
theorem dX1_matchOf_111 : decode cX1_matchOf 111 = .ok (.iinc 8 1, 3) := by decide +kernel
theorem dX1_matchOf_114 : decode cX1_matchOf 114 = .ok (.goto (-21), 3) := by decide +kernel
theorem dX1_matchOf_117 : decode cX1_matchOf 117 = .ok (.iinc 5 1, 3) := by decide +kernel
theorem dX1_matchOf_120 : decode cX1_matchOf 120 = .ok (.iload_n 3, 1) := by decide +kernel
theorem dX1_matchOf_121 : decode cX1_matchOf 121 = .ok (.iload_n 1, 1) := by decide +kernel
theorem dX1_matchOf_122 : decode cX1_matchOf 122 = .ok (.if_icmp .lt 6, 3) := by decide +kernel
theorem dX1_matchOf_125 : decode cX1_matchOf 125 = .ok (.goto 15, 3) := by decide +kernel
theorem dX1_matchOf_128 : decode cX1_matchOf 128 = .ok (.iinc 3 1, 3) := by decide +kernel
theorem dX1_matchOf_131 : decode cX1_matchOf 131 = .ok (.iinc 4 1, 3) := by decide +kernel
theorem dX1_matchOf_134 : decode cX1_matchOf 134 = .ok (.iinc 6 1, 3) := by decide +kernel
theorem dX1_matchOf_137 : decode cX1_matchOf 137 = .ok (.goto (-120), 3) := by decide +kernel
theorem dX1_matchOf_140 : decode cX1_matchOf 140 = .ok (.iload 4, 2) := by decide +kernel
theorem dX1_matchOf_142 : decode cX1_matchOf 142 = .ok (.ireturn, 1) := by decide +kernel
theorem dX4_clear_0 : decode cX4_clear 0 = .ok (.aload_n 0, 1) := by decide +kernel
theorem dX4_clear_1 : decode cX4_clear 1 = .ok (.iconst 0, 1) := by decide +kernel
theorem dX4_clear_2 : decode cX4_clear 2 = .ok (.putfield 21, 3) := by decide +kernel
theorem dX4_clear_5 : decode cX4_clear 5 = .ok (.return_, 1) := by decide +kernel
theorem dX4_hasInner_0 : decode cX4_hasInner 0 = .ok (.aload_n 0, 1) := by decide +kernel
theorem dX4_hasInner_1 : decode cX4_hasInner 1 = .ok (.getfield 21, 3) := by decide +kernel
theorem dX4_hasInner_4 : decode cX4_hasInner 4 = .ok (.ifCond .le 15, 3) := by decide +kernel
theorem dX4_hasInner_7 : decode cX4_hasInner 7 = .ok (.aload_n 0, 1) := by decide +kernel
theorem dX4_hasInner_8 : decode cX4_hasInner 8 = .ok (.getfield 21, 3) := by decide +kernel
theorem dX4_hasInner_11 : decode cX4_hasInner 11 = .ok (.iconst 2, 1) := by decide +kernel
theorem dX4_hasInner_12 : decode cX4_hasInner 12 = .ok (.if_icmp .gt 7, 3) := by decide +kernel
theorem dX4_hasInner_15 : decode cX4_hasInner 15 = .ok (.iconst 1, 1) := by decide +kernel
theorem dX4_hasInner_16 : decode cX4_hasInner 16 = .ok (.goto 4, 3) := by decide +kernel
theorem dX4_hasInner_19 : decode cX4_hasInner 19 = .ok (.iconst 0, 1) := by decide +kernel
theorem dX4_hasInner_20 : decode cX4_hasInner 20 = .ok (.ireturn, 1) := by decide +kernel
set_option maxRecDepth 20000 in
theorem ggX4_isIn_X4_hasInner : GoodIn wsX4_isIn wsX4_hasInner := goodIn_r _ [7, 2, 8, 9, 10, 11] (by decide +kernel) (by decide +kernel)
set_option maxRecDepth 20000 in
theorem gX4_isIn_X4_hasInner : GoodIn wsX4_isIn (wsV RX4 25 RX4 yX4_hasInner wsX4_hasInner) := goodIn_app (goodIn_of _ (by decide +kernel)) ggX4_isIn_X4_hasInner
theorem dX4_isIn_0 : decode cX4_isIn 0 = .ok (.aload_n 0, 1) := by decide +kernel
theorem dX4_isIn_1 : decode cX4_isIn 1 = .ok (.invokevirtual 25, 3) := by decide +kernel
theorem dX4_isIn_4 : decode cX4_isIn 4 = .ok (.ifCond .eq 22, 3) := by decide +kernel
theorem dX4_isIn_7 : decode cX4_isIn 7 = .ok (.aload_n 0, 1) := by decide +kernel
theorem dX4_isIn_8 : decode cX4_isIn 8 = .ok (.getfield 9, 3) := by decide +kernel
theorem dX4_isIn_11 : decode cX4_isIn 11 = .ok (.aload_n 0, 1) := by decide +kernel
theorem dX4_isIn_12 : decode cX4_isIn 12 = .ok (.getfield 21, 3) := by decide +kernel
theorem dX4_isIn_15 : decode cX4_isIn 15 = .ok (.iconst 1, 1) := by decide +kernel
theorem dX4_isIn_16 : decode cX4_isIn 16 = .ok (.isub, 1) := by decide +kernel
theorem dX4_isIn_17 : decode cX4_isIn 17 = .ok (.iaload, 1) := by decide +kernel
theorem dX4_isIn_18 : decode cX4_isIn 18 = .ok (.iload_n 1, 1) := by decide +kernel
theorem dX4_isIn_19 : decode cX4_isIn 19 = .ok (.if_icmp .ne 7, 3) := by decide +kernel
theorem dX4_isIn_22 : decode cX4_isIn 22 = .ok (.iconst 1, 1) := by decide +kernel
theorem dX4_isIn_23 : decode cX4_isIn 23 = .ok (.goto 4, 3) := by decide +kernel
theorem dX4_isIn_26 : decode cX4_isIn 26 = .ok (.iconst 0, 1) := by decide +kernel
theorem dX4_isIn_27 : decode cX4_isIn 27 = .ok (.ireturn, 1) := by decide +kernel
theorem dX4_enter_0 : decode cX4_enter 0 = .ok (.aload_n 0, 1) := by decide +kernel
theorem dX4_enter_1 : decode cX4_enter 1 = .ok (.getfield 21, 3) := by decide +kernel
theorem dX4_enter_4 : decode cX4_enter 4 = .ok (.ifCond .lt 51, 3) := by decide +kernel
theorem dX4_enter_7 : decode cX4_enter 7 = .ok (.aload_n 0, 1) := by decide +kernel
theorem dX4_enter_8 : decode cX4_enter 8 = .ok (.getfield 21, 3) := by decide +kernel
theorem dX4_enter_11 : decode cX4_enter 11 = .ok (.iconst 2, 1) := by decide +kernel
theorem dX4_enter_12 : decode cX4_enter 12 = .ok (.if_icmp .ge 43, 3) := by decide +kernel
theorem dX4_enter_15 : decode cX4_enter 15 = .ok (.aload_n 0, 1) := by decide +kernel
theorem dX4_enter_16 : decode cX4_enter 16 = .ok (.getfield 9, 3) := by decide +kernel
theorem dX4_enter_19 : decode cX4_enter 19 = .ok (.aload_n 0, 1) := by decide +kernel
theorem dX4_enter_20 : decode cX4_enter 20 = .ok (.getfield 21, 3) := by decide +kernel
theorem dX4_enter_23 : decode cX4_enter 23 = .ok (.iload_n 1, 1) := by decide +kernel
theorem dX4_enter_24 : decode cX4_enter 24 = .ok (.iastore, 1) := by decide +kernel
theorem dX4_enter_25 : decode cX4_enter 25 = .ok (.aload_n 0, 1) := by decide +kernel
theorem dX4_enter_26 : decode cX4_enter 26 = .ok (.getfield 15, 3) := by decide +kernel
theorem dX4_enter_29 : decode cX4_enter 29 = .ok (.aload_n 0, 1) := by decide +kernel
theorem dX4_enter_30 : decode cX4_enter 30 = .ok (.getfield 21, 3) := by decide +kernel
theorem dX4_enter_33 : decode cX4_enter 33 = .ok (.iconst 0, 1) := by decide +kernel
theorem dX4_enter_34 : decode cX4_enter 34 = .ok (.iastore, 1) := by decide +kernel
theorem dX4_enter_35 : decode cX4_enter 35 = .ok (.aload_n 0, 1) := by decide +kernel
theorem dX4_enter_36 : decode cX4_enter 36 = .ok (.getfield 18, 3) := by decide +kernel
theorem dX4_enter_39 : decode cX4_enter 39 = .ok (.aload_n 0, 1) := by decide +kernel
theorem dX4_enter_40 : decode cX4_enter 40 = .ok (.getfield 21, 3) := by decide +kernel
theorem dX4_enter_43 : decode cX4_enter 43 = .ok (.iload_n 2, 1) := by decide +kernel
theorem dX4_enter_44 : decode cX4_enter 44 = .ok (.iastore, 1) := by decide +kernel
theorem dX4_enter_45 : decode cX4_enter 45 = .ok (.aload_n 0, 1) := by decide +kernel
theorem dX4_enter_46 : decode cX4_enter 46 = .ok (.dup, 1) := by decide +kernel
theorem dX4_enter_47 : decode cX4_enter 47 = .ok (.getfield 21, 3) := by decide +kernel
theorem dX4_enter_50 : decode cX4_enter 50 = .ok (.iconst 1, 1) := by decide +kernel
theorem dX4_enter_51 : decode cX4_enter 51 = .ok (.iadd, 1) := by decide +kernel
theorem dX4_enter_52 : decode cX4_enter 52 = .ok (.putfield 21, 3) := by decide +kernel
theorem dX4_enter_55 : decode cX4_enter 55 = .ok (.return_, 1) := by decide +kernel
set_option maxRecDepth 20000 in
theorem ggX4_leave_X4_hasInner : GoodIn wsX4_leave wsX4_hasInner := goodIn_r _ [9, 2, 10, 11, 12, 13] (by decide +kernel) (by decide +kernel)
set_option maxRecDepth 20000 in
theorem gX4_leave_X4_hasInner : GoodIn wsX4_leave (wsV RX4 25 RX4 yX4_hasInner wsX4_hasInner) := goodIn_app (goodIn_of _ (by decide +kernel)) ggX4_leave_X4_hasInner
theorem dX4_leave_0 : decode cX4_leave 0 = .ok (.aload_n 0, 1) := by decide +kernel
theorem dX4_leave_1 : decode cX4_leave 1 = .ok (.invokevirtual 25, 3) := by decide +kernel
theorem dX4_leave_4 : decode cX4_leave 4 = .ok (.ifCond .ne 7, 3) := by decide +kernel
theorem dX4_leave_7 : decode cX4_leave 7 = .ok (.iload_n 1, 1) := by decide +kernel
theorem dX4_leave_8 : decode cX4_leave 8 = .ok (.iconst 1, 1) := by decide +kernel
theorem dX4_leave_9 : decode cX4_leave 9 = .ok (.iadd, 1) := by decide +kernel
theorem dX4_leave_10 : decode cX4_leave 10 = .ok (.ireturn, 1) := by decide +kernel
theorem dX4_leave_11 : decode cX4_leave 11 = .ok (.aload_n 0, 1) := by decide +kernel
theorem dX4_leave_12 : decode cX4_leave 12 = .ok (.getfield 15, 3) := by decide +kernel
theorem dX4_leave_15 : decode cX4_leave 15 = .ok (.aload_n 0, 1) := by decide +kernel
theorem dX4_leave_16 : decode cX4_leave 16 = .ok (.getfield 21, 3) := by decide +kernel
theorem dX4_leave_19 : decode cX4_leave 19 = .ok (.iconst 1, 1) := by decide +kernel
theorem dX4_leave_20 : decode cX4_leave 20 = .ok (.isub, 1) := by decide +kernel
theorem dX4_leave_21 : decode cX4_leave 21 = .ok (.dup2, 1) := by decide +kernel
theorem dX4_leave_22 : decode cX4_leave 22 = .ok (.iaload, 1) := by decide +kernel
theorem dX4_leave_23 : decode cX4_leave 23 = .ok (.iconst 1, 1) := by decide +kernel
theorem dX4_leave_24 : decode cX4_leave 24 = .ok (.iadd, 1) := by decide +kernel
theorem dX4_leave_25 : decode cX4_leave 25 = .ok (.iastore, 1) := by decide +kernel
theorem dX4_leave_26 : decode cX4_leave 26 = .ok (.aload_n 0, 1) := by decide +kernel
theorem dX4_leave_27 : decode cX4_leave 27 = .ok (.getfield 15, 3) := by decide +kernel
theorem dX4_leave_30 : decode cX4_leave 30 = .ok (.aload_n 0, 1) := by decide +kernel
theorem dX4_leave_31 : decode cX4_leave 31 = .ok (.getfield 21, 3) := by decide +kernel
theorem dX4_leave_34 : decode cX4_leave 34 = .ok (.iconst 1, 1) := by decide +kernel
theorem dX4_leave_35 : decode cX4_leave 35 = .ok (.isub, 1) := by decide +kernel
theorem dX4_leave_36 : decode cX4_leave 36 = .ok (.iaload, 1) := by decide +kernel
theorem dX4_leave_37 : decode cX4_leave 37 = .ok (.aload_n 0, 1) := by decide +kernel
theorem dX4_leave_38 : decode cX4_leave 38 = .ok (.getfield 18, 3) := by decide +kernel
theorem dX4_leave_41 : decode cX4_leave 41 = .ok (.aload_n 0, 1) := by decide +kernel
theorem dX4_leave_42 : decode cX4_leave 42 = .ok (.getfield 21, 3) := by decide +kernel
theorem dX4_leave_45 : decode cX4_leave 45 = .ok (.iconst 1, 1) := by decide +kernel
theorem dX4_leave_46 : decode cX4_leave 46 = .ok (.isub, 1) := by decide +kernel
theorem dX4_leave_47 : decode cX4_leave 47 = .ok (.iaload, 1) := by decide +kernel
theorem dX4_leave_48 : decode cX4_leave 48 = .ok (.if_icmp .ge 15, 3) := by decide +kernel
theorem dX4_leave_51 : decode cX4_leave 51 = .ok (.aload_n 0, 1) := by decide +kernel
theorem dX4_leave_52 : decode cX4_leave 52 = .ok (.getfield 9, 3) := by decide +kernel
theorem dX4_leave_55 : decode cX4_leave 55 = .ok (.aload_n 0, 1) := by decide +kernel
theorem dX4_leave_56 : decode cX4_leave 56 = .ok (.getfield 21, 3) := by decide +kernel
theorem dX4_leave_59 : decode cX4_leave 59 = .ok (.iconst 1, 1) := by decide +kernel
theorem dX4_leave_60 : decode cX4_leave 60 = .ok (.isub, 1) := by decide +kernel
theorem dX4_leave_61 : decode cX4_leave 61 = .ok (.iaload, 1) := by decide +kernel
theorem dX4_leave_62 : decode cX4_leave 62 = .ok (.ireturn, 1) := by decide +kernel
theorem dX4_leave_63 : decode cX4_leave 63 = .ok (.aload_n 0, 1) := by decide +kernel
theorem dX4_leave_64 : decode cX4_leave 64 = .ok (.dup, 1) := by decide +kernel
theorem dX4_leave_65 : decode cX4_leave 65 = .ok (.getfield 21, 3) := by decide +kernel
theorem dX4_leave_68 : decode cX4_leave 68 = .ok (.iconst 1, 1) := by decide +kernel
theorem dX4_leave_69 : decode cX4_leave 69 = .ok (.isub, 1) := by decide +kernel
theorem dX4_leave_70 : decode cX4_leave 70 = .ok (.putfield 21, 3) := by decide +kernel
theorem dX4_leave_73 : decode cX4_leave 73 = .ok (.iload_n 1, 1) := by decide +kernel
theorem dX4_leave_74 : decode cX4_leave 74 = .ok (.iconst 1, 1) := by decide +kernel
theorem dX4_leave_75 : decode cX4_leave 75 = .ok (.iadd, 1) := by decide +kernel
theorem dX4_leave_76 : decode cX4_leave 76 = .ok (.ireturn, 1) := by decide +kernel
theorem dX4_roundOf_0 : decode cX4_roundOf 0 = .ok (.iload_n 1, 1) := by decide +kernel
theorem dX4_roundOf_1 : decode cX4_roundOf 1 = .ok (.ifCond .lt 25, 3) := by decide +kernel
theorem dX4_roundOf_4 : decode cX4_roundOf 4 = .ok (.iload_n 1, 1) := by decide +kernel
theorem dX4_roundOf_5 : decode cX4_roundOf 5 = .ok (.aload_n 0, 1) := by decide +kernel
theorem dX4_roundOf_6 : decode cX4_roundOf 6 = .ok (.getfield 21, 3) := by decide +kernel
theorem dX4_roundOf_9 : decode cX4_roundOf 9 = .ok (.if_icmp .ge 17, 3) := by decide +kernel
theorem dX4_roundOf_12 : decode cX4_roundOf 12 = .ok (.iload_n 1, 1) := by decide +kernel
theorem dX4_roundOf_13 : decode cX4_roundOf 13 = .ok (.iconst 2, 1) := by decide +kernel
theorem dX4_roundOf_14 : decode cX4_roundOf 14 = .ok (.if_icmp .ge 12, 3) := by decide +kernel
theorem dX4_roundOf_17 : decode cX4_roundOf 17 = .ok (.aload_n 0, 1) := by decide +kernel
theorem dX4_roundOf_18 : decode cX4_roundOf 18 = .ok (.getfield 15, 3) := by decide +kernel
theorem dX4_roundOf_21 : decode cX4_roundOf 21 = .ok (.iload_n 1, 1) := by decide +kernel
theorem dX4_roundOf_22 : decode cX4_roundOf 22 = .ok (.iaload, 1) := by decide +kernel
theorem dX4_roundOf_23 : decode cX4_roundOf 23 = .ok (.goto 4, 3) := by decide +kernel
theorem dX4_roundOf_26 : decode cX4_roundOf 26 = .ok (.iconst 0, 1) := by decide +kernel
theorem dX4_roundOf_27 : decode cX4_roundOf 27 = .ok (.ireturn, 1) := by decide +kernel
theorem dX5_startTree_0 : decode cX5_startTree 0 = .ok (.aload_n 0, 1) := by decide +kernel
theorem dX5_startTree_1 : decode cX5_startTree 1 = .ok (.iconst (-1), 1) := by decide +kernel
theorem dX5_startTree_2 : decode cX5_startTree 2 = .ok (.putfield 28, 3) := by decide +kernel
theorem dX5_startTree_5 : decode cX5_startTree 5 = .ok (.aload_n 0, 1) := by decide +kernel
theorem dX5_startTree_6 : decode cX5_startTree 6 = .ok (.getfield 24, 3) := by decide +kernel
theorem dX5_startTree_9 : decode cX5_startTree 9 = .ok (.ireturn, 1) := by decide +kernel
theorem dX5_closeBracket_0 : decode cX5_closeBracket 0 = .ok (.aload_n 0, 1) := by decide +kernel
theorem dX5_closeBracket_1 : decode cX5_closeBracket 1 = .ok (.getfield 28, 3) := by decide +kernel
theorem dX5_closeBracket_4 : decode cX5_closeBracket 4 = .ok (.ifCond .lt 13, 3) := by decide +kernel
theorem dX5_closeBracket_7 : decode cX5_closeBracket 7 = .ok (.aload_n 0, 1) := by decide +kernel
theorem dX5_closeBracket_8 : decode cX5_closeBracket 8 = .ok (.getfield 28, 3) := by decide +kernel
theorem dX5_closeBracket_11 : decode cX5_closeBracket 11 = .ok (.sipush 3000, 3) := by decide +kernel
theorem dX5_closeBracket_14 : decode cX5_closeBracket 14 = .ok (.if_icmp .lt 4, 3) := by decide +kernel
theorem dX5_closeBracket_17 : decode cX5_closeBracket 17 = .ok (.return_, 1) := by decide +kernel
theorem dX5_closeBracket_18 : decode cX5_closeBracket 18 = .ok (.aload_n 0, 1) := by decide +kernel
theorem dX5_closeBracket_19 : decode cX5_closeBracket 19 = .ok (.getfield 18, 3) := by decide +kernel
theorem dX5_closeBracket_22 : decode cX5_closeBracket 22 = .ok (.aload_n 0, 1) := by decide +kernel
theorem dX5_closeBracket_23 : decode cX5_closeBracket 23 = .ok (.getfield 28, 3) := by decide +kernel
theorem dX5_closeBracket_26 : decode cX5_closeBracket 26 = .ok (.iaload, 1) := by decide +kernel
theorem dX5_closeBracket_27 : decode cX5_closeBracket 27 = .ok (.istore_n 1, 1) := by decide +kernel
theorem dX5_closeBracket_28 : decode cX5_closeBracket 28 = .ok (.aload_n 0, 1) := by decide +kernel
theorem dX5_closeBracket_29 : decode cX5_closeBracket 29 = .ok (.getfield 18, 3) := by decide +kernel
theorem dX5_closeBracket_32 : decode cX5_closeBracket 32 = .ok (.aload_n 0, 1) := by decide +kernel
theorem dX5_closeBracket_33 : decode cX5_closeBracket 33 = .ok (.getfield 28, 3) := by decide +kernel
theorem dX5_closeBracket_36 : decode cX5_closeBracket 36 = .ok (.aload_n 0, 1) := by decide +kernel
theorem dX5_closeBracket_37 : decode cX5_closeBracket 37 = .ok (.getfield 24, 3) := by decide +kernel
theorem dX5_closeBracket_40 : decode cX5_closeBracket 40 = .ok (.aload_n 0, 1) := by decide +kernel
theorem dX5_closeBracket_41 : decode cX5_closeBracket 41 = .ok (.getfield 28, 3) := by decide +kernel
theorem dX5_closeBracket_44 : decode cX5_closeBracket 44 = .ok (.isub, 1) := by decide +kernel
theorem dX5_closeBracket_45 : decode cX5_closeBracket 45 = .ok (.iconst 1, 1) := by decide +kernel
theorem dX5_closeBracket_46 : decode cX5_closeBracket 46 = .ok (.iadd, 1) := by decide +kernel
theorem dX5_closeBracket_47 : decode cX5_closeBracket 47 = .ok (.iastore, 1) := by decide +kernel
theorem dX5_closeBracket_48 : decode cX5_closeBracket 48 = .ok (.aload_n 0, 1) := by decide +kernel
theorem dX5_closeBracket_49 : decode cX5_closeBracket 49 = .ok (.iload_n 1, 1) := by decide +kernel
theorem dX5_closeBracket_50 : decode cX5_closeBracket 50 = .ok (.putfield 28, 3) := by decide +kernel
theorem dX5_closeBracket_53 : decode cX5_closeBracket 53 = .ok (.return_, 1) := by decide +kernel
set_option maxRecDepth 20000 in
theorem ggX6_isNameWithRules_X5_plainLength : GoodIn wsX6_isNameWithRules wsX5_plainLength := goodIn_r _ [6, 7, 8, 9, 5, 10, 11, 12, 13, 14, 15, 16, 17, 18, 19, 20, 76, 77, 78, 79, 80, 81] (by decide +kernel) (by decide +kernel)
set_option maxRecDepth 20000 in
theorem gX6_isNameWithRules_X5_plainLength : GoodIn wsX6_isNameWithRules (wsV RX6 15 RX5 yX5_plainLength wsX5_plainLength) := goodIn_app (goodIn_of _ (by decide +kernel)) ggX6_isNameWithRules_X5_plainLength
set_option maxRecDepth 20000 in
theorem ggX6_isNameWithRules_X5_wordAt : GoodIn wsX6_isNameWithRules wsX5_wordAt := goodIn_r _ [10, 11, 12, 76, 77, 78, 79, 80, 81] (by decide +kernel) (by decide +kernel)
set_option maxRecDepth 20000 in
theorem gX6_isNameWithRules_X5_wordAt : GoodIn wsX6_isNameWithRules (wsV RX6 21 RX5 yX5_wordAt wsX5_wordAt) := goodIn_app (goodIn_of _ (by decide +kernel)) ggX6_isNameWithRules_X5_wordAt
set_option maxRecDepth 20000 in
theorem ggX6_isNameWithRules_X8_isName : GoodIn wsX6_isNameWithRules wsX8_isName := goodIn_r _ [24] (by decide +kernel) (by decide +kernel)
set_option maxRecDepth 100000 in
theorem gpX6_isNameWithRules_X6_isRule_0 : GoodIn wsX6_isNameWithRules wsX6_isRule_r1 := goodIn_r _ [1, 2, 3, 4, 5, 6, 7, 8, 9, 10, 11, 12, 13, 14, 15, 16, 17, 18, 19, 20, 30, 31, 32, 33] (by decide +kernel) (by decide +kernel)
set_option maxRecDepth 100000 in
theorem gpX6_isNameWithRules_X6_isRule_1 : GoodIn wsX6_isNameWithRules wsX6_isRule_r2 := goodIn_r _ [34, 35, 36, 37, 28, 38, 21, 39, 40, 41, 42, 43, 23, 44, 45, 46, 47, 48, 49, 50, 51, 52, 53, 54] (by decide +kernel) (by decide +kernel)
set_option maxRecDepth 100000 in
theorem gpX6_isNameWithRules_X6_isRule_2 : GoodIn wsX6_isNameWithRules wsX6_isRule_r3 := goodIn_r _ [55, 56, 57, 58, 59, 60, 61, 62, 63, 64, 65, 66, 67, 68, 69, 70, 71, 72, 73, 74] (by decide +kernel) (by decide +kernel)
set_option maxRecDepth 100000 in
theorem gpX6_isNameWithRules_X6_isRule_3 : GoodIn wsX6_isNameWithRules wsX60 := goodIn_r _ [75] (by decide +kernel) (by decide +kernel)
set_option maxRecDepth 100000 in
theorem gpX6_isNameWithRules_X6_isRule_4 : GoodIn wsX6_isNameWithRules wsX50 := goodIn_r _ [76, 77, 78, 79, 80, 81] (by decide +kernel) (by decide +kernel)
set_option maxRecDepth 100000 in
theorem gpX6_isNameWithRules_X6_isRule_c : GoodIn wsX6_isNameWithRules [Cond.code yX6_isRule cX6_isRule 4 (some .boolean)] := goodIn_r _ [29] (by decide +kernel) (by decide +kernel)
theorem ggX6_isNameWithRules_X6_isRule : GoodIn wsX6_isNameWithRules wsX6_isRule := goodIn_cons2 gpX6_isNameWithRules_X6_isRule_c (goodIn_app (goodIn_app (goodIn_app gpX6_isNameWithRules_X6_isRule_0 (goodIn_app gpX6_isNameWithRules_X6_isRule_1 gpX6_isNameWithRules_X6_isRule_2)) gpX6_isNameWithRules_X6_isRule_3) gpX6_isNameWithRules_X6_isRule_4)
set_option maxRecDepth 20000 in
theorem gX6_isNameWithRules_X6_isRule : GoodIn wsX6_isNameWithRules (wsV RX6 28 RX6 yX6_isRule wsX6_isRule) := goodIn_app (goodIn_of _ (by decide +kernel)) ggX6_isNameWithRules_X6_isRule
set_option maxRecDepth 20000 in
theorem ggX6_isNameWithRules_X5_after : GoodIn wsX6_isNameWithRules wsX5_after := goodIn_r _ [33, 11, 34, 76, 77, 78, 79, 80, 81] (by decide +kernel) (by decide +kernel)
set_option maxRecDepth 20000 in
theorem gX6_isNameWithRules_X5_after : GoodIn wsX6_isNameWithRules (wsV RX6 31 RX5 yX5_after wsX5_after) := goodIn_app (goodIn_of _ (by decide +kernel)) ggX6_isNameWithRules_X5_after
theorem dX6_isNameWithRules_0 : decode cX6_isNameWithRules 0 = .ok (.aload_n 0, 1) := by decide +kernel
theorem dX6_isNameWithRules_1 : decode cX6_isNameWithRules 1 = .ok (.getfield 9, 3) := by decide +kernel
theorem dX6_isNameWithRules_4 : decode cX6_isNameWithRules 4 = .ok (.iload_n 1, 1) := by decide +kernel
theorem dX6_isNameWithRules_5 : decode cX6_isNameWithRules 5 = .ok (.invokevirtual 15, 3) := by decide +kernel
theorem dX6_isNameWithRules_8 : decode cX6_isNameWithRules 8 = .ok (.istore_n 2, 1) := by decide +kernel
theorem dX6_isNameWithRules_9 : decode cX6_isNameWithRules 9 = .ok (.iload_n 2, 1) := by decide +kernel
theorem dX6_isNameWithRules_10 : decode cX6_isNameWithRules 10 = .ok (.iconst 1, 1) := by decide +kernel
theorem dX6_isNameWithRules_11 : decode cX6_isNameWithRules 11 = .ok (.if_icmp .lt 19, 3) := by decide +kernel
theorem dX6_isNameWithRules_14 : decode cX6_isNameWithRules 14 = .ok (.aload_n 0, 1) := by decide +kernel
theorem dX6_isNameWithRules_15 : decode cX6_isNameWithRules 15 = .ok (.getfield 9, 3) := by decide +kernel
theorem dX6_isNameWithRules_18 : decode cX6_isNameWithRules 18 = .ok (.iload_n 1, 1) := by decide +kernel
theorem dX6_isNameWithRules_19 : decode cX6_isNameWithRules 19 = .ok (.iconst 1, 1) := by decide +kernel
theorem dX6_isNameWithRules_20 : decode cX6_isNameWithRules 20 = .ok (.iadd, 1) := by decide +kernel
theorem dX6_isNameWithRules_21 : decode cX6_isNameWithRules 21 = .ok (.invokevirtual 21, 3) := by decide +kernel
theorem dX6_isNameWithRules_24 : decode cX6_isNameWithRules 24 = .ok (.invokestatic 24, 3) := by decide +kernel
theorem dX6_isNameWithRules_27 : decode cX6_isNameWithRules 27 = .ok (.ifCond .ne 5, 3) := by decide +kernel
theorem dX6_isNameWithRules_30 : decode cX6_isNameWithRules 30 = .ok (.iconst 0, 1) := by decide +kernel
theorem dX6_isNameWithRules_31 : decode cX6_isNameWithRules 31 = .ok (.ireturn, 1) := by decide +kernel
theorem dX6_isNameWithRules_32 : decode cX6_isNameWithRules 32 = .ok (.iload_n 1, 1) := by decide +kernel
theorem dX6_isNameWithRules_33 : decode cX6_isNameWithRules 33 = .ok (.iconst 2, 1) := by decide +kernel
theorem dX6_isNameWithRules_34 : decode cX6_isNameWithRules 34 = .ok (.iadd, 1) := by decide +kernel
theorem dX6_isNameWithRules_35 : decode cX6_isNameWithRules 35 = .ok (.istore_n 3, 1) := by decide +kernel
theorem dX6_isNameWithRules_36 : decode cX6_isNameWithRules 36 = .ok (.iconst 1, 1) := by decide +kernel
theorem dX6_isNameWithRules_37 : decode cX6_isNameWithRules 37 = .ok (.istore 4, 2) := by decide +kernel
theorem dX6_isNameWithRules_39 : decode cX6_isNameWithRules 39 = .ok (.iload 4, 2) := by decide +kernel
theorem dX6_isNameWithRules_41 : decode cX6_isNameWithRules 41 = .ok (.iload_n 2, 1) := by decide +kernel
theorem dX6_isNameWithRules_42 : decode cX6_isNameWithRules 42 = .ok (.if_icmp .ge 28, 3) := by decide +kernel
theorem dX6_isNameWithRules_45 : decode cX6_isNameWithRules 45 = .ok (.aload_n 0, 1) := by decide +kernel
theorem dX6_isNameWithRules_46 : decode cX6_isNameWithRules 46 = .ok (.iload_n 3, 1) := by decide +kernel
theorem dX6_isNameWithRules_47 : decode cX6_isNameWithRules 47 = .ok (.invokevirtual 28, 3) := by decide +kernel
theorem dX6_isNameWithRules_50 : decode cX6_isNameWithRules 50 = .ok (.ifCond .ne 5, 3) := by decide +kernel
theorem dX6_isNameWithRules_53 : decode cX6_isNameWithRules 53 = .ok (.iconst 0, 1) := by decide +kernel
theorem dX6_isNameWithRules_54 : decode cX6_isNameWithRules 54 = .ok (.ireturn, 1) := by decide +kernel
theorem dX6_isNameWithRules_55 : decode cX6_isNameWithRules 55 = .ok (.aload_n 0, 1) := by decide +kernel
theorem dX6_isNameWithRules_56 : decode cX6_isNameWithRules 56 = .ok (.getfield 9, 3) := by decide +kernel
theorem dX6_isNameWithRules_59 : decode cX6_isNameWithRules 59 = .ok (.iload_n 3, 1) := by decide +kernel
theorem dX6_isNameWithRules_60 : decode cX6_isNameWithRules 60 = .ok (.invokevirtual 31, 3) := by decide +kernel
theorem dX6_isNameWithRules_63 : decode cX6_isNameWithRules 63 = .ok (.istore_n 3, 1) := by decide +kernel
theorem dX6_isNameWithRules_64 : decode cX6_isNameWithRules 64 = .ok (.iinc 4 1, 3) := by decide +kernel
theorem dX6_isNameWithRules_67 : decode cX6_isNameWithRules 67 = .ok (.goto (-28), 3) := by decide +kernel
theorem dX6_isNameWithRules_70 : decode cX6_isNameWithRules 70 = .ok (.iconst 1, 1) := by decide +kernel
theorem dX6_isNameWithRules_71 : decode cX6_isNameWithRules 71 = .ok (.ireturn, 1) := by decide +kernel
set_option maxRecDepth 20000 in
theorem ggX6_isRule_X5_plainLength : GoodIn wsX6_isRule wsX5_plainLength := goodIn_r _ [6, 7, 8, 9, 5, 10, 11, 12, 13, 14, 15, 16, 17, 18, 19, 20, 70, 71, 72, 73, 74, 75] (by decide +kernel) (by decide +kernel)
set_option maxRecDepth 20000 in
theorem gX6_isRule_X5_plainLength : GoodIn wsX6_isRule (wsV RX6 15 RX5 yX5_plainLength wsX5_plainLength) := goodIn_app (goodIn_of _ (by decide +kernel)) ggX6_isRule_X5_plainLength
set_option maxRecDepth 20000 in
theorem ggX6_isRule_X5_after : GoodIn wsX6_isRule wsX5_after := goodIn_r _ [24, 11, 25, 70, 71, 72, 73, 74, 75] (by decide +kernel) (by decide +kernel)
set_option maxRecDepth 20000 in
theorem gX6_isRule_X5_after : GoodIn wsX6_isRule (wsV RX6 31 RX5 yX5_after wsX5_after) := goodIn_app (goodIn_of _ (by decide +kernel)) ggX6_isRule_X5_after
set_option maxRecDepth 20000 in
theorem ggX6_isRule_X6_isPattern : GoodIn wsX6_isRule wsX6_isPattern := goodIn_r _ [30, 1, 31, 8, 9, 5, 10, 11, 12, 32, 33, 34, 35, 25, 21, 22, 23, 24, 36, 37, 38, 39, 40, 41, 42, 43, 44, 45, 46, 47, 69, 70, 71, 72, 73, 74, 75] (by decide +kernel) (by decide +kernel)
set_option maxRecDepth 20000 in
theorem gX6_isRule_X6_isPattern : GoodIn wsX6_isRule (wsV RX6 34 RX6 yX6_isPattern wsX6_isPattern) := goodIn_app (goodIn_of _ (by decide +kernel)) ggX6_isRule_X6_isPattern
set_option maxRecDepth 20000 in
theorem ggX6_isRule_X6_linkUses : GoodIn wsX6_isRule wsX6_linkUses := goodIn_r _ [51, 1, 21, 22, 23, 5, 24, 11, 25, 43, 44, 45, 46, 12, 47, 52, 53, 54, 55, 56, 69, 70, 71, 72, 73, 74, 75] (by decide +kernel) (by decide +kernel)
set_option maxRecDepth 20000 in
theorem gX6_isRule_X6_linkUses : GoodIn wsX6_isRule (wsV RX6 37 RX6 yX6_linkUses wsX6_linkUses) := goodIn_app (goodIn_of _ (by decide +kernel)) ggX6_isRule_X6_linkUses
set_option maxRecDepth 20000 in
theorem ggX6_isRule_X6_isTemplate : GoodIn wsX6_isRule wsX6_isTemplate := goodIn_r _ [60, 1, 21, 22, 23, 5, 24, 11, 25, 61, 62, 63, 64, 56, 39, 40, 41, 42, 12, 32, 33, 34, 35, 65, 66, 67, 68, 69, 70, 71, 72, 73, 74, 75] (by decide +kernel) (by decide +kernel)
set_option maxRecDepth 20000 in
theorem gX6_isRule_X6_isTemplate : GoodIn wsX6_isRule (wsV RX6 41 RX6 yX6_isTemplate wsX6_isTemplate) := goodIn_app (goodIn_of _ (by decide +kernel)) ggX6_isRule_X6_isTemplate
theorem dX6_isRule_0 : decode cX6_isRule 0 = .ok (.aload_n 0, 1) := by decide +kernel
theorem dX6_isRule_1 : decode cX6_isRule 1 = .ok (.getfield 9, 3) := by decide +kernel
theorem dX6_isRule_4 : decode cX6_isRule 4 = .ok (.iload_n 1, 1) := by decide +kernel
theorem dX6_isRule_5 : decode cX6_isRule 5 = .ok (.invokevirtual 15, 3) := by decide +kernel
theorem dX6_isRule_8 : decode cX6_isRule 8 = .ok (.iconst 2, 1) := by decide +kernel
theorem dX6_isRule_9 : decode cX6_isRule 9 = .ok (.if_icmp .eq 5, 3) := by decide +kernel
theorem dX6_isRule_12 : decode cX6_isRule 12 = .ok (.iconst 0, 1) := by decide +kernel
theorem dX6_isRule_13 : decode cX6_isRule 13 = .ok (.ireturn, 1) := by decide +kernel
theorem dX6_isRule_14 : decode cX6_isRule 14 = .ok (.iload_n 1, 1) := by decide +kernel
theorem dX6_isRule_15 : decode cX6_isRule 15 = .ok (.iconst 1, 1) := by decide +kernel
theorem dX6_isRule_16 : decode cX6_isRule 16 = .ok (.iadd, 1) := by decide +kernel
theorem dX6_isRule_17 : decode cX6_isRule 17 = .ok (.istore_n 2, 1) := by decide +kernel
theorem dX6_isRule_18 : decode cX6_isRule 18 = .ok (.aload_n 0, 1) := by decide +kernel
theorem dX6_isRule_19 : decode cX6_isRule 19 = .ok (.getfield 9, 3) := by decide +kernel
theorem dX6_isRule_22 : decode cX6_isRule 22 = .ok (.iload_n 2, 1) := by decide +kernel
theorem dX6_isRule_23 : decode cX6_isRule 23 = .ok (.invokevirtual 31, 3) := by decide +kernel
theorem dX6_isRule_26 : decode cX6_isRule 26 = .ok (.istore_n 3, 1) := by decide +kernel
theorem dX6_isRule_27 : decode cX6_isRule 27 = .ok (.aload_n 0, 1) := by decide +kernel
theorem dX6_isRule_28 : decode cX6_isRule 28 = .ok (.iload_n 2, 1) := by decide +kernel
theorem dX6_isRule_29 : decode cX6_isRule 29 = .ok (.invokevirtual 34, 3) := by decide +kernel
theorem dX6_isRule_32 : decode cX6_isRule 32 = .ok (.ifCond .ne 5, 3) := by decide +kernel
theorem dX6_isRule_35 : decode cX6_isRule 35 = .ok (.iconst 0, 1) := by decide +kernel
theorem dX6_isRule_36 : decode cX6_isRule 36 = .ok (.ireturn, 1) := by decide +kernel
theorem dX6_isRule_37 : decode cX6_isRule 37 = .ok (.aload_n 0, 1) := by decide +kernel
theorem dX6_isRule_38 : decode cX6_isRule 38 = .ok (.iload_n 2, 1) := by decide +kernel
theorem dX6_isRule_39 : decode cX6_isRule 39 = .ok (.iload_n 3, 1) := by decide +kernel
theorem dX6_isRule_40 : decode cX6_isRule 40 = .ok (.invokevirtual 37, 3) := by decide +kernel
theorem dX6_isRule_43 : decode cX6_isRule 43 = .ok (.aload_n 0, 1) := by decide +kernel
theorem dX6_isRule_44 : decode cX6_isRule 44 = .ok (.iload_n 2, 1) := by decide +kernel
theorem dX6_isRule_45 : decode cX6_isRule 45 = .ok (.iload_n 3, 1) := by decide +kernel
theorem dX6_isRule_46 : decode cX6_isRule 46 = .ok (.invokevirtual 41, 3) := by decide +kernel
theorem dX6_isRule_49 : decode cX6_isRule 49 = .ok (.ireturn, 1) := by decide +kernel
set_option maxRecDepth 20000 in
theorem ggX6_isTemplate_X5_after : GoodIn wsX6_isTemplate wsX5_after := goodIn_r _ [6, 7, 8, 28, 29, 30, 31, 32, 33] (by decide +kernel) (by decide +kernel)
set_option maxRecDepth 20000 in
theorem gX6_isTemplate_X5_after : GoodIn wsX6_isTemplate (wsV RX6 31 RX5 yX5_after wsX5_after) := goodIn_app (goodIn_of _ (by decide +kernel)) ggX6_isTemplate_X5_after
set_option maxRecDepth 20000 in
theorem ggX6_isTemplate_X5_variableAt : GoodIn wsX6_isTemplate wsX5_variableAt := goodIn_r _ [12, 7, 13, 28, 29, 30, 31, 32, 33] (by decide +kernel) (by decide +kernel)
set_option maxRecDepth 20000 in
theorem gX6_isTemplate_X5_variableAt : GoodIn wsX6_isTemplate (wsV RX6 62 RX5 yX5_variableAt wsX5_variableAt) := goodIn_app (goodIn_of _ (by decide +kernel)) ggX6_isTemplate_X5_variableAt
set_option maxRecDepth 20000 in
theorem ggX6_isTemplate_X5_holders : GoodIn wsX6_isTemplate wsX5_holders := goodIn_r _ [17, 7, 8, 18, 28, 29, 30, 31, 32, 33] (by decide +kernel) (by decide +kernel)
set_option maxRecDepth 20000 in
theorem gX6_isTemplate_X5_holders : GoodIn wsX6_isTemplate (wsV RX6 51 RX5 yX5_holders wsX5_holders) := goodIn_app (goodIn_of _ (by decide +kernel)) ggX6_isTemplate_X5_holders
set_option maxRecDepth 20000 in
theorem ggX6_isTemplate_X5_isHeld : GoodIn wsX6_isTemplate wsX5_isHeld := goodIn_r _ [22, 7, 18, 8, 28, 29, 30, 31, 32, 33] (by decide +kernel) (by decide +kernel)
set_option maxRecDepth 20000 in
theorem gX6_isTemplate_X5_isHeld : GoodIn wsX6_isTemplate (wsV RX6 45 RX5 yX5_isHeld wsX5_isHeld) := goodIn_app (goodIn_of _ (by decide +kernel)) ggX6_isTemplate_X5_isHeld
set_option maxRecDepth 20000 in
theorem ggX6_isTemplate_X5_hasUse : GoodIn wsX6_isTemplate wsX5_hasUse := goodIn_r _ [26, 7, 8, 13, 28, 29, 30, 31, 32, 33] (by decide +kernel) (by decide +kernel)
set_option maxRecDepth 20000 in
theorem gX6_isTemplate_X5_hasUse : GoodIn wsX6_isTemplate (wsV RX6 65 RX5 yX5_hasUse wsX5_hasUse) := goodIn_app (goodIn_of _ (by decide +kernel)) ggX6_isTemplate_X5_hasUse
theorem dX6_isTemplate_0 : decode cX6_isTemplate 0 = .ok (.aload_n 0, 1) := by decide +kernel
theorem dX6_isTemplate_1 : decode cX6_isTemplate 1 = .ok (.getfield 9, 3) := by decide +kernel
theorem dX6_isTemplate_4 : decode cX6_isTemplate 4 = .ok (.iload_n 2, 1) := by decide +kernel
theorem dX6_isTemplate_5 : decode cX6_isTemplate 5 = .ok (.invokevirtual 31, 3) := by decide +kernel
theorem dX6_isTemplate_8 : decode cX6_isTemplate 8 = .ok (.istore_n 3, 1) := by decide +kernel
theorem dX6_isTemplate_9 : decode cX6_isTemplate 9 = .ok (.iload_n 2, 1) := by decide +kernel
theorem dX6_isTemplate_10 : decode cX6_isTemplate 10 = .ok (.istore 4, 2) := by decide +kernel
theorem dX6_isTemplate_12 : decode cX6_isTemplate 12 = .ok (.iload 4, 2) := by decide +kernel
theorem dX6_isTemplate_14 : decode cX6_isTemplate 14 = .ok (.iload_n 3, 1) := by decide +kernel
theorem dX6_isTemplate_15 : decode cX6_isTemplate 15 = .ok (.if_icmp .ge 76, 3) := by decide +kernel
theorem dX6_isTemplate_18 : decode cX6_isTemplate 18 = .ok (.aload_n 0, 1) := by decide +kernel
theorem dX6_isTemplate_19 : decode cX6_isTemplate 19 = .ok (.getfield 9, 3) := by decide +kernel
theorem dX6_isTemplate_22 : decode cX6_isTemplate 22 = .ok (.iload 4, 2) := by decide +kernel
theorem dX6_isTemplate_24 : decode cX6_isTemplate 24 = .ok (.invokevirtual 62, 3) := by decide +kernel
theorem dX6_isTemplate_27 : decode cX6_isTemplate 27 = .ok (.istore 5, 2) := by decide +kernel
theorem dX6_isTemplate_29 : decode cX6_isTemplate 29 = .ok (.iload 5, 2) := by decide +kernel
theorem dX6_isTemplate_31 : decode cX6_isTemplate 31 = .ok (.ifCond .lt 28, 3) := by decide +kernel
theorem dX6_isTemplate_34 : decode cX6_isTemplate 34 = .ok (.aload_n 0, 1) := by decide +kernel
theorem dX6_isTemplate_35 : decode cX6_isTemplate 35 = .ok (.getfield 9, 3) := by decide +kernel
theorem dX6_isTemplate_38 : decode cX6_isTemplate 38 = .ok (.iload_n 2, 1) := by decide +kernel
theorem dX6_isTemplate_39 : decode cX6_isTemplate 39 = .ok (.iload 4, 2) := by decide +kernel
theorem dX6_isTemplate_41 : decode cX6_isTemplate 41 = .ok (.invokevirtual 51, 3) := by decide +kernel
theorem dX6_isTemplate_44 : decode cX6_isTemplate 44 = .ok (.aload_n 0, 1) := by decide +kernel
theorem dX6_isTemplate_45 : decode cX6_isTemplate 45 = .ok (.getfield 9, 3) := by decide +kernel
theorem dX6_isTemplate_48 : decode cX6_isTemplate 48 = .ok (.iload_n 1, 1) := by decide +kernel
theorem dX6_isTemplate_49 : decode cX6_isTemplate 49 = .ok (.iload 5, 2) := by decide +kernel
theorem dX6_isTemplate_51 : decode cX6_isTemplate 51 = .ok (.invokevirtual 51, 3) := by decide +kernel
theorem dX6_isTemplate_54 : decode cX6_isTemplate 54 = .ok (.if_icmp .eq 5, 3) := by decide +kernel
theorem dX6_isTemplate_57 : decode cX6_isTemplate 57 = .ok (.iconst 0, 1) := by decide +kernel
theorem dX6_isTemplate_58 : decode cX6_isTemplate 58 = .ok (.ireturn, 1) := by decide +kernel
theorem dX6_isTemplate_59 : decode cX6_isTemplate 59 = .ok (.aload_n 0, 1) := by decide +kernel
theorem dX6_isTemplate_60 : decode cX6_isTemplate 60 = .ok (.getfield 9, 3) := by decide +kernel
theorem dX6_isTemplate_63 : decode cX6_isTemplate 63 = .ok (.iload 4, 2) := by decide +kernel
theorem dX6_isTemplate_65 : decode cX6_isTemplate 65 = .ok (.invokevirtual 45, 3) := by decide +kernel
theorem dX6_isTemplate_68 : decode cX6_isTemplate 68 = .ok (.ifCond .eq 17, 3) := by decide +kernel
theorem dX6_isTemplate_71 : decode cX6_isTemplate 71 = .ok (.aload_n 0, 1) := by decide +kernel
theorem dX6_isTemplate_72 : decode cX6_isTemplate 72 = .ok (.getfield 9, 3) := by decide +kernel
theorem dX6_isTemplate_75 : decode cX6_isTemplate 75 = .ok (.iload 4, 2) := by decide +kernel
theorem dX6_isTemplate_77 : decode cX6_isTemplate 77 = .ok (.invokevirtual 65, 3) := by decide +kernel
theorem dX6_isTemplate_80 : decode cX6_isTemplate 80 = .ok (.ifCond .ne 5, 3) := by decide +kernel
theorem dX6_isTemplate_83 : decode cX6_isTemplate 83 = .ok (.iconst 0, 1) := by decide +kernel
theorem dX6_isTemplate_84 : decode cX6_isTemplate 84 = .ok (.ireturn, 1) := by decide +kernel
theorem dX6_isTemplate_85 : decode cX6_isTemplate 85 = .ok (.iinc 4 1, 3) := by decide +kernel
theorem dX6_isTemplate_88 : decode cX6_isTemplate 88 = .ok (.goto (-76), 3) := by decide +kernel
theorem dX6_isTemplate_91 : decode cX6_isTemplate 91 = .ok (.iconst 1, 1) := by decide +kernel
theorem dX6_isTemplate_92 : decode cX6_isTemplate 92 = .ok (.ireturn, 1) := by decide +kernel
theorem iw_X0_expandLs_X0 : ∀ w ∈ wsX00, w ∈ wsX0_expandLs := by decide +kernel
theorem lk_X0_expandLs_9 : Cond.fieldLink RX0 9 "MarkedNames$Expander" "row" "LMarkedNames$Row;" ∈ wsX0_expandLs := by decide +kernel
theorem lk_X0_expandLs_15 : Cond.fieldLink RX0 15 "MarkedNames$Expander" "check" "LMarkedNames$RuleCheck;" ∈ wsX0_expandLs := by decide +kernel
theorem iw_X6_isNameWithRules_X6 : ∀ w ∈ wsX60, w ∈ wsX6_isNameWithRules := by decide +kernel
theorem lk_X6_isNameWithRules_9 : Cond.fieldLink RX6 9 "MarkedNames$RuleCheck" "row" "LMarkedNames$Row;" ∈ wsX6_isNameWithRules := by decide +kernel
theorem in_X6_isNameWithRules_X8 : Cond.initialized RX8 ∈ wsX6_isNameWithRules := by decide +kernel
theorem st_X6_isNameWithRules_X8_isName : Cond.static yX8_isName ∈ wsX6_isNameWithRules := by decide +kernel
theorem iw_X6_isRule_X6 : ∀ w ∈ wsX60, w ∈ wsX6_isRule := by decide +kernel
theorem lk_X6_isRule_9 : Cond.fieldLink RX6 9 "MarkedNames$RuleCheck" "row" "LMarkedNames$Row;" ∈ wsX6_isRule := by decide +kernel
theorem iw_X6_isTemplate_X6 : ∀ w ∈ wsX60, w ∈ wsX6_isTemplate := by decide +kernel
theorem lk_X6_isTemplate_9 : Cond.fieldLink RX6 9 "MarkedNames$RuleCheck" "row" "LMarkedNames$Row;" ∈ wsX6_isTemplate := by decide +kernel
theorem lk_X0_expandLs_23 : Cond.fieldLink RX0 23 "MarkedNames$Expander" "outcome" "LMarkedNames$Outcome;" ∈ wsX0_expandLs := by decide +kernel
theorem iw_X1_firstRule_X1 : ∀ w ∈ wsX10, w ∈ wsX1_firstRule := by decide +kernel
theorem lk_X1_firstRule_18 : Cond.fieldLink RX1 18 "MarkedNames$Filler" "row" "LMarkedNames$Row;" ∈ wsX1_firstRule := by decide +kernel
theorem iw_X1_hasRoomFor_X1 : ∀ w ∈ wsX10, w ∈ wsX1_hasRoomFor := by decide +kernel
theorem lk_X1_hasRoomFor_18 : Cond.fieldLink RX1 18 "MarkedNames$Filler" "row" "LMarkedNames$Row;" ∈ wsX1_hasRoomFor := by decide +kernel
theorem iw_X1_matches_X1 : ∀ w ∈ wsX10, w ∈ wsX1_matches := by decide +kernel
theorem lk_X1_matches_12 : Cond.fieldLink RX1 12 "MarkedNames$Filler" "rounds" "LMarkedNames$Rounds;" ∈ wsX1_matches := by decide +kernel
theorem iw_X4_clear_X4 : ∀ w ∈ wsX40, w ∈ wsX4_clear := by decide +kernel
theorem lk_X4_clear_21 : Cond.fieldLink RX4 21 "MarkedNames$Rounds" "depth" "I" ∈ wsX4_clear := by decide +kernel
theorem lk_X1_matches_18 : Cond.fieldLink RX1 18 "MarkedNames$Filler" "row" "LMarkedNames$Row;" ∈ wsX1_matches := by decide +kernel
theorem mw_X1_matches__constant_RX1_45_1000000_Int32_ : Cond.constant RX1 45 (1000000 : Int32) ∈ wsX1_matches := by decide +kernel
theorem iw_X4_hasInner_X4 : ∀ w ∈ wsX40, w ∈ wsX4_hasInner := by decide +kernel
theorem lk_X4_hasInner_21 : Cond.fieldLink RX4 21 "MarkedNames$Rounds" "depth" "I" ∈ wsX4_hasInner := by decide +kernel
theorem iw_X4_isIn_X4 : ∀ w ∈ wsX40, w ∈ wsX4_isIn := by decide +kernel
theorem lk_X4_isIn_9 : Cond.fieldLink RX4 9 "MarkedNames$Rounds" "held" "[I" ∈ wsX4_isIn := by decide +kernel
theorem lk_X4_isIn_21 : Cond.fieldLink RX4 21 "MarkedNames$Rounds" "depth" "I" ∈ wsX4_isIn := by decide +kernel
theorem iw_X4_enter_X4 : ∀ w ∈ wsX40, w ∈ wsX4_enter := by decide +kernel
theorem lk_X4_enter_21 : Cond.fieldLink RX4 21 "MarkedNames$Rounds" "depth" "I" ∈ wsX4_enter := by decide +kernel
theorem lk_X4_enter_9 : Cond.fieldLink RX4 9 "MarkedNames$Rounds" "held" "[I" ∈ wsX4_enter := by decide +kernel
theorem lk_X4_enter_15 : Cond.fieldLink RX4 15 "MarkedNames$Rounds" "round" "[I" ∈ wsX4_enter := by decide +kernel
theorem lk_X4_enter_18 : Cond.fieldLink RX4 18 "MarkedNames$Rounds" "rounds" "[I" ∈ wsX4_enter := by decide +kernel
theorem in_X1_matches_X8 : Cond.initialized RX8 ∈ wsX1_matches := by decide +kernel
theorem st_X1_matches_X8_isName : Cond.static yX8_isName ∈ wsX1_matches := by decide +kernel
theorem iw_X4_leave_X4 : ∀ w ∈ wsX40, w ∈ wsX4_leave := by decide +kernel
theorem lk_X4_leave_15 : Cond.fieldLink RX4 15 "MarkedNames$Rounds" "round" "[I" ∈ wsX4_leave := by decide +kernel
theorem lk_X4_leave_21 : Cond.fieldLink RX4 21 "MarkedNames$Rounds" "depth" "I" ∈ wsX4_leave := by decide +kernel
theorem lk_X4_leave_18 : Cond.fieldLink RX4 18 "MarkedNames$Rounds" "rounds" "[I" ∈ wsX4_leave := by decide +kernel
theorem lk_X4_leave_9 : Cond.fieldLink RX4 9 "MarkedNames$Rounds" "held" "[I" ∈ wsX4_leave := by decide +kernel
theorem iw_X5_startTree_X5 : ∀ w ∈ wsX50, w ∈ wsX5_startTree := by decide +kernel
theorem lk_X5_startTree_28 : Cond.fieldLink RX5 28 "MarkedNames$Row" "open" "I" ∈ wsX5_startTree := by decide +kernel
theorem lk_X5_startTree_24 : Cond.fieldLink RX5 24 "MarkedNames$Row" "top" "I" ∈ wsX5_startTree := by decide +kernel
theorem iw_X1_roundsFor_X1 : ∀ w ∈ wsX10, w ∈ wsX1_roundsFor := by decide +kernel
theorem lk_X1_roundsFor_18 : Cond.fieldLink RX1 18 "MarkedNames$Filler" "row" "LMarkedNames$Row;" ∈ wsX1_roundsFor := by decide +kernel
theorem ml_X1_roundsFor_111 : Cond.methodLink RX1 111 Lib.Math.max.name ∈ wsX1_roundsFor := by decide +kernel
theorem ms_X1_roundsFor_max : Cond.static Lib.Math.max.name ∈ wsX1_roundsFor := by decide +kernel
theorem mi_X1_roundsFor_Math : Cond.initialized "java/lang/Math" ∈ wsX1_roundsFor := by decide +kernel
theorem mc_X1_roundsFor_max : Cond.code Lib.Math.max.name Lib.Math.max.code 2 (some .int) ∈ wsX1_roundsFor := by decide +kernel
theorem lk_X1_roundsFor_12 : Cond.fieldLink RX1 12 "MarkedNames$Filler" "rounds" "LMarkedNames$Rounds;" ∈ wsX1_roundsFor := by decide +kernel
theorem iw_X1_roundsFor_X4 : ∀ w ∈ wsX40, w ∈ wsX1_roundsFor := by decide +kernel
theorem iw_X1_matchOf_X1 : ∀ w ∈ wsX10, w ∈ wsX1_matchOf := by decide +kernel
theorem lk_X1_matchOf_72 : Cond.fieldLink RX1 72 "MarkedNames$Filler" "pattern" "I" ∈ wsX1_matchOf := by decide +kernel
theorem lk_X1_matchOf_76 : Cond.fieldLink RX1 76 "MarkedNames$Filler" "matched" "I" ∈ wsX1_matchOf := by decide +kernel
theorem mw_X1_matchOf__constant_RX1_45_1000000_Int32_ : Cond.constant RX1 45 (1000000 : Int32) ∈ wsX1_matchOf := by decide +kernel
theorem lk_X1_matchOf_18 : Cond.fieldLink RX1 18 "MarkedNames$Filler" "row" "LMarkedNames$Row;" ∈ wsX1_matchOf := by decide +kernel
theorem lk_X1_matchOf_12 : Cond.fieldLink RX1 12 "MarkedNames$Filler" "rounds" "LMarkedNames$Rounds;" ∈ wsX1_matchOf := by decide +kernel
theorem iw_X4_roundOf_X4 : ∀ w ∈ wsX40, w ∈ wsX4_roundOf := by decide +kernel
theorem lk_X4_roundOf_21 : Cond.fieldLink RX4 21 "MarkedNames$Rounds" "depth" "I" ∈ wsX4_roundOf := by decide +kernel
theorem lk_X4_roundOf_15 : Cond.fieldLink RX4 15 "MarkedNames$Rounds" "round" "[I" ∈ wsX4_roundOf := by decide +kernel
theorem lk_X1_roundsFor_22 : Cond.fieldLink RX1 22 "MarkedNames$Filler" "outcome" "LMarkedNames$Outcome;" ∈ wsX1_roundsFor := by decide +kernel
theorem iw_X5_closeBracket_X5 : ∀ w ∈ wsX50, w ∈ wsX5_closeBracket := by decide +kernel
theorem lk_X5_closeBracket_28 : Cond.fieldLink RX5 28 "MarkedNames$Row" "open" "I" ∈ wsX5_closeBracket := by decide +kernel
theorem lk_X5_closeBracket_18 : Cond.fieldLink RX5 18 "MarkedNames$Row" "size" "[I" ∈ wsX5_closeBracket := by decide +kernel
theorem lk_X5_closeBracket_24 : Cond.fieldLink RX5 24 "MarkedNames$Row" "top" "I" ∈ wsX5_closeBracket := by decide +kernel
section
variable {l : Launch} {p : Program} {e : Env} {s : State} {m : MethodId} {args : Array Value} {below : List Frame} {meth : Method} {c : Code} {A : Nat → Prop} {dC : Nat → ClassId} {dI : Nat → Nat → Nat} {cA : ClassId} {a b : Nat → Nat} {lev : Nat}
set_option maxHeartbeats 4000000 in
set_option maxRecDepth 100000 in
theorem wj_X6_isTemplate_85_ok (C : mC p s m args meth c cX6_isTemplate 6 wsX6_isTemplate RX6 (some .boolean) (dC, dI) vwCl [(cA, .int)] A) (hs : eA a A s) (hlev : 1 ≤ lev) {post : Int32 → mS → Prop} {K12 : Int32 → Int32 → Int32 → Int32 → mS → Prop} (hK12 : ∀ (x1 x2 x3 x4 : Int32) (u : mS), K12 x1 x2 x3 x4 u → mV p l e (mRm lev) s m args below meth c 6 (dC, dI) vwCl A 0 0 (mQi below args s (dC, dI) vwCl [(cA, .int)] (wA cA a) A (fun r w => (r = 0 ∨ r = 1) ∧ post r w)) (wA cA a u) 12 [(0, .ref (a 8)), (1, .int x1), (2, .int x2), (3, .int x3), (4, .int x4)] []) {x1 x2 x3 x4 : Int32} {u : mS} (hw : wj_X6_isTemplate_85 K12 post x1 x2 x3 x4 u) : mV p l e (mRm lev) s m args below meth c 6 (dC, dI) vwCl A 0 0 (mQi below args s (dC, dI) vwCl [(cA, .int)] (wA cA a) A (fun r w => (r = 0 ∨ r = 1) ∧ post r w)) (wA cA a u) 85 [(0, .ref (a 8)), (1, .int x1), (2, .int x2), (3, .int x3), (4, .int x4)] [] := by
  unfold wj_X6_isTemplate_85 at hw
  obtain ⟨y18, ey18⟩ : ∃ z : Int32, z = x4 + (1 : Int32) := ⟨_, rfl⟩
  have hw := hw y18 ey18
  refine mv_iinc (v := y18) (lv1 := [(4, .int y18), (0, .ref (a 8)), (1, .int x1), (2, .int x2), (3, .int x3)]) C dX6_isTemplate_85 4 rfl (by rw [ey18]; rfl) (by decide) rfl ?_
  refine mv_goto (tgt := 12) C dX6_isTemplate_88 (by decide) ?_
  refine mv_sub [1, 2, 3, 4, 0] rfl ?_
  exact hK12 x1 x2 x3 y18 u hw
set_option maxHeartbeats 4000000 in
set_option maxRecDepth 100000 in
theorem wj_X6_isTemplate_59_ok (C : mC p s m args meth c cX6_isTemplate 6 wsX6_isTemplate RX6 (some .boolean) (dC, dI) vwCl [(cA, .int)] A) (hs : eA a A s) (hlev : 1 ≤ lev) {post : Int32 → mS → Prop} {K12 : Int32 → Int32 → Int32 → Int32 → mS → Prop} (hK12 : ∀ (x1 x2 x3 x4 : Int32) (u : mS), K12 x1 x2 x3 x4 u → mV p l e (mRm lev) s m args below meth c 6 (dC, dI) vwCl A 0 0 (mQi below args s (dC, dI) vwCl [(cA, .int)] (wA cA a) A (fun r w => (r = 0 ∨ r = 1) ∧ post r w)) (wA cA a u) 12 [(0, .ref (a 8)), (1, .int x1), (2, .int x2), (3, .int x3), (4, .int x4)] []) {x1 x2 x3 x4 : Int32} {u : mS} (hw : wj_X6_isTemplate_59 K12 post x1 x2 x3 x4 u) : mV p l e (mRm lev) s m args below meth c 6 (dC, dI) vwCl A 0 0 (mQi below args s (dC, dI) vwCl [(cA, .int)] (wA cA a) A (fun r w => (r = 0 ∨ r = 1) ∧ post r w)) (wA cA a u) 59 [(0, .ref (a 8)), (1, .int x1), (2, .int x2), (3, .int x3), (4, .int x4)] [] := by
  unfold wj_X6_isTemplate_59 at hw
  refine mv_aload_n C dX6_isTemplate_59 rfl 0 rfl ?_
  refine mv_get (v := .ref (a 2)) C iw_X6_isTemplate_X6 8 rfl rfl 0 (by decide) lk_X6_isTemplate_9 rfl rfl dX6_isTemplate_60 ?_
  refine mv_iload C dX6_isTemplate_63 4 rfl ?_
  refine mv_callVi (f := wA cA a) (As := [.int x4]) (rest := []) C (eA_ok a) hs 2 rfl rfl (X5_isHeld_met (l := l) (lev := lev - 1) (by omega) hw) (cwV 1 C.2.2.2.2.1 gX6_isTemplate_X5_isHeld rfl rfl rfl (by decide +kernel) (mRm_le (by omega) (by decide))) rfl rfl (Nat.le_of_ble_eq_true rfl) dX6_isTemplate_65 ⟨Nat.le_refl 0, Nat.le_refl 0⟩ (fun r12 u13 hw => ?_)
  obtain ⟨gr12, hw⟩ := hw
  refine mv_if_eq (tgt := 85) C dX6_isTemplate_68 (by decide) (fun h14 => ?_) (fun h14 => ?_)
  · have hw := hw.1 h14
    exact wj_X6_isTemplate_85_ok C hs hlev hK12 hw
  · have hw := hw.2 h14
    refine mv_aload_n C dX6_isTemplate_71 rfl 0 rfl ?_
    refine mv_get (v := .ref (a 2)) C iw_X6_isTemplate_X6 8 rfl rfl 0 (by decide) lk_X6_isTemplate_9 rfl rfl dX6_isTemplate_72 ?_
    refine mv_iload C dX6_isTemplate_75 4 rfl ?_
    refine mv_callVi (f := wA cA a) (As := [.int x4]) (rest := []) C (eA_ok a) hs 2 rfl rfl (X5_hasUse_met (l := l) (lev := lev - 1) (by omega) hw) (cwV 1 C.2.2.2.2.1 gX6_isTemplate_X5_hasUse rfl rfl rfl (by decide +kernel) (mRm_le (by omega) (by decide))) rfl rfl (Nat.le_of_ble_eq_true rfl) dX6_isTemplate_77 ⟨Nat.le_refl 0, Nat.le_refl 0⟩ (fun r15 u16 hw => ?_)
    obtain ⟨gr15, hw⟩ := hw
    refine mv_if_ne (tgt := 85) C dX6_isTemplate_80 (by decide) (fun h17 => ?_) (fun h17 => ?_)
    · have hw := hw.1 h17
      exact wj_X6_isTemplate_85_ok C hs hlev hK12 hw
    · have hw := hw.2 h17
      refine mv_iconst (v := (0 : Int32)) C dX6_isTemplate_83 (by decide) ?_
      exact mv_zret C dX6_isTemplate_84 (Or.inl rfl) hw
set_option maxHeartbeats 4000000 in
set_option maxRecDepth 100000 in
theorem wj_X6_isTemplate_12_ok (C : mC p s m args meth c cX6_isTemplate 6 wsX6_isTemplate RX6 (some .boolean) (dC, dI) vwCl [(cA, .int)] A) (hs : eA a A s) (hlev : 1 ≤ lev) {post : Int32 → mS → Prop} {K12 : Int32 → Int32 → Int32 → Int32 → mS → Prop} (hK12 : ∀ (x1 x2 x3 x4 : Int32) (u : mS), K12 x1 x2 x3 x4 u → mV p l e (mRm lev) s m args below meth c 6 (dC, dI) vwCl A 0 0 (mQi below args s (dC, dI) vwCl [(cA, .int)] (wA cA a) A (fun r w => (r = 0 ∨ r = 1) ∧ post r w)) (wA cA a u) 12 [(0, .ref (a 8)), (1, .int x1), (2, .int x2), (3, .int x3), (4, .int x4)] []) {x1 x2 x3 x4 : Int32} {u : mS} (hw : wj_X6_isTemplate_12 K12 post x1 x2 x3 x4 u) : mV p l e (mRm lev) s m args below meth c 6 (dC, dI) vwCl A 0 0 (mQi below args s (dC, dI) vwCl [(cA, .int)] (wA cA a) A (fun r w => (r = 0 ∨ r = 1) ∧ post r w)) (wA cA a u) 12 [(0, .ref (a 8)), (1, .int x1), (2, .int x2), (3, .int x3), (4, .int x4)] [] := by
  unfold wj_X6_isTemplate_12 at hw
  refine mv_iload C dX6_isTemplate_12 4 rfl ?_
  refine mv_iload_n C dX6_isTemplate_14 rfl 3 rfl ?_
  refine mv_icmp_ge (tgt := 91) C dX6_isTemplate_15 (by decide) (fun h3 => ?_) (fun h3 => ?_)
  · have hw := hw.1 h3
    refine mv_iconst (v := (1 : Int32)) C dX6_isTemplate_91 (by decide) ?_
    exact mv_zret C dX6_isTemplate_92 (Or.inr rfl) hw
  · have hw := hw.2 h3
    refine mv_aload_n C dX6_isTemplate_18 rfl 0 rfl ?_
    refine mv_get (v := .ref (a 2)) C iw_X6_isTemplate_X6 8 rfl rfl 0 (by decide) lk_X6_isTemplate_9 rfl rfl dX6_isTemplate_19 ?_
    refine mv_iload C dX6_isTemplate_22 4 rfl ?_
    refine mv_callVi (f := wA cA a) (As := [.int x4]) (rest := []) C (eA_ok a) hs 2 rfl rfl (X5_variableAt_met (l := l) (lev := lev - 1) (by omega) hw) (cwV 1 C.2.2.2.2.1 gX6_isTemplate_X5_variableAt rfl rfl rfl (by decide +kernel) (mRm_le (by omega) (by decide))) rfl rfl (Nat.le_of_ble_eq_true rfl) dX6_isTemplate_24 ⟨Nat.le_refl 0, Nat.le_refl 0⟩ (fun r4 u5 hw => ?_)
    refine mv_istore (lv1 := [(5, .int r4), (0, .ref (a 8)), (1, .int x1), (2, .int x2), (3, .int x3), (4, .int x4)]) C dX6_isTemplate_27 (by decide) rfl ?_
    refine mv_iload C dX6_isTemplate_29 0 rfl ?_
    refine mv_if_lt (tgt := 59) C dX6_isTemplate_31 (by decide) (fun h6 => ?_) (fun h6 => ?_)
    · have hw := hw.1 h6
      refine mv_sub [1, 2, 3, 4, 5] rfl ?_
      exact wj_X6_isTemplate_59_ok C hs hlev hK12 hw
    · have hw := hw.2 h6
      refine mv_aload_n C dX6_isTemplate_34 rfl 1 rfl ?_
      refine mv_get (v := .ref (a 2)) C iw_X6_isTemplate_X6 8 rfl rfl 0 (by decide) lk_X6_isTemplate_9 rfl rfl dX6_isTemplate_35 ?_
      refine mv_iload_n C dX6_isTemplate_38 rfl 3 rfl ?_
      refine mv_iload C dX6_isTemplate_39 5 rfl ?_
      refine mv_callVi (f := wA cA a) (As := [.int x2, .int x4]) (rest := []) C (eA_ok a) hs 2 rfl rfl (X5_holders_met (l := l) (lev := lev - 1) (by omega) hw) (cwV 2 C.2.2.2.2.1 gX6_isTemplate_X5_holders rfl rfl rfl (by decide +kernel) (mRm_le (by omega) (by decide))) rfl rfl (Nat.le_of_ble_eq_true rfl) dX6_isTemplate_41 ⟨Nat.le_refl 0, Nat.le_refl 0⟩ (fun r7 u8 hw => ?_)
      refine mv_aload_n C dX6_isTemplate_44 rfl 1 rfl ?_
      refine mv_get (v := .ref (a 2)) C iw_X6_isTemplate_X6 8 rfl rfl 0 (by decide) lk_X6_isTemplate_9 rfl rfl dX6_isTemplate_45 ?_
      refine mv_iload_n C dX6_isTemplate_48 rfl 2 rfl ?_
      refine mv_iload C dX6_isTemplate_49 0 rfl ?_
      refine mv_callVi (f := wA cA a) (As := [.int x1, .int r4]) (rest := [.int r7]) C (eA_ok a) hs 2 rfl rfl (X5_holders_met (l := l) (lev := lev - 1) (by omega) hw) (cwV 2 C.2.2.2.2.1 gX6_isTemplate_X5_holders rfl rfl rfl (by decide +kernel) (mRm_le (by omega) (by decide))) rfl rfl (Nat.le_of_ble_eq_true rfl) dX6_isTemplate_51 ⟨Nat.le_refl 0, Nat.le_refl 0⟩ (fun r9 u10 hw => ?_)
      refine mv_icmp_eq (tgt := 59) C dX6_isTemplate_54 (by decide) (fun h11 => ?_) (fun h11 => ?_)
      · have hw := hw.1 h11
        refine mv_sub [1, 2, 3, 4, 5] rfl ?_
        exact wj_X6_isTemplate_59_ok C hs hlev hK12 hw
      · have hw := hw.2 h11
        refine mv_iconst (v := (0 : Int32)) C dX6_isTemplate_57 (by decide) ?_
        exact mv_zret C dX6_isTemplate_58 (Or.inl rfl) hw
set_option maxHeartbeats 4000000 in
set_option maxRecDepth 100000 in
theorem X6_isTemplate_met (hlev : 1 ≤ lev) {x1 x2 : Int32} {u : mS} {post : Int32 → mS → Prop} (hw : wp_X6_isTemplate x1 x2 u post) : mKi l yX6_isTemplate wsX6_isTemplate lev (eA a) (dC, dI) vwCl [(cA, .int)] (wA cA a) [.ref (a 8), .int x1, .int x2] u (fun r w => (r = 0 ∨ r = 1) ∧ post r w) := by
  refine mKz_of (cc := cX6_isTemplate) (maxL := 6) (by decide) rfl rfl (Nat.le_of_ble_eq_true rfl) rfl ?_
  intro p e s m args below meth c A C hs
  unfold wp_X6_isTemplate at hw
  refine mv_aload_n C dX6_isTemplate_0 rfl 0 rfl ?_
  refine mv_get (v := .ref (a 2)) C iw_X6_isTemplate_X6 8 rfl rfl 0 (by decide) lk_X6_isTemplate_9 rfl rfl dX6_isTemplate_1 ?_
  refine mv_iload_n C dX6_isTemplate_4 rfl 2 rfl ?_
  refine mv_callVi (f := wA cA a) (As := [.int x2]) (rest := []) C (eA_ok a) hs 2 rfl rfl (X5_after_met (l := l) (lev := lev - 1) (by omega) hw) (cwV 1 C.2.2.2.2.1 gX6_isTemplate_X5_after rfl rfl rfl (by decide +kernel) (mRm_le (by omega) (by decide))) rfl rfl (Nat.le_of_ble_eq_true rfl) dX6_isTemplate_5 ⟨Nat.le_refl 0, Nat.le_refl 0⟩ (fun r1 u2 hw => ?_)
  refine mv_istore_n (lv1 := [(3, .int r1), (0, .ref (a 8)), (1, .int x1), (2, .int x2)]) C dX6_isTemplate_8 rfl (by decide) rfl ?_
  refine mv_iload_n C dX6_isTemplate_9 rfl 3 rfl ?_
  refine mv_istore (lv1 := [(4, .int x2), (3, .int r1), (0, .ref (a 8)), (1, .int x1), (2, .int x2)]) C dX6_isTemplate_10 (by decide) rfl ?_
  refine mv_sub [2, 3, 4, 1, 0] rfl ?_
  obtain ⟨n, hw⟩ := hw
  exact mL5_of (fun K hK b0 b1 b2 b3 b4 hw => wj_X6_isTemplate_12_ok C hs hlev hK hw) n x1 x2 r1 x2 u2 hw
set_option maxHeartbeats 4000000 in
set_option maxRecDepth 100000 in
theorem X6_isRule_met (hlev : 2 ≤ lev) {x1 : Int32} {u : mS} {post : Int32 → mS → Prop} (hw : wp_X6_isRule x1 u post) : mKi l yX6_isRule wsX6_isRule lev (eA a) (dC, dI) vwCl [(cA, .int)] (wA cA a) [.ref (a 8), .int x1] u (fun r w => (r = 0 ∨ r = 1) ∧ post r w) := by
  refine mKz_of (cc := cX6_isRule) (maxL := 4) (by decide) rfl rfl (Nat.le_of_ble_eq_true rfl) rfl ?_
  intro p e s m args below meth c A C hs
  unfold wp_X6_isRule at hw
  refine mv_aload_n C dX6_isRule_0 rfl 0 rfl ?_
  refine mv_get (v := .ref (a 2)) C iw_X6_isRule_X6 8 rfl rfl 0 (by decide) lk_X6_isRule_9 rfl rfl dX6_isRule_1 ?_
  refine mv_iload_n C dX6_isRule_4 rfl 1 rfl ?_
  refine mv_callVi (f := wA cA a) (As := [.int x1]) (rest := []) C (eA_ok a) hs 2 rfl rfl (X5_plainLength_met (l := l) (lev := lev - 1) (by omega) hw) (cwV 1 C.2.2.2.2.1 gX6_isRule_X5_plainLength rfl rfl rfl (by decide +kernel) (mRm_le (by omega) (by decide))) rfl rfl (Nat.le_of_ble_eq_true rfl) dX6_isRule_5 ⟨Nat.le_refl 0, Nat.le_refl 0⟩ (fun r1 u2 hw => ?_)
  refine mv_iconst (v := (2 : Int32)) C dX6_isRule_8 (by decide) ?_
  refine mv_icmp_eq (tgt := 14) C dX6_isRule_9 (by decide) (fun h3 => ?_) (fun h3 => ?_)
  · have hw := hw.1 h3
    refine mv_iload_n C dX6_isRule_14 rfl 1 rfl ?_
    refine mv_iconst (v := (1 : Int32)) C dX6_isRule_15 (by decide) ?_
    refine mv_iadd C dX6_isRule_16 ?_
    refine mv_topi (fun y4 ey4 => ?_)
    have hw := hw y4 ey4
    refine mv_istore_n (lv1 := [(2, .int y4), (0, .ref (a 8)), (1, .int x1)]) C dX6_isRule_17 rfl (by decide) rfl ?_
    refine mv_aload_n C dX6_isRule_18 rfl 1 rfl ?_
    refine mv_get (v := .ref (a 2)) C iw_X6_isRule_X6 8 rfl rfl 0 (by decide) lk_X6_isRule_9 rfl rfl dX6_isRule_19 ?_
    refine mv_iload_n C dX6_isRule_22 rfl 0 rfl ?_
    refine mv_callVi (f := wA cA a) (As := [.int y4]) (rest := []) C (eA_ok a) hs 2 rfl rfl (X5_after_met (l := l) (lev := lev - 1) (by omega) hw) (cwV 1 C.2.2.2.2.1 gX6_isRule_X5_after rfl rfl rfl (by decide +kernel) (mRm_le (by omega) (by decide))) rfl rfl (Nat.le_of_ble_eq_true rfl) dX6_isRule_23 ⟨Nat.le_refl 0, Nat.le_refl 0⟩ (fun r5 u6 hw => ?_)
    refine mv_istore_n (lv1 := [(3, .int r5), (2, .int y4), (0, .ref (a 8)), (1, .int x1)]) C dX6_isRule_26 rfl (by decide) rfl ?_
    refine mv_aload_n C dX6_isRule_27 rfl 2 rfl ?_
    refine mv_iload_n C dX6_isRule_28 rfl 1 rfl ?_
    refine mv_callVi (f := wA cA a) (As := [.int y4]) (rest := []) C (eA_ok a) hs 8 rfl rfl (X6_isPattern_met (l := l) (lev := lev - 1) (by omega) hw) (cwV 1 C.2.2.2.2.1 gX6_isRule_X6_isPattern rfl rfl rfl (by decide +kernel) (mRm_le (by omega) (by decide))) rfl rfl (Nat.le_of_ble_eq_true rfl) dX6_isRule_29 ⟨Nat.le_refl 0, Nat.le_refl 0⟩ (fun r7 u8 hw => ?_)
    obtain ⟨gr7, hw⟩ := hw
    refine mv_if_ne (tgt := 37) C dX6_isRule_32 (by decide) (fun h9 => ?_) (fun h9 => ?_)
    · have hw := hw.1 h9
      refine mv_aload_n C dX6_isRule_37 rfl 2 rfl ?_
      refine mv_iload_n C dX6_isRule_38 rfl 1 rfl ?_
      refine mv_iload_n C dX6_isRule_39 rfl 0 rfl ?_
      refine mv_callVv (f := wA cA a) (As := [.int y4, .int r5]) (rest := []) C (eA_ok a) hs 8 rfl rfl (X6_linkUses_met (l := l) (lev := lev - 1) (by omega) hw) (cwV 2 C.2.2.2.2.1 gX6_isRule_X6_linkUses rfl rfl rfl (by decide +kernel) (mRm_le (by omega) (by decide))) rfl rfl (Nat.le_of_ble_eq_true rfl) dX6_isRule_40 ⟨Nat.le_refl 0, Nat.le_refl 0⟩ (fun u11 hw => ?_)
      refine mv_aload_n C dX6_isRule_43 rfl 2 rfl ?_
      refine mv_iload_n C dX6_isRule_44 rfl 1 rfl ?_
      refine mv_iload_n C dX6_isRule_45 rfl 0 rfl ?_
      refine mv_callVi (f := wA cA a) (As := [.int y4, .int r5]) (rest := []) C (eA_ok a) hs 8 rfl rfl (X6_isTemplate_met (l := l) (lev := lev - 1) (by omega) hw) (cwV 2 C.2.2.2.2.1 gX6_isRule_X6_isTemplate rfl rfl rfl (by decide +kernel) (mRm_le (by omega) (by decide))) rfl rfl (Nat.le_of_ble_eq_true rfl) dX6_isRule_46 ⟨Nat.le_refl 0, Nat.le_refl 0⟩ (fun r12 u13 hw => ?_)
      obtain ⟨gr12, hw⟩ := hw
      exact mv_zret C dX6_isRule_49 gr12 hw
    · have hw := hw.2 h9
      refine mv_iconst (v := (0 : Int32)) C dX6_isRule_35 (by decide) ?_
      exact mv_zret C dX6_isRule_36 (Or.inl rfl) hw
  · have hw := hw.2 h3
    refine mv_iconst (v := (0 : Int32)) C dX6_isRule_12 (by decide) ?_
    exact mv_zret C dX6_isRule_13 (Or.inl rfl) hw
set_option maxHeartbeats 4000000 in
set_option maxRecDepth 100000 in
theorem wj_X6_isNameWithRules_39_ok (C : mC p s m args meth c cX6_isNameWithRules 5 wsX6_isNameWithRules RX6 (some .boolean) (dC, dI) vwCl [(cA, .int)] A) (hs : eA a A s) (hlev : 3 ≤ lev) {post : Int32 → mS → Prop} {K39 : Int32 → Int32 → Int32 → mS → Prop} (hK39 : ∀ (x2 x3 x4 : Int32) (u : mS), K39 x2 x3 x4 u → mV p l e (mRm lev) s m args below meth c 5 (dC, dI) vwCl A 0 0 (mQi below args s (dC, dI) vwCl [(cA, .int)] (wA cA a) A (fun r w => (r = 0 ∨ r = 1) ∧ post r w)) (wA cA a u) 39 [(0, .ref (a 8)), (2, .int x2), (3, .int x3), (4, .int x4)] []) {x2 x3 x4 : Int32} {u : mS} (hw : wj_X6_isNameWithRules_39 K39 post x2 x3 x4 u) : mV p l e (mRm lev) s m args below meth c 5 (dC, dI) vwCl A 0 0 (mQi below args s (dC, dI) vwCl [(cA, .int)] (wA cA a) A (fun r w => (r = 0 ∨ r = 1) ∧ post r w)) (wA cA a u) 39 [(0, .ref (a 8)), (2, .int x2), (3, .int x3), (4, .int x4)] [] := by
  unfold wj_X6_isNameWithRules_39 at hw
  refine mv_iload C dX6_isNameWithRules_39 3 rfl ?_
  refine mv_iload_n C dX6_isNameWithRules_41 rfl 1 rfl ?_
  refine mv_icmp_ge (tgt := 70) C dX6_isNameWithRules_42 (by decide) (fun h11 => ?_) (fun h11 => ?_)
  · have hw := hw.1 h11
    refine mv_iconst (v := (1 : Int32)) C dX6_isNameWithRules_70 (by decide) ?_
    exact mv_zret C dX6_isNameWithRules_71 (Or.inr rfl) hw
  · have hw := hw.2 h11
    refine mv_aload_n C dX6_isNameWithRules_45 rfl 0 rfl ?_
    refine mv_iload_n C dX6_isNameWithRules_46 rfl 2 rfl ?_
    refine mv_callVi (f := wA cA a) (As := [.int x3]) (rest := []) C (eA_ok a) hs 8 rfl rfl (X6_isRule_met (l := l) (lev := lev - 1) (by omega) hw) (cwV 1 C.2.2.2.2.1 gX6_isNameWithRules_X6_isRule rfl rfl rfl (by decide +kernel) (mRm_le (by omega) (by decide))) rfl rfl (Nat.le_of_ble_eq_true rfl) dX6_isNameWithRules_47 ⟨Nat.le_refl 0, Nat.le_refl 0⟩ (fun r12 u13 hw => ?_)
    obtain ⟨gr12, hw⟩ := hw
    refine mv_if_ne (tgt := 55) C dX6_isNameWithRules_50 (by decide) (fun h14 => ?_) (fun h14 => ?_)
    · have hw := hw.1 h14
      refine mv_aload_n C dX6_isNameWithRules_55 rfl 0 rfl ?_
      refine mv_get (v := .ref (a 2)) C iw_X6_isNameWithRules_X6 8 rfl rfl 0 (by decide) lk_X6_isNameWithRules_9 rfl rfl dX6_isNameWithRules_56 ?_
      refine mv_iload_n C dX6_isNameWithRules_59 rfl 2 rfl ?_
      refine mv_callVi (f := wA cA a) (As := [.int x3]) (rest := []) C (eA_ok a) hs 2 rfl rfl (X5_after_met (l := l) (lev := lev - 1) (by omega) hw) (cwV 1 C.2.2.2.2.1 gX6_isNameWithRules_X5_after rfl rfl rfl (by decide +kernel) (mRm_le (by omega) (by decide))) rfl rfl (Nat.le_of_ble_eq_true rfl) dX6_isNameWithRules_60 ⟨Nat.le_refl 0, Nat.le_refl 0⟩ (fun r15 u16 hw => ?_)
      refine mv_istore_n (lv1 := [(3, .int r15), (0, .ref (a 8)), (2, .int x2), (4, .int x4)]) C dX6_isNameWithRules_63 rfl (by decide) rfl ?_
      obtain ⟨y17, ey17⟩ : ∃ z : Int32, z = x4 + (1 : Int32) := ⟨_, rfl⟩
      have hw := hw y17 ey17
      refine mv_iinc (v := y17) (lv1 := [(4, .int y17), (3, .int r15), (0, .ref (a 8)), (2, .int x2)]) C dX6_isNameWithRules_64 3 rfl (by rw [ey17]; rfl) (by decide) rfl ?_
      refine mv_goto (tgt := 39) C dX6_isNameWithRules_67 (by decide) ?_
      refine mv_sub [2, 3, 1, 0] rfl ?_
      exact hK39 x2 r15 y17 u16 hw
    · have hw := hw.2 h14
      refine mv_iconst (v := (0 : Int32)) C dX6_isNameWithRules_53 (by decide) ?_
      exact mv_zret C dX6_isNameWithRules_54 (Or.inl rfl) hw
set_option maxHeartbeats 4000000 in
set_option maxRecDepth 100000 in
theorem X6_isNameWithRules_met (hlev : 3 ≤ lev) {x1 : Int32} {u : mS} {post : Int32 → mS → Prop} (hw : wp_X6_isNameWithRules x1 u post) : mKi l yX6_isNameWithRules wsX6_isNameWithRules lev (eA a) (dC, dI) vwCl [(cA, .int)] (wA cA a) [.ref (a 8), .int x1] u (fun r w => (r = 0 ∨ r = 1) ∧ post r w) := by
  refine mKz_of (cc := cX6_isNameWithRules) (maxL := 5) (by decide) rfl rfl (Nat.le_of_ble_eq_true rfl) rfl ?_
  intro p e s m args below meth c A C hs
  unfold wp_X6_isNameWithRules at hw
  refine mv_aload_n C dX6_isNameWithRules_0 rfl 0 rfl ?_
  refine mv_get (v := .ref (a 2)) C iw_X6_isNameWithRules_X6 8 rfl rfl 0 (by decide) lk_X6_isNameWithRules_9 rfl rfl dX6_isNameWithRules_1 ?_
  refine mv_iload_n C dX6_isNameWithRules_4 rfl 1 rfl ?_
  refine mv_callVi (f := wA cA a) (As := [.int x1]) (rest := []) C (eA_ok a) hs 2 rfl rfl (X5_plainLength_met (l := l) (lev := lev - 1) (by omega) hw) (cwV 1 C.2.2.2.2.1 gX6_isNameWithRules_X5_plainLength rfl rfl rfl (by decide +kernel) (mRm_le (by omega) (by decide))) rfl rfl (Nat.le_of_ble_eq_true rfl) dX6_isNameWithRules_5 ⟨Nat.le_refl 0, Nat.le_refl 0⟩ (fun r1 u2 hw => ?_)
  refine mv_istore_n (lv1 := [(2, .int r1), (0, .ref (a 8)), (1, .int x1)]) C dX6_isNameWithRules_8 rfl (by decide) rfl ?_
  refine mv_iload_n C dX6_isNameWithRules_9 rfl 0 rfl ?_
  refine mv_iconst (v := (1 : Int32)) C dX6_isNameWithRules_10 (by decide) ?_
  refine mv_icmp_lt (tgt := 30) C dX6_isNameWithRules_11 (by decide) (fun h3 => ?_) (fun h3 => ?_)
  · have hw := hw.1 h3
    refine mv_iconst (v := (0 : Int32)) C dX6_isNameWithRules_30 (by decide) ?_
    exact mv_zret C dX6_isNameWithRules_31 (Or.inl rfl) hw
  · have hw := hw.2 h3
    refine mv_aload_n C dX6_isNameWithRules_14 rfl 1 rfl ?_
    refine mv_get (v := .ref (a 2)) C iw_X6_isNameWithRules_X6 8 rfl rfl 0 (by decide) lk_X6_isNameWithRules_9 rfl rfl dX6_isNameWithRules_15 ?_
    refine mv_iload_n C dX6_isNameWithRules_18 rfl 2 rfl ?_
    refine mv_iconst (v := (1 : Int32)) C dX6_isNameWithRules_19 (by decide) ?_
    refine mv_iadd C dX6_isNameWithRules_20 ?_
    refine mv_topi (fun y4 ey4 => ?_)
    have hw := hw y4 ey4
    refine mv_callVi (f := wA cA a) (As := [.int y4]) (rest := []) C (eA_ok a) hs 2 rfl rfl (X5_wordAt_met (l := l) (lev := lev - 1) (by omega) hw) (cwV 1 C.2.2.2.2.1 gX6_isNameWithRules_X5_wordAt rfl rfl rfl (by decide +kernel) (mRm_le (by omega) (by decide))) rfl rfl (Nat.le_of_ble_eq_true rfl) dX6_isNameWithRules_21 ⟨Nat.le_refl 0, Nat.le_refl 0⟩ (fun r5 u6 hw => ?_)
    refine mv_callSNi (f := wA cA a) (As := [.int r5]) (rest := []) C (eA_ok a) hs (X8_isName_met (l := l) (lev := lev - 1) (by omega) hw) ⟨va_cnB 1 C.2.2.2.2.1 ggX6_isNameWithRules_X8_isName rfl rfl rfl (hs.1 _ nw_15) (C.2.2.2.2.1 _ in_X6_isNameWithRules_X8) (by decide +kernel) (mRm_le (by omega) (by decide)), C.2.2.2.2.1 _ st_X6_isNameWithRules_X8_isName, trivial⟩ rfl rfl (Nat.le_of_ble_eq_true rfl) dX6_isNameWithRules_24 ⟨Nat.le_refl 0, Nat.le_refl 0⟩ (fun r7 u8 hw => ?_)
    obtain ⟨gr7, hw⟩ := hw
    refine mv_if_ne (tgt := 32) C dX6_isNameWithRules_27 (by decide) (fun h9 => ?_) (fun h9 => ?_)
    · have hw := hw.1 h9
      refine mv_iload_n C dX6_isNameWithRules_32 rfl 2 rfl ?_
      refine mv_iconst (v := (2 : Int32)) C dX6_isNameWithRules_33 (by decide) ?_
      refine mv_iadd C dX6_isNameWithRules_34 ?_
      refine mv_topi (fun y10 ey10 => ?_)
      have hw := hw y10 ey10
      refine mv_istore_n (lv1 := [(3, .int y10), (2, .int r1), (0, .ref (a 8)), (1, .int x1)]) C dX6_isNameWithRules_35 rfl (by decide) rfl ?_
      refine mv_iconst (v := (1 : Int32)) C dX6_isNameWithRules_36 (by decide) ?_
      refine mv_istore (lv1 := [(4, .int (1 : Int32)), (3, .int y10), (2, .int r1), (0, .ref (a 8)), (1, .int x1)]) C dX6_isNameWithRules_37 (by decide) rfl ?_
      refine mv_sub [3, 2, 1, 0] rfl ?_
      obtain ⟨n, hw⟩ := hw
      exact mL4_of (fun K hK b0 b1 b2 b3 hw => wj_X6_isNameWithRules_39_ok C hs hlev hK hw) n r1 y10 (1 : Int32) u8 hw
    · have hw := hw.2 h9
      refine mv_iconst (v := (0 : Int32)) C dX6_isNameWithRules_30 (by decide) ?_
      exact mv_zret C dX6_isNameWithRules_31 (Or.inl rfl) hw
set_option maxHeartbeats 4000000 in
set_option maxRecDepth 100000 in
theorem wj_X0_expandLs_37_ok (C : mC p s m args meth c cX0_expandLs 6 wsX0_expandLs RX0 none (dC, dI) vwCl [(cA, .int)] A) (hs : eA a A s) (hlev : 4 ≤ lev) {X : Int32 → Int32 → mS → (mS → Prop) → Prop} {levX : Nat} (hlx : levX + 1 ≤ lev) (hX : ∀ (t r : Int32) (u : mS) (post : mS → Prop), X t r u post → mKv l yX0_expandTree wsX0_expandTree levX (eA a) (dC, dI) vwCl [(cA, .int)] (wA cA a) [.ref (a 16), .int t, .int r] u post) {post : mS → Prop} {u : mS} (hw : wj_X0_expandLs_37 X post  u) : mV p l e (mRm lev) s m args below meth c 6 (dC, dI) vwCl A 0 0 (mQv below args s (dC, dI) vwCl [(cA, .int)] (wA cA a) A post) (wA cA a u) 37 [(0, .ref (a 16))] [] := by
  unfold wj_X0_expandLs_37 at hw
  refine mv_aload_n C dX0_expandLs_37 rfl 0 rfl ?_
  refine mv_get (v := .ref (a 14)) C iw_X0_expandLs_X0 16 rfl rfl 3 (by decide) lk_X0_expandLs_23 rfl rfl dX0_expandLs_38 ?_
  refine mv_iconst (v := (3 : Int32)) C dX0_expandLs_41 (by decide) ?_
  refine mv_callVv (f := wA cA a) (As := [.int (3 : Int32)]) (rest := []) C (eA_ok a) hs 14 rfl rfl (X2_fail_met (l := l) (lev := lev - 1) (by omega) hw) (cwV 1 C.2.2.2.2.1 gX0_expandLs_X2_fail rfl rfl rfl (by decide +kernel) (mRm_le (by omega) (by decide))) rfl rfl (Nat.le_of_ble_eq_true rfl) dX0_expandLs_42 ⟨Nat.le_refl 0, Nat.le_refl 0⟩ (fun u25 hw => ?_)
  exact mv_vret C dX0_expandLs_45 hw
set_option maxHeartbeats 4000000 in
set_option maxRecDepth 100000 in
theorem X0_expandLs_met (hlev : 4 ≤ lev) {X : Int32 → Int32 → mS → (mS → Prop) → Prop} {levX : Nat} (hlx : levX + 1 ≤ lev) (hX : ∀ (t r : Int32) (u : mS) (post : mS → Prop), X t r u post → mKv l yX0_expandTree wsX0_expandTree levX (eA a) (dC, dI) vwCl [(cA, .int)] (wA cA a) [.ref (a 16), .int t, .int r] u post) {x1 x2 : Int32} {u : mS} {post : mS → Prop} (hw : wp_X0_expandLs X x1 x2 u post) : mKv l yX0_expandLs wsX0_expandLs lev (eA a) (dC, dI) vwCl [(cA, .int)] (wA cA a) [.ref (a 16), .int x1, .int x2] u post := by
  refine mKv_of (cc := cX0_expandLs) (maxL := 6) (by decide) rfl rfl (Nat.le_of_ble_eq_true rfl) rfl ?_
  intro p e s m args below meth c A C hs
  unfold wp_X0_expandLs at hw
  refine mv_iload_n C dX0_expandLs_0 rfl 1 rfl ?_
  refine mv_iconst (v := (2 : Int32)) C dX0_expandLs_1 (by decide) ?_
  refine mv_iadd C dX0_expandLs_2 ?_
  refine mv_topi (fun y1 ey1 => ?_)
  have hw := hw y1 ey1
  refine mv_istore_n (lv1 := [(3, .int y1), (0, .ref (a 16)), (1, .int x1), (2, .int x2)]) C dX0_expandLs_3 rfl (by decide) rfl ?_
  refine mv_aload_n C dX0_expandLs_4 rfl 1 rfl ?_
  refine mv_get (v := .ref (a 2)) C iw_X0_expandLs_X0 16 rfl rfl 0 (by decide) lk_X0_expandLs_9 rfl rfl dX0_expandLs_5 ?_
  refine mv_iload_n C dX0_expandLs_8 rfl 0 rfl ?_
  refine mv_callVi (f := wA cA a) (As := [.int y1]) (rest := []) C (eA_ok a) hs 2 rfl rfl (X5_after_met (l := l) (lev := lev - 1) (by omega) hw) (cwV 1 C.2.2.2.2.1 gX0_expandLs_X5_after rfl rfl rfl (by decide +kernel) (mRm_le (by omega) (by decide))) rfl rfl (Nat.le_of_ble_eq_true rfl) dX0_expandLs_9 ⟨Nat.le_refl 0, Nat.le_refl 0⟩ (fun r2 u3 hw => ?_)
  refine mv_istore (lv1 := [(4, .int r2), (3, .int y1), (0, .ref (a 16)), (1, .int x1), (2, .int x2)]) C dX0_expandLs_12 (by decide) rfl ?_
  refine mv_aload_n C dX0_expandLs_14 rfl 2 rfl ?_
  refine mv_get (v := .ref (a 2)) C iw_X0_expandLs_X0 16 rfl rfl 0 (by decide) lk_X0_expandLs_9 rfl rfl dX0_expandLs_15 ?_
  refine mv_iload_n C dX0_expandLs_18 rfl 3 rfl ?_
  refine mv_callVi (f := wA cA a) (As := [.int x1]) (rest := []) C (eA_ok a) hs 2 rfl rfl (X5_plainLength_met (l := l) (lev := lev - 1) (by omega) hw) (cwV 1 C.2.2.2.2.1 gX0_expandLs_X5_plainLength rfl rfl rfl (by decide +kernel) (mRm_le (by omega) (by decide))) rfl rfl (Nat.le_of_ble_eq_true rfl) dX0_expandLs_19 ⟨Nat.le_refl 0, Nat.le_refl 0⟩ (fun r4 u5 hw => ?_)
  refine mv_iconst (v := (3 : Int32)) C dX0_expandLs_22 (by decide) ?_
  refine mv_icmp_ne (tgt := 37) C dX0_expandLs_23 (by decide) (fun h6 => ?_) (fun h6 => ?_)
  · have hw := hw.1 h6
    refine mv_sub [2] rfl ?_
    exact wj_X0_expandLs_37_ok C hs hlev hlx hX hw
  · have hw := hw.2 h6
    refine mv_aload_n C dX0_expandLs_26 rfl 2 rfl ?_
    refine mv_get (v := .ref (a 8)) C iw_X0_expandLs_X0 16 rfl rfl 1 (by decide) lk_X0_expandLs_15 rfl rfl dX0_expandLs_27 ?_
    refine mv_iload_n C dX0_expandLs_30 rfl 1 rfl ?_
    refine mv_callVi (f := wA cA a) (As := [.int y1]) (rest := []) C (eA_ok a) hs 8 rfl rfl (X6_isNameWithRules_met (l := l) (lev := lev - 1) (by omega) hw) (cwV 1 C.2.2.2.2.1 gX0_expandLs_X6_isNameWithRules rfl rfl rfl (by decide +kernel) (mRm_le (by omega) (by decide))) rfl rfl (Nat.le_of_ble_eq_true rfl) dX0_expandLs_31 ⟨Nat.le_refl 0, Nat.le_refl 0⟩ (fun r7 u8 hw => ?_)
    obtain ⟨gr7, hw⟩ := hw
    refine mv_if_ne (tgt := 46) C dX0_expandLs_34 (by decide) (fun h9 => ?_) (fun h9 => ?_)
    · have hw := hw.1 h9
      refine mv_aload_n C dX0_expandLs_46 rfl 2 rfl ?_
      refine mv_callVi (f := wA cA a) (As := []) (rest := []) C (eA_ok a) hs 16 rfl rfl (X0_newScope_met (l := l) (lev := lev - 1) (by omega) hw) (cwV 0 C.2.2.2.2.1 gX0_expandLs_X0_newScope rfl rfl rfl (by decide +kernel) (mRm_le (by omega) (by decide))) rfl rfl (Nat.le_of_ble_eq_true rfl) dX0_expandLs_47 ⟨Nat.le_refl 0, Nat.le_refl 0⟩ (fun r10 u11 hw => ?_)
      refine mv_istore (lv1 := [(5, .int r10), (4, .int r2), (3, .int y1), (0, .ref (a 16)), (1, .int x1), (2, .int x2)]) C dX0_expandLs_50 (by decide) rfl ?_
      refine mv_iload C dX0_expandLs_52 0 rfl ?_
      refine mv_if_ge (tgt := 58) C dX0_expandLs_54 (by decide) (fun h12 => ?_) (fun h12 => ?_)
      · have hw := hw.1 h12
        refine mv_aload_n C dX0_expandLs_58 rfl 3 rfl ?_
        refine mv_get (v := .ref (a 2)) C iw_X0_expandLs_X0 16 rfl rfl 0 (by decide) lk_X0_expandLs_9 rfl rfl dX0_expandLs_59 ?_
        refine mv_iload_n C dX0_expandLs_62 rfl 2 rfl ?_
        refine mv_iconst (v := (1 : Int32)) C dX0_expandLs_63 (by decide) ?_
        refine mv_iadd C dX0_expandLs_64 ?_
        refine mv_topi (fun y13 ey13 => ?_)
        have hw := hw y13 ey13
        refine mv_iload C dX0_expandLs_65 0 rfl ?_
        refine mv_callVv (f := wA cA a) (As := [.int y13, .int r10]) (rest := []) C (eA_ok a) hs 2 rfl rfl (X5_turnScope_met (l := l) (lev := lev - 1) (by omega) hw) (cwV 2 C.2.2.2.2.1 gX0_expandLs_X5_turnScope rfl rfl rfl (by decide +kernel) (mRm_le (by omega) (by decide))) rfl rfl (Nat.le_of_ble_eq_true rfl) dX0_expandLs_67 ⟨Nat.le_refl 0, Nat.le_refl 0⟩ (fun u15 hw => ?_)
        refine mv_aload_n C dX0_expandLs_70 rfl 3 rfl ?_
        refine mv_get (v := .ref (a 2)) C iw_X0_expandLs_X0 16 rfl rfl 0 (by decide) lk_X0_expandLs_9 rfl rfl dX0_expandLs_71 ?_
        refine mv_iload C dX0_expandLs_74 1 rfl ?_
        refine mv_iload C dX0_expandLs_76 0 rfl ?_
        refine mv_callVv (f := wA cA a) (As := [.int r2, .int r10]) (rest := []) C (eA_ok a) hs 2 rfl rfl (X5_turnScope_met (l := l) (lev := lev - 1) (by omega) hw) (cwV 2 C.2.2.2.2.1 gX0_expandLs_X5_turnScope rfl rfl rfl (by decide +kernel) (mRm_le (by omega) (by decide))) rfl rfl (Nat.le_of_ble_eq_true rfl) dX0_expandLs_78 ⟨Nat.le_refl 0, Nat.le_refl 0⟩ (fun u17 hw => ?_)
        refine mv_aload_n C dX0_expandLs_81 rfl 3 rfl ?_
        refine mv_iload_n C dX0_expandLs_82 rfl 2 rfl ?_
        refine mv_iconst (v := (1 : Int32)) C dX0_expandLs_83 (by decide) ?_
        refine mv_iadd C dX0_expandLs_84 ?_
        refine mv_topi (fun y18 ey18 => ?_)
        have hw := hw y18 ey18
        refine mv_bipush (v := (6 : Int32)) C dX0_expandLs_85 (by decide) ?_
        refine mv_iload_n C dX0_expandLs_87 rfl 2 rfl ?_
        refine mv_callVi (f := wA cA a) (As := [.int y18, .int (6 : Int32), .int y1]) (rest := []) C (eA_ok a) hs 16 rfl rfl (X0_bind_met (l := l) (lev := lev - 1) (by omega) hw) (cwV 3 C.2.2.2.2.1 gX0_expandLs_X0_bind rfl rfl rfl (by decide +kernel) (mRm_le (by omega) (by decide))) rfl rfl (Nat.le_of_ble_eq_true rfl) dX0_expandLs_88 ⟨Nat.le_refl 0, Nat.le_refl 0⟩ (fun r19 u20 hw => ?_)
        obtain ⟨gr19, hw⟩ := hw
        refine mv_if_eq (tgt := 103) C dX0_expandLs_91 (by decide) (fun h21 => ?_) (fun h21 => ?_)
        · have hw := hw.1 h21
          exact mv_vret C dX0_expandLs_103 hw
        · have hw := hw.2 h21
          refine mv_aload_n C dX0_expandLs_94 rfl 3 rfl ?_
          refine mv_iload C dX0_expandLs_95 1 rfl ?_
          refine mv_iload_n C dX0_expandLs_97 rfl 5 rfl ?_
          refine mv_iconst (v := (1 : Int32)) C dX0_expandLs_98 (by decide) ?_
          refine mv_iadd C dX0_expandLs_99 ?_
          refine mv_topi (fun y22 ey22 => ?_)
          have hw := hw y22 ey22
          refine mv_callVv (f := wA cA a) (As := [.int r2, .int y22]) (rest := []) C (eA_ok a) hs 16 rfl rfl (hX _ _ _ _ hw) (cwV 2 C.2.2.2.2.1 gX0_expandLs_X0_expandTree rfl rfl rfl (by decide +kernel) (mRm_le (by omega) (by decide))) rfl rfl (Nat.le_of_ble_eq_true rfl) dX0_expandLs_100 ⟨Nat.le_refl 0, Nat.le_refl 0⟩ (fun u23 hw => ?_)
          exact mv_vret C dX0_expandLs_103 hw
      · have hw := hw.2 h12
        exact mv_vret C dX0_expandLs_57 hw
    · have hw := hw.2 h9
      refine mv_sub [2] rfl ?_
      exact wj_X0_expandLs_37_ok C hs hlev hlx hX hw
set_option maxHeartbeats 4000000 in
set_option maxRecDepth 100000 in
theorem X1_hasRoomFor_met (hlev : 2 ≤ lev) {x1 x2 : Int32} {u : mS} {post : Int32 → mS → Prop} (hw : wp_X1_hasRoomFor x1 x2 u post) : mKi l yX1_hasRoomFor wsX1_hasRoomFor lev (eA a) (dC, dI) vwCl [(cA, .int)] (wA cA a) [.ref (a 17), .int x1, .int x2] u (fun r w => (r = 0 ∨ r = 1) ∧ post r w) := by
  refine mKz_of (cc := cX1_hasRoomFor) (maxL := 5) (by decide) rfl rfl (Nat.le_of_ble_eq_true rfl) rfl ?_
  intro p e s m args below meth c A C hs
  unfold wp_X1_hasRoomFor at hw
  refine mv_aload_n C dX1_hasRoomFor_0 rfl 0 rfl ?_
  refine mv_get (v := .ref (a 2)) C iw_X1_hasRoomFor_X1 17 rfl rfl 0 (by decide) lk_X1_hasRoomFor_18 rfl rfl dX1_hasRoomFor_1 ?_
  refine mv_iload_n C dX1_hasRoomFor_4 rfl 2 rfl ?_
  refine mv_callVi (f := wA cA a) (As := [.int x2]) (rest := []) C (eA_ok a) hs 2 rfl rfl (X5_plainLength_met (l := l) (lev := lev - 1) (by omega) hw) (cwV 1 C.2.2.2.2.1 gX1_hasRoomFor_X5_plainLength rfl rfl rfl (by decide +kernel) (mRm_le (by omega) (by decide))) rfl rfl (Nat.le_of_ble_eq_true rfl) dX1_hasRoomFor_5 ⟨Nat.le_refl 0, Nat.le_refl 0⟩ (fun r1 u2 hw => ?_)
  refine mv_istore_n (lv1 := [(3, .int r1), (0, .ref (a 17)), (1, .int x1), (2, .int x2)]) C dX1_hasRoomFor_8 rfl (by decide) rfl ?_
  refine mv_aload_n C dX1_hasRoomFor_9 rfl 1 rfl ?_
  refine mv_get (v := .ref (a 2)) C iw_X1_hasRoomFor_X1 17 rfl rfl 0 (by decide) lk_X1_hasRoomFor_18 rfl rfl dX1_hasRoomFor_10 ?_
  refine mv_iload_n C dX1_hasRoomFor_13 rfl 2 rfl ?_
  refine mv_iconst (v := (1 : Int32)) C dX1_hasRoomFor_14 (by decide) ?_
  refine mv_iadd C dX1_hasRoomFor_15 ?_
  refine mv_topi (fun y3 ey3 => ?_)
  have hw := hw y3 ey3
  refine mv_callVi (f := wA cA a) (As := [.int y3]) (rest := []) C (eA_ok a) hs 2 rfl rfl (X5_itemsFrom_met (l := l) (lev := lev - 1) (by omega) hw) (cwV 1 C.2.2.2.2.1 gX1_hasRoomFor_X5_itemsFrom rfl rfl rfl (by decide +kernel) (mRm_le (by omega) (by decide))) rfl rfl (Nat.le_of_ble_eq_true rfl) dX1_hasRoomFor_16 ⟨Nat.le_refl 0, Nat.le_refl 0⟩ (fun r4 u5 hw => ?_)
  refine mv_istore (lv1 := [(4, .int r4), (3, .int r1), (0, .ref (a 17)), (1, .int x1), (2, .int x2)]) C dX1_hasRoomFor_19 (by decide) rfl ?_
  refine mv_aload_n C dX1_hasRoomFor_21 rfl 2 rfl ?_
  refine mv_get (v := .ref (a 2)) C iw_X1_hasRoomFor_X1 17 rfl rfl 0 (by decide) lk_X1_hasRoomFor_18 rfl rfl dX1_hasRoomFor_22 ?_
  refine mv_iload_n C dX1_hasRoomFor_25 rfl 3 rfl ?_
  refine mv_callVi (f := wA cA a) (As := [.int x1]) (rest := []) C (eA_ok a) hs 2 rfl rfl (X5_hasDots_met (l := l) (lev := lev - 1) (by omega) hw) (cwV 1 C.2.2.2.2.1 gX1_hasRoomFor_X5_hasDots rfl rfl rfl (by decide +kernel) (mRm_le (by omega) (by decide))) rfl rfl (Nat.le_of_ble_eq_true rfl) dX1_hasRoomFor_26 ⟨Nat.le_refl 0, Nat.le_refl 0⟩ (fun r6 u7 hw => ?_)
  obtain ⟨gr6, hw⟩ := hw
  refine mv_if_eq (tgt := 48) C dX1_hasRoomFor_29 (by decide) (fun h8 => ?_) (fun h8 => ?_)
  · have hw := hw.1 h8
    refine mv_iload_n C dX1_hasRoomFor_48 rfl 1 rfl ?_
    refine mv_iload C dX1_hasRoomFor_49 0 rfl ?_
    refine mv_icmp_ne (tgt := 58) C dX1_hasRoomFor_51 (by decide) (fun h9 => ?_) (fun h9 => ?_)
    · have hw := hw.1 h9
      refine mv_iconst (v := (0 : Int32)) C dX1_hasRoomFor_58 (by decide) ?_
      exact mv_zret C dX1_hasRoomFor_59 (Or.inl rfl) hw
    · have hw := hw.2 h9
      refine mv_iconst (v := (1 : Int32)) C dX1_hasRoomFor_54 (by decide) ?_
      refine mv_goto (tgt := 59) C dX1_hasRoomFor_55 (by decide) ?_
      exact mv_zret C dX1_hasRoomFor_59 (Or.inr rfl) hw
  · have hw := hw.2 h8
    refine mv_iload_n C dX1_hasRoomFor_32 rfl 1 rfl ?_
    refine mv_iload C dX1_hasRoomFor_33 0 rfl ?_
    refine mv_iconst (v := (2 : Int32)) C dX1_hasRoomFor_35 (by decide) ?_
    refine mv_isub C dX1_hasRoomFor_36 ?_
    refine mv_topi (fun y10 ey10 => ?_)
    have hw := hw y10 ey10
    refine mv_icmp_lt (tgt := 44) C dX1_hasRoomFor_37 (by decide) (fun h11 => ?_) (fun h11 => ?_)
    · have hw := hw.1 h11
      refine mv_iconst (v := (0 : Int32)) C dX1_hasRoomFor_44 (by decide) ?_
      refine mv_goto (tgt := 59) C dX1_hasRoomFor_45 (by decide) ?_
      exact mv_zret C dX1_hasRoomFor_59 (Or.inl rfl) hw
    · have hw := hw.2 h11
      refine mv_iconst (v := (1 : Int32)) C dX1_hasRoomFor_40 (by decide) ?_
      refine mv_goto (tgt := 59) C dX1_hasRoomFor_41 (by decide) ?_
      exact mv_zret C dX1_hasRoomFor_59 (Or.inr rfl) hw
set_option maxHeartbeats 4000000 in
set_option maxRecDepth 100000 in
theorem X4_clear_met (hlev : 0 ≤ lev) {u : mS} {post : mS → Prop} (hw : wp_X4_clear  u post) : mKv l yX4_clear wsX4_clear lev (eA a) (dC, dI) vwCl [(cA, .int)] (wA cA a) [.ref (a 18)] u post := by
  refine mKv_of (cc := cX4_clear) (maxL := 1) (by decide) rfl rfl (Nat.le_of_ble_eq_true rfl) rfl ?_
  intro p e s m args below meth c A C hs
  unfold wp_X4_clear at hw
  refine mv_aload_n C dX4_clear_0 rfl 0 rfl ?_
  refine mv_iconst (v := (0 : Int32)) C dX4_clear_1 (by decide) ?_
  refine mv_put (ty := .int) (ws1 := wA cA a (mSet u 15 (0 : Int32))) C iw_X4_clear_X4 tyX4 tyX4_ok nmX4 18 rfl rfl 3 (by decide) lk_X4_clear_21 rfl rfl rfl rfl rfl (Nat.le_of_ble_eq_true rfl) rfl dX4_clear_2 ?_
  refine mv_nm (f := wA cA a) (fun u1 eu1 => ?_)
  have hw := hw u1 eu1
  exact mv_vret C dX4_clear_5 hw
set_option maxHeartbeats 4000000 in
set_option maxRecDepth 100000 in
theorem X4_hasInner_met (hlev : 0 ≤ lev) {u : mS} {post : Int32 → mS → Prop} (hw : wp_X4_hasInner  u post) : mKi l yX4_hasInner wsX4_hasInner lev (eA a) (dC, dI) vwCl [(cA, .int)] (wA cA a) [.ref (a 18)] u (fun r w => (r = 0 ∨ r = 1) ∧ post r w) := by
  refine mKz_of (cc := cX4_hasInner) (maxL := 1) (by decide) rfl rfl (Nat.le_of_ble_eq_true rfl) rfl ?_
  intro p e s m args below meth c A C hs
  unfold wp_X4_hasInner at hw
  refine mv_aload_n C dX4_hasInner_0 rfl 0 rfl ?_
  refine mv_get (v := .int (u.1 15)) C iw_X4_hasInner_X4 18 rfl rfl 3 (by decide) lk_X4_hasInner_21 rfl rfl dX4_hasInner_1 ?_
  refine mv_topi (fun y1 ey1 => ?_)
  have hw := hw y1 ey1
  refine mv_if_le (tgt := 19) C dX4_hasInner_4 (by decide) (fun h2 => ?_) (fun h2 => ?_)
  · have hw := hw.1 h2
    refine mv_iconst (v := (0 : Int32)) C dX4_hasInner_19 (by decide) ?_
    exact mv_zret C dX4_hasInner_20 (Or.inl rfl) hw
  · have hw := hw.2 h2
    refine mv_aload_n C dX4_hasInner_7 rfl 0 rfl ?_
    refine mv_get (v := .int (u.1 15)) C iw_X4_hasInner_X4 18 rfl rfl 3 (by decide) lk_X4_hasInner_21 rfl rfl dX4_hasInner_8 ?_
    refine mv_topi (fun y3 ey3 => ?_)
    have hw := hw y3 ey3
    refine mv_iconst (v := (2 : Int32)) C dX4_hasInner_11 (by decide) ?_
    refine mv_icmp_gt (tgt := 19) C dX4_hasInner_12 (by decide) (fun h4 => ?_) (fun h4 => ?_)
    · have hw := hw.1 h4
      refine mv_iconst (v := (0 : Int32)) C dX4_hasInner_19 (by decide) ?_
      exact mv_zret C dX4_hasInner_20 (Or.inl rfl) hw
    · have hw := hw.2 h4
      refine mv_iconst (v := (1 : Int32)) C dX4_hasInner_15 (by decide) ?_
      refine mv_goto (tgt := 20) C dX4_hasInner_16 (by decide) ?_
      exact mv_zret C dX4_hasInner_20 (Or.inr rfl) hw
set_option maxHeartbeats 4000000 in
set_option maxRecDepth 100000 in
theorem X4_isIn_met (hlev : 1 ≤ lev) {x1 : Int32} {u : mS} {post : Int32 → mS → Prop} (hw : wp_X4_isIn x1 u post) : mKi l yX4_isIn wsX4_isIn lev (eA a) (dC, dI) vwCl [(cA, .int)] (wA cA a) [.ref (a 18), .int x1] u (fun r w => (r = 0 ∨ r = 1) ∧ post r w) := by
  refine mKz_of (cc := cX4_isIn) (maxL := 2) (by decide) rfl rfl (Nat.le_of_ble_eq_true rfl) rfl ?_
  intro p e s m args below meth c A C hs
  unfold wp_X4_isIn at hw
  refine mv_aload_n C dX4_isIn_0 rfl 0 rfl ?_
  refine mv_callVi (f := wA cA a) (As := []) (rest := []) C (eA_ok a) hs 18 rfl rfl (X4_hasInner_met (l := l) (lev := lev - 1) (by omega) hw) (cwV 0 C.2.2.2.2.1 gX4_isIn_X4_hasInner rfl rfl rfl (by decide +kernel) (mRm_le (by omega) (by decide))) rfl rfl (Nat.le_of_ble_eq_true rfl) dX4_isIn_1 ⟨Nat.le_refl 0, Nat.le_refl 0⟩ (fun r1 u2 hw => ?_)
  obtain ⟨gr1, hw⟩ := hw
  refine mv_if_eq (tgt := 26) C dX4_isIn_4 (by decide) (fun h3 => ?_) (fun h3 => ?_)
  · have hw := hw.1 h3
    refine mv_iconst (v := (0 : Int32)) C dX4_isIn_26 (by decide) ?_
    exact mv_zret C dX4_isIn_27 (Or.inl rfl) hw
  · have hw := hw.2 h3
    refine mv_aload_n C dX4_isIn_7 rfl 0 rfl ?_
    refine mv_get (v := .ref (a 19)) C iw_X4_isIn_X4 18 rfl rfl 0 (by decide) lk_X4_isIn_9 rfl rfl dX4_isIn_8 ?_
    refine mv_aload_n C dX4_isIn_11 rfl 0 rfl ?_
    refine mv_get (v := .int (u2.1 15)) C iw_X4_isIn_X4 18 rfl rfl 3 (by decide) lk_X4_isIn_21 rfl rfl dX4_isIn_12 ?_
    refine mv_topi (fun y4 ey4 => ?_)
    have hw := hw y4 ey4
    refine mv_iconst (v := (1 : Int32)) C dX4_isIn_15 (by decide) ?_
    refine mv_isub C dX4_isIn_16 ?_
    refine mv_topi (fun y5 ey5 => ?_)
    have hw := hw y5 ey5
    refine mv_iald (f := u2.2 10) C 19 0 rfl rfl hw.1 dX4_isIn_17 ?_
    refine mv_topi (fun y6 ey6 => ?_)
    have hw := hw.2 y6 ey6
    refine mv_iload_n C dX4_isIn_18 rfl 1 rfl ?_
    refine mv_icmp_ne (tgt := 26) C dX4_isIn_19 (by decide) (fun h7 => ?_) (fun h7 => ?_)
    · have hw := hw.1 h7
      refine mv_iconst (v := (0 : Int32)) C dX4_isIn_26 (by decide) ?_
      exact mv_zret C dX4_isIn_27 (Or.inl rfl) hw
    · have hw := hw.2 h7
      refine mv_iconst (v := (1 : Int32)) C dX4_isIn_22 (by decide) ?_
      refine mv_goto (tgt := 27) C dX4_isIn_23 (by decide) ?_
      exact mv_zret C dX4_isIn_27 (Or.inr rfl) hw
set_option maxHeartbeats 4000000 in
set_option maxRecDepth 100000 in
theorem X4_enter_met (hlev : 0 ≤ lev) {x1 x2 : Int32} {u : mS} {post : mS → Prop} (hw : wp_X4_enter x1 x2 u post) : mKv l yX4_enter wsX4_enter lev (eA a) (dC, dI) vwCl [(cA, .int)] (wA cA a) [.ref (a 18), .int x1, .int x2] u post := by
  refine mKv_of (cc := cX4_enter) (maxL := 3) (by decide) rfl rfl (Nat.le_of_ble_eq_true rfl) rfl ?_
  intro p e s m args below meth c A C hs
  unfold wp_X4_enter at hw
  refine mv_aload_n C dX4_enter_0 rfl 0 rfl ?_
  refine mv_get (v := .int (u.1 15)) C iw_X4_enter_X4 18 rfl rfl 3 (by decide) lk_X4_enter_21 rfl rfl dX4_enter_1 ?_
  refine mv_topi (fun y1 ey1 => ?_)
  have hw := hw y1 ey1
  refine mv_if_lt (tgt := 55) C dX4_enter_4 (by decide) (fun h2 => ?_) (fun h2 => ?_)
  · have hw := hw.1 h2
    exact mv_vret C dX4_enter_55 hw
  · have hw := hw.2 h2
    refine mv_aload_n C dX4_enter_7 rfl 0 rfl ?_
    refine mv_get (v := .int (u.1 15)) C iw_X4_enter_X4 18 rfl rfl 3 (by decide) lk_X4_enter_21 rfl rfl dX4_enter_8 ?_
    refine mv_topi (fun y3 ey3 => ?_)
    have hw := hw y3 ey3
    refine mv_iconst (v := (2 : Int32)) C dX4_enter_11 (by decide) ?_
    refine mv_icmp_ge (tgt := 55) C dX4_enter_12 (by decide) (fun h4 => ?_) (fun h4 => ?_)
    · have hw := hw.1 h4
      exact mv_vret C dX4_enter_55 hw
    · have hw := hw.2 h4
      refine mv_aload_n C dX4_enter_15 rfl 0 rfl ?_
      refine mv_get (v := .ref (a 19)) C iw_X4_enter_X4 18 rfl rfl 0 (by decide) lk_X4_enter_9 rfl rfl dX4_enter_16 ?_
      refine mv_aload_n C dX4_enter_19 rfl 0 rfl ?_
      refine mv_get (v := .int (u.1 15)) C iw_X4_enter_X4 18 rfl rfl 3 (by decide) lk_X4_enter_21 rfl rfl dX4_enter_20 ?_
      refine mv_topi (fun y5 ey5 => ?_)
      have hw := hw y5 ey5
      refine mv_iload_n C dX4_enter_23 rfl 1 rfl ?_
      refine mv_iast (f := u.2 10) (ws1 := wA cA a (mPut u 10 y5.toNatClampNeg x1)) C 19 0 rfl rfl hw.1 rfl dX4_enter_24 ?_
      refine mv_nm (f := wA cA a) (fun u6 eu6 => ?_)
      have hw := hw.2 u6 eu6
      refine mv_aload_n C dX4_enter_25 rfl 0 rfl ?_
      refine mv_get (v := .ref (a 20)) C iw_X4_enter_X4 18 rfl rfl 1 (by decide) lk_X4_enter_15 rfl rfl dX4_enter_26 ?_
      refine mv_aload_n C dX4_enter_29 rfl 0 rfl ?_
      refine mv_get (v := .int (u6.1 15)) C iw_X4_enter_X4 18 rfl rfl 3 (by decide) lk_X4_enter_21 rfl rfl dX4_enter_30 ?_
      refine mv_topi (fun y7 ey7 => ?_)
      have hw := hw y7 ey7
      refine mv_iconst (v := (0 : Int32)) C dX4_enter_33 (by decide) ?_
      refine mv_iast (f := u6.2 11) (ws1 := wA cA a (mPut u6 11 y7.toNatClampNeg (0 : Int32))) C 20 0 rfl rfl hw.1 rfl dX4_enter_34 ?_
      refine mv_nm (f := wA cA a) (fun u8 eu8 => ?_)
      have hw := hw.2 u8 eu8
      refine mv_aload_n C dX4_enter_35 rfl 0 rfl ?_
      refine mv_get (v := .ref (a 21)) C iw_X4_enter_X4 18 rfl rfl 2 (by decide) lk_X4_enter_18 rfl rfl dX4_enter_36 ?_
      refine mv_aload_n C dX4_enter_39 rfl 0 rfl ?_
      refine mv_get (v := .int (u8.1 15)) C iw_X4_enter_X4 18 rfl rfl 3 (by decide) lk_X4_enter_21 rfl rfl dX4_enter_40 ?_
      refine mv_topi (fun y9 ey9 => ?_)
      have hw := hw y9 ey9
      refine mv_iload_n C dX4_enter_43 rfl 2 rfl ?_
      refine mv_iast (f := u8.2 12) (ws1 := wA cA a (mPut u8 12 y9.toNatClampNeg x2)) C 21 0 rfl rfl hw.1 rfl dX4_enter_44 ?_
      refine mv_nm (f := wA cA a) (fun u10 eu10 => ?_)
      have hw := hw.2 u10 eu10
      refine mv_aload_n C dX4_enter_45 rfl 0 rfl ?_
      refine mv_dup C dX4_enter_46 rfl ?_
      refine mv_get (v := .int (u10.1 15)) C iw_X4_enter_X4 18 rfl rfl 3 (by decide) lk_X4_enter_21 rfl rfl dX4_enter_47 ?_
      refine mv_topi (fun y11 ey11 => ?_)
      have hw := hw y11 ey11
      refine mv_iconst (v := (1 : Int32)) C dX4_enter_50 (by decide) ?_
      refine mv_iadd C dX4_enter_51 ?_
      refine mv_topi (fun y12 ey12 => ?_)
      have hw := hw y12 ey12
      refine mv_put (ty := .int) (ws1 := wA cA a (mSet u10 15 y12)) C iw_X4_enter_X4 tyX4 tyX4_ok nmX4 18 rfl rfl 3 (by decide) lk_X4_enter_21 rfl rfl rfl rfl rfl (Nat.le_of_ble_eq_true rfl) rfl dX4_enter_52 ?_
      refine mv_nm (f := wA cA a) (fun u13 eu13 => ?_)
      have hw := hw u13 eu13
      exact mv_vret C dX4_enter_55 hw
set_option maxHeartbeats 4000000 in
set_option maxRecDepth 100000 in
theorem X4_leave_met (hlev : 1 ≤ lev) {x1 : Int32} {u : mS} {post : Int32 → mS → Prop} (hw : wp_X4_leave x1 u post) : mKi l yX4_leave wsX4_leave lev (eA a) (dC, dI) vwCl [(cA, .int)] (wA cA a) [.ref (a 18), .int x1] u post := by
  refine mKi_of (cc := cX4_leave) (maxL := 2) (by decide) rfl rfl (Nat.le_of_ble_eq_true rfl) rfl ?_
  intro p e s m args below meth c A C hs
  unfold wp_X4_leave at hw
  refine mv_aload_n C dX4_leave_0 rfl 0 rfl ?_
  refine mv_callVi (f := wA cA a) (As := []) (rest := []) C (eA_ok a) hs 18 rfl rfl (X4_hasInner_met (l := l) (lev := lev - 1) (by omega) hw) (cwV 0 C.2.2.2.2.1 gX4_leave_X4_hasInner rfl rfl rfl (by decide +kernel) (mRm_le (by omega) (by decide))) rfl rfl (Nat.le_of_ble_eq_true rfl) dX4_leave_1 ⟨Nat.le_refl 0, Nat.le_refl 0⟩ (fun r1 u2 hw => ?_)
  obtain ⟨gr1, hw⟩ := hw
  refine mv_if_ne (tgt := 11) C dX4_leave_4 (by decide) (fun h3 => ?_) (fun h3 => ?_)
  · have hw := hw.1 h3
    refine mv_aload_n C dX4_leave_11 rfl 0 rfl ?_
    refine mv_get (v := .ref (a 20)) C iw_X4_leave_X4 18 rfl rfl 1 (by decide) lk_X4_leave_15 rfl rfl dX4_leave_12 ?_
    refine mv_aload_n C dX4_leave_15 rfl 0 rfl ?_
    refine mv_get (v := .int (u2.1 15)) C iw_X4_leave_X4 18 rfl rfl 3 (by decide) lk_X4_leave_21 rfl rfl dX4_leave_16 ?_
    refine mv_topi (fun y4 ey4 => ?_)
    have hw := hw y4 ey4
    refine mv_iconst (v := (1 : Int32)) C dX4_leave_19 (by decide) ?_
    refine mv_isub C dX4_leave_20 ?_
    refine mv_topi (fun y5 ey5 => ?_)
    have hw := hw y5 ey5
    refine mv_dup2 C dX4_leave_21 rfl rfl ?_
    refine mv_iald (f := u2.2 11) C 20 0 rfl rfl hw.1 dX4_leave_22 ?_
    refine mv_topi (fun y6 ey6 => ?_)
    have hw := hw.2 y6 ey6
    refine mv_iconst (v := (1 : Int32)) C dX4_leave_23 (by decide) ?_
    refine mv_iadd C dX4_leave_24 ?_
    refine mv_topi (fun y7 ey7 => ?_)
    have hw := hw y7 ey7
    refine mv_iast (f := u2.2 11) (ws1 := wA cA a (mPut u2 11 y5.toNatClampNeg y7)) C 20 0 rfl rfl hw.1 rfl dX4_leave_25 ?_
    refine mv_nm (f := wA cA a) (fun u8 eu8 => ?_)
    have hw := hw.2 u8 eu8
    refine mv_aload_n C dX4_leave_26 rfl 0 rfl ?_
    refine mv_get (v := .ref (a 20)) C iw_X4_leave_X4 18 rfl rfl 1 (by decide) lk_X4_leave_15 rfl rfl dX4_leave_27 ?_
    refine mv_aload_n C dX4_leave_30 rfl 0 rfl ?_
    refine mv_get (v := .int (u8.1 15)) C iw_X4_leave_X4 18 rfl rfl 3 (by decide) lk_X4_leave_21 rfl rfl dX4_leave_31 ?_
    refine mv_topi (fun y9 ey9 => ?_)
    have hw := hw y9 ey9
    refine mv_iconst (v := (1 : Int32)) C dX4_leave_34 (by decide) ?_
    refine mv_isub C dX4_leave_35 ?_
    refine mv_topi (fun y10 ey10 => ?_)
    have hw := hw y10 ey10
    refine mv_iald (f := u8.2 11) C 20 0 rfl rfl hw.1 dX4_leave_36 ?_
    refine mv_topi (fun y11 ey11 => ?_)
    have hw := hw.2 y11 ey11
    refine mv_aload_n C dX4_leave_37 rfl 0 rfl ?_
    refine mv_get (v := .ref (a 21)) C iw_X4_leave_X4 18 rfl rfl 2 (by decide) lk_X4_leave_18 rfl rfl dX4_leave_38 ?_
    refine mv_aload_n C dX4_leave_41 rfl 0 rfl ?_
    refine mv_get (v := .int (u8.1 15)) C iw_X4_leave_X4 18 rfl rfl 3 (by decide) lk_X4_leave_21 rfl rfl dX4_leave_42 ?_
    refine mv_topi (fun y12 ey12 => ?_)
    have hw := hw y12 ey12
    refine mv_iconst (v := (1 : Int32)) C dX4_leave_45 (by decide) ?_
    refine mv_isub C dX4_leave_46 ?_
    refine mv_topi (fun y13 ey13 => ?_)
    have hw := hw y13 ey13
    refine mv_iald (f := u8.2 12) C 21 0 rfl rfl hw.1 dX4_leave_47 ?_
    refine mv_topi (fun y14 ey14 => ?_)
    have hw := hw.2 y14 ey14
    refine mv_icmp_ge (tgt := 63) C dX4_leave_48 (by decide) (fun h15 => ?_) (fun h15 => ?_)
    · have hw := hw.1 h15
      refine mv_aload_n C dX4_leave_63 rfl 0 rfl ?_
      refine mv_dup C dX4_leave_64 rfl ?_
      refine mv_get (v := .int (u8.1 15)) C iw_X4_leave_X4 18 rfl rfl 3 (by decide) lk_X4_leave_21 rfl rfl dX4_leave_65 ?_
      refine mv_topi (fun y16 ey16 => ?_)
      have hw := hw y16 ey16
      refine mv_iconst (v := (1 : Int32)) C dX4_leave_68 (by decide) ?_
      refine mv_isub C dX4_leave_69 ?_
      refine mv_topi (fun y17 ey17 => ?_)
      have hw := hw y17 ey17
      refine mv_put (ty := .int) (ws1 := wA cA a (mSet u8 15 y17)) C iw_X4_leave_X4 tyX4 tyX4_ok nmX4 18 rfl rfl 3 (by decide) lk_X4_leave_21 rfl rfl rfl rfl rfl (Nat.le_of_ble_eq_true rfl) rfl dX4_leave_70 ?_
      refine mv_nm (f := wA cA a) (fun u18 eu18 => ?_)
      have hw := hw u18 eu18
      refine mv_iload_n C dX4_leave_73 rfl 1 rfl ?_
      refine mv_iconst (v := (1 : Int32)) C dX4_leave_74 (by decide) ?_
      refine mv_iadd C dX4_leave_75 ?_
      refine mv_topi (fun y19 ey19 => ?_)
      have hw := hw y19 ey19
      exact mv_iret C dX4_leave_76 hw
    · have hw := hw.2 h15
      refine mv_aload_n C dX4_leave_51 rfl 0 rfl ?_
      refine mv_get (v := .ref (a 19)) C iw_X4_leave_X4 18 rfl rfl 0 (by decide) lk_X4_leave_9 rfl rfl dX4_leave_52 ?_
      refine mv_aload_n C dX4_leave_55 rfl 0 rfl ?_
      refine mv_get (v := .int (u8.1 15)) C iw_X4_leave_X4 18 rfl rfl 3 (by decide) lk_X4_leave_21 rfl rfl dX4_leave_56 ?_
      refine mv_topi (fun y20 ey20 => ?_)
      have hw := hw y20 ey20
      refine mv_iconst (v := (1 : Int32)) C dX4_leave_59 (by decide) ?_
      refine mv_isub C dX4_leave_60 ?_
      refine mv_topi (fun y21 ey21 => ?_)
      have hw := hw y21 ey21
      refine mv_iald (f := u8.2 10) C 19 0 rfl rfl hw.1 dX4_leave_61 ?_
      refine mv_topi (fun y22 ey22 => ?_)
      have hw := hw.2 y22 ey22
      exact mv_iret C dX4_leave_62 hw
  · have hw := hw.2 h3
    refine mv_iload_n C dX4_leave_7 rfl 1 rfl ?_
    refine mv_iconst (v := (1 : Int32)) C dX4_leave_8 (by decide) ?_
    refine mv_iadd C dX4_leave_9 ?_
    refine mv_topi (fun y23 ey23 => ?_)
    have hw := hw y23 ey23
    exact mv_iret C dX4_leave_10 hw
set_option maxHeartbeats 4000000 in
set_option maxRecDepth 100000 in
theorem wj_X1_matches_243_ok (C : mC p s m args meth c cX1_matches 8 wsX1_matches RX1 (some .boolean) (dC, dI) vwCl [(cA, .int)] A) (hs : eA a A s) (hlev : 3 ≤ lev) {post : Int32 → mS → Prop} {K54 : Int32 → Int32 → Int32 → Int32 → mS → Prop} (hK54 : ∀ (x3 x4 x5 x6 : Int32) (u : mS), K54 x3 x4 x5 x6 u → mV p l e (mRm lev) s m args below meth c 8 (dC, dI) vwCl A 0 0 (mQi below args s (dC, dI) vwCl [(cA, .int)] (wA cA a) A (fun r w => (r = 0 ∨ r = 1) ∧ post r w)) (wA cA a u) 54 [(0, .ref (a 17)), (3, .int x3), (4, .int x4), (5, .int x5), (6, .int x6)] []) {x3 x4 x5 x6 : Int32} {u : mS} (hw : wj_X1_matches_243 K54 post x3 x4 x5 x6 u) : mV p l e (mRm lev) s m args below meth c 8 (dC, dI) vwCl A 0 0 (mQi below args s (dC, dI) vwCl [(cA, .int)] (wA cA a) A (fun r w => (r = 0 ∨ r = 1) ∧ post r w)) (wA cA a u) 243 [(0, .ref (a 17)), (3, .int x3), (4, .int x4), (5, .int x5), (6, .int x6)] [] := by
  unfold wj_X1_matches_243 at hw
  obtain ⟨y30, ey30⟩ : ∃ z : Int32, z = x6 + (1 : Int32) := ⟨_, rfl⟩
  have hw := hw y30 ey30
  refine mv_iinc (v := y30) (lv1 := [(6, .int y30), (0, .ref (a 17)), (3, .int x3), (4, .int x4), (5, .int x5)]) C dX1_matches_243 4 rfl (by rw [ey30]; rfl) (by decide) rfl ?_
  refine mv_goto (tgt := 54) C dX1_matches_246 (by decide) ?_
  refine mv_sub [1, 2, 3, 4, 0] rfl ?_
  exact hK54 x3 x4 x5 y30 u hw
set_option maxHeartbeats 4000000 in
set_option maxRecDepth 100000 in
theorem wj_X1_matches_181_ok (C : mC p s m args meth c cX1_matches 8 wsX1_matches RX1 (some .boolean) (dC, dI) vwCl [(cA, .int)] A) (hs : eA a A s) (hlev : 3 ≤ lev) {post : Int32 → mS → Prop} {K54 : Int32 → Int32 → Int32 → Int32 → mS → Prop} (hK54 : ∀ (x3 x4 x5 x6 : Int32) (u : mS), K54 x3 x4 x5 x6 u → mV p l e (mRm lev) s m args below meth c 8 (dC, dI) vwCl A 0 0 (mQi below args s (dC, dI) vwCl [(cA, .int)] (wA cA a) A (fun r w => (r = 0 ∨ r = 1) ∧ post r w)) (wA cA a u) 54 [(0, .ref (a 17)), (3, .int x3), (4, .int x4), (5, .int x5), (6, .int x6)] []) {x3 x4 x5 x6 : Int32} {u : mS} (hw : wj_X1_matches_181 K54 post x3 x4 x5 x6 u) : mV p l e (mRm lev) s m args below meth c 8 (dC, dI) vwCl A 0 0 (mQi below args s (dC, dI) vwCl [(cA, .int)] (wA cA a) A (fun r w => (r = 0 ∨ r = 1) ∧ post r w)) (wA cA a u) 181 [(0, .ref (a 17)), (3, .int x3), (4, .int x4), (5, .int x5), (6, .int x6)] [] := by
  unfold wj_X1_matches_181 at hw
  obtain ⟨y49, ey49⟩ : ∃ z : Int32, z = x4 + (1 : Int32) := ⟨_, rfl⟩
  have hw := hw y49 ey49
  refine mv_iinc (v := y49) (lv1 := [(4, .int y49), (0, .ref (a 17)), (3, .int x3), (5, .int x5), (6, .int x6)]) C dX1_matches_181 2 rfl (by rw [ey49]; rfl) (by decide) rfl ?_
  refine mv_aload_n C dX1_matches_184 rfl 1 rfl ?_
  refine mv_get (v := .ref (a 2)) C iw_X1_matches_X1 17 rfl rfl 0 (by decide) lk_X1_matches_18 rfl rfl dX1_matches_185 ?_
  refine mv_iload C dX1_matches_188 3 rfl ?_
  refine mv_callVi (f := wA cA a) (As := [.int x5]) (rest := []) C (eA_ok a) hs 2 rfl rfl (X5_after_met (l := l) (lev := lev - 1) (by omega) hw) (cwV 1 C.2.2.2.2.1 gX1_matches_X5_after rfl rfl rfl (by decide +kernel) (mRm_le (by omega) (by decide))) rfl rfl (Nat.le_of_ble_eq_true rfl) dX1_matches_190 ⟨Nat.le_refl 0, Nat.le_refl 0⟩ (fun r50 u51 hw => ?_)
  refine mv_istore (lv1 := [(5, .int r50), (4, .int y49), (0, .ref (a 17)), (3, .int x3), (6, .int x6)]) C dX1_matches_193 (by decide) rfl ?_
  refine mv_goto (tgt := 243) C dX1_matches_195 (by decide) ?_
  refine mv_sub [2, 3, 1, 0, 4] rfl ?_
  exact wj_X1_matches_243_ok C hs hlev hK54 hw
set_option maxHeartbeats 4000000 in
set_option maxRecDepth 100000 in
theorem wj_X1_matches_232_ok (C : mC p s m args meth c cX1_matches 8 wsX1_matches RX1 (some .boolean) (dC, dI) vwCl [(cA, .int)] A) (hs : eA a A s) (hlev : 3 ≤ lev) {post : Int32 → mS → Prop} {K54 : Int32 → Int32 → Int32 → Int32 → mS → Prop} (hK54 : ∀ (x3 x4 x5 x6 : Int32) (u : mS), K54 x3 x4 x5 x6 u → mV p l e (mRm lev) s m args below meth c 8 (dC, dI) vwCl A 0 0 (mQi below args s (dC, dI) vwCl [(cA, .int)] (wA cA a) A (fun r w => (r = 0 ∨ r = 1) ∧ post r w)) (wA cA a u) 54 [(0, .ref (a 17)), (3, .int x3), (4, .int x4), (5, .int x5), (6, .int x6)] []) {x3 x4 x5 x6 : Int32} {u : mS} (hw : wj_X1_matches_232 K54 post x3 x4 x5 x6 u) : mV p l e (mRm lev) s m args below meth c 8 (dC, dI) vwCl A 0 0 (mQi below args s (dC, dI) vwCl [(cA, .int)] (wA cA a) A (fun r w => (r = 0 ∨ r = 1) ∧ post r w)) (wA cA a u) 232 [(0, .ref (a 17)), (3, .int x3), (4, .int x4), (5, .int x5), (6, .int x6)] [] := by
  unfold wj_X1_matches_232 at hw
  obtain ⟨y47, ey47⟩ : ∃ z : Int32, z = x4 + (1 : Int32) := ⟨_, rfl⟩
  have hw := hw y47 ey47
  refine mv_iinc (v := y47) (lv1 := [(4, .int y47), (0, .ref (a 17)), (3, .int x3), (5, .int x5), (6, .int x6)]) C dX1_matches_232 2 rfl (by rw [ey47]; rfl) (by decide) rfl ?_
  obtain ⟨y48, ey48⟩ : ∃ z : Int32, z = x5 + (1 : Int32) := ⟨_, rfl⟩
  have hw := hw y48 ey48
  refine mv_iinc (v := y48) (lv1 := [(5, .int y48), (4, .int y47), (0, .ref (a 17)), (3, .int x3), (6, .int x6)]) C dX1_matches_235 3 rfl (by rw [ey48]; rfl) (by decide) rfl ?_
  refine mv_goto (tgt := 243) C dX1_matches_238 (by decide) ?_
  refine mv_sub [2, 3, 1, 0, 4] rfl ?_
  exact wj_X1_matches_243_ok C hs hlev hK54 hw
set_option maxHeartbeats 4000000 in
set_option maxRecDepth 100000 in
theorem wj_X1_matches_134_ok (C : mC p s m args meth c cX1_matches 8 wsX1_matches RX1 (some .boolean) (dC, dI) vwCl [(cA, .int)] A) (hs : eA a A s) (hlev : 3 ≤ lev) {post : Int32 → mS → Prop} {K54 : Int32 → Int32 → Int32 → Int32 → mS → Prop} (hK54 : ∀ (x3 x4 x5 x6 : Int32) (u : mS), K54 x3 x4 x5 x6 u → mV p l e (mRm lev) s m args below meth c 8 (dC, dI) vwCl A 0 0 (mQi below args s (dC, dI) vwCl [(cA, .int)] (wA cA a) A (fun r w => (r = 0 ∨ r = 1) ∧ post r w)) (wA cA a u) 54 [(0, .ref (a 17)), (3, .int x3), (4, .int x4), (5, .int x5), (6, .int x6)] []) {x3 x4 x5 x6 : Int32} {u : mS} (hw : wj_X1_matches_134 K54 post x3 x4 x5 x6 u) : mV p l e (mRm lev) s m args below meth c 8 (dC, dI) vwCl A 0 0 (mQi below args s (dC, dI) vwCl [(cA, .int)] (wA cA a) A (fun r w => (r = 0 ∨ r = 1) ∧ post r w)) (wA cA a u) 134 [(0, .ref (a 17)), (3, .int x3), (4, .int x4), (5, .int x5), (6, .int x6)] [] := by
  unfold wj_X1_matches_134 at hw
  refine mv_aload_n C dX1_matches_134 rfl 0 rfl ?_
  refine mv_get (v := .ref (a 2)) C iw_X1_matches_X1 17 rfl rfl 0 (by decide) lk_X1_matches_18 rfl rfl dX1_matches_135 ?_
  refine mv_iload C dX1_matches_138 2 rfl ?_
  refine mv_callVi (f := wA cA a) (As := [.int x4]) (rest := []) C (eA_ok a) hs 2 rfl rfl (X5_wordAt_met (l := l) (lev := lev - 1) (by omega) hw) (cwV 1 C.2.2.2.2.1 gX1_matches_X5_wordAt rfl rfl rfl (by decide +kernel) (mRm_le (by omega) (by decide))) rfl rfl (Nat.le_of_ble_eq_true rfl) dX1_matches_140 ⟨Nat.le_refl 0, Nat.le_refl 0⟩ (fun r31 u32 hw => ?_)
  refine mv_istore (lv1 := [(7, .int r31), (0, .ref (a 17)), (3, .int x3), (4, .int x4), (5, .int x5), (6, .int x6)]) C dX1_matches_143 (by decide) rfl ?_
  refine mv_iload C dX1_matches_145 0 rfl ?_
  refine mv_bipush (v := (-3 : Int32)) C dX1_matches_147 (by decide) ?_
  refine mv_icmp_ne (tgt := 166) C dX1_matches_149 (by decide) (fun h33 => ?_) (fun h33 => ?_)
  · have hw := hw.1 h33
    refine mv_iload C dX1_matches_166 0 rfl ?_
    refine mv_callSNi (f := wA cA a) (As := [.int r31]) (rest := []) C (eA_ok a) hs (X8_isName_met (l := l) (lev := lev - 1) (by omega) hw) ⟨va_cnB 1 C.2.2.2.2.1 ggX1_matches_X8_isName rfl rfl rfl (hs.1 _ nw_21) (C.2.2.2.2.1 _ in_X1_matches_X8) (by decide +kernel) (mRm_le (by omega) (by decide)), C.2.2.2.2.1 _ st_X1_matches_X8_isName, trivial⟩ rfl rfl (Nat.le_of_ble_eq_true rfl) dX1_matches_168 ⟨Nat.le_refl 0, Nat.le_refl 0⟩ (fun r34 u35 hw => ?_)
    obtain ⟨gr34, hw⟩ := hw
    refine mv_if_ne (tgt := 181) C dX1_matches_171 (by decide) (fun h36 => ?_) (fun h36 => ?_)
    · have hw := hw.1 h36
      refine mv_sub [1, 2, 3, 4, 5] rfl ?_
      exact wj_X1_matches_181_ok C hs hlev hK54 hw
    · have hw := hw.2 h36
      refine mv_iload C dX1_matches_174 0 rfl ?_
      refine mv_bipush (v := (-4 : Int32)) C dX1_matches_176 (by decide) ?_
      refine mv_icmp_ne (tgt := 198) C dX1_matches_178 (by decide) (fun h37 => ?_) (fun h37 => ?_)
      · have hw := hw.1 h37
        refine mv_iload C dX1_matches_198 0 rfl ?_
        refine mv_iconst (v := (-1 : Int32)) C dX1_matches_200 (by decide) ?_
        refine mv_icmp_ne (tgt := 218) C dX1_matches_201 (by decide) (fun h38 => ?_) (fun h38 => ?_)
        · have hw := hw.1 h38
          refine mv_aload_n C dX1_matches_218 rfl 1 rfl ?_
          refine mv_get (v := .ref (a 2)) C iw_X1_matches_X1 17 rfl rfl 0 (by decide) lk_X1_matches_18 rfl rfl dX1_matches_219 ?_
          refine mv_iload C dX1_matches_222 4 rfl ?_
          refine mv_callVi (f := wA cA a) (As := [.int x5]) (rest := []) C (eA_ok a) hs 2 rfl rfl (X5_wordAt_met (l := l) (lev := lev - 1) (by omega) hw) (cwV 1 C.2.2.2.2.1 gX1_matches_X5_wordAt rfl rfl rfl (by decide +kernel) (mRm_le (by omega) (by decide))) rfl rfl (Nat.le_of_ble_eq_true rfl) dX1_matches_224 ⟨Nat.le_refl 0, Nat.le_refl 0⟩ (fun r39 u40 hw => ?_)
          refine mv_iload C dX1_matches_227 0 rfl ?_
          refine mv_icmp_ne (tgt := 241) C dX1_matches_229 (by decide) (fun h41 => ?_) (fun h41 => ?_)
          · have hw := hw.1 h41
            refine mv_iconst (v := (0 : Int32)) C dX1_matches_241 (by decide) ?_
            exact mv_zret C dX1_matches_242 (Or.inl rfl) hw
          · have hw := hw.2 h41
            refine mv_sub [1, 2, 3, 4, 5] rfl ?_
            exact wj_X1_matches_232_ok C hs hlev hK54 hw
        · have hw := hw.2 h38
          refine mv_aload_n C dX1_matches_204 rfl 1 rfl ?_
          refine mv_iload C dX1_matches_205 3 rfl ?_
          refine mv_iload C dX1_matches_207 4 rfl ?_
          refine mv_callVi (f := wA cA a) (As := [.int x4, .int x5]) (rest := []) C (eA_ok a) hs 17 rfl rfl (X1_hasRoomFor_met (l := l) (lev := lev - 1) (by omega) hw) (cwV 2 C.2.2.2.2.1 gX1_matches_X1_hasRoomFor rfl rfl rfl (by decide +kernel) (mRm_le (by omega) (by decide))) rfl rfl (Nat.le_of_ble_eq_true rfl) dX1_matches_209 ⟨Nat.le_refl 0, Nat.le_refl 0⟩ (fun r42 u43 hw => ?_)
          obtain ⟨gr42, hw⟩ := hw
          refine mv_if_eq (tgt := 241) C dX1_matches_212 (by decide) (fun h44 => ?_) (fun h44 => ?_)
          · have hw := hw.1 h44
            refine mv_iconst (v := (0 : Int32)) C dX1_matches_241 (by decide) ?_
            exact mv_zret C dX1_matches_242 (Or.inl rfl) hw
          · have hw := hw.2 h44
            refine mv_goto (tgt := 232) C dX1_matches_215 (by decide) ?_
            refine mv_sub [1, 2, 3, 4, 5] rfl ?_
            exact wj_X1_matches_232_ok C hs hlev hK54 hw
      · have hw := hw.2 h37
        refine mv_sub [1, 2, 3, 4, 5] rfl ?_
        exact wj_X1_matches_181_ok C hs hlev hK54 hw
  · have hw := hw.2 h33
    refine mv_aload_n C dX1_matches_152 rfl 1 rfl ?_
    refine mv_get (v := .ref (a 18)) C iw_X1_matches_X1 17 rfl rfl 2 (by decide) lk_X1_matches_12 rfl rfl dX1_matches_153 ?_
    refine mv_iload C dX1_matches_156 3 rfl ?_
    refine mv_callVi (f := wA cA a) (As := [.int x4]) (rest := []) C (eA_ok a) hs 18 rfl rfl (X4_leave_met (l := l) (lev := lev - 1) (by omega) hw) (cwV 1 C.2.2.2.2.1 gX1_matches_X4_leave rfl rfl rfl (by decide +kernel) (mRm_le (by omega) (by decide))) rfl rfl (Nat.le_of_ble_eq_true rfl) dX1_matches_158 ⟨Nat.le_refl 0, Nat.le_refl 0⟩ (fun r45 u46 hw => ?_)
    refine mv_istore (lv1 := [(4, .int r45), (7, .int r31), (0, .ref (a 17)), (3, .int x3), (5, .int x5), (6, .int x6)]) C dX1_matches_161 (by decide) rfl ?_
    refine mv_goto (tgt := 243) C dX1_matches_163 (by decide) ?_
    refine mv_sub [2, 3, 0, 4, 5] rfl ?_
    exact wj_X1_matches_243_ok C hs hlev hK54 hw
set_option maxHeartbeats 4000000 in
set_option maxRecDepth 100000 in
theorem wj_X1_matches_54_ok (C : mC p s m args meth c cX1_matches 8 wsX1_matches RX1 (some .boolean) (dC, dI) vwCl [(cA, .int)] A) (hs : eA a A s) (hlev : 3 ≤ lev) {post : Int32 → mS → Prop} {K54 : Int32 → Int32 → Int32 → Int32 → mS → Prop} (hK54 : ∀ (x3 x4 x5 x6 : Int32) (u : mS), K54 x3 x4 x5 x6 u → mV p l e (mRm lev) s m args below meth c 8 (dC, dI) vwCl A 0 0 (mQi below args s (dC, dI) vwCl [(cA, .int)] (wA cA a) A (fun r w => (r = 0 ∨ r = 1) ∧ post r w)) (wA cA a u) 54 [(0, .ref (a 17)), (3, .int x3), (4, .int x4), (5, .int x5), (6, .int x6)] []) {x3 x4 x5 x6 : Int32} {u : mS} (hw : wj_X1_matches_54 K54 post x3 x4 x5 x6 u) : mV p l e (mRm lev) s m args below meth c 8 (dC, dI) vwCl A 0 0 (mQi below args s (dC, dI) vwCl [(cA, .int)] (wA cA a) A (fun r w => (r = 0 ∨ r = 1) ∧ post r w)) (wA cA a u) 54 [(0, .ref (a 17)), (3, .int x3), (4, .int x4), (5, .int x5), (6, .int x6)] [] := by
  unfold wj_X1_matches_54 at hw
  refine mv_iload C dX1_matches_54 4 rfl ?_
  refine mv_ldc (v := (1000000 : Int32)) C mw_X1_matches__constant_RX1_45_1000000_Int32_ dX1_matches_56 ?_
  refine mv_icmp_ge (tgt := 249) C dX1_matches_58 (by decide) (fun h14 => ?_) (fun h14 => ?_)
  · have hw := hw.1 h14
    refine mv_iconst (v := (1 : Int32)) C dX1_matches_249 (by decide) ?_
    exact mv_zret C dX1_matches_250 (Or.inr rfl) hw
  · have hw := hw.2 h14
    refine mv_iload C dX1_matches_61 2 rfl ?_
    refine mv_iload_n C dX1_matches_63 rfl 1 rfl ?_
    refine mv_icmp_ge (tgt := 249) C dX1_matches_64 (by decide) (fun h15 => ?_) (fun h15 => ?_)
    · have hw := hw.1 h15
      refine mv_iconst (v := (1 : Int32)) C dX1_matches_249 (by decide) ?_
      exact mv_zret C dX1_matches_250 (Or.inr rfl) hw
    · have hw := hw.2 h15
      refine mv_aload_n C dX1_matches_67 rfl 0 rfl ?_
      refine mv_get (v := .ref (a 2)) C iw_X1_matches_X1 17 rfl rfl 0 (by decide) lk_X1_matches_18 rfl rfl dX1_matches_68 ?_
      refine mv_iload C dX1_matches_71 2 rfl ?_
      refine mv_callVi (f := wA cA a) (As := [.int x4]) (rest := []) C (eA_ok a) hs 2 rfl rfl (X5_isHeld_met (l := l) (lev := lev - 1) (by omega) hw) (cwV 1 C.2.2.2.2.1 gX1_matches_X5_isHeld rfl rfl rfl (by decide +kernel) (mRm_le (by omega) (by decide))) rfl rfl (Nat.le_of_ble_eq_true rfl) dX1_matches_73 ⟨Nat.le_refl 0, Nat.le_refl 0⟩ (fun r16 u17 hw => ?_)
      obtain ⟨gr16, hw⟩ := hw
      refine mv_if_eq (tgt := 134) C dX1_matches_76 (by decide) (fun h18 => ?_) (fun h18 => ?_)
      · have hw := hw.1 h18
        exact wj_X1_matches_134_ok C hs hlev hK54 hw
      · have hw := hw.2 h18
        refine mv_aload_n C dX1_matches_79 rfl 0 rfl ?_
        refine mv_get (v := .ref (a 18)) C iw_X1_matches_X1 17 rfl rfl 2 (by decide) lk_X1_matches_12 rfl rfl dX1_matches_80 ?_
        refine mv_iload C dX1_matches_83 2 rfl ?_
        refine mv_callVi (f := wA cA a) (As := [.int x4]) (rest := []) C (eA_ok a) hs 18 rfl rfl (X4_isIn_met (l := l) (lev := lev - 1) (by omega) hw) (cwV 1 C.2.2.2.2.1 gX1_matches_X4_isIn rfl rfl rfl (by decide +kernel) (mRm_le (by omega) (by decide))) rfl rfl (Nat.le_of_ble_eq_true rfl) dX1_matches_85 ⟨Nat.le_refl 0, Nat.le_refl 0⟩ (fun r19 u20 hw => ?_)
        obtain ⟨gr19, hw⟩ := hw
        refine mv_if_ne (tgt := 134) C dX1_matches_88 (by decide) (fun h21 => ?_) (fun h21 => ?_)
        · have hw := hw.1 h21
          exact wj_X1_matches_134_ok C hs hlev hK54 hw
        · have hw := hw.2 h21
          refine mv_aload_n C dX1_matches_91 rfl 0 rfl ?_
          refine mv_get (v := .ref (a 2)) C iw_X1_matches_X1 17 rfl rfl 0 (by decide) lk_X1_matches_18 rfl rfl dX1_matches_92 ?_
          refine mv_iload C dX1_matches_95 3 rfl ?_
          refine mv_callVi (f := wA cA a) (As := [.int x5]) (rest := []) C (eA_ok a) hs 2 rfl rfl (X5_itemsFrom_met (l := l) (lev := lev - 1) (by omega) hw) (cwV 1 C.2.2.2.2.1 gX1_matches_X5_itemsFrom rfl rfl rfl (by decide +kernel) (mRm_le (by omega) (by decide))) rfl rfl (Nat.le_of_ble_eq_true rfl) dX1_matches_97 ⟨Nat.le_refl 0, Nat.le_refl 0⟩ (fun r22 u23 hw => ?_)
          refine mv_istore (lv1 := [(7, .int r22), (0, .ref (a 17)), (3, .int x3), (4, .int x4), (5, .int x5), (6, .int x6)]) C dX1_matches_100 (by decide) rfl ?_
          refine mv_iload C dX1_matches_102 0 rfl ?_
          refine mv_if_ne (tgt := 123) C dX1_matches_104 (by decide) (fun h24 => ?_) (fun h24 => ?_)
          · have hw := hw.1 h24
            refine mv_aload_n C dX1_matches_123 rfl 1 rfl ?_
            refine mv_get (v := .ref (a 18)) C iw_X1_matches_X1 17 rfl rfl 2 (by decide) lk_X1_matches_12 rfl rfl dX1_matches_124 ?_
            refine mv_iload C dX1_matches_127 3 rfl ?_
            refine mv_iload C dX1_matches_129 0 rfl ?_
            refine mv_callVv (f := wA cA a) (As := [.int x4, .int r22]) (rest := []) C (eA_ok a) hs 18 rfl rfl (X4_enter_met (l := l) (lev := lev - 1) (by omega) hw) (cwV 2 C.2.2.2.2.1 gX1_matches_X4_enter rfl rfl rfl (by decide +kernel) (mRm_le (by omega) (by decide))) rfl rfl (Nat.le_of_ble_eq_true rfl) dX1_matches_131 ⟨Nat.le_refl 0, Nat.le_refl 0⟩ (fun u26 hw => ?_)
            refine mv_sub [1, 2, 3, 4, 5] rfl ?_
            exact wj_X1_matches_134_ok C hs hlev hK54 hw
          · have hw := hw.2 h24
            refine mv_aload_n C dX1_matches_107 rfl 1 rfl ?_
            refine mv_get (v := .ref (a 2)) C iw_X1_matches_X1 17 rfl rfl 0 (by decide) lk_X1_matches_18 rfl rfl dX1_matches_108 ?_
            refine mv_iload C dX1_matches_111 3 rfl ?_
            refine mv_callVi (f := wA cA a) (As := [.int x4]) (rest := []) C (eA_ok a) hs 2 rfl rfl (X5_after_met (l := l) (lev := lev - 1) (by omega) hw) (cwV 1 C.2.2.2.2.1 gX1_matches_X5_after rfl rfl rfl (by decide +kernel) (mRm_le (by omega) (by decide))) rfl rfl (Nat.le_of_ble_eq_true rfl) dX1_matches_113 ⟨Nat.le_refl 0, Nat.le_refl 0⟩ (fun r27 u28 hw => ?_)
            refine mv_iconst (v := (1 : Int32)) C dX1_matches_116 (by decide) ?_
            refine mv_iadd C dX1_matches_117 ?_
            refine mv_topi (fun y29 ey29 => ?_)
            have hw := hw y29 ey29
            refine mv_istore (lv1 := [(4, .int y29), (7, .int r22), (0, .ref (a 17)), (3, .int x3), (5, .int x5), (6, .int x6)]) C dX1_matches_118 (by decide) rfl ?_
            refine mv_goto (tgt := 243) C dX1_matches_120 (by decide) ?_
            refine mv_sub [2, 3, 0, 4, 5] rfl ?_
            exact wj_X1_matches_243_ok C hs hlev hK54 hw
set_option maxHeartbeats 4000000 in
set_option maxRecDepth 100000 in
theorem X1_matches_met (hlev : 3 ≤ lev) {x1 x2 : Int32} {u : mS} {post : Int32 → mS → Prop} (hw : wp_X1_matches x1 x2 u post) : mKi l yX1_matches wsX1_matches lev (eA a) (dC, dI) vwCl [(cA, .int)] (wA cA a) [.ref (a 17), .int x1, .int x2] u (fun r w => (r = 0 ∨ r = 1) ∧ post r w) := by
  refine mKz_of (cc := cX1_matches) (maxL := 8) (by decide) rfl rfl (Nat.le_of_ble_eq_true rfl) rfl ?_
  intro p e s m args below meth c A C hs
  unfold wp_X1_matches at hw
  refine mv_aload_n C dX1_matches_0 rfl 0 rfl ?_
  refine mv_iload_n C dX1_matches_1 rfl 1 rfl ?_
  refine mv_iload_n C dX1_matches_2 rfl 2 rfl ?_
  refine mv_callVi (f := wA cA a) (As := [.int x1, .int x2]) (rest := []) C (eA_ok a) hs 17 rfl rfl (X1_hasRoomFor_met (l := l) (lev := lev - 1) (by omega) hw) (cwV 2 C.2.2.2.2.1 gX1_matches_X1_hasRoomFor rfl rfl rfl (by decide +kernel) (mRm_le (by omega) (by decide))) rfl rfl (Nat.le_of_ble_eq_true rfl) dX1_matches_3 ⟨Nat.le_refl 0, Nat.le_refl 0⟩ (fun r1 u2 hw => ?_)
  obtain ⟨gr1, hw⟩ := hw
  refine mv_if_ne (tgt := 11) C dX1_matches_6 (by decide) (fun h3 => ?_) (fun h3 => ?_)
  · have hw := hw.1 h3
    refine mv_aload_n C dX1_matches_11 rfl 0 rfl ?_
    refine mv_get (v := .ref (a 18)) C iw_X1_matches_X1 17 rfl rfl 2 (by decide) lk_X1_matches_12 rfl rfl dX1_matches_12 ?_
    refine mv_callVv (f := wA cA a) (As := []) (rest := []) C (eA_ok a) hs 18 rfl rfl (X4_clear_met (l := l) (lev := lev - 1) (by omega) hw) (cwV 0 C.2.2.2.2.1 gX1_matches_X4_clear rfl rfl rfl (by decide +kernel) (mRm_le (by omega) (by decide))) rfl rfl (Nat.le_of_ble_eq_true rfl) dX1_matches_15 ⟨Nat.le_refl 0, Nat.le_refl 0⟩ (fun u5 hw => ?_)
    refine mv_aload_n C dX1_matches_18 rfl 0 rfl ?_
    refine mv_get (v := .ref (a 2)) C iw_X1_matches_X1 17 rfl rfl 0 (by decide) lk_X1_matches_18 rfl rfl dX1_matches_19 ?_
    refine mv_iload_n C dX1_matches_22 rfl 1 rfl ?_
    refine mv_callVi (f := wA cA a) (As := [.int x1]) (rest := []) C (eA_ok a) hs 2 rfl rfl (X5_after_met (l := l) (lev := lev - 1) (by omega) hw) (cwV 1 C.2.2.2.2.1 gX1_matches_X5_after rfl rfl rfl (by decide +kernel) (mRm_le (by omega) (by decide))) rfl rfl (Nat.le_of_ble_eq_true rfl) dX1_matches_23 ⟨Nat.le_refl 0, Nat.le_refl 0⟩ (fun r6 u7 hw => ?_)
    refine mv_istore_n (lv1 := [(3, .int r6), (0, .ref (a 17)), (1, .int x1), (2, .int x2)]) C dX1_matches_26 rfl (by decide) rfl ?_
    refine mv_aload_n C dX1_matches_27 rfl 1 rfl ?_
    refine mv_get (v := .ref (a 2)) C iw_X1_matches_X1 17 rfl rfl 0 (by decide) lk_X1_matches_18 rfl rfl dX1_matches_28 ?_
    refine mv_iload_n C dX1_matches_31 rfl 2 rfl ?_
    refine mv_iconst (v := (1 : Int32)) C dX1_matches_32 (by decide) ?_
    refine mv_iadd C dX1_matches_33 ?_
    refine mv_topi (fun y8 ey8 => ?_)
    have hw := hw y8 ey8
    refine mv_callVi (f := wA cA a) (As := [.int y8]) (rest := []) C (eA_ok a) hs 2 rfl rfl (X5_after_met (l := l) (lev := lev - 1) (by omega) hw) (cwV 1 C.2.2.2.2.1 gX1_matches_X5_after rfl rfl rfl (by decide +kernel) (mRm_le (by omega) (by decide))) rfl rfl (Nat.le_of_ble_eq_true rfl) dX1_matches_34 ⟨Nat.le_refl 0, Nat.le_refl 0⟩ (fun r9 u10 hw => ?_)
    refine mv_istore (lv1 := [(4, .int r9), (3, .int r6), (0, .ref (a 17)), (1, .int x1), (2, .int x2)]) C dX1_matches_37 (by decide) rfl ?_
    refine mv_aload_n C dX1_matches_39 rfl 2 rfl ?_
    refine mv_get (v := .ref (a 2)) C iw_X1_matches_X1 17 rfl rfl 0 (by decide) lk_X1_matches_18 rfl rfl dX1_matches_40 ?_
    refine mv_iload_n C dX1_matches_43 rfl 4 rfl ?_
    refine mv_iconst (v := (1 : Int32)) C dX1_matches_44 (by decide) ?_
    refine mv_iadd C dX1_matches_45 ?_
    refine mv_topi (fun y11 ey11 => ?_)
    have hw := hw y11 ey11
    refine mv_callVi (f := wA cA a) (As := [.int y11]) (rest := []) C (eA_ok a) hs 2 rfl rfl (X5_after_met (l := l) (lev := lev - 1) (by omega) hw) (cwV 1 C.2.2.2.2.1 gX1_matches_X5_after rfl rfl rfl (by decide +kernel) (mRm_le (by omega) (by decide))) rfl rfl (Nat.le_of_ble_eq_true rfl) dX1_matches_46 ⟨Nat.le_refl 0, Nat.le_refl 0⟩ (fun r12 u13 hw => ?_)
    refine mv_istore (lv1 := [(5, .int r12), (4, .int r9), (3, .int r6), (0, .ref (a 17)), (1, .int x1), (2, .int x2)]) C dX1_matches_49 (by decide) rfl ?_
    refine mv_iconst (v := (0 : Int32)) C dX1_matches_51 (by decide) ?_
    refine mv_istore (lv1 := [(6, .int (0 : Int32)), (5, .int r12), (4, .int r9), (3, .int r6), (0, .ref (a 17)), (1, .int x1), (2, .int x2)]) C dX1_matches_52 (by decide) rfl ?_
    refine mv_sub [4, 3, 2, 1, 0] rfl ?_
    obtain ⟨n, hw⟩ := hw
    exact mL5_of (fun K hK b0 b1 b2 b3 b4 hw => wj_X1_matches_54_ok C hs hlev hK hw) n r6 r9 r12 (0 : Int32) u13 hw
  · have hw := hw.2 h3
    refine mv_iconst (v := (0 : Int32)) C dX1_matches_9 (by decide) ?_
    exact mv_zret C dX1_matches_10 (Or.inl rfl) hw
set_option maxHeartbeats 4000000 in
set_option maxRecDepth 100000 in
theorem wj_X1_firstRule_17_ok (C : mC p s m args meth c cX1_firstRule 6 wsX1_firstRule RX1 (some .int) (dC, dI) vwCl [(cA, .int)] A) (hs : eA a A s) (hlev : 4 ≤ lev) {post : Int32 → mS → Prop} {K17 : Int32 → Int32 → Int32 → Int32 → mS → Prop} (hK17 : ∀ (x2 x3 x4 x5 : Int32) (u : mS), K17 x2 x3 x4 x5 u → mV p l e (mRm lev) s m args below meth c 6 (dC, dI) vwCl A 0 0 (mQi below args s (dC, dI) vwCl [(cA, .int)] (wA cA a) A post) (wA cA a u) 17 [(0, .ref (a 17)), (2, .int x2), (3, .int x3), (4, .int x4), (5, .int x5)] []) {x2 x3 x4 x5 : Int32} {u : mS} (hw : wj_X1_firstRule_17 K17 post x2 x3 x4 x5 u) : mV p l e (mRm lev) s m args below meth c 6 (dC, dI) vwCl A 0 0 (mQi below args s (dC, dI) vwCl [(cA, .int)] (wA cA a) A post) (wA cA a u) 17 [(0, .ref (a 17)), (2, .int x2), (3, .int x3), (4, .int x4), (5, .int x5)] [] := by
  unfold wj_X1_firstRule_17 at hw
  refine mv_iload C dX1_firstRule_17 4 rfl ?_
  refine mv_iload_n C dX1_firstRule_19 rfl 2 rfl ?_
  refine mv_icmp_ge (tgt := 55) C dX1_firstRule_20 (by decide) (fun h4 => ?_) (fun h4 => ?_)
  · have hw := hw.1 h4
    refine mv_iconst (v := (-1 : Int32)) C dX1_firstRule_55 (by decide) ?_
    exact mv_iret C dX1_firstRule_56 hw
  · have hw := hw.2 h4
    refine mv_aload_n C dX1_firstRule_23 rfl 0 rfl ?_
    refine mv_iload C dX1_firstRule_24 3 rfl ?_
    refine mv_iconst (v := (1 : Int32)) C dX1_firstRule_26 (by decide) ?_
    refine mv_iadd C dX1_firstRule_27 ?_
    refine mv_topi (fun y5 ey5 => ?_)
    have hw := hw y5 ey5
    refine mv_iload_n C dX1_firstRule_28 rfl 1 rfl ?_
    refine mv_callVi (f := wA cA a) (As := [.int y5, .int x2]) (rest := []) C (eA_ok a) hs 17 rfl rfl (X1_matches_met (l := l) (lev := lev - 1) (by omega) hw) (cwV 2 C.2.2.2.2.1 gX1_firstRule_X1_matches rfl rfl rfl (by decide +kernel) (mRm_le (by omega) (by decide))) rfl rfl (Nat.le_of_ble_eq_true rfl) dX1_firstRule_29 ⟨Nat.le_refl 0, Nat.le_refl 0⟩ (fun r6 u7 hw => ?_)
    obtain ⟨gr6, hw⟩ := hw
    refine mv_if_eq (tgt := 38) C dX1_firstRule_32 (by decide) (fun h8 => ?_) (fun h8 => ?_)
    · have hw := hw.1 h8
      refine mv_aload_n C dX1_firstRule_38 rfl 0 rfl ?_
      refine mv_get (v := .ref (a 2)) C iw_X1_firstRule_X1 17 rfl rfl 0 (by decide) lk_X1_firstRule_18 rfl rfl dX1_firstRule_39 ?_
      refine mv_iload C dX1_firstRule_42 3 rfl ?_
      refine mv_callVi (f := wA cA a) (As := [.int x4]) (rest := []) C (eA_ok a) hs 2 rfl rfl (X5_after_met (l := l) (lev := lev - 1) (by omega) hw) (cwV 1 C.2.2.2.2.1 gX1_firstRule_X5_after rfl rfl rfl (by decide +kernel) (mRm_le (by omega) (by decide))) rfl rfl (Nat.le_of_ble_eq_true rfl) dX1_firstRule_44 ⟨Nat.le_refl 0, Nat.le_refl 0⟩ (fun r9 u10 hw => ?_)
      refine mv_istore (lv1 := [(4, .int r9), (0, .ref (a 17)), (2, .int x2), (3, .int x3), (5, .int x5)]) C dX1_firstRule_47 (by decide) rfl ?_
      obtain ⟨y11, ey11⟩ : ∃ z : Int32, z = x5 + (1 : Int32) := ⟨_, rfl⟩
      have hw := hw y11 ey11
      refine mv_iinc (v := y11) (lv1 := [(5, .int y11), (4, .int r9), (0, .ref (a 17)), (2, .int x2), (3, .int x3)]) C dX1_firstRule_49 4 rfl (by rw [ey11]; rfl) (by decide) rfl ?_
      refine mv_goto (tgt := 17) C dX1_firstRule_52 (by decide) ?_
      refine mv_sub [2, 3, 4, 1, 0] rfl ?_
      exact hK17 x2 x3 r9 y11 u10 hw
    · have hw := hw.2 h8
      refine mv_iload C dX1_firstRule_35 3 rfl ?_
      exact mv_iret C dX1_firstRule_37 hw
set_option maxHeartbeats 4000000 in
set_option maxRecDepth 100000 in
theorem X1_firstRule_met (hlev : 4 ≤ lev) {x1 x2 : Int32} {u : mS} {post : Int32 → mS → Prop} (hw : wp_X1_firstRule x1 x2 u post) : mKi l yX1_firstRule wsX1_firstRule lev (eA a) (dC, dI) vwCl [(cA, .int)] (wA cA a) [.ref (a 17), .int x1, .int x2] u post := by
  refine mKi_of (cc := cX1_firstRule) (maxL := 6) (by decide) rfl rfl (Nat.le_of_ble_eq_true rfl) rfl ?_
  intro p e s m args below meth c A C hs
  unfold wp_X1_firstRule at hw
  refine mv_aload_n C dX1_firstRule_0 rfl 0 rfl ?_
  refine mv_get (v := .ref (a 2)) C iw_X1_firstRule_X1 17 rfl rfl 0 (by decide) lk_X1_firstRule_18 rfl rfl dX1_firstRule_1 ?_
  refine mv_iload_n C dX1_firstRule_4 rfl 1 rfl ?_
  refine mv_callVi (f := wA cA a) (As := [.int x1]) (rest := []) C (eA_ok a) hs 2 rfl rfl (X5_plainLength_met (l := l) (lev := lev - 1) (by omega) hw) (cwV 1 C.2.2.2.2.1 gX1_firstRule_X5_plainLength rfl rfl rfl (by decide +kernel) (mRm_le (by omega) (by decide))) rfl rfl (Nat.le_of_ble_eq_true rfl) dX1_firstRule_5 ⟨Nat.le_refl 0, Nat.le_refl 0⟩ (fun r1 u2 hw => ?_)
  refine mv_istore_n (lv1 := [(3, .int r1), (0, .ref (a 17)), (1, .int x1), (2, .int x2)]) C dX1_firstRule_8 rfl (by decide) rfl ?_
  refine mv_iload_n C dX1_firstRule_9 rfl 2 rfl ?_
  refine mv_iconst (v := (2 : Int32)) C dX1_firstRule_10 (by decide) ?_
  refine mv_iadd C dX1_firstRule_11 ?_
  refine mv_topi (fun y3 ey3 => ?_)
  have hw := hw y3 ey3
  refine mv_istore (lv1 := [(4, .int y3), (3, .int r1), (0, .ref (a 17)), (1, .int x1), (2, .int x2)]) C dX1_firstRule_12 (by decide) rfl ?_
  refine mv_iconst (v := (1 : Int32)) C dX1_firstRule_14 (by decide) ?_
  refine mv_istore (lv1 := [(5, .int (1 : Int32)), (4, .int y3), (3, .int r1), (0, .ref (a 17)), (1, .int x1), (2, .int x2)]) C dX1_firstRule_15 (by decide) rfl ?_
  refine mv_sub [3, 5, 2, 1, 0] rfl ?_
  obtain ⟨n, hw⟩ := hw
  exact mL5_of (fun K hK b0 b1 b2 b3 b4 hw => wj_X1_firstRule_17_ok C hs hlev hK hw) n x2 r1 y3 (1 : Int32) u2 hw
set_option maxHeartbeats 4000000 in
set_option maxRecDepth 100000 in
theorem X5_startTree_met (hlev : 0 ≤ lev) {u : mS} {post : Int32 → mS → Prop} (hw : wp_X5_startTree  u post) : mKi l yX5_startTree wsX5_startTree lev (eA a) (dC, dI) vwCl [(cA, .int)] (wA cA a) [.ref (a 2)] u post := by
  refine mKi_of (cc := cX5_startTree) (maxL := 1) (by decide) rfl rfl (Nat.le_of_ble_eq_true rfl) rfl ?_
  intro p e s m args below meth c A C hs
  unfold wp_X5_startTree at hw
  refine mv_aload_n C dX5_startTree_0 rfl 0 rfl ?_
  refine mv_iconst (v := (-1 : Int32)) C dX5_startTree_1 (by decide) ?_
  refine mv_put (ty := .int) (ws1 := wA cA a (mSet u 2 (-1 : Int32))) C iw_X5_startTree_X5 tyX5 tyX5_ok nmX5 2 rfl rfl 5 (by decide) lk_X5_startTree_28 rfl rfl rfl rfl rfl (Nat.le_of_ble_eq_true rfl) rfl dX5_startTree_2 ?_
  refine mv_nm (f := wA cA a) (fun u1 eu1 => ?_)
  have hw := hw u1 eu1
  refine mv_aload_n C dX5_startTree_5 rfl 0 rfl ?_
  refine mv_get (v := .int (u1.1 1)) C iw_X5_startTree_X5 2 rfl rfl 4 (by decide) lk_X5_startTree_24 rfl rfl dX5_startTree_6 ?_
  refine mv_topi (fun y2 ey2 => ?_)
  have hw := hw y2 ey2
  exact mv_iret C dX5_startTree_9 hw
set_option maxHeartbeats 4000000 in
set_option maxRecDepth 100000 in
theorem X4_roundOf_met (hlev : 0 ≤ lev) {x1 : Int32} {u : mS} {post : Int32 → mS → Prop} (hw : wp_X4_roundOf x1 u post) : mKi l yX4_roundOf wsX4_roundOf lev (eA a) (dC, dI) vwCl [(cA, .int)] (wA cA a) [.ref (a 18), .int x1] u post := by
  refine mKi_of (cc := cX4_roundOf) (maxL := 2) (by decide) rfl rfl (Nat.le_of_ble_eq_true rfl) rfl ?_
  intro p e s m args below meth c A C hs
  unfold wp_X4_roundOf at hw
  refine mv_iload_n C dX4_roundOf_0 rfl 1 rfl ?_
  refine mv_if_lt (tgt := 26) C dX4_roundOf_1 (by decide) (fun h1 => ?_) (fun h1 => ?_)
  · have hw := hw.1 h1
    refine mv_iconst (v := (0 : Int32)) C dX4_roundOf_26 (by decide) ?_
    exact mv_iret C dX4_roundOf_27 hw
  · have hw := hw.2 h1
    refine mv_iload_n C dX4_roundOf_4 rfl 1 rfl ?_
    refine mv_aload_n C dX4_roundOf_5 rfl 0 rfl ?_
    refine mv_get (v := .int (u.1 15)) C iw_X4_roundOf_X4 18 rfl rfl 3 (by decide) lk_X4_roundOf_21 rfl rfl dX4_roundOf_6 ?_
    refine mv_topi (fun y2 ey2 => ?_)
    have hw := hw y2 ey2
    refine mv_icmp_ge (tgt := 26) C dX4_roundOf_9 (by decide) (fun h3 => ?_) (fun h3 => ?_)
    · have hw := hw.1 h3
      refine mv_iconst (v := (0 : Int32)) C dX4_roundOf_26 (by decide) ?_
      exact mv_iret C dX4_roundOf_27 hw
    · have hw := hw.2 h3
      refine mv_iload_n C dX4_roundOf_12 rfl 1 rfl ?_
      refine mv_iconst (v := (2 : Int32)) C dX4_roundOf_13 (by decide) ?_
      refine mv_icmp_ge (tgt := 26) C dX4_roundOf_14 (by decide) (fun h4 => ?_) (fun h4 => ?_)
      · have hw := hw.1 h4
        refine mv_iconst (v := (0 : Int32)) C dX4_roundOf_26 (by decide) ?_
        exact mv_iret C dX4_roundOf_27 hw
      · have hw := hw.2 h4
        refine mv_aload_n C dX4_roundOf_17 rfl 0 rfl ?_
        refine mv_get (v := .ref (a 20)) C iw_X4_roundOf_X4 18 rfl rfl 1 (by decide) lk_X4_roundOf_15 rfl rfl dX4_roundOf_18 ?_
        refine mv_iload_n C dX4_roundOf_21 rfl 1 rfl ?_
        refine mv_iald (f := u.2 11) C 20 0 rfl rfl hw.1 dX4_roundOf_22 ?_
        refine mv_topi (fun y5 ey5 => ?_)
        have hw := hw.2 y5 ey5
        refine mv_goto (tgt := 27) C dX4_roundOf_23 (by decide) ?_
        exact mv_iret C dX4_roundOf_27 hw
set_option maxHeartbeats 4000000 in
set_option maxRecDepth 100000 in
theorem wj_X1_matchOf_134_ok (C : mC p s m args meth c cX1_matchOf 9 wsX1_matchOf RX1 (some .int) (dC, dI) vwCl [(cA, .int)] A) (hs : eA a A s) (hlev : 1 ≤ lev) {post : Int32 → mS → Prop} {K17 : Int32 → Int32 → Int32 → Int32 → Int32 → Int32 → mS → Prop} (hK17 : ∀ (x1 x2 x3 x4 x5 x6 : Int32) (u : mS), K17 x1 x2 x3 x4 x5 x6 u → mV p l e (mRm lev) s m args below meth c 9 (dC, dI) vwCl A 0 0 (mQi below args s (dC, dI) vwCl [(cA, .int)] (wA cA a) A post) (wA cA a u) 17 [(0, .ref (a 17)), (1, .int x1), (2, .int x2), (3, .int x3), (4, .int x4), (5, .int x5), (6, .int x6)] []) {x1 x2 x3 x4 x5 x6 : Int32} {u : mS} (hw : wj_X1_matchOf_134 K17 post x1 x2 x3 x4 x5 x6 u) : mV p l e (mRm lev) s m args below meth c 9 (dC, dI) vwCl A 0 0 (mQi below args s (dC, dI) vwCl [(cA, .int)] (wA cA a) A post) (wA cA a u) 134 [(0, .ref (a 17)), (1, .int x1), (2, .int x2), (3, .int x3), (4, .int x4), (5, .int x5), (6, .int x6)] [] := by
  unfold wj_X1_matchOf_134 at hw
  obtain ⟨y17, ey17⟩ : ∃ z : Int32, z = x6 + (1 : Int32) := ⟨_, rfl⟩
  have hw := hw y17 ey17
  refine mv_iinc (v := y17) (lv1 := [(6, .int y17), (0, .ref (a 17)), (1, .int x1), (2, .int x2), (3, .int x3), (4, .int x4), (5, .int x5)]) C dX1_matchOf_134 6 rfl (by rw [ey17]; rfl) (by decide) rfl ?_
  refine mv_goto (tgt := 17) C dX1_matchOf_137 (by decide) ?_
  refine mv_sub [1, 2, 3, 4, 5, 6, 0] rfl ?_
  exact hK17 x1 x2 x3 x4 x5 y17 u hw
set_option maxHeartbeats 4000000 in
set_option maxRecDepth 100000 in
theorem wj_X1_matchOf_140_ok (C : mC p s m args meth c cX1_matchOf 9 wsX1_matchOf RX1 (some .int) (dC, dI) vwCl [(cA, .int)] A) (hs : eA a A s) (hlev : 1 ≤ lev) {post : Int32 → mS → Prop} {x4 : Int32} {u : mS} (hw : wj_X1_matchOf_140 post x4 u) : mV p l e (mRm lev) s m args below meth c 9 (dC, dI) vwCl A 0 0 (mQi below args s (dC, dI) vwCl [(cA, .int)] (wA cA a) A post) (wA cA a u) 140 [(4, .int x4)] [] := by
  unfold wj_X1_matchOf_140 at hw
  refine mv_iload C dX1_matchOf_140 0 rfl ?_
  exact mv_iret C dX1_matchOf_142 hw
set_option maxHeartbeats 4000000 in
set_option maxRecDepth 100000 in
theorem wj_X1_matchOf_120_ok (C : mC p s m args meth c cX1_matchOf 9 wsX1_matchOf RX1 (some .int) (dC, dI) vwCl [(cA, .int)] A) (hs : eA a A s) (hlev : 1 ≤ lev) {post : Int32 → mS → Prop} {K17 : Int32 → Int32 → Int32 → Int32 → Int32 → Int32 → mS → Prop} (hK17 : ∀ (x1 x2 x3 x4 x5 x6 : Int32) (u : mS), K17 x1 x2 x3 x4 x5 x6 u → mV p l e (mRm lev) s m args below meth c 9 (dC, dI) vwCl A 0 0 (mQi below args s (dC, dI) vwCl [(cA, .int)] (wA cA a) A post) (wA cA a u) 17 [(0, .ref (a 17)), (1, .int x1), (2, .int x2), (3, .int x3), (4, .int x4), (5, .int x5), (6, .int x6)] []) {x1 x2 x3 x4 x5 x6 : Int32} {u : mS} (hw : wj_X1_matchOf_120 K17 post x1 x2 x3 x4 x5 x6 u) : mV p l e (mRm lev) s m args below meth c 9 (dC, dI) vwCl A 0 0 (mQi below args s (dC, dI) vwCl [(cA, .int)] (wA cA a) A post) (wA cA a u) 120 [(0, .ref (a 17)), (1, .int x1), (2, .int x2), (3, .int x3), (4, .int x4), (5, .int x5), (6, .int x6)] [] := by
  unfold wj_X1_matchOf_120 at hw
  refine mv_iload_n C dX1_matchOf_120 rfl 3 rfl ?_
  refine mv_iload_n C dX1_matchOf_121 rfl 1 rfl ?_
  refine mv_icmp_lt (tgt := 128) C dX1_matchOf_122 (by decide) (fun h23 => ?_) (fun h23 => ?_)
  · have hw := hw.1 h23
    obtain ⟨y24, ey24⟩ : ∃ z : Int32, z = x3 + (1 : Int32) := ⟨_, rfl⟩
    have hw := hw y24 ey24
    refine mv_iinc (v := y24) (lv1 := [(3, .int y24), (0, .ref (a 17)), (1, .int x1), (2, .int x2), (4, .int x4), (5, .int x5), (6, .int x6)]) C dX1_matchOf_128 3 rfl (by rw [ey24]; rfl) (by decide) rfl ?_
    obtain ⟨y25, ey25⟩ : ∃ z : Int32, z = x4 + (1 : Int32) := ⟨_, rfl⟩
    have hw := hw y25 ey25
    refine mv_iinc (v := y25) (lv1 := [(4, .int y25), (3, .int y24), (0, .ref (a 17)), (1, .int x1), (2, .int x2), (5, .int x5), (6, .int x6)]) C dX1_matchOf_131 4 rfl (by rw [ey25]; rfl) (by decide) rfl ?_
    refine mv_sub [2, 3, 4, 1, 0, 5, 6] rfl ?_
    exact wj_X1_matchOf_134_ok C hs hlev hK17 hw
  · have hw := hw.2 h23
    refine mv_goto (tgt := 140) C dX1_matchOf_125 (by decide) ?_
    refine mv_sub [4] rfl ?_
    exact wj_X1_matchOf_140_ok C hs hlev hw
set_option maxHeartbeats 4000000 in
set_option maxRecDepth 100000 in
theorem wj_X1_matchOf_93_ok (C : mC p s m args meth c cX1_matchOf 9 wsX1_matchOf RX1 (some .int) (dC, dI) vwCl [(cA, .int)] A) (hs : eA a A s) (hlev : 1 ≤ lev) {post : Int32 → mS → Prop} {K93 : Int32 → Int32 → Int32 → Int32 → Int32 → Int32 → Int32 → Int32 → mS → Prop} (hK93 : ∀ (x1 x2 x3 x4 x5 x6 x7 x8 : Int32) (u : mS), K93 x1 x2 x3 x4 x5 x6 x7 x8 u → mV p l e (mRm lev) s m args below meth c 9 (dC, dI) vwCl A 0 0 (mQi below args s (dC, dI) vwCl [(cA, .int)] (wA cA a) A post) (wA cA a u) 93 [(0, .ref (a 17)), (1, .int x1), (2, .int x2), (3, .int x3), (4, .int x4), (5, .int x5), (6, .int x6), (7, .int x7), (8, .int x8)] []) {K17 : Int32 → Int32 → Int32 → Int32 → Int32 → Int32 → mS → Prop} (hK17 : ∀ (x1 x2 x3 x4 x5 x6 : Int32) (u : mS), K17 x1 x2 x3 x4 x5 x6 u → mV p l e (mRm lev) s m args below meth c 9 (dC, dI) vwCl A 0 0 (mQi below args s (dC, dI) vwCl [(cA, .int)] (wA cA a) A post) (wA cA a u) 17 [(0, .ref (a 17)), (1, .int x1), (2, .int x2), (3, .int x3), (4, .int x4), (5, .int x5), (6, .int x6)] []) {x1 x2 x3 x4 x5 x6 x7 x8 : Int32} {u : mS} (hw : wj_X1_matchOf_93 K93 K17 post x1 x2 x3 x4 x5 x6 x7 x8 u) : mV p l e (mRm lev) s m args below meth c 9 (dC, dI) vwCl A 0 0 (mQi below args s (dC, dI) vwCl [(cA, .int)] (wA cA a) A post) (wA cA a u) 93 [(0, .ref (a 17)), (1, .int x1), (2, .int x2), (3, .int x3), (4, .int x4), (5, .int x5), (6, .int x6), (7, .int x7), (8, .int x8)] [] := by
  unfold wj_X1_matchOf_93 at hw
  refine mv_iload C dX1_matchOf_93 8 rfl ?_
  refine mv_iload C dX1_matchOf_95 7 rfl ?_
  refine mv_icmp_ge (tgt := 117) C dX1_matchOf_97 (by decide) (fun h18 => ?_) (fun h18 => ?_)
  · have hw := hw.1 h18
    obtain ⟨y19, ey19⟩ : ∃ z : Int32, z = x5 + (1 : Int32) := ⟨_, rfl⟩
    have hw := hw y19 ey19
    refine mv_iinc (v := y19) (lv1 := [(5, .int y19), (0, .ref (a 17)), (1, .int x1), (2, .int x2), (3, .int x3), (4, .int x4), (6, .int x6), (7, .int x7), (8, .int x8)]) C dX1_matchOf_117 5 rfl (by rw [ey19]; rfl) (by decide) rfl ?_
    refine mv_sub [1, 2, 3, 4, 5, 0, 6] rfl ?_
    exact wj_X1_matchOf_120_ok C hs hlev hK17 hw
  · have hw := hw.2 h18
    refine mv_aload_n C dX1_matchOf_100 rfl 0 rfl ?_
    refine mv_get (v := .ref (a 2)) C iw_X1_matchOf_X1 17 rfl rfl 0 (by decide) lk_X1_matchOf_18 rfl rfl dX1_matchOf_101 ?_
    refine mv_iload C dX1_matchOf_104 4 rfl ?_
    refine mv_callVi (f := wA cA a) (As := [.int x4]) (rest := []) C (eA_ok a) hs 2 rfl rfl (X5_after_met (l := l) (lev := lev - 1) (by omega) hw) (cwV 1 C.2.2.2.2.1 gX1_matchOf_X5_after rfl rfl rfl (by decide +kernel) (mRm_le (by omega) (by decide))) rfl rfl (Nat.le_of_ble_eq_true rfl) dX1_matchOf_106 ⟨Nat.le_refl 0, Nat.le_refl 0⟩ (fun r20 u21 hw => ?_)
    refine mv_istore (lv1 := [(4, .int r20), (0, .ref (a 17)), (1, .int x1), (2, .int x2), (3, .int x3), (5, .int x5), (6, .int x6), (7, .int x7), (8, .int x8)]) C dX1_matchOf_109 (by decide) rfl ?_
    obtain ⟨y22, ey22⟩ : ∃ z : Int32, z = x8 + (1 : Int32) := ⟨_, rfl⟩
    have hw := hw y22 ey22
    refine mv_iinc (v := y22) (lv1 := [(8, .int y22), (4, .int r20), (0, .ref (a 17)), (1, .int x1), (2, .int x2), (3, .int x3), (5, .int x5), (6, .int x6), (7, .int x7)]) C dX1_matchOf_111 8 rfl (by rw [ey22]; rfl) (by decide) rfl ?_
    refine mv_goto (tgt := 93) C dX1_matchOf_114 (by decide) ?_
    refine mv_sub [2, 3, 4, 5, 1, 6, 7, 8, 0] rfl ?_
    exact hK93 x1 x2 x3 r20 x5 x6 x7 y22 u21 hw
set_option maxHeartbeats 4000000 in
set_option maxRecDepth 100000 in
theorem wj_X1_matchOf_17_ok (C : mC p s m args meth c cX1_matchOf 9 wsX1_matchOf RX1 (some .int) (dC, dI) vwCl [(cA, .int)] A) (hs : eA a A s) (hlev : 1 ≤ lev) {post : Int32 → mS → Prop} {K17 : Int32 → Int32 → Int32 → Int32 → Int32 → Int32 → mS → Prop} (hK17 : ∀ (x1 x2 x3 x4 x5 x6 : Int32) (u : mS), K17 x1 x2 x3 x4 x5 x6 u → mV p l e (mRm lev) s m args below meth c 9 (dC, dI) vwCl A 0 0 (mQi below args s (dC, dI) vwCl [(cA, .int)] (wA cA a) A post) (wA cA a u) 17 [(0, .ref (a 17)), (1, .int x1), (2, .int x2), (3, .int x3), (4, .int x4), (5, .int x5), (6, .int x6)] []) {x1 x2 x3 x4 x5 x6 : Int32} {u : mS} (hw : wj_X1_matchOf_17 K17 post x1 x2 x3 x4 x5 x6 u) : mV p l e (mRm lev) s m args below meth c 9 (dC, dI) vwCl A 0 0 (mQi below args s (dC, dI) vwCl [(cA, .int)] (wA cA a) A post) (wA cA a u) 17 [(0, .ref (a 17)), (1, .int x1), (2, .int x2), (3, .int x3), (4, .int x4), (5, .int x5), (6, .int x6)] [] := by
  unfold wj_X1_matchOf_17 at hw
  refine mv_iload C dX1_matchOf_17 6 rfl ?_
  refine mv_ldc (v := (1000000 : Int32)) C mw_X1_matchOf__constant_RX1_45_1000000_Int32_ dX1_matchOf_19 ?_
  refine mv_icmp_ge (tgt := 140) C dX1_matchOf_21 (by decide) (fun h3 => ?_) (fun h3 => ?_)
  · have hw := hw.1 h3
    refine mv_sub [4] rfl ?_
    exact wj_X1_matchOf_140_ok C hs hlev hw
  · have hw := hw.2 h3
    refine mv_aload_n C dX1_matchOf_24 rfl 0 rfl ?_
    refine mv_get (v := .ref (a 2)) C iw_X1_matchOf_X1 17 rfl rfl 0 (by decide) lk_X1_matchOf_18 rfl rfl dX1_matchOf_25 ?_
    refine mv_iload_n C dX1_matchOf_28 rfl 3 rfl ?_
    refine mv_callVi (f := wA cA a) (As := [.int x3]) (rest := []) C (eA_ok a) hs 2 rfl rfl (X5_after_met (l := l) (lev := lev - 1) (by omega) hw) (cwV 1 C.2.2.2.2.1 gX1_matchOf_X5_after rfl rfl rfl (by decide +kernel) (mRm_le (by omega) (by decide))) rfl rfl (Nat.le_of_ble_eq_true rfl) dX1_matchOf_29 ⟨Nat.le_refl 0, Nat.le_refl 0⟩ (fun r4 u5 hw => ?_)
    refine mv_iload_n C dX1_matchOf_32 rfl 1 rfl ?_
    refine mv_icmp_gt (tgt := 59) C dX1_matchOf_33 (by decide) (fun h6 => ?_) (fun h6 => ?_)
    · have hw := hw.1 h6
      refine mv_aload_n C dX1_matchOf_59 rfl 0 rfl ?_
      refine mv_get (v := .ref (a 2)) C iw_X1_matchOf_X1 17 rfl rfl 0 (by decide) lk_X1_matchOf_18 rfl rfl dX1_matchOf_60 ?_
      refine mv_iload_n C dX1_matchOf_63 rfl 3 rfl ?_
      refine mv_callVi (f := wA cA a) (As := [.int x3]) (rest := []) C (eA_ok a) hs 2 rfl rfl (X5_isHeld_met (l := l) (lev := lev - 1) (by omega) hw) (cwV 1 C.2.2.2.2.1 gX1_matchOf_X5_isHeld rfl rfl rfl (by decide +kernel) (mRm_le (by omega) (by decide))) rfl rfl (Nat.le_of_ble_eq_true rfl) dX1_matchOf_64 ⟨Nat.le_refl 0, Nat.le_refl 0⟩ (fun r7 u8 hw => ?_)
      obtain ⟨gr7, hw⟩ := hw
      refine mv_if_eq (tgt := 120) C dX1_matchOf_67 (by decide) (fun h9 => ?_) (fun h9 => ?_)
      · have hw := hw.1 h9
        exact wj_X1_matchOf_120_ok C hs hlev hK17 hw
      · have hw := hw.2 h9
        refine mv_iload C dX1_matchOf_70 5 rfl ?_
        refine mv_iload_n C dX1_matchOf_72 rfl 2 rfl ?_
        refine mv_icmp_lt (tgt := 79) C dX1_matchOf_73 (by decide) (fun h10 => ?_) (fun h10 => ?_)
        · have hw := hw.1 h10
          refine mv_aload_n C dX1_matchOf_79 rfl 0 rfl ?_
          refine mv_get (v := .ref (a 18)) C iw_X1_matchOf_X1 17 rfl rfl 2 (by decide) lk_X1_matchOf_12 rfl rfl dX1_matchOf_80 ?_
          refine mv_iload C dX1_matchOf_83 5 rfl ?_
          refine mv_callVi (f := wA cA a) (As := [.int x5]) (rest := []) C (eA_ok a) hs 18 rfl rfl (X4_roundOf_met (l := l) (lev := lev - 1) (by omega) hw) (cwV 1 C.2.2.2.2.1 gX1_matchOf_X4_roundOf rfl rfl rfl (by decide +kernel) (mRm_le (by omega) (by decide))) rfl rfl (Nat.le_of_ble_eq_true rfl) dX1_matchOf_85 ⟨Nat.le_refl 0, Nat.le_refl 0⟩ (fun r11 u12 hw => ?_)
          refine mv_istore (lv1 := [(7, .int r11), (0, .ref (a 17)), (1, .int x1), (2, .int x2), (3, .int x3), (4, .int x4), (5, .int x5), (6, .int x6)]) C dX1_matchOf_88 (by decide) rfl ?_
          refine mv_iconst (v := (0 : Int32)) C dX1_matchOf_90 (by decide) ?_
          refine mv_istore (lv1 := [(8, .int (0 : Int32)), (7, .int r11), (0, .ref (a 17)), (1, .int x1), (2, .int x2), (3, .int x3), (4, .int x4), (5, .int x5), (6, .int x6)]) C dX1_matchOf_91 (by decide) rfl ?_
          refine mv_sub [2, 3, 4, 5, 6, 7, 8, 1, 0] rfl ?_
          obtain ⟨n, hw⟩ := hw
          exact mL9_of (fun K hK b0 b1 b2 b3 b4 b5 b6 b7 b8 hw => wj_X1_matchOf_93_ok C hs hlev hK hK17 hw) n x1 x2 x3 x4 x5 x6 r11 (0 : Int32) u12 hw
        · have hw := hw.2 h10
          refine mv_goto (tgt := 140) C dX1_matchOf_76 (by decide) ?_
          refine mv_sub [4] rfl ?_
          exact wj_X1_matchOf_140_ok C hs hlev hw
    · have hw := hw.2 h6
      refine mv_aload_n C dX1_matchOf_36 rfl 0 rfl ?_
      refine mv_get (v := .ref (a 2)) C iw_X1_matchOf_X1 17 rfl rfl 0 (by decide) lk_X1_matchOf_18 rfl rfl dX1_matchOf_37 ?_
      refine mv_iload_n C dX1_matchOf_40 rfl 3 rfl ?_
      refine mv_callVi (f := wA cA a) (As := [.int x3]) (rest := []) C (eA_ok a) hs 2 rfl rfl (X5_after_met (l := l) (lev := lev - 1) (by omega) hw) (cwV 1 C.2.2.2.2.1 gX1_matchOf_X5_after rfl rfl rfl (by decide +kernel) (mRm_le (by omega) (by decide))) rfl rfl (Nat.le_of_ble_eq_true rfl) dX1_matchOf_41 ⟨Nat.le_refl 0, Nat.le_refl 0⟩ (fun r13 u14 hw => ?_)
      refine mv_istore_n (lv1 := [(3, .int r13), (0, .ref (a 17)), (1, .int x1), (2, .int x2), (4, .int x4), (5, .int x5), (6, .int x6)]) C dX1_matchOf_44 rfl (by decide) rfl ?_
      refine mv_aload_n C dX1_matchOf_45 rfl 1 rfl ?_
      refine mv_get (v := .ref (a 2)) C iw_X1_matchOf_X1 17 rfl rfl 0 (by decide) lk_X1_matchOf_18 rfl rfl dX1_matchOf_46 ?_
      refine mv_iload C dX1_matchOf_49 4 rfl ?_
      refine mv_callVi (f := wA cA a) (As := [.int x4]) (rest := []) C (eA_ok a) hs 2 rfl rfl (X5_after_met (l := l) (lev := lev - 1) (by omega) hw) (cwV 1 C.2.2.2.2.1 gX1_matchOf_X5_after rfl rfl rfl (by decide +kernel) (mRm_le (by omega) (by decide))) rfl rfl (Nat.le_of_ble_eq_true rfl) dX1_matchOf_51 ⟨Nat.le_refl 0, Nat.le_refl 0⟩ (fun r15 u16 hw => ?_)
      refine mv_istore (lv1 := [(4, .int r15), (3, .int r13), (0, .ref (a 17)), (1, .int x1), (2, .int x2), (5, .int x5), (6, .int x6)]) C dX1_matchOf_54 (by decide) rfl ?_
      refine mv_goto (tgt := 134) C dX1_matchOf_56 (by decide) ?_
      refine mv_sub [2, 3, 4, 1, 0, 5, 6] rfl ?_
      exact wj_X1_matchOf_134_ok C hs hlev hK17 hw
set_option maxHeartbeats 4000000 in
set_option maxRecDepth 100000 in
theorem X1_matchOf_met (hlev : 1 ≤ lev) {x1 x2 : Int32} {u : mS} {post : Int32 → mS → Prop} (hw : wp_X1_matchOf x1 x2 u post) : mKi l yX1_matchOf wsX1_matchOf lev (eA a) (dC, dI) vwCl [(cA, .int)] (wA cA a) [.ref (a 17), .int x1, .int x2] u post := by
  refine mKi_of (cc := cX1_matchOf) (maxL := 9) (by decide) rfl rfl (Nat.le_of_ble_eq_true rfl) rfl ?_
  intro p e s m args below meth c A C hs
  unfold wp_X1_matchOf at hw
  refine mv_aload_n C dX1_matchOf_0 rfl 0 rfl ?_
  refine mv_get (v := .int (u.1 12)) C iw_X1_matchOf_X1 17 rfl rfl 3 (by decide) lk_X1_matchOf_72 rfl rfl dX1_matchOf_1 ?_
  refine mv_topi (fun y1 ey1 => ?_)
  have hw := hw y1 ey1
  refine mv_istore_n (lv1 := [(3, .int y1), (0, .ref (a 17)), (1, .int x1), (2, .int x2)]) C dX1_matchOf_4 rfl (by decide) rfl ?_
  refine mv_aload_n C dX1_matchOf_5 rfl 1 rfl ?_
  refine mv_get (v := .int (u.1 13)) C iw_X1_matchOf_X1 17 rfl rfl 4 (by decide) lk_X1_matchOf_76 rfl rfl dX1_matchOf_6 ?_
  refine mv_topi (fun y2 ey2 => ?_)
  have hw := hw y2 ey2
  refine mv_istore (lv1 := [(4, .int y2), (3, .int y1), (0, .ref (a 17)), (1, .int x1), (2, .int x2)]) C dX1_matchOf_9 (by decide) rfl ?_
  refine mv_iconst (v := (0 : Int32)) C dX1_matchOf_11 (by decide) ?_
  refine mv_istore (lv1 := [(5, .int (0 : Int32)), (4, .int y2), (3, .int y1), (0, .ref (a 17)), (1, .int x1), (2, .int x2)]) C dX1_matchOf_12 (by decide) rfl ?_
  refine mv_iconst (v := (0 : Int32)) C dX1_matchOf_14 (by decide) ?_
  refine mv_istore (lv1 := [(6, .int (0 : Int32)), (5, .int (0 : Int32)), (4, .int y2), (3, .int y1), (0, .ref (a 17)), (1, .int x1), (2, .int x2)]) C dX1_matchOf_15 (by decide) rfl ?_
  refine mv_sub [4, 5, 6, 3, 2, 1, 0] rfl ?_
  obtain ⟨n, hw⟩ := hw
  exact mL7_of (fun K hK b0 b1 b2 b3 b4 b5 b6 hw => wj_X1_matchOf_17_ok C hs hlev hK hw) n x1 x2 y1 y2 (0 : Int32) (0 : Int32) u hw
set_option maxHeartbeats 4000000 in
set_option maxRecDepth 100000 in
theorem wj_X1_roundsFor_81_ok (C : mC p s m args meth c cX1_roundsFor 7 wsX1_roundsFor RX1 (some .int) (dC, dI) vwCl [(cA, .int)] A) (hs : eA a A s) (hlev : 2 ≤ lev) {post : Int32 → mS → Prop} {K14 : Int32 → Int32 → Int32 → mS → Prop} (hK14 : ∀ (x2 x3 x4 : Int32) (u : mS), K14 x2 x3 x4 u → mV p l e (mRm lev) s m args below meth c 7 (dC, dI) vwCl A 0 0 (mQi below args s (dC, dI) vwCl [(cA, .int)] (wA cA a) A post) (wA cA a u) 14 [(0, .ref (a 17)), (2, .int x2), (3, .int x3), (4, .int x4)] []) {x2 x3 x4 : Int32} {u : mS} (hw : wj_X1_roundsFor_81 K14 post x2 x3 x4 u) : mV p l e (mRm lev) s m args below meth c 7 (dC, dI) vwCl A 0 0 (mQi below args s (dC, dI) vwCl [(cA, .int)] (wA cA a) A post) (wA cA a u) 81 [(0, .ref (a 17)), (2, .int x2), (3, .int x3), (4, .int x4)] [] := by
  unfold wj_X1_roundsFor_81 at hw
  obtain ⟨y17, ey17⟩ : ∃ z : Int32, z = x4 + (1 : Int32) := ⟨_, rfl⟩
  have hw := hw y17 ey17
  refine mv_iinc (v := y17) (lv1 := [(4, .int y17), (0, .ref (a 17)), (2, .int x2), (3, .int x3)]) C dX1_roundsFor_81 3 rfl (by rw [ey17]; rfl) (by decide) rfl ?_
  refine mv_goto (tgt := 14) C dX1_roundsFor_84 (by decide) ?_
  refine mv_sub [1, 2, 3, 0] rfl ?_
  exact hK14 x2 x3 y17 u hw
set_option maxHeartbeats 4000000 in
set_option maxRecDepth 100000 in
theorem wj_X1_roundsFor_78_ok (C : mC p s m args meth c cX1_roundsFor 7 wsX1_roundsFor RX1 (some .int) (dC, dI) vwCl [(cA, .int)] A) (hs : eA a A s) (hlev : 2 ≤ lev) {post : Int32 → mS → Prop} {K14 : Int32 → Int32 → Int32 → mS → Prop} (hK14 : ∀ (x2 x3 x4 : Int32) (u : mS), K14 x2 x3 x4 u → mV p l e (mRm lev) s m args below meth c 7 (dC, dI) vwCl A 0 0 (mQi below args s (dC, dI) vwCl [(cA, .int)] (wA cA a) A post) (wA cA a u) 14 [(0, .ref (a 17)), (2, .int x2), (3, .int x3), (4, .int x4)] []) {x3 x4 x6 : Int32} {u : mS} (hw : wj_X1_roundsFor_78 K14 post x3 x4 x6 u) : mV p l e (mRm lev) s m args below meth c 7 (dC, dI) vwCl A 0 0 (mQi below args s (dC, dI) vwCl [(cA, .int)] (wA cA a) A post) (wA cA a u) 78 [(0, .ref (a 17)), (3, .int x3), (4, .int x4), (6, .int x6)] [] := by
  unfold wj_X1_roundsFor_78 at hw
  refine mv_iload C dX1_roundsFor_78 3 rfl ?_
  refine mv_istore_n (lv1 := [(2, .int x6), (0, .ref (a 17)), (3, .int x3), (4, .int x4), (6, .int x6)]) C dX1_roundsFor_80 rfl (by decide) rfl ?_
  refine mv_sub [1, 0, 2, 3] rfl ?_
  exact wj_X1_roundsFor_81_ok C hs hlev hK14 hw
set_option maxHeartbeats 4000000 in
set_option maxRecDepth 100000 in
theorem wj_X1_roundsFor_14_ok (C : mC p s m args meth c cX1_roundsFor 7 wsX1_roundsFor RX1 (some .int) (dC, dI) vwCl [(cA, .int)] A) (hs : eA a A s) (hlev : 2 ≤ lev) {post : Int32 → mS → Prop} {K14 : Int32 → Int32 → Int32 → mS → Prop} (hK14 : ∀ (x2 x3 x4 : Int32) (u : mS), K14 x2 x3 x4 u → mV p l e (mRm lev) s m args below meth c 7 (dC, dI) vwCl A 0 0 (mQi below args s (dC, dI) vwCl [(cA, .int)] (wA cA a) A post) (wA cA a u) 14 [(0, .ref (a 17)), (2, .int x2), (3, .int x3), (4, .int x4)] []) {x2 x3 x4 : Int32} {u : mS} (hw : wj_X1_roundsFor_14 K14 post x2 x3 x4 u) : mV p l e (mRm lev) s m args below meth c 7 (dC, dI) vwCl A 0 0 (mQi below args s (dC, dI) vwCl [(cA, .int)] (wA cA a) A post) (wA cA a u) 14 [(0, .ref (a 17)), (2, .int x2), (3, .int x3), (4, .int x4)] [] := by
  unfold wj_X1_roundsFor_14 at hw
  refine mv_iload C dX1_roundsFor_14 3 rfl ?_
  refine mv_iload_n C dX1_roundsFor_16 rfl 2 rfl ?_
  refine mv_icmp_ge (tgt := 87) C dX1_roundsFor_17 (by decide) (fun h3 => ?_) (fun h3 => ?_)
  · have hw := hw.1 h3
    refine mv_iload_n C dX1_roundsFor_87 rfl 1 rfl ?_
    refine mv_iconst (v := (0 : Int32)) C dX1_roundsFor_88 (by decide) ?_
    refine mv_mmax C ml_X1_roundsFor_111 ms_X1_roundsFor_max mi_X1_roundsFor_Math mc_X1_roundsFor_max (by show 1 ≤ lev; omega) (by show _ ≤ 64 * lev; exact Nat.le_trans (Nat.le_of_ble_eq_true rfl : _ ≤ 64) (by omega)) (Nat.le_refl 0) (Nat.le_refl 0) dX1_roundsFor_89 ?_
    refine mv_topi (fun y4 ey4 => ?_)
    have hw := hw y4 ey4
    exact mv_iret C dX1_roundsFor_92 hw
  · have hw := hw.2 h3
    refine mv_aload_n C dX1_roundsFor_20 rfl 0 rfl ?_
    refine mv_get (v := .ref (a 2)) C iw_X1_roundsFor_X1 17 rfl rfl 0 (by decide) lk_X1_roundsFor_18 rfl rfl dX1_roundsFor_21 ?_
    refine mv_iload C dX1_roundsFor_24 3 rfl ?_
    refine mv_callVi (f := wA cA a) (As := [.int x4]) (rest := []) C (eA_ok a) hs 2 rfl rfl (X5_variableAt_met (l := l) (lev := lev - 1) (by omega) hw) (cwV 1 C.2.2.2.2.1 gX1_roundsFor_X5_variableAt rfl rfl rfl (by decide +kernel) (mRm_le (by omega) (by decide))) rfl rfl (Nat.le_of_ble_eq_true rfl) dX1_roundsFor_26 ⟨Nat.le_refl 0, Nat.le_refl 0⟩ (fun r5 u6 hw => ?_)
    refine mv_istore (lv1 := [(5, .int r5), (0, .ref (a 17)), (2, .int x2), (3, .int x3), (4, .int x4)]) C dX1_roundsFor_29 (by decide) rfl ?_
    refine mv_iload C dX1_roundsFor_31 0 rfl ?_
    refine mv_if_lt (tgt := 81) C dX1_roundsFor_33 (by decide) (fun h7 => ?_) (fun h7 => ?_)
    · have hw := hw.1 h7
      refine mv_sub [1, 2, 3, 4] rfl ?_
      exact wj_X1_roundsFor_81_ok C hs hlev hK14 hw
    · have hw := hw.2 h7
      refine mv_aload_n C dX1_roundsFor_36 rfl 1 rfl ?_
      refine mv_get (v := .ref (a 2)) C iw_X1_roundsFor_X1 17 rfl rfl 0 (by decide) lk_X1_roundsFor_18 rfl rfl dX1_roundsFor_37 ?_
      refine mv_aload_n C dX1_roundsFor_40 rfl 1 rfl ?_
      refine mv_iload C dX1_roundsFor_41 0 rfl ?_
      refine mv_aload_n C dX1_roundsFor_43 rfl 1 rfl ?_
      refine mv_get (v := .ref (a 18)) C iw_X1_roundsFor_X1 17 rfl rfl 2 (by decide) lk_X1_roundsFor_12 rfl rfl dX1_roundsFor_44 ?_
      refine mv_getN (v := .int (u6.1 15)) C iw_X1_roundsFor_X4 18 rfl rfl 3 (by decide) (hs.1 _ nw_7) rfl rfl dX1_roundsFor_47 ?_
      refine mv_topi (fun y8 ey8 => ?_)
      have hw := hw y8 ey8
      refine mv_callVi (f := wA cA a) (As := [.int r5, .int y8]) (rest := [.ref (a 2)]) C (eA_ok a) hs 17 rfl rfl (X1_matchOf_met (l := l) (lev := lev - 1) (by omega) hw) (cwV 2 C.2.2.2.2.1 gX1_roundsFor_X1_matchOf rfl rfl rfl (by decide +kernel) (mRm_le (by omega) (by decide))) rfl rfl (Nat.le_of_ble_eq_true rfl) dX1_roundsFor_50 ⟨Nat.le_refl 0, Nat.le_refl 0⟩ (fun r9 u10 hw => ?_)
      refine mv_callVi (f := wA cA a) (As := [.int r9]) (rest := []) C (eA_ok a) hs 2 rfl rfl (X5_itemsFrom_met (l := l) (lev := lev - 1) (by omega) hw) (cwV 1 C.2.2.2.2.1 gX1_roundsFor_X5_itemsFrom rfl rfl rfl (by decide +kernel) (mRm_le (by omega) (by decide))) rfl rfl (Nat.le_of_ble_eq_true rfl) dX1_roundsFor_53 ⟨Nat.le_refl 0, Nat.le_refl 0⟩ (fun r11 u12 hw => ?_)
      refine mv_istore (lv1 := [(6, .int r11), (5, .int r5), (0, .ref (a 17)), (2, .int x2), (3, .int x3), (4, .int x4)]) C dX1_roundsFor_56 (by decide) rfl ?_
      refine mv_iload_n C dX1_roundsFor_58 rfl 3 rfl ?_
      refine mv_if_lt (tgt := 78) C dX1_roundsFor_59 (by decide) (fun h13 => ?_) (fun h13 => ?_)
      · have hw := hw.1 h13
        refine mv_sub [2, 4, 5, 0] rfl ?_
        exact wj_X1_roundsFor_78_ok C hs hlev hK14 hw
      · have hw := hw.2 h13
        refine mv_iload_n C dX1_roundsFor_62 rfl 3 rfl ?_
        refine mv_iload C dX1_roundsFor_63 0 rfl ?_
        refine mv_icmp_eq (tgt := 78) C dX1_roundsFor_65 (by decide) (fun h14 => ?_) (fun h14 => ?_)
        · have hw := hw.1 h14
          refine mv_sub [2, 4, 5, 0] rfl ?_
          exact wj_X1_roundsFor_78_ok C hs hlev hK14 hw
        · have hw := hw.2 h14
          refine mv_aload_n C dX1_roundsFor_68 rfl 2 rfl ?_
          refine mv_get (v := .ref (a 14)) C iw_X1_roundsFor_X1 17 rfl rfl 1 (by decide) lk_X1_roundsFor_22 rfl rfl dX1_roundsFor_69 ?_
          refine mv_iconst (v := (4 : Int32)) C dX1_roundsFor_72 (by decide) ?_
          refine mv_callVv (f := wA cA a) (As := [.int (4 : Int32)]) (rest := []) C (eA_ok a) hs 14 rfl rfl (X2_fail_met (l := l) (lev := lev - 1) (by omega) hw) (cwV 1 C.2.2.2.2.1 gX1_roundsFor_X2_fail rfl rfl rfl (by decide +kernel) (mRm_le (by omega) (by decide))) rfl rfl (Nat.le_of_ble_eq_true rfl) dX1_roundsFor_73 ⟨Nat.le_refl 0, Nat.le_refl 0⟩ (fun u16 hw => ?_)
          refine mv_iconst (v := (0 : Int32)) C dX1_roundsFor_76 (by decide) ?_
          exact mv_iret C dX1_roundsFor_77 hw
set_option maxHeartbeats 4000000 in
set_option maxRecDepth 100000 in
theorem X1_roundsFor_met (hlev : 2 ≤ lev) {x1 : Int32} {u : mS} {post : Int32 → mS → Prop} (hw : wp_X1_roundsFor x1 u post) : mKi l yX1_roundsFor wsX1_roundsFor lev (eA a) (dC, dI) vwCl [(cA, .int)] (wA cA a) [.ref (a 17), .int x1] u post := by
  refine mKi_of (cc := cX1_roundsFor) (maxL := 7) (by decide) rfl rfl (Nat.le_of_ble_eq_true rfl) rfl ?_
  intro p e s m args below meth c A C hs
  unfold wp_X1_roundsFor at hw
  refine mv_iconst (v := (-1 : Int32)) C dX1_roundsFor_0 (by decide) ?_
  refine mv_istore_n (lv1 := [(2, .int (-1 : Int32)), (0, .ref (a 17)), (1, .int x1)]) C dX1_roundsFor_1 rfl (by decide) rfl ?_
  refine mv_aload_n C dX1_roundsFor_2 rfl 1 rfl ?_
  refine mv_get (v := .ref (a 2)) C iw_X1_roundsFor_X1 17 rfl rfl 0 (by decide) lk_X1_roundsFor_18 rfl rfl dX1_roundsFor_3 ?_
  refine mv_iload_n C dX1_roundsFor_6 rfl 2 rfl ?_
  refine mv_callVi (f := wA cA a) (As := [.int x1]) (rest := []) C (eA_ok a) hs 2 rfl rfl (X5_after_met (l := l) (lev := lev - 1) (by omega) hw) (cwV 1 C.2.2.2.2.1 gX1_roundsFor_X5_after rfl rfl rfl (by decide +kernel) (mRm_le (by omega) (by decide))) rfl rfl (Nat.le_of_ble_eq_true rfl) dX1_roundsFor_7 ⟨Nat.le_refl 0, Nat.le_refl 0⟩ (fun r1 u2 hw => ?_)
  refine mv_istore_n (lv1 := [(3, .int r1), (2, .int (-1 : Int32)), (0, .ref (a 17)), (1, .int x1)]) C dX1_roundsFor_10 rfl (by decide) rfl ?_
  refine mv_iload_n C dX1_roundsFor_11 rfl 3 rfl ?_
  refine mv_istore (lv1 := [(4, .int x1), (3, .int r1), (2, .int (-1 : Int32)), (0, .ref (a 17)), (1, .int x1)]) C dX1_roundsFor_12 (by decide) rfl ?_
  refine mv_sub [3, 2, 1, 0] rfl ?_
  obtain ⟨n, hw⟩ := hw
  exact mL4_of (fun K hK b0 b1 b2 b3 hw => wj_X1_roundsFor_14_ok C hs hlev hK hw) n (-1 : Int32) r1 x1 u2 hw
set_option maxHeartbeats 4000000 in
set_option maxRecDepth 100000 in
theorem X5_closeBracket_met (hlev : 0 ≤ lev) {u : mS} {post : mS → Prop} (hw : wp_X5_closeBracket  u post) : mKv l yX5_closeBracket wsX5_closeBracket lev (eA a) (dC, dI) vwCl [(cA, .int)] (wA cA a) [.ref (a 2)] u post := by
  refine mKv_of (cc := cX5_closeBracket) (maxL := 2) (by decide) rfl rfl (Nat.le_of_ble_eq_true rfl) rfl ?_
  intro p e s m args below meth c A C hs
  unfold wp_X5_closeBracket at hw
  refine mv_aload_n C dX5_closeBracket_0 rfl 0 rfl ?_
  refine mv_get (v := .int (u.1 2)) C iw_X5_closeBracket_X5 2 rfl rfl 5 (by decide) lk_X5_closeBracket_28 rfl rfl dX5_closeBracket_1 ?_
  refine mv_topi (fun y1 ey1 => ?_)
  have hw := hw y1 ey1
  refine mv_if_lt (tgt := 17) C dX5_closeBracket_4 (by decide) (fun h2 => ?_) (fun h2 => ?_)
  · have hw := hw.1 h2
    exact mv_vret C dX5_closeBracket_17 hw
  · have hw := hw.2 h2
    refine mv_aload_n C dX5_closeBracket_7 rfl 0 rfl ?_
    refine mv_get (v := .int (u.1 2)) C iw_X5_closeBracket_X5 2 rfl rfl 5 (by decide) lk_X5_closeBracket_28 rfl rfl dX5_closeBracket_8 ?_
    refine mv_topi (fun y3 ey3 => ?_)
    have hw := hw y3 ey3
    refine mv_sipush (v := (3000 : Int32)) C dX5_closeBracket_11 (by decide) ?_
    refine mv_icmp_lt (tgt := 18) C dX5_closeBracket_14 (by decide) (fun h4 => ?_) (fun h4 => ?_)
    · have hw := hw.1 h4
      refine mv_aload_n C dX5_closeBracket_18 rfl 0 rfl ?_
      refine mv_get (v := .ref (a 5)) C iw_X5_closeBracket_X5 2 rfl rfl 2 (by decide) lk_X5_closeBracket_18 rfl rfl dX5_closeBracket_19 ?_
      refine mv_aload_n C dX5_closeBracket_22 rfl 0 rfl ?_
      refine mv_get (v := .int (u.1 2)) C iw_X5_closeBracket_X5 2 rfl rfl 5 (by decide) lk_X5_closeBracket_28 rfl rfl dX5_closeBracket_23 ?_
      refine mv_topi (fun y5 ey5 => ?_)
      have hw := hw y5 ey5
      refine mv_iald (f := u.2 3) C 5 0 rfl rfl hw.1 dX5_closeBracket_26 ?_
      refine mv_topi (fun y6 ey6 => ?_)
      have hw := hw.2 y6 ey6
      refine mv_istore_n (lv1 := [(1, .int y6), (0, .ref (a 2))]) C dX5_closeBracket_27 rfl (by decide) rfl ?_
      refine mv_aload_n C dX5_closeBracket_28 rfl 1 rfl ?_
      refine mv_get (v := .ref (a 5)) C iw_X5_closeBracket_X5 2 rfl rfl 2 (by decide) lk_X5_closeBracket_18 rfl rfl dX5_closeBracket_29 ?_
      refine mv_aload_n C dX5_closeBracket_32 rfl 1 rfl ?_
      refine mv_get (v := .int (u.1 2)) C iw_X5_closeBracket_X5 2 rfl rfl 5 (by decide) lk_X5_closeBracket_28 rfl rfl dX5_closeBracket_33 ?_
      refine mv_topi (fun y7 ey7 => ?_)
      have hw := hw y7 ey7
      refine mv_aload_n C dX5_closeBracket_36 rfl 1 rfl ?_
      refine mv_get (v := .int (u.1 1)) C iw_X5_closeBracket_X5 2 rfl rfl 4 (by decide) lk_X5_closeBracket_24 rfl rfl dX5_closeBracket_37 ?_
      refine mv_topi (fun y8 ey8 => ?_)
      have hw := hw y8 ey8
      refine mv_aload_n C dX5_closeBracket_40 rfl 1 rfl ?_
      refine mv_get (v := .int (u.1 2)) C iw_X5_closeBracket_X5 2 rfl rfl 5 (by decide) lk_X5_closeBracket_28 rfl rfl dX5_closeBracket_41 ?_
      refine mv_topi (fun y9 ey9 => ?_)
      have hw := hw y9 ey9
      refine mv_isub C dX5_closeBracket_44 ?_
      refine mv_topi (fun y10 ey10 => ?_)
      have hw := hw y10 ey10
      refine mv_iconst (v := (1 : Int32)) C dX5_closeBracket_45 (by decide) ?_
      refine mv_iadd C dX5_closeBracket_46 ?_
      refine mv_topi (fun y11 ey11 => ?_)
      have hw := hw y11 ey11
      refine mv_iast (f := u.2 3) (ws1 := wA cA a (mPut u 3 y7.toNatClampNeg y11)) C 5 0 rfl rfl hw.1 rfl dX5_closeBracket_47 ?_
      refine mv_nm (f := wA cA a) (fun u12 eu12 => ?_)
      have hw := hw.2 u12 eu12
      refine mv_aload_n C dX5_closeBracket_48 rfl 1 rfl ?_
      refine mv_iload_n C dX5_closeBracket_49 rfl 0 rfl ?_
      refine mv_put (ty := .int) (ws1 := wA cA a (mSet u12 2 y6)) C iw_X5_closeBracket_X5 tyX5 tyX5_ok nmX5 2 rfl rfl 5 (by decide) lk_X5_closeBracket_28 rfl rfl rfl rfl rfl (Nat.le_of_ble_eq_true rfl) rfl dX5_closeBracket_50 ?_
      refine mv_nm (f := wA cA a) (fun u13 eu13 => ?_)
      have hw := hw u13 eu13
      exact mv_vret C dX5_closeBracket_53 hw
    · have hw := hw.2 h4
      exact mv_vret C dX5_closeBracket_17 hw
end
