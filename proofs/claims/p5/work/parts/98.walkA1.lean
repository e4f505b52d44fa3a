set_option maxRecDepth 20000 in
theorem ggX0_expandFn_X5_after : GoodIn wsX0_expandFn wsX5_after := goodIn_r _ [8, 9, 10, 339, 340, 341, 342, 343, 344] (by decide +kernel) (by decide +kernel)
set_option maxRecDepth 20000 in
theorem gX0_expandFn_X5_after : GoodIn wsX0_expandFn (wsV RX0 136 RX5 yX5_after wsX5_after) := goodIn_app (goodIn_of _ (by decide +kernel)) ggX0_expandFn_X5_after
set_option maxRecDepth 20000 in
theorem ggX0_expandFn_X5_plainLength : GoodIn wsX0_expandFn wsX5_plainLength := goodIn_r _ [14, 15, 16, 17, 7, 18, 9, 19, 20, 21, 22, 23, 24, 25, 26, 27, 339, 340, 341, 342, 343, 344] (by decide +kernel) (by decide +kernel)
set_option maxRecDepth 20000 in
theorem gX0_expandFn_X5_plainLength : GoodIn wsX0_expandFn (wsV RX0 139 RX5 yX5_plainLength wsX5_plainLength) := goodIn_app (goodIn_of _ (by decide +kernel)) ggX0_expandFn_X5_plainLength
set_option maxRecDepth 20000 in
theorem ggX0_expandFn_X0_areNames : GoodIn wsX0_expandFn wsX0_areNames := goodIn_r _ [32, 1, 11, 12, 13, 7, 14, 15, 16, 17, 18, 9, 19, 20, 21, 22, 23, 24, 25, 26, 27, 33, 34, 35, 36, 327, 328, 329, 330, 331, 332, 333, 334, 335, 339, 340, 341, 342, 343, 344] (by decide +kernel) (by decide +kernel)
set_option maxRecDepth 20000 in
theorem gX0_expandFn_X0_areNames : GoodIn wsX0_expandFn (wsV RX0 142 RX0 yX0_areNames wsX0_areNames) := goodIn_app (goodIn_of _ (by decide +kernel)) ggX0_expandFn_X0_areNames
set_option maxRecDepth 20000 in
theorem ggX0_expandFn_X2_fail : GoodIn wsX0_expandFn wsX2_fail := goodIn_r _ [41, 42, 336, 337, 338] (by decide +kernel) (by decide +kernel)
set_option maxRecDepth 20000 in
theorem gX0_expandFn_X2_fail : GoodIn wsX0_expandFn (wsV RX0 83 RX2 yX2_fail wsX2_fail) := goodIn_app (goodIn_of _ (by decide +kernel)) ggX0_expandFn_X2_fail
set_option maxRecDepth 20000 in
theorem ggX0_expandFn_X0_newScope : GoodIn wsX0_expandFn wsX0_newScope := goodIn_r _ [46, 47, 2, 37, 38, 39, 40, 41, 42, 327, 328, 329, 330, 331, 332, 333, 334, 335, 336, 337, 338] (by decide +kernel) (by decide +kernel)
set_option maxRecDepth 20000 in
theorem gX0_expandFn_X0_newScope : GoodIn wsX0_expandFn (wsV RX0 145 RX0 yX0_newScope wsX0_newScope) := goodIn_app (goodIn_of _ (by decide +kernel)) ggX0_expandFn_X0_newScope
set_option maxRecDepth 20000 in
theorem ggX0_expandFn_X5_turnScope : GoodIn wsX0_expandFn wsX5_turnScope := goodIn_r _ [51, 9, 19, 52, 53, 5, 6, 7, 8, 10, 34, 35, 36, 339, 340, 341, 342, 343, 344] (by decide +kernel) (by decide +kernel)
set_option maxRecDepth 20000 in
theorem gX0_expandFn_X5_turnScope : GoodIn wsX0_expandFn (wsV RX0 149 RX5 yX5_turnScope wsX5_turnScope) := goodIn_app (goodIn_of _ (by decide +kernel)) ggX0_expandFn_X5_turnScope
set_option maxRecDepth 20000 in
theorem ggX0_expandFn_X5_itemsFrom : GoodIn wsX0_expandFn wsX5_itemsFrom := goodIn_r _ [27, 9, 19, 339, 340, 341, 342, 343, 344] (by decide +kernel) (by decide +kernel)
set_option maxRecDepth 20000 in
theorem gX0_expandFn_X5_itemsFrom : GoodIn wsX0_expandFn (wsV RX0 127 RX5 yX5_itemsFrom wsX5_itemsFrom) := goodIn_app (goodIn_of _ (by decide +kernel)) ggX0_expandFn_X5_itemsFrom
set_option maxRecDepth 100000 in
theorem gpX0_expandFn_X0_bindVariable_0 : GoodIn wsX0_expandFn wsX0_bindVariable_r1 := goodIn_r _ [1, 2, 3, 59, 60, 61, 7, 62, 9, 19, 52, 37, 38, 39, 40, 41, 42, 63, 64, 65, 31, 66, 67, 68] (by decide +kernel) (by decide +kernel)
set_option maxRecDepth 100000 in
theorem gpX0_expandFn_X0_bindVariable_1 : GoodIn wsX0_expandFn wsX0_bindVariable_r2 := goodIn_r _ [33, 16, 17, 18, 69, 70, 71, 72, 73, 74, 75, 76, 77, 78, 79, 80, 81, 82] (by decide +kernel) (by decide +kernel)
set_option maxRecDepth 100000 in
theorem gpX0_expandFn_X0_bindVariable_2 : GoodIn wsX0_expandFn wsX00 := goodIn_r _ [327, 328, 329, 330, 331, 332, 333, 334, 335] (by decide +kernel) (by decide +kernel)
set_option maxRecDepth 100000 in
theorem gpX0_expandFn_X0_bindVariable_3 : GoodIn wsX0_expandFn wsX50 := goodIn_r _ [339, 340, 341, 342, 343, 344] (by decide +kernel) (by decide +kernel)
set_option maxRecDepth 100000 in
theorem gpX0_expandFn_X0_bindVariable_4 : GoodIn wsX0_expandFn wsX20 := goodIn_r _ [336, 337, 338] (by decide +kernel) (by decide +kernel)
set_option maxRecDepth 100000 in
theorem gpX0_expandFn_X0_bindVariable_5 : GoodIn wsX0_expandFn wsX70 := goodIn_r _ [355, 356, 357, 358, 359, 360] (by decide +kernel) (by decide +kernel)
set_option maxRecDepth 100000 in
theorem gpX0_expandFn_X0_bindVariable_c : GoodIn wsX0_expandFn [Cond.code yX0_bindVariable cX0_bindVariable 3 none] := goodIn_r _ [58] (by decide +kernel) (by decide +kernel)
theorem ggX0_expandFn_X0_bindVariable : GoodIn wsX0_expandFn wsX0_bindVariable := goodIn_cons2 gpX0_expandFn_X0_bindVariable_c (goodIn_app (goodIn_app (goodIn_app (goodIn_app (goodIn_app gpX0_expandFn_X0_bindVariable_0 gpX0_expandFn_X0_bindVariable_1) gpX0_expandFn_X0_bindVariable_2) gpX0_expandFn_X0_bindVariable_3) gpX0_expandFn_X0_bindVariable_4) gpX0_expandFn_X0_bindVariable_5)
set_option maxRecDepth 20000 in
theorem gX0_expandFn_X0_bindVariable : GoodIn wsX0_expandFn (wsV RX0 152 RX0 yX0_bindVariable wsX0_bindVariable) := goodIn_app (goodIn_of _ (by decide +kernel)) ggX0_expandFn_X0_bindVariable
set_option maxRecDepth 20000 in
theorem ggX0_expandFn_X0_putVariables : GoodIn wsX0_expandFn wsX0_putVariables := goodIn_r _ [86, 2, 87, 88, 89, 90, 40, 91, 42, 92, 93, 94, 95, 96, 97, 98, 99, 100, 101, 102, 103, 104, 105, 106, 327, 328, 329, 330, 331, 332, 333, 334, 335, 336, 337, 338] (by decide +kernel) (by decide +kernel)
set_option maxRecDepth 20000 in
theorem gX0_expandFn_X0_putVariables : GoodIn wsX0_expandFn (wsV RX0 155 RX0 yX0_putVariables wsX0_putVariables) := goodIn_app (goodIn_of _ (by decide +kernel)) ggX0_expandFn_X0_putVariables
set_option maxRecDepth 100000 in
theorem gpX0_expandFn_X0_expandTree_0 : GoodIn wsX0_expandFn wsX0_expandTree_r1 := goodIn_r _ [2, 1, 33, 16, 17, 7, 18, 9, 19, 319, 320, 321, 31, 34, 35, 36, 322, 323, 324, 325, 67, 217, 218, 219] (by decide +kernel) (by decide +kernel)
set_option maxRecDepth 100000 in
theorem gpX0_expandFn_X0_expandTree_1 : GoodIn wsX0_expandFn wsX0_expandTree_r2 := goodIn_r _ [220, 69, 70, 71, 72, 52, 221, 222, 223, 76, 224, 78, 79, 80, 225, 226, 227, 228, 229, 230, 231, 232, 233, 234] (by decide +kernel) (by decide +kernel)
set_option maxRecDepth 100000 in
theorem gpX0_expandFn_X0_expandTree_2 : GoodIn wsX0_expandFn wsX0_expandTree_r3 := goodIn_r _ [235, 37, 38, 39, 40, 41, 42, 236, 237, 238, 239, 81, 94, 95, 96, 97, 98, 89, 90, 91, 92, 93, 266, 267] (by decide +kernel) (by decide +kernel)
set_option maxRecDepth 100000 in
theorem gpX0_expandFn_X0_expandTree_3 : GoodIn wsX0_expandFn wsX0_expandTree_r4 := goodIn_r _ [268, 269, 82, 99, 100, 101, 102, 103, 104, 105, 106, 261, 262, 326, 110, 111, 112, 43, 44, 45, 46, 47, 48, 49] (by decide +kernel) (by decide +kernel)
set_option maxRecDepth 100000 in
theorem gpX0_expandFn_X0_expandTree_4 : GoodIn wsX0_expandFn wsX0_expandTree_r5 := goodIn_r _ [50, 51, 53, 5, 6, 8, 10, 113, 114, 115, 116, 117, 118, 119, 12, 13, 14, 15, 20, 21, 22, 23, 24, 25] (by decide +kernel) (by decide +kernel)
set_option maxRecDepth 100000 in
theorem gpX0_expandFn_X0_expandTree_5 : GoodIn wsX0_expandFn wsX0_expandTree_r6 := goodIn_r _ [26, 27, 120, 121, 122, 123, 124, 125, 126, 127, 128, 129, 130, 131, 132, 133, 134, 135, 136, 137, 138, 139, 140, 141] (by decide +kernel) (by decide +kernel)
set_option maxRecDepth 100000 in
theorem gpX0_expandFn_X0_expandTree_6 : GoodIn wsX0_expandFn wsX0_expandTree_r7 := goodIn_r _ [142, 143, 144, 145, 146, 147, 148, 149, 150, 151, 152, 153, 154, 155, 156, 157, 158, 159, 160, 161, 162, 163, 164, 165] (by decide +kernel) (by decide +kernel)
set_option maxRecDepth 100000 in
theorem gpX0_expandFn_X0_expandTree_7 : GoodIn wsX0_expandFn wsX0_expandTree_r8 := goodIn_r _ [166, 167, 168, 169, 170, 171, 172, 173, 174, 175, 176, 177, 178, 179, 180, 181, 182, 183, 184, 185, 186, 187, 188, 189] (by decide +kernel) (by decide +kernel)
set_option maxRecDepth 100000 in
theorem gpX0_expandFn_X0_expandTree_8 : GoodIn wsX0_expandFn wsX0_expandTree_r9 := goodIn_r _ [190, 191, 192, 193, 194, 195, 196, 197, 198, 199, 200, 201, 202, 203, 204, 205, 206, 207, 208, 209, 210, 211, 212, 107] (by decide +kernel) (by decide +kernel)
set_option maxRecDepth 100000 in
theorem gpX0_expandFn_X0_expandTree_9 : GoodIn wsX0_expandFn wsX0_expandTree_r10 := goodIn_r _ [108, 109, 213, 54, 88, 4, 0, 3, 11, 28, 29, 30, 32, 55, 56, 57, 58, 59, 60, 61, 62, 63, 64, 65] (by decide +kernel) (by decide +kernel)
set_option maxRecDepth 100000 in
theorem gpX0_expandFn_X0_expandTree_10 : GoodIn wsX0_expandFn wsX0_expandTree_r11 := goodIn_r _ [66, 68, 73, 74, 75, 77, 83, 84, 85, 86, 87, 214, 215, 216, 240, 241, 242, 243, 244, 245, 246, 247, 248, 249] (by decide +kernel) (by decide +kernel)
set_option maxRecDepth 100000 in
theorem gpX0_expandFn_X0_expandTree_11 : GoodIn wsX0_expandFn wsX0_expandTree_r12 := goodIn_r _ [250, 251, 252, 253, 254, 255, 256, 257, 258, 259, 260, 263, 264, 265, 270, 271, 272, 273, 274, 275, 276, 277, 278, 279] (by decide +kernel) (by decide +kernel)
set_option maxRecDepth 100000 in
theorem gpX0_expandFn_X0_expandTree_12 : GoodIn wsX0_expandFn wsX0_expandTree_r13 := goodIn_r _ [280, 281, 282, 283, 284, 285, 286, 287, 288, 289, 290, 291, 292, 293, 294, 295, 296, 297, 298, 299, 300, 301, 302, 303] (by decide +kernel) (by decide +kernel)
set_option maxRecDepth 100000 in
theorem gpX0_expandFn_X0_expandTree_13 : GoodIn wsX0_expandFn wsX0_expandTree_r14 := goodIn_r _ [304, 305, 306, 307, 308, 309, 310, 311, 312, 313, 314, 315, 316, 317] (by decide +kernel) (by decide +kernel)
set_option maxRecDepth 100000 in
theorem gpX0_expandFn_X0_expandTree_14 : GoodIn wsX0_expandFn wsX00 := goodIn_r _ [327, 328, 329, 330, 331, 332, 333, 334, 335] (by decide +kernel) (by decide +kernel)
set_option maxRecDepth 100000 in
theorem gpX0_expandFn_X0_expandTree_15 : GoodIn wsX0_expandFn wsX20 := goodIn_r _ [336, 337, 338] (by decide +kernel) (by decide +kernel)
set_option maxRecDepth 100000 in
theorem gpX0_expandFn_X0_expandTree_16 : GoodIn wsX0_expandFn wsX50 := goodIn_r _ [339, 340, 341, 342, 343, 344] (by decide +kernel) (by decide +kernel)
set_option maxRecDepth 100000 in
theorem gpX0_expandFn_X0_expandTree_17 : GoodIn wsX0_expandFn wsX10 := goodIn_r _ [345, 346, 347, 348, 349, 350] (by decide +kernel) (by decide +kernel)
set_option maxRecDepth 100000 in
theorem gpX0_expandFn_X0_expandTree_18 : GoodIn wsX0_expandFn wsX40 := goodIn_r _ [351, 352, 353, 354] (by decide +kernel) (by decide +kernel)
set_option maxRecDepth 100000 in
theorem gpX0_expandFn_X0_expandTree_19 : GoodIn wsX0_expandFn wsX70 := goodIn_r _ [355, 356, 357, 358, 359, 360] (by decide +kernel) (by decide +kernel)
set_option maxRecDepth 100000 in
theorem gpX0_expandFn_X0_expandTree_20 : GoodIn wsX0_expandFn wsX60 := goodIn_r _ [361] (by decide +kernel) (by decide +kernel)
set_option maxRecDepth 100000 in
theorem gpX0_expandFn_X0_expandTree_c : GoodIn wsX0_expandFn [Cond.code yX0_expandTree cX0_expandTree 4 none] := goodIn_r _ [318] (by decide +kernel) (by decide +kernel)
theorem ggX0_expandFn_X0_expandTree : GoodIn wsX0_expandFn wsX0_expandTree := goodIn_cons2 gpX0_expandFn_X0_expandTree_c (goodIn_app (goodIn_app (goodIn_app (goodIn_app (goodIn_app (goodIn_app (goodIn_app (goodIn_app gpX0_expandFn_X0_expandTree_0 (goodIn_app gpX0_expandFn_X0_expandTree_1 (goodIn_app gpX0_expandFn_X0_expandTree_2 (goodIn_app gpX0_expandFn_X0_expandTree_3 (goodIn_app gpX0_expandFn_X0_expandTree_4 (goodIn_app gpX0_expandFn_X0_expandTree_5 (goodIn_app gpX0_expandFn_X0_expandTree_6 (goodIn_app gpX0_expandFn_X0_expandTree_7 (goodIn_app gpX0_expandFn_X0_expandTree_8 (goodIn_app gpX0_expandFn_X0_expandTree_9 (goodIn_app gpX0_expandFn_X0_expandTree_10 (goodIn_app gpX0_expandFn_X0_expandTree_11 (goodIn_app gpX0_expandFn_X0_expandTree_12 gpX0_expandFn_X0_expandTree_13))))))))))))) gpX0_expandFn_X0_expandTree_14) gpX0_expandFn_X0_expandTree_15) gpX0_expandFn_X0_expandTree_16) gpX0_expandFn_X0_expandTree_17) gpX0_expandFn_X0_expandTree_18) gpX0_expandFn_X0_expandTree_19) gpX0_expandFn_X0_expandTree_20)
set_option maxRecDepth 20000 in
theorem gX0_expandFn_X0_expandTree : GoodIn wsX0_expandFn (wsV RX0 133 RX0 yX0_expandTree wsX0_expandTree) := goodIn_app (goodIn_of _ (by decide +kernel)) ggX0_expandFn_X0_expandTree
set_option maxRecDepth 20000 in
theorem ggX0_expandFn_X2_put : GoodIn wsX0_expandFn wsX2_put := goodIn_r _ [91, 42, 92, 93, 336, 337, 338] (by decide +kernel) (by decide +kernel)
set_option maxRecDepth 20000 in
theorem gX0_expandFn_X2_put : GoodIn wsX0_expandFn (wsV RX0 130 RX2 yX2_put wsX2_put) := goodIn_app (goodIn_of _ (by decide +kernel)) ggX0_expandFn_X2_put
theorem dX0_expandFn_0 : decode cX0_expandFn 0 = .ok (.iload_n 1, 1) := by decide +kernel
theorem dX0_expandFn_1 : decode cX0_expandFn 1 = .ok (.iconst 2, 1) := by decide +kernel
theorem dX0_expandFn_2 : decode cX0_expandFn 2 = .ok (.iadd, 1) := by decide +kernel
theorem dX0_expandFn_3 : decode cX0_expandFn 3 = .ok (.istore_n 3, 1) := by decide +kernel
theorem dX0_expandFn_4 : decode cX0_expandFn 4 = .ok (.aload_n 0, 1) := by decide +kernel
theorem dX0_expandFn_5 : decode cX0_expandFn 5 = .ok (.getfield 9, 3) := by decide +kernel
theorem dX0_expandFn_8 : decode cX0_expandFn 8 = .ok (.iload_n 3, 1) := by decide +kernel
theorem dX0_expandFn_9 : decode cX0_expandFn 9 = .ok (.invokevirtual 136, 3) := by decide +kernel
theorem dX0_expandFn_12 : decode cX0_expandFn 12 = .ok (.istore 4, 2) := by decide +kernel
theorem dX0_expandFn_14 : decode cX0_expandFn 14 = .ok (.aload_n 0, 1) := by decide +kernel
theorem dX0_expandFn_15 : decode cX0_expandFn 15 = .ok (.getfield 9, 3) := by decide +kernel
theorem dX0_expandFn_18 : decode cX0_expandFn 18 = .ok (.iload_n 1, 1) := by decide +kernel
theorem dX0_expandFn_19 : decode cX0_expandFn 19 = .ok (.invokevirtual 139, 3) := by decide +kernel
theorem dX0_expandFn_22 : decode cX0_expandFn 22 = .ok (.iconst 3, 1) := by decide +kernel
theorem dX0_expandFn_23 : decode cX0_expandFn 23 = .ok (.if_icmp .ne 11, 3) := by decide +kernel
theorem dX0_expandFn_26 : decode cX0_expandFn 26 = .ok (.aload_n 0, 1) := by decide +kernel
theorem dX0_expandFn_27 : decode cX0_expandFn 27 = .ok (.iload_n 3, 1) := by decide +kernel
theorem dX0_expandFn_28 : decode cX0_expandFn 28 = .ok (.invokevirtual 142, 3) := by decide +kernel
theorem dX0_expandFn_31 : decode cX0_expandFn 31 = .ok (.ifCond .ne 12, 3) := by decide +kernel
theorem dX0_expandFn_34 : decode cX0_expandFn 34 = .ok (.aload_n 0, 1) := by decide +kernel
theorem dX0_expandFn_35 : decode cX0_expandFn 35 = .ok (.getfield 23, 3) := by decide +kernel
theorem dX0_expandFn_38 : decode cX0_expandFn 38 = .ok (.iconst 3, 1) := by decide +kernel
theorem dX0_expandFn_39 : decode cX0_expandFn 39 = .ok (.invokevirtual 83, 3) := by decide +kernel
theorem dX0_expandFn_42 : decode cX0_expandFn 42 = .ok (.return_, 1) := by decide +kernel
theorem dX0_expandFn_43 : decode cX0_expandFn 43 = .ok (.aload_n 0, 1) := by decide +kernel
theorem dX0_expandFn_44 : decode cX0_expandFn 44 = .ok (.invokevirtual 145, 3) := by decide +kernel
theorem dX0_expandFn_47 : decode cX0_expandFn 47 = .ok (.istore 5, 2) := by decide +kernel
theorem dX0_expandFn_49 : decode cX0_expandFn 49 = .ok (.iload 5, 2) := by decide +kernel
theorem dX0_expandFn_51 : decode cX0_expandFn 51 = .ok (.ifCond .ge 4, 3) := by decide +kernel
theorem dX0_expandFn_54 : decode cX0_expandFn 54 = .ok (.return_, 1) := by decide +kernel
theorem dX0_expandFn_55 : decode cX0_expandFn 55 = .ok (.aload_n 0, 1) := by decide +kernel
theorem dX0_expandFn_56 : decode cX0_expandFn 56 = .ok (.getfield 9, 3) := by decide +kernel
theorem dX0_expandFn_59 : decode cX0_expandFn 59 = .ok (.iload_n 3, 1) := by decide +kernel
theorem dX0_expandFn_60 : decode cX0_expandFn 60 = .ok (.iload 5, 2) := by decide +kernel
theorem dX0_expandFn_62 : decode cX0_expandFn 62 = .ok (.invokevirtual 149, 3) := by decide +kernel
theorem dX0_expandFn_65 : decode cX0_expandFn 65 = .ok (.aload_n 0, 1) := by decide +kernel
theorem dX0_expandFn_66 : decode cX0_expandFn 66 = .ok (.getfield 9, 3) := by decide +kernel
theorem dX0_expandFn_69 : decode cX0_expandFn 69 = .ok (.iload 4, 2) := by decide +kernel
theorem dX0_expandFn_71 : decode cX0_expandFn 71 = .ok (.iload 5, 2) := by decide +kernel
theorem dX0_expandFn_73 : decode cX0_expandFn 73 = .ok (.invokevirtual 149, 3) := by decide +kernel
theorem dX0_expandFn_76 : decode cX0_expandFn 76 = .ok (.aload_n 0, 1) := by decide +kernel
theorem dX0_expandFn_77 : decode cX0_expandFn 77 = .ok (.getfield 43, 3) := by decide +kernel
theorem dX0_expandFn_80 : decode cX0_expandFn 80 = .ok (.istore 6, 2) := by decide +kernel
theorem dX0_expandFn_82 : decode cX0_expandFn 82 = .ok (.aload_n 0, 1) := by decide +kernel
theorem dX0_expandFn_83 : decode cX0_expandFn 83 = .ok (.getfield 9, 3) := by decide +kernel
theorem dX0_expandFn_86 : decode cX0_expandFn 86 = .ok (.iload_n 3, 1) := by decide +kernel
theorem dX0_expandFn_87 : decode cX0_expandFn 87 = .ok (.iconst 1, 1) := by decide +kernel
theorem dX0_expandFn_88 : decode cX0_expandFn 88 = .ok (.iadd, 1) := by decide +kernel
theorem dX0_expandFn_89 : decode cX0_expandFn 89 = .ok (.invokevirtual 127, 3) := by decide +kernel
theorem dX0_expandFn_92 : decode cX0_expandFn 92 = .ok (.istore 7, 2) := by decide +kernel
theorem dX0_expandFn_94 : decode cX0_expandFn 94 = .ok (.iconst 0, 1) := by decide +kernel
theorem dX0_expandFn_95 : decode cX0_expandFn 95 = .ok (.istore 8, 2) := by decide +kernel
theorem dX0_expandFn_97 : decode cX0_expandFn 97 = .ok (.iload 8, 2) := by decide +kernel
theorem dX0_expandFn_99 : decode cX0_expandFn 99 = .ok (.iload 7, 2) := by decide +kernel
theorem dX0_expandFn_101 : decode cX0_expandFn 101 = .ok (.if_icmp .ge 32, 3) := by decide +kernel
theorem dX0_expandFn_104 : decode cX0_expandFn 104 = .ok (.aload_n 0, 1) := by decide +kernel
theorem dX0_expandFn_105 : decode cX0_expandFn 105 = .ok (.getfield 23, 3) := by decide +kernel
theorem dX0_expandFn_108 : decode cX0_expandFn 108 = .ok (.getfield 54, 3) := by decide +kernel
theorem dX0_expandFn_111 : decode cX0_expandFn 111 = .ok (.ifCond .ne 22, 3) := by decide +kernel
theorem dX0_expandFn_114 : decode cX0_expandFn 114 = .ok (.aload_n 0, 1) := by decide +kernel
theorem dX0_expandFn_115 : decode cX0_expandFn 115 = .ok (.iload_n 3, 1) := by decide +kernel
theorem dX0_expandFn_116 : decode cX0_expandFn 116 = .ok (.iconst 1, 1) := by decide +kernel
theorem dX0_expandFn_117 : decode cX0_expandFn 117 = .ok (.iadd, 1) := by decide +kernel
theorem dX0_expandFn_118 : decode cX0_expandFn 118 = .ok (.iload_n 3, 1) := by decide +kernel
theorem dX0_expandFn_119 : decode cX0_expandFn 119 = .ok (.iconst 1, 1) := by decide +kernel
theorem dX0_expandFn_120 : decode cX0_expandFn 120 = .ok (.iadd, 1) := by decide +kernel
theorem dX0_expandFn_121 : decode cX0_expandFn 121 = .ok (.iload 8, 2) := by decide +kernel
theorem dX0_expandFn_123 : decode cX0_expandFn 123 = .ok (.iadd, 1) := by decide +kernel
theorem dX0_expandFn_124 : decode cX0_expandFn 124 = .ok (.invokevirtual 152, 3) := by decide +kernel
theorem dX0_expandFn_127 : decode cX0_expandFn 127 = .ok (.iinc 8 1, 3) := by decide +kernel
theorem dX0_expandFn_130 : decode cX0_expandFn 130 = .ok (.goto (-33), 3) := by decide +kernel
theorem dX0_expandFn_133 : decode cX0_expandFn 133 = .ok (.aload_n 0, 1) := by decide +kernel
theorem dX0_expandFn_134 : decode cX0_expandFn 134 = .ok (.getfield 23, 3) := by decide +kernel
theorem dX0_expandFn_137 : decode cX0_expandFn 137 = .ok (.getfield 54, 3) := by decide +kernel
theorem dX0_expandFn_140 : decode cX0_expandFn 140 = .ok (.ifCond .eq 4, 3) := by decide +kernel
theorem dX0_expandFn_143 : decode cX0_expandFn 143 = .ok (.return_, 1) := by decide +kernel
theorem dX0_expandFn_144 : decode cX0_expandFn 144 = .ok (.aload_n 0, 1) := by decide +kernel
theorem dX0_expandFn_145 : decode cX0_expandFn 145 = .ok (.iload 6, 2) := by decide +kernel
theorem dX0_expandFn_147 : decode cX0_expandFn 147 = .ok (.iload 7, 2) := by decide +kernel
theorem dX0_expandFn_149 : decode cX0_expandFn 149 = .ok (.invokevirtual 155, 3) := by decide +kernel
theorem dX0_expandFn_152 : decode cX0_expandFn 152 = .ok (.aload_n 0, 1) := by decide +kernel
theorem dX0_expandFn_153 : decode cX0_expandFn 153 = .ok (.iload 4, 2) := by decide +kernel
theorem dX0_expandFn_155 : decode cX0_expandFn 155 = .ok (.iload_n 2, 1) := by decide +kernel
theorem dX0_expandFn_156 : decode cX0_expandFn 156 = .ok (.iconst 1, 1) := by decide +kernel
theorem dX0_expandFn_157 : decode cX0_expandFn 157 = .ok (.iadd, 1) := by decide +kernel
theorem dX0_expandFn_158 : decode cX0_expandFn 158 = .ok (.invokevirtual 133, 3) := by decide +kernel
theorem dX0_expandFn_161 : decode cX0_expandFn 161 = .ok (.aload_n 0, 1) := by decide +kernel
theorem dX0_expandFn_162 : decode cX0_expandFn 162 = .ok (.getfield 23, 3) := by decide +kernel
theorem dX0_expandFn_165 : decode cX0_expandFn 165 = .ok (.bipush 41, 2) := by decide +kernel
theorem dX0_expandFn_167 : decode cX0_expandFn 167 = .ok (.invokevirtual 130, 3) := by decide +kernel
theorem dX0_expandFn_170 : decode cX0_expandFn 170 = .ok (.return_, 1) := by decide +kernel
set_option maxRecDepth 20000 in
theorem ggX0_putVariables_X2_put : GoodIn wsX0_putVariables wsX2_put := goodIn_r _ [7, 8, 9, 10, 33, 34, 35] (by decide +kernel) (by decide +kernel)
set_option maxRecDepth 20000 in
theorem gX0_putVariables_X2_put : GoodIn wsX0_putVariables (wsV RX0 130 RX2 yX2_put wsX2_put) := goodIn_app (goodIn_of _ (by decide +kernel)) ggX0_putVariables_X2_put
set_option maxRecDepth 20000 in
theorem ggX0_putVariables_X2_putName : GoodIn wsX0_putVariables wsX2_putName := goodIn_r _ [14, 15, 4, 5, 6, 7, 8, 9, 10, 33, 34, 35] (by decide +kernel) (by decide +kernel)
set_option maxRecDepth 20000 in
theorem gX0_putVariables_X2_putName : GoodIn wsX0_putVariables (wsV RX0 99 RX2 yX2_putName wsX2_putName) := goodIn_app (goodIn_of _ (by decide +kernel)) ggX0_putVariables_X2_putName
set_option maxRecDepth 20000 in
theorem ggX0_putVariables_X2_putVariable : GoodIn wsX0_putVariables wsX2_putVariable := goodIn_r _ [19, 15, 4, 5, 6, 7, 8, 9, 10, 20, 21, 22, 23, 33, 34, 35] (by decide +kernel) (by decide +kernel)
set_option maxRecDepth 20000 in
theorem gX0_putVariables_X2_putVariable : GoodIn wsX0_putVariables (wsV RX0 105 RX2 yX2_putVariable wsX2_putVariable) := goodIn_app (goodIn_of _ (by decide +kernel)) ggX0_putVariables_X2_putVariable
theorem dX0_putVariables_0 : decode cX0_putVariables 0 = .ok (.aload_n 0, 1) := by decide +kernel
theorem dX0_putVariables_1 : decode cX0_putVariables 1 = .ok (.getfield 23, 3) := by decide +kernel
theorem dX0_putVariables_4 : decode cX0_putVariables 4 = .ok (.bipush 40, 2) := by decide +kernel
theorem dX0_putVariables_6 : decode cX0_putVariables 6 = .ok (.invokevirtual 130, 3) := by decide +kernel
theorem dX0_putVariables_9 : decode cX0_putVariables 9 = .ok (.aload_n 0, 1) := by decide +kernel
theorem dX0_putVariables_10 : decode cX0_putVariables 10 = .ok (.getfield 23, 3) := by decide +kernel
theorem dX0_putVariables_13 : decode cX0_putVariables 13 = .ok (.ldc 158, 2) := by decide +kernel
theorem dX0_putVariables_15 : decode cX0_putVariables 15 = .ok (.invokevirtual 99, 3) := by decide +kernel
theorem dX0_putVariables_18 : decode cX0_putVariables 18 = .ok (.aload_n 0, 1) := by decide +kernel
theorem dX0_putVariables_19 : decode cX0_putVariables 19 = .ok (.getfield 23, 3) := by decide +kernel
theorem dX0_putVariables_22 : decode cX0_putVariables 22 = .ok (.bipush 32, 2) := by decide +kernel
theorem dX0_putVariables_24 : decode cX0_putVariables 24 = .ok (.invokevirtual 130, 3) := by decide +kernel
theorem dX0_putVariables_27 : decode cX0_putVariables 27 = .ok (.aload_n 0, 1) := by decide +kernel
theorem dX0_putVariables_28 : decode cX0_putVariables 28 = .ok (.getfield 23, 3) := by decide +kernel
theorem dX0_putVariables_31 : decode cX0_putVariables 31 = .ok (.bipush 40, 2) := by decide +kernel
theorem dX0_putVariables_33 : decode cX0_putVariables 33 = .ok (.invokevirtual 130, 3) := by decide +kernel
theorem dX0_putVariables_36 : decode cX0_putVariables 36 = .ok (.iconst 0, 1) := by decide +kernel
theorem dX0_putVariables_37 : decode cX0_putVariables 37 = .ok (.istore_n 3, 1) := by decide +kernel
theorem dX0_putVariables_38 : decode cX0_putVariables 38 = .ok (.iload_n 3, 1) := by decide +kernel
theorem dX0_putVariables_39 : decode cX0_putVariables 39 = .ok (.iload_n 2, 1) := by decide +kernel
theorem dX0_putVariables_40 : decode cX0_putVariables 40 = .ok (.if_icmp .ge 32, 3) := by decide +kernel
theorem dX0_putVariables_43 : decode cX0_putVariables 43 = .ok (.iload_n 3, 1) := by decide +kernel
theorem dX0_putVariables_44 : decode cX0_putVariables 44 = .ok (.ifCond .le 12, 3) := by decide +kernel
theorem dX0_putVariables_47 : decode cX0_putVariables 47 = .ok (.aload_n 0, 1) := by decide +kernel
theorem dX0_putVariables_48 : decode cX0_putVariables 48 = .ok (.getfield 23, 3) := by decide +kernel
theorem dX0_putVariables_51 : decode cX0_putVariables 51 = .ok (.bipush 32, 2) := by decide +kernel
theorem dX0_putVariables_53 : decode cX0_putVariables 53 = .ok (.invokevirtual 130, 3) := by decide +kernel
theorem dX0_putVariables_56 : decode cX0_putVariables 56 = .ok (.aload_n 0, 1) := by decide +kernel
theorem dX0_putVariables_57 : decode cX0_putVariables 57 = .ok (.getfield 23, 3) := by decide +kernel
theorem dX0_putVariables_60 : decode cX0_putVariables 60 = .ok (.iload_n 1, 1) := by decide +kernel
theorem dX0_putVariables_61 : decode cX0_putVariables 61 = .ok (.iload_n 3, 1) := by decide +kernel
theorem dX0_putVariables_62 : decode cX0_putVariables 62 = .ok (.iadd, 1) := by decide +kernel
theorem dX0_putVariables_63 : decode cX0_putVariables 63 = .ok (.invokevirtual 105, 3) := by decide +kernel
theorem dX0_putVariables_66 : decode cX0_putVariables 66 = .ok (.iinc 3 1, 3) := by decide +kernel
theorem dX0_putVariables_69 : decode cX0_putVariables 69 = .ok (.goto (-31), 3) := by decide +kernel
theorem dX0_putVariables_72 : decode cX0_putVariables 72 = .ok (.aload_n 0, 1) := by decide +kernel
theorem dX0_putVariables_73 : decode cX0_putVariables 73 = .ok (.getfield 23, 3) := by decide +kernel
theorem dX0_putVariables_76 : decode cX0_putVariables 76 = .ok (.bipush 41, 2) := by decide +kernel
theorem dX0_putVariables_78 : decode cX0_putVariables 78 = .ok (.invokevirtual 130, 3) := by decide +kernel
theorem dX0_putVariables_81 : decode cX0_putVariables 81 = .ok (.aload_n 0, 1) := by decide +kernel
theorem dX0_putVariables_82 : decode cX0_putVariables 82 = .ok (.getfield 23, 3) := by decide +kernel
theorem dX0_putVariables_85 : decode cX0_putVariables 85 = .ok (.bipush 32, 2) := by decide +kernel
theorem dX0_putVariables_87 : decode cX0_putVariables 87 = .ok (.invokevirtual 130, 3) := by decide +kernel
theorem dX0_putVariables_90 : decode cX0_putVariables 90 = .ok (.return_, 1) := by decide +kernel
set_option maxRecDepth 20000 in
theorem ggX0_bindVariable_X5_findName : GoodIn wsX0_bindVariable wsX5_findName := goodIn_r _ [8, 9, 10, 11, 52, 53, 54, 55, 56, 57] (by decide +kernel) (by decide +kernel)
set_option maxRecDepth 20000 in
theorem gX0_bindVariable_X5_findName : GoodIn wsX0_bindVariable (wsV RX0 159 RX5 yX5_findName wsX5_findName) := goodIn_app (goodIn_of _ (by decide +kernel)) ggX0_bindVariable_X5_findName
set_option maxRecDepth 20000 in
theorem ggX0_bindVariable_X2_fail : GoodIn wsX0_bindVariable wsX2_fail := goodIn_r _ [16, 17, 58, 59, 60] (by decide +kernel) (by decide +kernel)
set_option maxRecDepth 20000 in
theorem gX0_bindVariable_X2_fail : GoodIn wsX0_bindVariable (wsV RX0 83 RX2 yX2_fail wsX2_fail) := goodIn_app (goodIn_of _ (by decide +kernel)) ggX0_bindVariable_X2_fail
set_option maxRecDepth 100000 in
theorem gpX0_bindVariable_X0_bind_0 : GoodIn wsX0_bindVariable wsX0_bind_r1 := goodIn_r _ [23, 1, 2, 24, 25, 26, 27, 7, 28, 9, 10, 29, 30, 31, 32, 11, 33, 34, 35, 36, 37, 38, 39, 40] (by decide +kernel) (by decide +kernel)
set_option maxRecDepth 100000 in
theorem gpX0_bindVariable_X0_bind_1 : GoodIn wsX0_bindVariable wsX0_bind_r2 := goodIn_r _ [41, 42, 12, 13, 14, 15, 16, 17] (by decide +kernel) (by decide +kernel)
set_option maxRecDepth 100000 in
theorem gpX0_bindVariable_X0_bind_2 : GoodIn wsX0_bindVariable wsX00 := goodIn_r _ [43, 44, 45, 46, 47, 48, 49, 50, 51] (by decide +kernel) (by decide +kernel)
set_option maxRecDepth 100000 in
theorem gpX0_bindVariable_X0_bind_3 : GoodIn wsX0_bindVariable wsX50 := goodIn_r _ [52, 53, 54, 55, 56, 57] (by decide +kernel) (by decide +kernel)
set_option maxRecDepth 100000 in
theorem gpX0_bindVariable_X0_bind_4 : GoodIn wsX0_bindVariable wsX70 := goodIn_r _ [61, 62, 63, 64, 65, 66] (by decide +kernel) (by decide +kernel)
set_option maxRecDepth 100000 in
theorem gpX0_bindVariable_X0_bind_5 : GoodIn wsX0_bindVariable wsX20 := goodIn_r _ [58, 59, 60] (by decide +kernel) (by decide +kernel)
set_option maxRecDepth 100000 in
theorem gpX0_bindVariable_X0_bind_c : GoodIn wsX0_bindVariable [Cond.code yX0_bind cX0_bind 4 (some .boolean)] := goodIn_r _ [22] (by decide +kernel) (by decide +kernel)
theorem ggX0_bindVariable_X0_bind : GoodIn wsX0_bindVariable wsX0_bind := goodIn_cons2 gpX0_bindVariable_X0_bind_c (goodIn_app (goodIn_app (goodIn_app (goodIn_app (goodIn_app gpX0_bindVariable_X0_bind_0 gpX0_bindVariable_X0_bind_1) gpX0_bindVariable_X0_bind_2) gpX0_bindVariable_X0_bind_3) gpX0_bindVariable_X0_bind_4) gpX0_bindVariable_X0_bind_5)
set_option maxRecDepth 20000 in
theorem gX0_bindVariable_X0_bind : GoodIn wsX0_bindVariable (wsV RX0 163 RX0 yX0_bind wsX0_bind) := goodIn_app (goodIn_of _ (by decide +kernel)) ggX0_bindVariable_X0_bind
theorem dX0_bindVariable_0 : decode cX0_bindVariable 0 = .ok (.aload_n 0, 1) := by decide +kernel
theorem dX0_bindVariable_1 : decode cX0_bindVariable 1 = .ok (.getfield 9, 3) := by decide +kernel
theorem dX0_bindVariable_4 : decode cX0_bindVariable 4 = .ok (.iload_n 1, 1) := by decide +kernel
theorem dX0_bindVariable_5 : decode cX0_bindVariable 5 = .ok (.iload_n 2, 1) := by decide +kernel
theorem dX0_bindVariable_6 : decode cX0_bindVariable 6 = .ok (.iload_n 2, 1) := by decide +kernel
theorem dX0_bindVariable_7 : decode cX0_bindVariable 7 = .ok (.invokevirtual 159, 3) := by decide +kernel
theorem dX0_bindVariable_10 : decode cX0_bindVariable 10 = .ok (.ifCond .lt 12, 3) := by decide +kernel
theorem dX0_bindVariable_13 : decode cX0_bindVariable 13 = .ok (.aload_n 0, 1) := by decide +kernel
theorem dX0_bindVariable_14 : decode cX0_bindVariable 14 = .ok (.getfield 23, 3) := by decide +kernel
theorem dX0_bindVariable_17 : decode cX0_bindVariable 17 = .ok (.iconst 3, 1) := by decide +kernel
theorem dX0_bindVariable_18 : decode cX0_bindVariable 18 = .ok (.invokevirtual 83, 3) := by decide +kernel
theorem dX0_bindVariable_21 : decode cX0_bindVariable 21 = .ok (.return_, 1) := by decide +kernel
theorem dX0_bindVariable_22 : decode cX0_bindVariable 22 = .ok (.aload_n 0, 1) := by decide +kernel
theorem dX0_bindVariable_23 : decode cX0_bindVariable 23 = .ok (.iload_n 2, 1) := by decide +kernel
theorem dX0_bindVariable_24 : decode cX0_bindVariable 24 = .ok (.iconst 5, 1) := by decide +kernel
theorem dX0_bindVariable_25 : decode cX0_bindVariable 25 = .ok (.aload_n 0, 1) := by decide +kernel
theorem dX0_bindVariable_26 : decode cX0_bindVariable 26 = .ok (.getfield 43, 3) := by decide +kernel
theorem dX0_bindVariable_29 : decode cX0_bindVariable 29 = .ok (.invokevirtual 163, 3) := by decide +kernel
theorem dX0_bindVariable_32 : decode cX0_bindVariable 32 = .ok (.ifCond .eq 13, 3) := by decide +kernel
theorem dX0_bindVariable_35 : decode cX0_bindVariable 35 = .ok (.aload_n 0, 1) := by decide +kernel
theorem dX0_bindVariable_36 : decode cX0_bindVariable 36 = .ok (.dup, 1) := by decide +kernel
theorem dX0_bindVariable_37 : decode cX0_bindVariable 37 = .ok (.getfield 43, 3) := by decide +kernel
theorem dX0_bindVariable_40 : decode cX0_bindVariable 40 = .ok (.iconst 1, 1) := by decide +kernel
theorem dX0_bindVariable_41 : decode cX0_bindVariable 41 = .ok (.iadd, 1) := by decide +kernel
theorem dX0_bindVariable_42 : decode cX0_bindVariable 42 = .ok (.putfield 43, 3) := by decide +kernel
theorem dX0_bindVariable_45 : decode cX0_bindVariable 45 = .ok (.return_, 1) := by decide +kernel
set_option maxRecDepth 20000 in
theorem ggX0_expandIf_X5_plainLength : GoodIn wsX0_expandIf wsX5_plainLength := goodIn_r _ [8, 9, 10, 11, 7, 12, 13, 14, 15, 16, 17, 18, 19, 20, 21, 22, 339, 340, 341, 342, 343, 344] (by decide +kernel) (by decide +kernel)
set_option maxRecDepth 20000 in
theorem gX0_expandIf_X5_plainLength : GoodIn wsX0_expandIf (wsV RX0 139 RX5 yX5_plainLength wsX5_plainLength) := goodIn_app (goodIn_of _ (by decide +kernel)) ggX0_expandIf_X5_plainLength
set_option maxRecDepth 20000 in
theorem ggX0_expandIf_X2_fail : GoodIn wsX0_expandIf wsX2_fail := goodIn_r _ [27, 28, 336, 337, 338] (by decide +kernel) (by decide +kernel)
set_option maxRecDepth 20000 in
theorem gX0_expandIf_X2_fail : GoodIn wsX0_expandIf (wsV RX0 83 RX2 yX2_fail wsX2_fail) := goodIn_app (goodIn_of _ (by decide +kernel)) ggX0_expandIf_X2_fail
set_option maxRecDepth 20000 in
theorem ggX0_expandIf_X2_put : GoodIn wsX0_expandIf wsX2_put := goodIn_r _ [32, 28, 33, 34, 336, 337, 338] (by decide +kernel) (by decide +kernel)
set_option maxRecDepth 20000 in
theorem gX0_expandIf_X2_put : GoodIn wsX0_expandIf (wsV RX0 130 RX2 yX2_put wsX2_put) := goodIn_app (goodIn_of _ (by decide +kernel)) ggX0_expandIf_X2_put
set_option maxRecDepth 20000 in
theorem ggX0_expandIf_X2_putName : GoodIn wsX0_expandIf wsX2_putName := goodIn_r _ [38, 39, 30, 31, 26, 32, 28, 33, 34, 336, 337, 338] (by decide +kernel) (by decide +kernel)
set_option maxRecDepth 20000 in
theorem gX0_expandIf_X2_putName : GoodIn wsX0_expandIf (wsV RX0 99 RX2 yX2_putName wsX2_putName) := goodIn_app (goodIn_of _ (by decide +kernel)) ggX0_expandIf_X2_putName
set_option maxRecDepth 100000 in
theorem gpX0_expandIf_X0_expandTree_0 : GoodIn wsX0_expandIf wsX0_expandTree_r1 := goodIn_r _ [2, 1, 177, 10, 11, 7, 12, 13, 14, 319, 320, 321, 43, 63, 64, 65, 322, 323, 324, 325, 190, 217, 218, 219] (by decide +kernel) (by decide +kernel)
set_option maxRecDepth 100000 in
theorem gpX0_expandIf_X0_expandTree_1 : GoodIn wsX0_expandIf wsX0_expandTree_r2 := goodIn_r _ [220, 192, 158, 159, 160, 61, 221, 222, 223, 196, 224, 198, 199, 200, 225, 226, 227, 228, 229, 230, 231, 232, 233, 234] (by decide +kernel) (by decide +kernel)
set_option maxRecDepth 100000 in
theorem gpX0_expandIf_X0_expandTree_2 : GoodIn wsX0_expandIf wsX0_expandTree_r3 := goodIn_r _ [235, 23, 24, 25, 26, 27, 28, 236, 237, 238, 239, 201, 35, 36, 37, 38, 39, 30, 31, 32, 33, 34, 266, 267] (by decide +kernel) (by decide +kernel)
set_option maxRecDepth 100000 in
theorem gpX0_expandIf_X0_expandTree_3 : GoodIn wsX0_expandIf wsX0_expandTree_r4 := goodIn_r _ [268, 269, 202, 208, 209, 210, 211, 212, 213, 214, 215, 261, 262, 326, 49, 50, 51, 52, 53, 54, 55, 56, 57, 58] (by decide +kernel) (by decide +kernel)
set_option maxRecDepth 100000 in
theorem gpX0_expandIf_X0_expandTree_4 : GoodIn wsX0_expandIf wsX0_expandTree_r5 := goodIn_r _ [59, 60, 62, 45, 46, 47, 48, 66, 67, 68, 69, 70, 71, 72, 5, 6, 8, 9, 15, 16, 17, 18, 19, 20] (by decide +kernel) (by decide +kernel)
set_option maxRecDepth 100000 in
theorem gpX0_expandIf_X0_expandTree_5 : GoodIn wsX0_expandIf wsX0_expandTree_r6 := goodIn_r _ [21, 22, 73, 74, 75, 76, 77, 78, 79, 80, 81, 82, 83, 84, 85, 86, 87, 88, 89, 90, 91, 92, 93, 94] (by decide +kernel) (by decide +kernel)
set_option maxRecDepth 100000 in
theorem gpX0_expandIf_X0_expandTree_6 : GoodIn wsX0_expandIf wsX0_expandTree_r7 := goodIn_r _ [95, 96, 97, 98, 99, 100, 101, 102, 103, 104, 105, 106, 107, 108, 109, 110, 111, 112, 113, 114, 115, 116, 117, 118] (by decide +kernel) (by decide +kernel)
set_option maxRecDepth 100000 in
theorem gpX0_expandIf_X0_expandTree_7 : GoodIn wsX0_expandIf wsX0_expandTree_r8 := goodIn_r _ [119, 120, 121, 122, 123, 124, 125, 126, 127, 128, 129, 130, 131, 132, 133, 134, 135, 136, 137, 138, 139, 140, 141, 142] (by decide +kernel) (by decide +kernel)
set_option maxRecDepth 100000 in
theorem gpX0_expandIf_X0_expandTree_8 : GoodIn wsX0_expandIf wsX0_expandTree_r9 := goodIn_r _ [143, 144, 145, 146, 147, 148, 149, 150, 151, 152, 153, 154, 155, 156, 157, 161, 162, 163, 164, 165, 166, 167, 168, 40] (by decide +kernel) (by decide +kernel)
set_option maxRecDepth 100000 in
theorem gpX0_expandIf_X0_expandTree_9 : GoodIn wsX0_expandIf wsX0_expandTree_r10 := goodIn_r _ [41, 42, 169, 170, 29, 44, 171, 172, 4, 173, 174, 175, 176, 178, 179, 180, 181, 182, 183, 184, 185, 186, 187, 188] (by decide +kernel) (by decide +kernel)
set_option maxRecDepth 100000 in
theorem gpX0_expandIf_X0_expandTree_10 : GoodIn wsX0_expandIf wsX0_expandTree_r11 := goodIn_r _ [189, 191, 193, 194, 195, 197, 203, 204, 205, 206, 207, 0, 3, 216, 240, 241, 242, 243, 244, 245, 246, 247, 248, 249] (by decide +kernel) (by decide +kernel)
set_option maxRecDepth 100000 in
theorem gpX0_expandIf_X0_expandTree_11 : GoodIn wsX0_expandIf wsX0_expandTree_r12 := goodIn_r _ [250, 251, 252, 253, 254, 255, 256, 257, 258, 259, 260, 263, 264, 265, 270, 271, 272, 273, 274, 275, 276, 277, 278, 279] (by decide +kernel) (by decide +kernel)
set_option maxRecDepth 100000 in
theorem gpX0_expandIf_X0_expandTree_12 : GoodIn wsX0_expandIf wsX0_expandTree_r13 := goodIn_r _ [280, 281, 282, 283, 284, 285, 286, 287, 288, 289, 290, 291, 292, 293, 294, 295, 296, 297, 298, 299, 300, 301, 302, 303] (by decide +kernel) (by decide +kernel)
set_option maxRecDepth 100000 in
theorem gpX0_expandIf_X0_expandTree_13 : GoodIn wsX0_expandIf wsX0_expandTree_r14 := goodIn_r _ [304, 305, 306, 307, 308, 309, 310, 311, 312, 313, 314, 315, 316, 317] (by decide +kernel) (by decide +kernel)
set_option maxRecDepth 100000 in
theorem gpX0_expandIf_X0_expandTree_14 : GoodIn wsX0_expandIf wsX00 := goodIn_r _ [327, 328, 329, 330, 331, 332, 333, 334, 335] (by decide +kernel) (by decide +kernel)
set_option maxRecDepth 100000 in
theorem gpX0_expandIf_X0_expandTree_15 : GoodIn wsX0_expandIf wsX20 := goodIn_r _ [336, 337, 338] (by decide +kernel) (by decide +kernel)
set_option maxRecDepth 100000 in
theorem gpX0_expandIf_X0_expandTree_16 : GoodIn wsX0_expandIf wsX50 := goodIn_r _ [339, 340, 341, 342, 343, 344] (by decide +kernel) (by decide +kernel)
set_option maxRecDepth 100000 in
theorem gpX0_expandIf_X0_expandTree_17 : GoodIn wsX0_expandIf wsX10 := goodIn_r _ [345, 346, 347, 348, 349, 350] (by decide +kernel) (by decide +kernel)
set_option maxRecDepth 100000 in
theorem gpX0_expandIf_X0_expandTree_18 : GoodIn wsX0_expandIf wsX40 := goodIn_r _ [351, 352, 353, 354] (by decide +kernel) (by decide +kernel)
set_option maxRecDepth 100000 in
theorem gpX0_expandIf_X0_expandTree_19 : GoodIn wsX0_expandIf wsX70 := goodIn_r _ [355, 356, 357, 358, 359, 360] (by decide +kernel) (by decide +kernel)
set_option maxRecDepth 100000 in
theorem gpX0_expandIf_X0_expandTree_20 : GoodIn wsX0_expandIf wsX60 := goodIn_r _ [361] (by decide +kernel) (by decide +kernel)
set_option maxRecDepth 100000 in
theorem gpX0_expandIf_X0_expandTree_c : GoodIn wsX0_expandIf [Cond.code yX0_expandTree cX0_expandTree 4 none] := goodIn_r _ [318] (by decide +kernel) (by decide +kernel)
theorem ggX0_expandIf_X0_expandTree : GoodIn wsX0_expandIf wsX0_expandTree := goodIn_cons2 gpX0_expandIf_X0_expandTree_c (goodIn_app (goodIn_app (goodIn_app (goodIn_app (goodIn_app (goodIn_app (goodIn_app (goodIn_app gpX0_expandIf_X0_expandTree_0 (goodIn_app gpX0_expandIf_X0_expandTree_1 (goodIn_app gpX0_expandIf_X0_expandTree_2 (goodIn_app gpX0_expandIf_X0_expandTree_3 (goodIn_app gpX0_expandIf_X0_expandTree_4 (goodIn_app gpX0_expandIf_X0_expandTree_5 (goodIn_app gpX0_expandIf_X0_expandTree_6 (goodIn_app gpX0_expandIf_X0_expandTree_7 (goodIn_app gpX0_expandIf_X0_expandTree_8 (goodIn_app gpX0_expandIf_X0_expandTree_9 (goodIn_app gpX0_expandIf_X0_expandTree_10 (goodIn_app gpX0_expandIf_X0_expandTree_11 (goodIn_app gpX0_expandIf_X0_expandTree_12 gpX0_expandIf_X0_expandTree_13))))))))))))) gpX0_expandIf_X0_expandTree_14) gpX0_expandIf_X0_expandTree_15) gpX0_expandIf_X0_expandTree_16) gpX0_expandIf_X0_expandTree_17) gpX0_expandIf_X0_expandTree_18) gpX0_expandIf_X0_expandTree_19) gpX0_expandIf_X0_expandTree_20)
set_option maxRecDepth 20000 in
theorem gX0_expandIf_X0_expandTree : GoodIn wsX0_expandIf (wsV RX0 133 RX0 yX0_expandTree wsX0_expandTree) := goodIn_app (goodIn_of _ (by decide +kernel)) ggX0_expandIf_X0_expandTree
set_option maxRecDepth 20000 in
theorem ggX0_expandIf_X5_after : GoodIn wsX0_expandIf wsX5_after := goodIn_r _ [47, 13, 48, 339, 340, 341, 342, 343, 344] (by decide +kernel) (by decide +kernel)
set_option maxRecDepth 20000 in
theorem gX0_expandIf_X5_after : GoodIn wsX0_expandIf (wsV RX0 136 RX5 yX5_after wsX5_after) := goodIn_app (goodIn_of _ (by decide +kernel)) ggX0_expandIf_X5_after
theorem dX0_expandIf_0 : decode cX0_expandIf 0 = .ok (.aload_n 0, 1) := by decide +kernel
theorem dX0_expandIf_1 : decode cX0_expandIf 1 = .ok (.getfield 9, 3) := by decide +kernel
theorem dX0_expandIf_4 : decode cX0_expandIf 4 = .ok (.iload_n 1, 1) := by decide +kernel
theorem dX0_expandIf_5 : decode cX0_expandIf 5 = .ok (.invokevirtual 139, 3) := by decide +kernel
theorem dX0_expandIf_8 : decode cX0_expandIf 8 = .ok (.iconst 4, 1) := by decide +kernel
theorem dX0_expandIf_9 : decode cX0_expandIf 9 = .ok (.if_icmp .eq 12, 3) := by decide +kernel
theorem dX0_expandIf_12 : decode cX0_expandIf 12 = .ok (.aload_n 0, 1) := by decide +kernel
theorem dX0_expandIf_13 : decode cX0_expandIf 13 = .ok (.getfield 23, 3) := by decide +kernel
theorem dX0_expandIf_16 : decode cX0_expandIf 16 = .ok (.iconst 3, 1) := by decide +kernel
theorem dX0_expandIf_17 : decode cX0_expandIf 17 = .ok (.invokevirtual 83, 3) := by decide +kernel
theorem dX0_expandIf_20 : decode cX0_expandIf 20 = .ok (.return_, 1) := by decide +kernel
theorem dX0_expandIf_21 : decode cX0_expandIf 21 = .ok (.aload_n 0, 1) := by decide +kernel
theorem dX0_expandIf_22 : decode cX0_expandIf 22 = .ok (.getfield 23, 3) := by decide +kernel
theorem dX0_expandIf_25 : decode cX0_expandIf 25 = .ok (.bipush 40, 2) := by decide +kernel
theorem dX0_expandIf_27 : decode cX0_expandIf 27 = .ok (.invokevirtual 130, 3) := by decide +kernel
theorem dX0_expandIf_30 : decode cX0_expandIf 30 = .ok (.aload_n 0, 1) := by decide +kernel
theorem dX0_expandIf_31 : decode cX0_expandIf 31 = .ok (.getfield 23, 3) := by decide +kernel
theorem dX0_expandIf_34 : decode cX0_expandIf 34 = .ok (.ldc 167, 2) := by decide +kernel
theorem dX0_expandIf_36 : decode cX0_expandIf 36 = .ok (.invokevirtual 99, 3) := by decide +kernel
theorem dX0_expandIf_39 : decode cX0_expandIf 39 = .ok (.iload_n 1, 1) := by decide +kernel
theorem dX0_expandIf_40 : decode cX0_expandIf 40 = .ok (.iconst 2, 1) := by decide +kernel
theorem dX0_expandIf_41 : decode cX0_expandIf 41 = .ok (.iadd, 1) := by decide +kernel
theorem dX0_expandIf_42 : decode cX0_expandIf 42 = .ok (.istore_n 3, 1) := by decide +kernel
theorem dX0_expandIf_43 : decode cX0_expandIf 43 = .ok (.iconst 0, 1) := by decide +kernel
theorem dX0_expandIf_44 : decode cX0_expandIf 44 = .ok (.istore 4, 2) := by decide +kernel
theorem dX0_expandIf_46 : decode cX0_expandIf 46 = .ok (.iload 4, 2) := by decide +kernel
theorem dX0_expandIf_48 : decode cX0_expandIf 48 = .ok (.iconst 3, 1) := by decide +kernel
theorem dX0_expandIf_49 : decode cX0_expandIf 49 = .ok (.if_icmp .ge 35, 3) := by decide +kernel
theorem dX0_expandIf_52 : decode cX0_expandIf 52 = .ok (.aload_n 0, 1) := by decide +kernel
theorem dX0_expandIf_53 : decode cX0_expandIf 53 = .ok (.getfield 23, 3) := by decide +kernel
theorem dX0_expandIf_56 : decode cX0_expandIf 56 = .ok (.bipush 32, 2) := by decide +kernel
theorem dX0_expandIf_58 : decode cX0_expandIf 58 = .ok (.invokevirtual 130, 3) := by decide +kernel
theorem dX0_expandIf_61 : decode cX0_expandIf 61 = .ok (.aload_n 0, 1) := by decide +kernel
theorem dX0_expandIf_62 : decode cX0_expandIf 62 = .ok (.iload_n 3, 1) := by decide +kernel
theorem dX0_expandIf_63 : decode cX0_expandIf 63 = .ok (.iload_n 2, 1) := by decide +kernel
theorem dX0_expandIf_64 : decode cX0_expandIf 64 = .ok (.iconst 1, 1) := by decide +kernel
theorem dX0_expandIf_65 : decode cX0_expandIf 65 = .ok (.iadd, 1) := by decide +kernel
theorem dX0_expandIf_66 : decode cX0_expandIf 66 = .ok (.invokevirtual 133, 3) := by decide +kernel
theorem dX0_expandIf_69 : decode cX0_expandIf 69 = .ok (.aload_n 0, 1) := by decide +kernel
theorem dX0_expandIf_70 : decode cX0_expandIf 70 = .ok (.getfield 9, 3) := by decide +kernel
theorem dX0_expandIf_73 : decode cX0_expandIf 73 = .ok (.iload_n 3, 1) := by decide +kernel
theorem dX0_expandIf_74 : decode cX0_expandIf 74 = .ok (.invokevirtual 136, 3) := by decide +kernel
theorem dX0_expandIf_77 : decode cX0_expandIf 77 = .ok (.istore_n 3, 1) := by decide +kernel
theorem dX0_expandIf_78 : decode cX0_expandIf 78 = .ok (.iinc 4 1, 3) := by decide +kernel
theorem dX0_expandIf_81 : decode cX0_expandIf 81 = .ok (.goto (-35), 3) := by decide +kernel
theorem dX0_expandIf_84 : decode cX0_expandIf 84 = .ok (.aload_n 0, 1) := by decide +kernel
theorem dX0_expandIf_85 : decode cX0_expandIf 85 = .ok (.getfield 23, 3) := by decide +kernel
theorem dX0_expandIf_88 : decode cX0_expandIf 88 = .ok (.bipush 41, 2) := by decide +kernel
theorem dX0_expandIf_90 : decode cX0_expandIf 90 = .ok (.invokevirtual 130, 3) := by decide +kernel
theorem dX0_expandIf_93 : decode cX0_expandIf 93 = .ok (.return_, 1) := by decide +kernel
set_option maxRecDepth 20000 in
theorem ggX0_expandQ_X5_plainLength : GoodIn wsX0_expandQ wsX5_plainLength := goodIn_r _ [7, 8, 9, 10, 6, 11, 12, 13, 14, 15, 16, 17, 18, 19, 20, 21, 70, 71, 72, 73, 74, 75] (by decide +kernel) (by decide +kernel)
set_option maxRecDepth 20000 in
theorem gX0_expandQ_X5_plainLength : GoodIn wsX0_expandQ (wsV RX0 139 RX5 yX5_plainLength wsX5_plainLength) := goodIn_app (goodIn_of _ (by decide +kernel)) ggX0_expandQ_X5_plainLength
set_option maxRecDepth 20000 in
theorem ggX0_expandQ_X2_fail : GoodIn wsX0_expandQ wsX2_fail := goodIn_r _ [26, 27, 76, 77, 78] (by decide +kernel) (by decide +kernel)
set_option maxRecDepth 20000 in
theorem gX0_expandQ_X2_fail : GoodIn wsX0_expandQ (wsV RX0 83 RX2 yX2_fail wsX2_fail) := goodIn_app (goodIn_of _ (by decide +kernel)) ggX0_expandQ_X2_fail
set_option maxRecDepth 20000 in
theorem ggX0_expandQ_X2_putTree : GoodIn wsX0_expandQ wsX2_putTree := goodIn_r _ [31, 32, 33, 34, 6, 35, 12, 36, 37, 9, 10, 11, 13, 38, 39, 40, 25, 41, 27, 42, 43, 44, 45, 46, 47, 48, 49, 50, 51, 52, 53, 54, 55, 56, 57, 58, 59, 60, 70, 71, 72, 73, 74, 75, 76, 77, 78] (by decide +kernel) (by decide +kernel)
set_option maxRecDepth 20000 in
theorem gX0_expandQ_X2_putTree : GoodIn wsX0_expandQ (wsV RX0 168 RX2 yX2_putTree wsX2_putTree) := goodIn_app (goodIn_of _ (by decide +kernel)) ggX0_expandQ_X2_putTree
theorem dX0_expandQ_0 : decode cX0_expandQ 0 = .ok (.aload_n 0, 1) := by decide +kernel
theorem dX0_expandQ_1 : decode cX0_expandQ 1 = .ok (.getfield 9, 3) := by decide +kernel
theorem dX0_expandQ_4 : decode cX0_expandQ 4 = .ok (.iload_n 1, 1) := by decide +kernel
theorem dX0_expandQ_5 : decode cX0_expandQ 5 = .ok (.invokevirtual 139, 3) := by decide +kernel
theorem dX0_expandQ_8 : decode cX0_expandQ 8 = .ok (.iconst 2, 1) := by decide +kernel
theorem dX0_expandQ_9 : decode cX0_expandQ 9 = .ok (.if_icmp .eq 12, 3) := by decide +kernel
theorem dX0_expandQ_12 : decode cX0_expandQ 12 = .ok (.aload_n 0, 1) := by decide +kernel
theorem dX0_expandQ_13 : decode cX0_expandQ 13 = .ok (.getfield 23, 3) := by decide +kernel
theorem dX0_expandQ_16 : decode cX0_expandQ 16 = .ok (.iconst 3, 1) := by decide +kernel
theorem dX0_expandQ_17 : decode cX0_expandQ 17 = .ok (.invokevirtual 83, 3) := by decide +kernel
theorem dX0_expandQ_20 : decode cX0_expandQ 20 = .ok (.return_, 1) := by decide +kernel
theorem dX0_expandQ_21 : decode cX0_expandQ 21 = .ok (.aload_n 0, 1) := by decide +kernel
theorem dX0_expandQ_22 : decode cX0_expandQ 22 = .ok (.getfield 23, 3) := by decide +kernel
theorem dX0_expandQ_25 : decode cX0_expandQ 25 = .ok (.aload_n 0, 1) := by decide +kernel
theorem dX0_expandQ_26 : decode cX0_expandQ 26 = .ok (.getfield 9, 3) := by decide +kernel
theorem dX0_expandQ_29 : decode cX0_expandQ 29 = .ok (.iload_n 1, 1) := by decide +kernel
theorem dX0_expandQ_30 : decode cX0_expandQ 30 = .ok (.invokevirtual 168, 3) := by decide +kernel
theorem dX0_expandQ_33 : decode cX0_expandQ 33 = .ok (.return_, 1) := by decide +kernel
set_option maxRecDepth 20000 in
theorem ggX0_bind_X5_wordAt : GoodIn wsX0_bind wsX5_wordAt := goodIn_r _ [9, 10, 11, 42, 43, 44, 45, 46, 47] (by decide +kernel) (by decide +kernel)
set_option maxRecDepth 20000 in
theorem gX0_bind_X5_wordAt : GoodIn wsX0_bind (wsV RX0 59 RX5 yX5_wordAt wsX5_wordAt) := goodIn_app (goodIn_of _ (by decide +kernel)) ggX0_bind_X5_wordAt
set_option maxRecDepth 20000 in
theorem ggX0_bind_X5_marksAt : GoodIn wsX0_bind wsX5_marksAt := goodIn_r _ [15, 10, 16, 42, 43, 44, 45, 46, 47] (by decide +kernel) (by decide +kernel)
set_option maxRecDepth 20000 in
theorem gX0_bind_X5_marksAt : GoodIn wsX0_bind (wsV RX0 86 RX5 yX5_marksAt wsX5_marksAt) := goodIn_app (goodIn_of _ (by decide +kernel)) ggX0_bind_X5_marksAt
set_option maxRecDepth 20000 in
theorem ggX0_bind_X7_bind : GoodIn wsX0_bind wsX7_bind := goodIn_r _ [21, 22, 23, 24, 25, 26, 48, 49, 50, 51, 52, 53] (by decide +kernel) (by decide +kernel)
set_option maxRecDepth 20000 in
theorem gX0_bind_X7_bind : GoodIn wsX0_bind (wsV RX0 183 RX7 yX7_bind wsX7_bind) := goodIn_app (goodIn_of _ (by decide +kernel)) ggX0_bind_X7_bind
set_option maxRecDepth 20000 in
theorem ggX0_bind_X2_fail : GoodIn wsX0_bind wsX2_fail := goodIn_r _ [31, 32, 54, 55, 56] (by decide +kernel) (by decide +kernel)
set_option maxRecDepth 20000 in
theorem gX0_bind_X2_fail : GoodIn wsX0_bind (wsV RX0 83 RX2 yX2_fail wsX2_fail) := goodIn_app (goodIn_of _ (by decide +kernel)) ggX0_bind_X2_fail
theorem dX0_bind_0 : decode cX0_bind 0 = .ok (.aload_n 0, 1) := by decide +kernel
theorem dX0_bind_1 : decode cX0_bind 1 = .ok (.getfield 19, 3) := by decide +kernel
theorem dX0_bind_4 : decode cX0_bind 4 = .ok (.aload_n 0, 1) := by decide +kernel
theorem dX0_bind_5 : decode cX0_bind 5 = .ok (.getfield 9, 3) := by decide +kernel
theorem dX0_bind_8 : decode cX0_bind 8 = .ok (.iload_n 1, 1) := by decide +kernel
theorem dX0_bind_9 : decode cX0_bind 9 = .ok (.invokevirtual 59, 3) := by decide +kernel
theorem dX0_bind_12 : decode cX0_bind 12 = .ok (.aload_n 0, 1) := by decide +kernel
theorem dX0_bind_13 : decode cX0_bind 13 = .ok (.getfield 9, 3) := by decide +kernel
theorem dX0_bind_16 : decode cX0_bind 16 = .ok (.iload_n 1, 1) := by decide +kernel
theorem dX0_bind_17 : decode cX0_bind 17 = .ok (.invokevirtual 86, 3) := by decide +kernel
theorem dX0_bind_20 : decode cX0_bind 20 = .ok (.iload_n 2, 1) := by decide +kernel
theorem dX0_bind_21 : decode cX0_bind 21 = .ok (.iload_n 3, 1) := by decide +kernel
theorem dX0_bind_22 : decode cX0_bind 22 = .ok (.invokevirtual 183, 3) := by decide +kernel
theorem dX0_bind_25 : decode cX0_bind 25 = .ok (.ifCond .ne 14, 3) := by decide +kernel
theorem dX0_bind_28 : decode cX0_bind 28 = .ok (.aload_n 0, 1) := by decide +kernel
theorem dX0_bind_29 : decode cX0_bind 29 = .ok (.getfield 23, 3) := by decide +kernel
theorem dX0_bind_32 : decode cX0_bind 32 = .ok (.bipush 6, 2) := by decide +kernel
theorem dX0_bind_34 : decode cX0_bind 34 = .ok (.invokevirtual 83, 3) := by decide +kernel
theorem dX0_bind_37 : decode cX0_bind 37 = .ok (.iconst 0, 1) := by decide +kernel
theorem dX0_bind_38 : decode cX0_bind 38 = .ok (.ireturn, 1) := by decide +kernel
theorem dX0_bind_39 : decode cX0_bind 39 = .ok (.aload_n 0, 1) := by decide +kernel
theorem dX0_bind_40 : decode cX0_bind 40 = .ok (.dup, 1) := by decide +kernel
theorem dX0_bind_41 : decode cX0_bind 41 = .ok (.getfield 40, 3) := by decide +kernel
theorem dX0_bind_44 : decode cX0_bind 44 = .ok (.iconst 1, 1) := by decide +kernel
theorem dX0_bind_45 : decode cX0_bind 45 = .ok (.iadd, 1) := by decide +kernel
theorem dX0_bind_46 : decode cX0_bind 46 = .ok (.putfield 40, 3) := by decide +kernel
theorem dX0_bind_49 : decode cX0_bind 49 = .ok (.iconst 1, 1) := by decide +kernel
theorem dX0_bind_50 : decode cX0_bind 50 = .ok (.ireturn, 1) := by decide +kernel
set_option maxRecDepth 20000 in
theorem ggX2_putWord_X8_isName : GoodIn wsX2_putWord wsX8_isName := goodIn_r _ [3] (by decide +kernel) (by decide +kernel)
set_option maxRecDepth 20000 in
theorem ggX2_putWord_X2_putName : GoodIn wsX2_putWord wsX2_putName := goodIn_r _ [8, 9, 10, 11, 7, 12, 13, 14, 15, 22, 23, 24] (by decide +kernel) (by decide +kernel)
set_option maxRecDepth 20000 in
theorem gX2_putWord_X2_putName : GoodIn wsX2_putWord (wsV RX2 33 RX2 yX2_putName wsX2_putName) := goodIn_app (goodIn_of _ (by decide +kernel)) ggX2_putWord_X2_putName
set_option maxRecDepth 20000 in
theorem ggX2_putWord_X8_isNumber : GoodIn wsX2_putWord wsX8_isNumber := goodIn_r _ [17] (by decide +kernel) (by decide +kernel)
set_option maxRecDepth 20000 in
theorem ggX2_putWord_X2_putNumber : GoodIn wsX2_putWord wsX2_putNumber := goodIn_r _ [21, 9, 10, 11, 7, 12, 13, 14, 15, 22, 23, 24] (by decide +kernel) (by decide +kernel)
set_option maxRecDepth 20000 in
theorem gX2_putWord_X2_putNumber : GoodIn wsX2_putWord (wsV RX2 26 RX2 yX2_putNumber wsX2_putNumber) := goodIn_app (goodIn_of _ (by decide +kernel)) ggX2_putWord_X2_putNumber
set_option maxRecDepth 20000 in
theorem ggX2_putWord_X2_put : GoodIn wsX2_putWord wsX2_put := goodIn_r _ [12, 13, 14, 15, 22, 23, 24] (by decide +kernel) (by decide +kernel)
set_option maxRecDepth 20000 in
theorem gX2_putWord_X2_put : GoodIn wsX2_putWord (wsV RX2 22 RX2 yX2_put wsX2_put) := goodIn_app (goodIn_of _ (by decide +kernel)) ggX2_putWord_X2_put
theorem dX2_putWord_0 : decode cX2_putWord 0 = .ok (.iload_n 1, 1) := by decide +kernel
theorem dX2_putWord_1 : decode cX2_putWord 1 = .ok (.invokestatic 29, 3) := by decide +kernel
theorem dX2_putWord_4 : decode cX2_putWord 4 = .ok (.ifCond .eq 11, 3) := by decide +kernel
theorem dX2_putWord_7 : decode cX2_putWord 7 = .ok (.aload_n 0, 1) := by decide +kernel
theorem dX2_putWord_8 : decode cX2_putWord 8 = .ok (.iload_n 1, 1) := by decide +kernel
theorem dX2_putWord_9 : decode cX2_putWord 9 = .ok (.invokevirtual 33, 3) := by decide +kernel
theorem dX2_putWord_12 : decode cX2_putWord 12 = .ok (.goto 66, 3) := by decide +kernel
theorem dX2_putWord_15 : decode cX2_putWord 15 = .ok (.iload_n 1, 1) := by decide +kernel
theorem dX2_putWord_16 : decode cX2_putWord 16 = .ok (.invokestatic 36, 3) := by decide +kernel
theorem dX2_putWord_19 : decode cX2_putWord 19 = .ok (.ifCond .eq 11, 3) := by decide +kernel
theorem dX2_putWord_22 : decode cX2_putWord 22 = .ok (.aload_n 0, 1) := by decide +kernel
theorem dX2_putWord_23 : decode cX2_putWord 23 = .ok (.iload_n 1, 1) := by decide +kernel
theorem dX2_putWord_24 : decode cX2_putWord 24 = .ok (.invokevirtual 26, 3) := by decide +kernel
theorem dX2_putWord_27 : decode cX2_putWord 27 = .ok (.goto 51, 3) := by decide +kernel
theorem dX2_putWord_30 : decode cX2_putWord 30 = .ok (.iload_n 1, 1) := by decide +kernel
theorem dX2_putWord_31 : decode cX2_putWord 31 = .ok (.bipush (-3), 2) := by decide +kernel
theorem dX2_putWord_33 : decode cX2_putWord 33 = .ok (.if_icmp .ne 18, 3) := by decide +kernel
theorem dX2_putWord_36 : decode cX2_putWord 36 = .ok (.aload_n 0, 1) := by decide +kernel
theorem dX2_putWord_37 : decode cX2_putWord 37 = .ok (.bipush 46, 2) := by decide +kernel
theorem dX2_putWord_39 : decode cX2_putWord 39 = .ok (.invokevirtual 22, 3) := by decide +kernel
theorem dX2_putWord_42 : decode cX2_putWord 42 = .ok (.aload_n 0, 1) := by decide +kernel
theorem dX2_putWord_43 : decode cX2_putWord 43 = .ok (.bipush 46, 2) := by decide +kernel
theorem dX2_putWord_45 : decode cX2_putWord 45 = .ok (.invokevirtual 22, 3) := by decide +kernel
theorem dX2_putWord_48 : decode cX2_putWord 48 = .ok (.goto 30, 3) := by decide +kernel
theorem dX2_putWord_51 : decode cX2_putWord 51 = .ok (.aload_n 0, 1) := by decide +kernel
theorem dX2_putWord_52 : decode cX2_putWord 52 = .ok (.iload_n 1, 1) := by decide +kernel
theorem dX2_putWord_53 : decode cX2_putWord 53 = .ok (.iconst (-1), 1) := by decide +kernel
theorem dX2_putWord_54 : decode cX2_putWord 54 = .ok (.if_icmp .ne 8, 3) := by decide +kernel
theorem dX2_putWord_57 : decode cX2_putWord 57 = .ok (.bipush 40, 2) := by decide +kernel
theorem dX2_putWord_59 : decode cX2_putWord 59 = .ok (.goto 16, 3) := by decide +kernel
theorem dX2_putWord_62 : decode cX2_putWord 62 = .ok (.iload_n 1, 1) := by decide +kernel
theorem dX2_putWord_63 : decode cX2_putWord 63 = .ok (.bipush (-2), 2) := by decide +kernel
theorem dX2_putWord_65 : decode cX2_putWord 65 = .ok (.if_icmp .ne 8, 3) := by decide +kernel
theorem dX2_putWord_68 : decode cX2_putWord 68 = .ok (.bipush 41, 2) := by decide +kernel
theorem dX2_putWord_70 : decode cX2_putWord 70 = .ok (.goto 5, 3) := by decide +kernel
theorem dX2_putWord_73 : decode cX2_putWord 73 = .ok (.bipush 95, 2) := by decide +kernel
theorem dX2_putWord_75 : decode cX2_putWord 75 = .ok (.invokevirtual 22, 3) := by decide +kernel
theorem dX2_putWord_78 : decode cX2_putWord 78 = .ok (.return_, 1) := by decide +kernel
set_option maxRecDepth 20000 in
theorem ggX2_putTree_X5_after : GoodIn wsX2_putTree wsX5_after := goodIn_r _ [5, 6, 7, 38, 39, 40, 41, 42, 43] (by decide +kernel) (by decide +kernel)
set_option maxRecDepth 20000 in
theorem gX2_putTree_X5_after : GoodIn wsX2_putTree (wsV RX2 39 RX5 yX5_after wsX5_after) := goodIn_app (goodIn_of _ (by decide +kernel)) ggX2_putTree_X5_after
set_option maxRecDepth 20000 in
theorem ggX2_putTree_X5_wordAt : GoodIn wsX2_putTree wsX5_wordAt := goodIn_r _ [11, 6, 12, 38, 39, 40, 41, 42, 43] (by decide +kernel) (by decide +kernel)
set_option maxRecDepth 20000 in
theorem gX2_putTree_X5_wordAt : GoodIn wsX2_putTree (wsV RX2 45 RX5 yX5_wordAt wsX5_wordAt) := goodIn_app (goodIn_of _ (by decide +kernel)) ggX2_putTree_X5_wordAt
set_option maxRecDepth 20000 in
theorem ggX2_putTree_X2_put : GoodIn wsX2_putTree wsX2_put := goodIn_r _ [17, 18, 19, 20, 44, 45, 46] (by decide +kernel) (by decide +kernel)
set_option maxRecDepth 20000 in
theorem gX2_putTree_X2_put : GoodIn wsX2_putTree (wsV RX2 22 RX2 yX2_put wsX2_put) := goodIn_app (goodIn_of _ (by decide +kernel)) ggX2_putTree_X2_put
set_option maxRecDepth 20000 in
theorem ggX2_putTree_X2_putWord : GoodIn wsX2_putTree wsX2_putWord := goodIn_r _ [24, 25, 26, 27, 28, 29, 30, 16, 31, 13, 14, 15, 17, 18, 19, 20, 32, 33, 34, 35, 36, 37, 44, 45, 46] (by decide +kernel) (by decide +kernel)
set_option maxRecDepth 20000 in
theorem gX2_putTree_X2_putWord : GoodIn wsX2_putTree (wsV RX2 48 RX2 yX2_putWord wsX2_putWord) := goodIn_app (goodIn_of _ (by decide +kernel)) ggX2_putTree_X2_putWord
theorem dX2_putTree_0 : decode cX2_putTree 0 = .ok (.aload_n 1, 1) := by decide +kernel
theorem dX2_putTree_1 : decode cX2_putTree 1 = .ok (.iload_n 2, 1) := by decide +kernel
theorem dX2_putTree_2 : decode cX2_putTree 2 = .ok (.invokevirtual 39, 3) := by decide +kernel
theorem dX2_putTree_5 : decode cX2_putTree 5 = .ok (.istore_n 3, 1) := by decide +kernel
theorem dX2_putTree_6 : decode cX2_putTree 6 = .ok (.iload_n 2, 1) := by decide +kernel
theorem dX2_putTree_7 : decode cX2_putTree 7 = .ok (.istore 4, 2) := by decide +kernel
theorem dX2_putTree_9 : decode cX2_putTree 9 = .ok (.iload 4, 2) := by decide +kernel
theorem dX2_putTree_11 : decode cX2_putTree 11 = .ok (.iload_n 3, 1) := by decide +kernel
theorem dX2_putTree_12 : decode cX2_putTree 12 = .ok (.if_icmp .ge 54, 3) := by decide +kernel
theorem dX2_putTree_15 : decode cX2_putTree 15 = .ok (.iload 4, 2) := by decide +kernel
theorem dX2_putTree_17 : decode cX2_putTree 17 = .ok (.iload_n 2, 1) := by decide +kernel
theorem dX2_putTree_18 : decode cX2_putTree 18 = .ok (.if_icmp .le 32, 3) := by decide +kernel
theorem dX2_putTree_21 : decode cX2_putTree 21 = .ok (.aload_n 1, 1) := by decide +kernel
theorem dX2_putTree_22 : decode cX2_putTree 22 = .ok (.iload 4, 2) := by decide +kernel
theorem dX2_putTree_24 : decode cX2_putTree 24 = .ok (.invokevirtual 45, 3) := by decide +kernel
theorem dX2_putTree_27 : decode cX2_putTree 27 = .ok (.bipush (-2), 2) := by decide +kernel
theorem dX2_putTree_29 : decode cX2_putTree 29 = .ok (.if_icmp .eq 21, 3) := by decide +kernel
theorem dX2_putTree_32 : decode cX2_putTree 32 = .ok (.aload_n 1, 1) := by decide +kernel
theorem dX2_putTree_33 : decode cX2_putTree 33 = .ok (.iload 4, 2) := by decide +kernel
theorem dX2_putTree_35 : decode cX2_putTree 35 = .ok (.iconst 1, 1) := by decide +kernel
theorem dX2_putTree_36 : decode cX2_putTree 36 = .ok (.isub, 1) := by decide +kernel
theorem dX2_putTree_37 : decode cX2_putTree 37 = .ok (.invokevirtual 45, 3) := by decide +kernel
theorem dX2_putTree_40 : decode cX2_putTree 40 = .ok (.iconst (-1), 1) := by decide +kernel
theorem dX2_putTree_41 : decode cX2_putTree 41 = .ok (.if_icmp .eq 9, 3) := by decide +kernel
theorem dX2_putTree_44 : decode cX2_putTree 44 = .ok (.aload_n 0, 1) := by decide +kernel
theorem dX2_putTree_45 : decode cX2_putTree 45 = .ok (.bipush 32, 2) := by decide +kernel
theorem dX2_putTree_47 : decode cX2_putTree 47 = .ok (.invokevirtual 22, 3) := by decide +kernel
theorem dX2_putTree_50 : decode cX2_putTree 50 = .ok (.aload_n 0, 1) := by decide +kernel
theorem dX2_putTree_51 : decode cX2_putTree 51 = .ok (.aload_n 1, 1) := by decide +kernel
theorem dX2_putTree_52 : decode cX2_putTree 52 = .ok (.iload 4, 2) := by decide +kernel
theorem dX2_putTree_54 : decode cX2_putTree 54 = .ok (.invokevirtual 45, 3) := by decide +kernel
theorem dX2_putTree_57 : decode cX2_putTree 57 = .ok (.invokevirtual 48, 3) := by decide +kernel
theorem dX2_putTree_60 : decode cX2_putTree 60 = .ok (.iinc 4 1, 3) := by decide +kernel
theorem dX2_putTree_63 : decode cX2_putTree 63 = .ok (.goto (-54), 3) := by decide +kernel
theorem dX2_putTree_66 : decode cX2_putTree 66 = .ok (.return_, 1) := by decide +kernel
theorem dX5_variableAt_0 : decode cX5_variableAt 0 = .ok (.iload_n 1, 1) := by decide +kernel
theorem dX5_variableAt_1 : decode cX5_variableAt 1 = .ok (.ifCond .lt 38, 3) := by decide +kernel
theorem dX5_variableAt_4 : decode cX5_variableAt 4 = .ok (.iload_n 1, 1) := by decide +kernel
theorem dX5_variableAt_5 : decode cX5_variableAt 5 = .ok (.aload_n 0, 1) := by decide +kernel
theorem dX5_variableAt_6 : decode cX5_variableAt 6 = .ok (.getfield 24, 3) := by decide +kernel
theorem dX5_variableAt_9 : decode cX5_variableAt 9 = .ok (.if_icmp .ge 30, 3) := by decide +kernel
theorem dX5_variableAt_12 : decode cX5_variableAt 12 = .ok (.iload_n 1, 1) := by decide +kernel
theorem dX5_variableAt_13 : decode cX5_variableAt 13 = .ok (.sipush 3000, 3) := by decide +kernel
theorem dX5_variableAt_16 : decode cX5_variableAt 16 = .ok (.if_icmp .ge 23, 3) := by decide +kernel
theorem dX5_variableAt_19 : decode cX5_variableAt 19 = .ok (.aload_n 0, 1) := by decide +kernel
theorem dX5_variableAt_20 : decode cX5_variableAt 20 = .ok (.getfield 21, 3) := by decide +kernel
theorem dX5_variableAt_23 : decode cX5_variableAt 23 = .ok (.iload_n 1, 1) := by decide +kernel
theorem dX5_variableAt_24 : decode cX5_variableAt 24 = .ok (.iaload, 1) := by decide +kernel
theorem dX5_variableAt_25 : decode cX5_variableAt 25 = .ok (.ifCond .le 14, 3) := by decide +kernel
theorem dX5_variableAt_28 : decode cX5_variableAt 28 = .ok (.iload_n 1, 1) := by decide +kernel
theorem dX5_variableAt_29 : decode cX5_variableAt 29 = .ok (.aload_n 0, 1) := by decide +kernel
theorem dX5_variableAt_30 : decode cX5_variableAt 30 = .ok (.getfield 21, 3) := by decide +kernel
theorem dX5_variableAt_33 : decode cX5_variableAt 33 = .ok (.iload_n 1, 1) := by decide +kernel
theorem dX5_variableAt_34 : decode cX5_variableAt 34 = .ok (.iaload, 1) := by decide +kernel
theorem dX5_variableAt_35 : decode cX5_variableAt 35 = .ok (.isub, 1) := by decide +kernel
theorem dX5_variableAt_36 : decode cX5_variableAt 36 = .ok (.goto 4, 3) := by decide +kernel
theorem dX5_variableAt_39 : decode cX5_variableAt 39 = .ok (.iconst (-1), 1) := by decide +kernel
theorem dX5_variableAt_40 : decode cX5_variableAt 40 = .ok (.ireturn, 1) := by decide +kernel
theorem dX5_setVariable_0 : decode cX5_setVariable 0 = .ok (.iload_n 1, 1) := by decide +kernel
theorem dX5_setVariable_1 : decode cX5_setVariable 1 = .ok (.ifCond .lt 35, 3) := by decide +kernel
theorem dX5_setVariable_4 : decode cX5_setVariable 4 = .ok (.iload_n 1, 1) := by decide +kernel
theorem dX5_setVariable_5 : decode cX5_setVariable 5 = .ok (.aload_n 0, 1) := by decide +kernel
theorem dX5_setVariable_6 : decode cX5_setVariable 6 = .ok (.getfield 24, 3) := by decide +kernel
theorem dX5_setVariable_9 : decode cX5_setVariable 9 = .ok (.if_icmp .ge 27, 3) := by decide +kernel
theorem dX5_setVariable_12 : decode cX5_setVariable 12 = .ok (.iload_n 1, 1) := by decide +kernel
theorem dX5_setVariable_13 : decode cX5_setVariable 13 = .ok (.sipush 3000, 3) := by decide +kernel
theorem dX5_setVariable_16 : decode cX5_setVariable 16 = .ok (.if_icmp .ge 20, 3) := by decide +kernel
theorem dX5_setVariable_19 : decode cX5_setVariable 19 = .ok (.aload_n 0, 1) := by decide +kernel
theorem dX5_setVariable_20 : decode cX5_setVariable 20 = .ok (.getfield 21, 3) := by decide +kernel
theorem dX5_setVariable_23 : decode cX5_setVariable 23 = .ok (.iload_n 1, 1) := by decide +kernel
theorem dX5_setVariable_24 : decode cX5_setVariable 24 = .ok (.iload_n 2, 1) := by decide +kernel
theorem dX5_setVariable_25 : decode cX5_setVariable 25 = .ok (.ifCond .ge 7, 3) := by decide +kernel
theorem dX5_setVariable_28 : decode cX5_setVariable 28 = .ok (.iconst 0, 1) := by decide +kernel
theorem dX5_setVariable_29 : decode cX5_setVariable 29 = .ok (.goto 6, 3) := by decide +kernel
theorem dX5_setVariable_32 : decode cX5_setVariable 32 = .ok (.iload_n 1, 1) := by decide +kernel
theorem dX5_setVariable_33 : decode cX5_setVariable 33 = .ok (.iload_n 2, 1) := by decide +kernel
theorem dX5_setVariable_34 : decode cX5_setVariable 34 = .ok (.isub, 1) := by decide +kernel
theorem dX5_setVariable_35 : decode cX5_setVariable 35 = .ok (.iastore, 1) := by decide +kernel
theorem dX5_setVariable_36 : decode cX5_setVariable 36 = .ok (.return_, 1) := by decide +kernel
theorem dX5_hasUse_0 : decode cX5_hasUse 0 = .ok (.iload_n 1, 1) := by decide +kernel
theorem dX5_hasUse_1 : decode cX5_hasUse 1 = .ok (.ifCond .lt 18, 3) := by decide +kernel
theorem dX5_hasUse_4 : decode cX5_hasUse 4 = .ok (.iload_n 1, 1) := by decide +kernel
theorem dX5_hasUse_5 : decode cX5_hasUse 5 = .ok (.aload_n 0, 1) := by decide +kernel
theorem dX5_hasUse_6 : decode cX5_hasUse 6 = .ok (.getfield 24, 3) := by decide +kernel
theorem dX5_hasUse_9 : decode cX5_hasUse 9 = .ok (.if_icmp .ge 10, 3) := by decide +kernel
theorem dX5_hasUse_12 : decode cX5_hasUse 12 = .ok (.iload_n 1, 1) := by decide +kernel
theorem dX5_hasUse_13 : decode cX5_hasUse 13 = .ok (.sipush 3000, 3) := by decide +kernel
theorem dX5_hasUse_16 : decode cX5_hasUse 16 = .ok (.if_icmp .lt 5, 3) := by decide +kernel
theorem dX5_hasUse_19 : decode cX5_hasUse 19 = .ok (.iconst 0, 1) := by decide +kernel
theorem dX5_hasUse_20 : decode cX5_hasUse 20 = .ok (.ireturn, 1) := by decide +kernel
theorem dX5_hasUse_21 : decode cX5_hasUse 21 = .ok (.iload_n 1, 1) := by decide +kernel
theorem dX5_hasUse_22 : decode cX5_hasUse 22 = .ok (.istore_n 2, 1) := by decide +kernel
theorem dX5_hasUse_23 : decode cX5_hasUse 23 = .ok (.iload_n 2, 1) := by decide +kernel
theorem dX5_hasUse_24 : decode cX5_hasUse 24 = .ok (.iload_n 1, 1) := by decide +kernel
theorem dX5_hasUse_25 : decode cX5_hasUse 25 = .ok (.aload_n 0, 1) := by decide +kernel
theorem dX5_hasUse_26 : decode cX5_hasUse 26 = .ok (.getfield 18, 3) := by decide +kernel
theorem dX5_hasUse_29 : decode cX5_hasUse 29 = .ok (.iload_n 1, 1) := by decide +kernel
theorem dX5_hasUse_30 : decode cX5_hasUse 30 = .ok (.iaload, 1) := by decide +kernel
theorem dX5_hasUse_31 : decode cX5_hasUse 31 = .ok (.iadd, 1) := by decide +kernel
theorem dX5_hasUse_32 : decode cX5_hasUse 32 = .ok (.if_icmp .ge 35, 3) := by decide +kernel
theorem dX5_hasUse_35 : decode cX5_hasUse 35 = .ok (.iload_n 2, 1) := by decide +kernel
theorem dX5_hasUse_36 : decode cX5_hasUse 36 = .ok (.aload_n 0, 1) := by decide +kernel
theorem dX5_hasUse_37 : decode cX5_hasUse 37 = .ok (.getfield 24, 3) := by decide +kernel
theorem dX5_hasUse_40 : decode cX5_hasUse 40 = .ok (.if_icmp .ge 27, 3) := by decide +kernel
theorem dX5_hasUse_43 : decode cX5_hasUse 43 = .ok (.iload_n 2, 1) := by decide +kernel
theorem dX5_hasUse_44 : decode cX5_hasUse 44 = .ok (.sipush 3000, 3) := by decide +kernel
theorem dX5_hasUse_47 : decode cX5_hasUse 47 = .ok (.if_icmp .ge 20, 3) := by decide +kernel
theorem dX5_hasUse_50 : decode cX5_hasUse 50 = .ok (.aload_n 0, 1) := by decide +kernel
theorem dX5_hasUse_51 : decode cX5_hasUse 51 = .ok (.getfield 21, 3) := by decide +kernel
theorem dX5_hasUse_54 : decode cX5_hasUse 54 = .ok (.iload_n 2, 1) := by decide +kernel
theorem dX5_hasUse_55 : decode cX5_hasUse 55 = .ok (.iaload, 1) := by decide +kernel
theorem dX5_hasUse_56 : decode cX5_hasUse 56 = .ok (.ifCond .le 5, 3) := by decide +kernel
theorem dX5_hasUse_59 : decode cX5_hasUse 59 = .ok (.iconst 1, 1) := by decide +kernel
theorem dX5_hasUse_60 : decode cX5_hasUse 60 = .ok (.ireturn, 1) := by decide +kernel
theorem dX5_hasUse_61 : decode cX5_hasUse 61 = .ok (.iinc 2 1, 3) := by decide +kernel
theorem dX5_hasUse_64 : decode cX5_hasUse 64 = .ok (.goto (-41), 3) := by decide +kernel
theorem dX5_hasUse_67 : decode cX5_hasUse 67 = .ok (.iconst 0, 1) := by decide +kernel
theorem dX5_hasUse_68 : decode cX5_hasUse 68 = .ok (.ireturn, 1) := by decide +kernel
theorem dX5_isHeld_0 : decode cX5_isHeld 0 = .ok (.iload_n 1, 1) := by decide +kernel
theorem dX5_isHeld_1 : decode cX5_isHeld 1 = .ok (.ifCond .lt 29, 3) := by decide +kernel
theorem dX5_isHeld_4 : decode cX5_isHeld 4 = .ok (.iload_n 1, 1) := by decide +kernel
theorem dX5_isHeld_5 : decode cX5_isHeld 5 = .ok (.aload_n 0, 1) := by decide +kernel
theorem dX5_isHeld_6 : decode cX5_isHeld 6 = .ok (.getfield 24, 3) := by decide +kernel
theorem dX5_isHeld_9 : decode cX5_isHeld 9 = .ok (.if_icmp .ge 21, 3) := by decide +kernel
theorem dX5_isHeld_12 : decode cX5_isHeld 12 = .ok (.iload_n 1, 1) := by decide +kernel
theorem dX5_isHeld_13 : decode cX5_isHeld 13 = .ok (.sipush 3000, 3) := by decide +kernel
theorem dX5_isHeld_16 : decode cX5_isHeld 16 = .ok (.if_icmp .ge 14, 3) := by decide +kernel
theorem dX5_isHeld_19 : decode cX5_isHeld 19 = .ok (.aload_n 0, 1) := by decide +kernel
theorem dX5_isHeld_20 : decode cX5_isHeld 20 = .ok (.getfield 9, 3) := by decide +kernel
theorem dX5_isHeld_23 : decode cX5_isHeld 23 = .ok (.iload_n 1, 1) := by decide +kernel
theorem dX5_isHeld_24 : decode cX5_isHeld 24 = .ok (.iaload, 1) := by decide +kernel
theorem dX5_isHeld_25 : decode cX5_isHeld 25 = .ok (.bipush (-2), 2) := by decide +kernel
theorem dX5_isHeld_27 : decode cX5_isHeld 27 = .ok (.if_icmp .ne 5, 3) := by decide +kernel
theorem dX5_isHeld_30 : decode cX5_isHeld 30 = .ok (.iconst 0, 1) := by decide +kernel
theorem dX5_isHeld_31 : decode cX5_isHeld 31 = .ok (.ireturn, 1) := by decide +kernel
theorem dX5_isHeld_32 : decode cX5_isHeld 32 = .ok (.iload_n 1, 1) := by decide +kernel
theorem dX5_isHeld_33 : decode cX5_isHeld 33 = .ok (.aload_n 0, 1) := by decide +kernel
theorem dX5_isHeld_34 : decode cX5_isHeld 34 = .ok (.getfield 18, 3) := by decide +kernel
theorem dX5_isHeld_37 : decode cX5_isHeld 37 = .ok (.iload_n 1, 1) := by decide +kernel
theorem dX5_isHeld_38 : decode cX5_isHeld 38 = .ok (.iaload, 1) := by decide +kernel
theorem dX5_isHeld_39 : decode cX5_isHeld 39 = .ok (.iadd, 1) := by decide +kernel
theorem dX5_isHeld_40 : decode cX5_isHeld 40 = .ok (.istore_n 2, 1) := by decide +kernel
theorem dX5_isHeld_41 : decode cX5_isHeld 41 = .ok (.iload_n 2, 1) := by decide +kernel
theorem dX5_isHeld_42 : decode cX5_isHeld 42 = .ok (.ifCond .lt 33, 3) := by decide +kernel
theorem dX5_isHeld_45 : decode cX5_isHeld 45 = .ok (.iload_n 2, 1) := by decide +kernel
theorem dX5_isHeld_46 : decode cX5_isHeld 46 = .ok (.aload_n 0, 1) := by decide +kernel
theorem dX5_isHeld_47 : decode cX5_isHeld 47 = .ok (.getfield 24, 3) := by decide +kernel
theorem dX5_isHeld_50 : decode cX5_isHeld 50 = .ok (.if_icmp .ge 25, 3) := by decide +kernel
theorem dX5_isHeld_53 : decode cX5_isHeld 53 = .ok (.iload_n 2, 1) := by decide +kernel
theorem dX5_isHeld_54 : decode cX5_isHeld 54 = .ok (.sipush 3000, 3) := by decide +kernel
theorem dX5_isHeld_57 : decode cX5_isHeld 57 = .ok (.if_icmp .ge 18, 3) := by decide +kernel
theorem dX5_isHeld_60 : decode cX5_isHeld 60 = .ok (.aload_n 0, 1) := by decide +kernel
theorem dX5_isHeld_61 : decode cX5_isHeld 61 = .ok (.getfield 9, 3) := by decide +kernel
theorem dX5_isHeld_64 : decode cX5_isHeld 64 = .ok (.iload_n 2, 1) := by decide +kernel
theorem dX5_isHeld_65 : decode cX5_isHeld 65 = .ok (.iaload, 1) := by decide +kernel
theorem dX5_isHeld_66 : decode cX5_isHeld 66 = .ok (.bipush (-3), 2) := by decide +kernel
theorem dX5_isHeld_68 : decode cX5_isHeld 68 = .ok (.if_icmp .ne 7, 3) := by decide +kernel
theorem dX5_isHeld_71 : decode cX5_isHeld 71 = .ok (.iconst 1, 1) := by decide +kernel
theorem dX5_isHeld_72 : decode cX5_isHeld 72 = .ok (.goto 4, 3) := by decide +kernel
theorem dX5_isHeld_75 : decode cX5_isHeld 75 = .ok (.iconst 0, 1) := by decide +kernel
theorem dX5_isHeld_76 : decode cX5_isHeld 76 = .ok (.ireturn, 1) := by decide +kernel
theorem dX5_holders_0 : decode cX5_holders 0 = .ok (.iconst 0, 1) := by decide +kernel
theorem dX5_holders_1 : decode cX5_holders 1 = .ok (.istore_n 3, 1) := by decide +kernel
theorem dX5_holders_2 : decode cX5_holders 2 = .ok (.iload_n 1, 1) := by decide +kernel
theorem dX5_holders_3 : decode cX5_holders 3 = .ok (.ifCond .ge 7, 3) := by decide +kernel
theorem dX5_holders_6 : decode cX5_holders 6 = .ok (.iconst 0, 1) := by decide +kernel
theorem dX5_holders_7 : decode cX5_holders 7 = .ok (.goto 6, 3) := by decide +kernel
theorem dX5_holders_10 : decode cX5_holders 10 = .ok (.iload_n 1, 1) := by decide +kernel
theorem dX5_holders_11 : decode cX5_holders 11 = .ok (.iconst 1, 1) := by decide +kernel
theorem dX5_holders_12 : decode cX5_holders 12 = .ok (.iadd, 1) := by decide +kernel
theorem dX5_holders_13 : decode cX5_holders 13 = .ok (.istore 4, 2) := by decide +kernel
theorem dX5_holders_15 : decode cX5_holders 15 = .ok (.iload 4, 2) := by decide +kernel
theorem dX5_holders_17 : decode cX5_holders 17 = .ok (.iload_n 2, 1) := by decide +kernel
theorem dX5_holders_18 : decode cX5_holders 18 = .ok (.if_icmp .gt 88, 3) := by decide +kernel
theorem dX5_holders_21 : decode cX5_holders 21 = .ok (.iload 4, 2) := by decide +kernel
theorem dX5_holders_23 : decode cX5_holders 23 = .ok (.aload_n 0, 1) := by decide +kernel
theorem dX5_holders_24 : decode cX5_holders 24 = .ok (.getfield 24, 3) := by decide +kernel
theorem dX5_holders_27 : decode cX5_holders 27 = .ok (.if_icmp .ge 79, 3) := by decide +kernel
theorem dX5_holders_30 : decode cX5_holders 30 = .ok (.iload 4, 2) := by decide +kernel
theorem dX5_holders_32 : decode cX5_holders 32 = .ok (.sipush 3000, 3) := by decide +kernel
theorem dX5_holders_35 : decode cX5_holders 35 = .ok (.if_icmp .ge 71, 3) := by decide +kernel
theorem dX5_holders_38 : decode cX5_holders 38 = .ok (.iload 4, 2) := by decide +kernel
theorem dX5_holders_40 : decode cX5_holders 40 = .ok (.aload_n 0, 1) := by decide +kernel
theorem dX5_holders_41 : decode cX5_holders 41 = .ok (.getfield 18, 3) := by decide +kernel
theorem dX5_holders_44 : decode cX5_holders 44 = .ok (.iload 4, 2) := by decide +kernel
theorem dX5_holders_46 : decode cX5_holders 46 = .ok (.iaload, 1) := by decide +kernel
theorem dX5_holders_47 : decode cX5_holders 47 = .ok (.iadd, 1) := by decide +kernel
theorem dX5_holders_48 : decode cX5_holders 48 = .ok (.istore 5, 2) := by decide +kernel
theorem dX5_holders_50 : decode cX5_holders 50 = .ok (.iload 5, 2) := by decide +kernel
theorem dX5_holders_52 : decode cX5_holders 52 = .ok (.iload_n 2, 1) := by decide +kernel
theorem dX5_holders_53 : decode cX5_holders 53 = .ok (.if_icmp .le 47, 3) := by decide +kernel
theorem dX5_holders_56 : decode cX5_holders 56 = .ok (.iload 5, 2) := by decide +kernel
theorem dX5_holders_58 : decode cX5_holders 58 = .ok (.aload_n 0, 1) := by decide +kernel
theorem dX5_holders_59 : decode cX5_holders 59 = .ok (.getfield 24, 3) := by decide +kernel
theorem dX5_holders_62 : decode cX5_holders 62 = .ok (.if_icmp .ge 38, 3) := by decide +kernel
theorem dX5_holders_65 : decode cX5_holders 65 = .ok (.iload 5, 2) := by decide +kernel
theorem dX5_holders_67 : decode cX5_holders 67 = .ok (.sipush 3000, 3) := by decide +kernel
theorem dX5_holders_70 : decode cX5_holders 70 = .ok (.if_icmp .ge 30, 3) := by decide +kernel
theorem dX5_holders_73 : decode cX5_holders 73 = .ok (.aload_n 0, 1) := by decide +kernel
theorem dX5_holders_74 : decode cX5_holders 74 = .ok (.getfield 9, 3) := by decide +kernel
theorem dX5_holders_77 : decode cX5_holders 77 = .ok (.iload 4, 2) := by decide +kernel
theorem dX5_holders_79 : decode cX5_holders 79 = .ok (.iaload, 1) := by decide +kernel
theorem dX5_holders_80 : decode cX5_holders 80 = .ok (.bipush (-2), 2) := by decide +kernel
theorem dX5_holders_82 : decode cX5_holders 82 = .ok (.if_icmp .eq 18, 3) := by decide +kernel
theorem dX5_holders_85 : decode cX5_holders 85 = .ok (.aload_n 0, 1) := by decide +kernel
theorem dX5_holders_86 : decode cX5_holders 86 = .ok (.getfield 9, 3) := by decide +kernel
theorem dX5_holders_89 : decode cX5_holders 89 = .ok (.iload 5, 2) := by decide +kernel
theorem dX5_holders_91 : decode cX5_holders 91 = .ok (.iaload, 1) := by decide +kernel
theorem dX5_holders_92 : decode cX5_holders 92 = .ok (.bipush (-3), 2) := by decide +kernel
theorem dX5_holders_94 : decode cX5_holders 94 = .ok (.if_icmp .ne 6, 3) := by decide +kernel
theorem dX5_holders_97 : decode cX5_holders 97 = .ok (.iinc 3 1, 3) := by decide +kernel
theorem dX5_holders_100 : decode cX5_holders 100 = .ok (.iinc 4 1, 3) := by decide +kernel
theorem dX5_holders_103 : decode cX5_holders 103 = .ok (.goto (-88), 3) := by decide +kernel
theorem dX5_holders_106 : decode cX5_holders 106 = .ok (.iload_n 3, 1) := by decide +kernel
theorem dX5_holders_107 : decode cX5_holders 107 = .ok (.ireturn, 1) := by decide +kernel
set_option maxRecDepth 20000 in
theorem ggX6_isPattern_X5_wordAt : GoodIn wsX6_isPattern wsX5_wordAt := goodIn_r _ [6, 7, 8, 31, 32, 33, 34, 35, 36] (by decide +kernel) (by decide +kernel)
set_option maxRecDepth 20000 in
theorem gX6_isPattern_X5_wordAt : GoodIn wsX6_isPattern (wsV RX6 21 RX5 yX5_wordAt wsX5_wordAt) := goodIn_app (goodIn_of _ (by decide +kernel)) ggX6_isPattern_X5_wordAt
set_option maxRecDepth 20000 in
theorem ggX6_isPattern_X5_isHeld : GoodIn wsX6_isPattern wsX5_isHeld := goodIn_r _ [12, 7, 8, 13, 31, 32, 33, 34, 35, 36] (by decide +kernel) (by decide +kernel)
set_option maxRecDepth 20000 in
theorem gX6_isPattern_X5_isHeld : GoodIn wsX6_isPattern (wsV RX6 45 RX5 yX5_isHeld wsX5_isHeld) := goodIn_app (goodIn_of _ (by decide +kernel)) ggX6_isPattern_X5_isHeld
set_option maxRecDepth 20000 in
theorem ggX6_isPattern_X5_after : GoodIn wsX6_isPattern wsX5_after := goodIn_r _ [17, 7, 13, 31, 32, 33, 34, 35, 36] (by decide +kernel) (by decide +kernel)
set_option maxRecDepth 20000 in
theorem gX6_isPattern_X5_after : GoodIn wsX6_isPattern (wsV RX6 31 RX5 yX5_after wsX5_after) := goodIn_app (goodIn_of _ (by decide +kernel)) ggX6_isPattern_X5_after
set_option maxRecDepth 20000 in
theorem ggX6_isPattern_X8_isTree : GoodIn wsX6_isPattern wsX8_isTree := goodIn_r _ [20] (by decide +kernel) (by decide +kernel)
set_option maxRecDepth 20000 in
theorem ggX6_isPattern_X5_holders : GoodIn wsX6_isPattern wsX5_holders := goodIn_r _ [24, 7, 13, 8, 31, 32, 33, 34, 35, 36] (by decide +kernel) (by decide +kernel)
set_option maxRecDepth 20000 in
theorem gX6_isPattern_X5_holders : GoodIn wsX6_isPattern (wsV RX6 51 RX5 yX5_holders wsX5_holders) := goodIn_app (goodIn_of _ (by decide +kernel)) ggX6_isPattern_X5_holders
set_option maxRecDepth 20000 in
theorem ggX6_isPattern_X5_findName : GoodIn wsX6_isPattern wsX5_findName := goodIn_r _ [28, 7, 8, 29, 31, 32, 33, 34, 35, 36] (by decide +kernel) (by decide +kernel)
set_option maxRecDepth 20000 in
theorem gX6_isPattern_X5_findName : GoodIn wsX6_isPattern (wsV RX6 55 RX5 yX5_findName wsX5_findName) := goodIn_app (goodIn_of _ (by decide +kernel)) ggX6_isPattern_X5_findName
theorem dX6_isPattern_0 : decode cX6_isPattern 0 = .ok (.iload_n 1, 1) := by decide +kernel
theorem dX6_isPattern_1 : decode cX6_isPattern 1 = .ok (.iconst 1, 1) := by decide +kernel
theorem dX6_isPattern_2 : decode cX6_isPattern 2 = .ok (.iadd, 1) := by decide +kernel
theorem dX6_isPattern_3 : decode cX6_isPattern 3 = .ok (.istore_n 2, 1) := by decide +kernel
theorem dX6_isPattern_4 : decode cX6_isPattern 4 = .ok (.aload_n 0, 1) := by decide +kernel
theorem dX6_isPattern_5 : decode cX6_isPattern 5 = .ok (.getfield 9, 3) := by decide +kernel
theorem dX6_isPattern_8 : decode cX6_isPattern 8 = .ok (.iload_n 1, 1) := by decide +kernel
theorem dX6_isPattern_9 : decode cX6_isPattern 9 = .ok (.invokevirtual 21, 3) := by decide +kernel
theorem dX6_isPattern_12 : decode cX6_isPattern 12 = .ok (.iconst (-1), 1) := by decide +kernel
theorem dX6_isPattern_13 : decode cX6_isPattern 13 = .ok (.if_icmp .ne 27, 3) := by decide +kernel
theorem dX6_isPattern_16 : decode cX6_isPattern 16 = .ok (.aload_n 0, 1) := by decide +kernel
theorem dX6_isPattern_17 : decode cX6_isPattern 17 = .ok (.getfield 9, 3) := by decide +kernel
theorem dX6_isPattern_20 : decode cX6_isPattern 20 = .ok (.iload_n 2, 1) := by decide +kernel
theorem dX6_isPattern_21 : decode cX6_isPattern 21 = .ok (.invokevirtual 21, 3) := by decide +kernel
theorem dX6_isPattern_24 : decode cX6_isPattern 24 = .ok (.bipush (-2), 2) := by decide +kernel
theorem dX6_isPattern_26 : decode cX6_isPattern 26 = .ok (.if_icmp .eq 14, 3) := by decide +kernel
theorem dX6_isPattern_29 : decode cX6_isPattern 29 = .ok (.aload_n 0, 1) := by decide +kernel
theorem dX6_isPattern_30 : decode cX6_isPattern 30 = .ok (.getfield 9, 3) := by decide +kernel
theorem dX6_isPattern_33 : decode cX6_isPattern 33 = .ok (.iload_n 2, 1) := by decide +kernel
theorem dX6_isPattern_34 : decode cX6_isPattern 34 = .ok (.invokevirtual 45, 3) := by decide +kernel
theorem dX6_isPattern_37 : decode cX6_isPattern 37 = .ok (.ifCond .eq 5, 3) := by decide +kernel
theorem dX6_isPattern_40 : decode cX6_isPattern 40 = .ok (.iconst 0, 1) := by decide +kernel
theorem dX6_isPattern_41 : decode cX6_isPattern 41 = .ok (.ireturn, 1) := by decide +kernel
theorem dX6_isPattern_42 : decode cX6_isPattern 42 = .ok (.aload_n 0, 1) := by decide +kernel
theorem dX6_isPattern_43 : decode cX6_isPattern 43 = .ok (.getfield 9, 3) := by decide +kernel
theorem dX6_isPattern_46 : decode cX6_isPattern 46 = .ok (.iload_n 2, 1) := by decide +kernel
theorem dX6_isPattern_47 : decode cX6_isPattern 47 = .ok (.invokevirtual 31, 3) := by decide +kernel
theorem dX6_isPattern_50 : decode cX6_isPattern 50 = .ok (.istore_n 3, 1) := by decide +kernel
theorem dX6_isPattern_51 : decode cX6_isPattern 51 = .ok (.aload_n 0, 1) := by decide +kernel
theorem dX6_isPattern_52 : decode cX6_isPattern 52 = .ok (.getfield 9, 3) := by decide +kernel
theorem dX6_isPattern_55 : decode cX6_isPattern 55 = .ok (.iload_n 1, 1) := by decide +kernel
theorem dX6_isPattern_56 : decode cX6_isPattern 56 = .ok (.invokevirtual 31, 3) := by decide +kernel
theorem dX6_isPattern_59 : decode cX6_isPattern 59 = .ok (.istore 4, 2) := by decide +kernel
theorem dX6_isPattern_61 : decode cX6_isPattern 61 = .ok (.iload_n 3, 1) := by decide +kernel
theorem dX6_isPattern_62 : decode cX6_isPattern 62 = .ok (.istore 5, 2) := by decide +kernel
theorem dX6_isPattern_64 : decode cX6_isPattern 64 = .ok (.iload 5, 2) := by decide +kernel
theorem dX6_isPattern_66 : decode cX6_isPattern 66 = .ok (.iload 4, 2) := by decide +kernel
theorem dX6_isPattern_68 : decode cX6_isPattern 68 = .ok (.if_icmp .ge 86, 3) := by decide +kernel
theorem dX6_isPattern_71 : decode cX6_isPattern 71 = .ok (.aload_n 0, 1) := by decide +kernel
theorem dX6_isPattern_72 : decode cX6_isPattern 72 = .ok (.getfield 9, 3) := by decide +kernel
theorem dX6_isPattern_75 : decode cX6_isPattern 75 = .ok (.iload 5, 2) := by decide +kernel
theorem dX6_isPattern_77 : decode cX6_isPattern 77 = .ok (.invokevirtual 21, 3) := by decide +kernel
theorem dX6_isPattern_80 : decode cX6_isPattern 80 = .ok (.istore 6, 2) := by decide +kernel
theorem dX6_isPattern_82 : decode cX6_isPattern 82 = .ok (.iload 6, 2) := by decide +kernel
theorem dX6_isPattern_84 : decode cX6_isPattern 84 = .ok (.bipush (-3), 2) := by decide +kernel
theorem dX6_isPattern_86 : decode cX6_isPattern 86 = .ok (.if_icmp .ne 21, 3) := by decide +kernel
theorem dX6_isPattern_89 : decode cX6_isPattern 89 = .ok (.aload_n 0, 1) := by decide +kernel
theorem dX6_isPattern_90 : decode cX6_isPattern 90 = .ok (.getfield 9, 3) := by decide +kernel
theorem dX6_isPattern_93 : decode cX6_isPattern 93 = .ok (.iload 5, 2) := by decide +kernel
theorem dX6_isPattern_95 : decode cX6_isPattern 95 = .ok (.iconst 1, 1) := by decide +kernel
theorem dX6_isPattern_96 : decode cX6_isPattern 96 = .ok (.iadd, 1) := by decide +kernel
theorem dX6_isPattern_97 : decode cX6_isPattern 97 = .ok (.invokevirtual 21, 3) := by decide +kernel
theorem dX6_isPattern_100 : decode cX6_isPattern 100 = .ok (.bipush (-2), 2) := by decide +kernel
theorem dX6_isPattern_102 : decode cX6_isPattern 102 = .ok (.if_icmp .eq 5, 3) := by decide +kernel
theorem dX6_isPattern_105 : decode cX6_isPattern 105 = .ok (.iconst 0, 1) := by decide +kernel
theorem dX6_isPattern_106 : decode cX6_isPattern 106 = .ok (.ireturn, 1) := by decide +kernel
theorem dX6_isPattern_107 : decode cX6_isPattern 107 = .ok (.iload 6, 2) := by decide +kernel
theorem dX6_isPattern_109 : decode cX6_isPattern 109 = .ok (.invokestatic 48, 3) := by decide +kernel
theorem dX6_isPattern_112 : decode cX6_isPattern 112 = .ok (.ifCond .eq 19, 3) := by decide +kernel
theorem dX6_isPattern_115 : decode cX6_isPattern 115 = .ok (.aload_n 0, 1) := by decide +kernel
theorem dX6_isPattern_116 : decode cX6_isPattern 116 = .ok (.getfield 9, 3) := by decide +kernel
theorem dX6_isPattern_119 : decode cX6_isPattern 119 = .ok (.iload_n 1, 1) := by decide +kernel
theorem dX6_isPattern_120 : decode cX6_isPattern 120 = .ok (.iload 5, 2) := by decide +kernel
theorem dX6_isPattern_122 : decode cX6_isPattern 122 = .ok (.invokevirtual 51, 3) := by decide +kernel
theorem dX6_isPattern_125 : decode cX6_isPattern 125 = .ok (.iconst 2, 1) := by decide +kernel
theorem dX6_isPattern_126 : decode cX6_isPattern 126 = .ok (.if_icmp .le 5, 3) := by decide +kernel
theorem dX6_isPattern_129 : decode cX6_isPattern 129 = .ok (.iconst 0, 1) := by decide +kernel
theorem dX6_isPattern_130 : decode cX6_isPattern 130 = .ok (.ireturn, 1) := by decide +kernel
theorem dX6_isPattern_131 : decode cX6_isPattern 131 = .ok (.aload_n 0, 1) := by decide +kernel
theorem dX6_isPattern_132 : decode cX6_isPattern 132 = .ok (.getfield 9, 3) := by decide +kernel
theorem dX6_isPattern_135 : decode cX6_isPattern 135 = .ok (.iload_n 3, 1) := by decide +kernel
theorem dX6_isPattern_136 : decode cX6_isPattern 136 = .ok (.iload 5, 2) := by decide +kernel
theorem dX6_isPattern_138 : decode cX6_isPattern 138 = .ok (.iload 5, 2) := by decide +kernel
theorem dX6_isPattern_140 : decode cX6_isPattern 140 = .ok (.invokevirtual 55, 3) := by decide +kernel
theorem dX6_isPattern_143 : decode cX6_isPattern 143 = .ok (.ifCond .lt 5, 3) := by decide +kernel
theorem dX6_isPattern_146 : decode cX6_isPattern 146 = .ok (.iconst 0, 1) := by decide +kernel
theorem dX6_isPattern_147 : decode cX6_isPattern 147 = .ok (.ireturn, 1) := by decide +kernel
theorem dX6_isPattern_148 : decode cX6_isPattern 148 = .ok (.iinc 5 1, 3) := by decide +kernel
theorem dX6_isPattern_151 : decode cX6_isPattern 151 = .ok (.goto (-87), 3) := by decide +kernel
theorem dX6_isPattern_154 : decode cX6_isPattern 154 = .ok (.iconst 1, 1) := by decide +kernel
theorem dX6_isPattern_155 : decode cX6_isPattern 155 = .ok (.ireturn, 1) := by decide +kernel
set_option maxRecDepth 20000 in
theorem ggX6_linkUses_X5_after : GoodIn wsX6_linkUses wsX5_after := goodIn_r _ [6, 7, 8, 21, 22, 23, 24, 25, 26] (by decide +kernel) (by decide +kernel)
set_option maxRecDepth 20000 in
theorem gX6_linkUses_X5_after : GoodIn wsX6_linkUses (wsV RX6 31 RX5 yX5_after wsX5_after) := goodIn_app (goodIn_of _ (by decide +kernel)) ggX6_linkUses_X5_after
set_option maxRecDepth 20000 in
theorem ggX6_linkUses_X5_findName : GoodIn wsX6_linkUses wsX5_findName := goodIn_r _ [12, 7, 13, 14, 21, 22, 23, 24, 25, 26] (by decide +kernel) (by decide +kernel)
set_option maxRecDepth 20000 in
theorem gX6_linkUses_X5_findName : GoodIn wsX6_linkUses (wsV RX6 55 RX5 yX5_findName wsX5_findName) := goodIn_app (goodIn_of _ (by decide +kernel)) ggX6_linkUses_X5_findName
set_option maxRecDepth 20000 in
theorem ggX6_linkUses_X5_setVariable : GoodIn wsX6_linkUses wsX5_setVariable := goodIn_r _ [18, 7, 19, 21, 22, 23, 24, 25, 26] (by decide +kernel) (by decide +kernel)
set_option maxRecDepth 20000 in
theorem gX6_linkUses_X5_setVariable : GoodIn wsX6_linkUses (wsV RX6 59 RX5 yX5_setVariable wsX5_setVariable) := goodIn_app (goodIn_of _ (by decide +kernel)) ggX6_linkUses_X5_setVariable
theorem dX6_linkUses_0 : decode cX6_linkUses 0 = .ok (.aload_n 0, 1) := by decide +kernel
theorem dX6_linkUses_1 : decode cX6_linkUses 1 = .ok (.getfield 9, 3) := by decide +kernel
theorem dX6_linkUses_4 : decode cX6_linkUses 4 = .ok (.iload_n 1, 1) := by decide +kernel
theorem dX6_linkUses_5 : decode cX6_linkUses 5 = .ok (.iconst 1, 1) := by decide +kernel
theorem dX6_linkUses_6 : decode cX6_linkUses 6 = .ok (.iadd, 1) := by decide +kernel
theorem dX6_linkUses_7 : decode cX6_linkUses 7 = .ok (.invokevirtual 31, 3) := by decide +kernel
theorem dX6_linkUses_10 : decode cX6_linkUses 10 = .ok (.istore_n 3, 1) := by decide +kernel
theorem dX6_linkUses_11 : decode cX6_linkUses 11 = .ok (.aload_n 0, 1) := by decide +kernel
theorem dX6_linkUses_12 : decode cX6_linkUses 12 = .ok (.getfield 9, 3) := by decide +kernel
theorem dX6_linkUses_15 : decode cX6_linkUses 15 = .ok (.iload_n 2, 1) := by decide +kernel
theorem dX6_linkUses_16 : decode cX6_linkUses 16 = .ok (.invokevirtual 31, 3) := by decide +kernel
theorem dX6_linkUses_19 : decode cX6_linkUses 19 = .ok (.istore 4, 2) := by decide +kernel
theorem dX6_linkUses_21 : decode cX6_linkUses 21 = .ok (.iload_n 2, 1) := by decide +kernel
theorem dX6_linkUses_22 : decode cX6_linkUses 22 = .ok (.istore 5, 2) := by decide +kernel
theorem dX6_linkUses_24 : decode cX6_linkUses 24 = .ok (.iload 5, 2) := by decide +kernel
theorem dX6_linkUses_26 : decode cX6_linkUses 26 = .ok (.iload 4, 2) := by decide +kernel
theorem dX6_linkUses_28 : decode cX6_linkUses 28 = .ok (.if_icmp .ge 29, 3) := by decide +kernel
theorem dX6_linkUses_31 : decode cX6_linkUses 31 = .ok (.aload_n 0, 1) := by decide +kernel
theorem dX6_linkUses_32 : decode cX6_linkUses 32 = .ok (.getfield 9, 3) := by decide +kernel
theorem dX6_linkUses_35 : decode cX6_linkUses 35 = .ok (.iload 5, 2) := by decide +kernel
theorem dX6_linkUses_37 : decode cX6_linkUses 37 = .ok (.aload_n 0, 1) := by decide +kernel
theorem dX6_linkUses_38 : decode cX6_linkUses 38 = .ok (.getfield 9, 3) := by decide +kernel
theorem dX6_linkUses_41 : decode cX6_linkUses 41 = .ok (.iload_n 3, 1) := by decide +kernel
theorem dX6_linkUses_42 : decode cX6_linkUses 42 = .ok (.iload_n 2, 1) := by decide +kernel
theorem dX6_linkUses_43 : decode cX6_linkUses 43 = .ok (.iload 5, 2) := by decide +kernel
theorem dX6_linkUses_45 : decode cX6_linkUses 45 = .ok (.invokevirtual 55, 3) := by decide +kernel
theorem dX6_linkUses_48 : decode cX6_linkUses 48 = .ok (.invokevirtual 59, 3) := by decide +kernel
theorem dX6_linkUses_51 : decode cX6_linkUses 51 = .ok (.iinc 5 1, 3) := by decide +kernel
theorem dX6_linkUses_54 : decode cX6_linkUses 54 = .ok (.goto (-30), 3) := by decide +kernel
theorem dX6_linkUses_57 : decode cX6_linkUses 57 = .ok (.return_, 1) := by decide +kernel
theorem dX7_bind_0 : decode cX7_bind 0 = .ok (.aload_n 0, 1) := by decide +kernel
theorem dX7_bind_1 : decode cX7_bind 1 = .ok (.getfield 33, 3) := by decide +kernel
theorem dX7_bind_4 : decode cX7_bind 4 = .ok (.ifCond .lt 12, 3) := by decide +kernel
theorem dX7_bind_7 : decode cX7_bind 7 = .ok (.aload_n 0, 1) := by decide +kernel
theorem dX7_bind_8 : decode cX7_bind 8 = .ok (.getfield 33, 3) := by decide +kernel
theorem dX7_bind_11 : decode cX7_bind 11 = .ok (.bipush 40, 2) := by decide +kernel
theorem dX7_bind_13 : decode cX7_bind 13 = .ok (.if_icmp .lt 5, 3) := by decide +kernel
theorem dX7_bind_16 : decode cX7_bind 16 = .ok (.iconst 0, 1) := by decide +kernel
theorem dX7_bind_17 : decode cX7_bind 17 = .ok (.ireturn, 1) := by decide +kernel
theorem dX7_bind_18 : decode cX7_bind 18 = .ok (.aload_n 0, 1) := by decide +kernel
theorem dX7_bind_19 : decode cX7_bind 19 = .ok (.getfield 9, 3) := by decide +kernel
theorem dX7_bind_22 : decode cX7_bind 22 = .ok (.aload_n 0, 1) := by decide +kernel
theorem dX7_bind_23 : decode cX7_bind 23 = .ok (.getfield 33, 3) := by decide +kernel
theorem dX7_bind_26 : decode cX7_bind 26 = .ok (.iload_n 1, 1) := by decide +kernel
theorem dX7_bind_27 : decode cX7_bind 27 = .ok (.iastore, 1) := by decide +kernel
theorem dX7_bind_28 : decode cX7_bind 28 = .ok (.aload_n 0, 1) := by decide +kernel
theorem dX7_bind_29 : decode cX7_bind 29 = .ok (.getfield 15, 3) := by decide +kernel
theorem dX7_bind_32 : decode cX7_bind 32 = .ok (.aload_n 0, 1) := by decide +kernel
theorem dX7_bind_33 : decode cX7_bind 33 = .ok (.getfield 33, 3) := by decide +kernel
theorem dX7_bind_36 : decode cX7_bind 36 = .ok (.iload_n 2, 1) := by decide +kernel
theorem dX7_bind_37 : decode cX7_bind 37 = .ok (.iastore, 1) := by decide +kernel
theorem dX7_bind_38 : decode cX7_bind 38 = .ok (.aload_n 0, 1) := by decide +kernel
theorem dX7_bind_39 : decode cX7_bind 39 = .ok (.getfield 18, 3) := by decide +kernel
theorem dX7_bind_42 : decode cX7_bind 42 = .ok (.aload_n 0, 1) := by decide +kernel
theorem dX7_bind_43 : decode cX7_bind 43 = .ok (.getfield 33, 3) := by decide +kernel
theorem dX7_bind_46 : decode cX7_bind 46 = .ok (.iload_n 3, 1) := by decide +kernel
theorem dX7_bind_47 : decode cX7_bind 47 = .ok (.iastore, 1) := by decide +kernel
theorem dX7_bind_48 : decode cX7_bind 48 = .ok (.aload_n 0, 1) := by decide +kernel
theorem dX7_bind_49 : decode cX7_bind 49 = .ok (.getfield 21, 3) := by decide +kernel
theorem dX7_bind_52 : decode cX7_bind 52 = .ok (.aload_n 0, 1) := by decide +kernel
theorem dX7_bind_53 : decode cX7_bind 53 = .ok (.getfield 33, 3) := by decide +kernel
theorem dX7_bind_56 : decode cX7_bind 56 = .ok (.iload 4, 2) := by decide +kernel
theorem dX7_bind_58 : decode cX7_bind 58 = .ok (.iastore, 1) := by decide +kernel
theorem dX7_bind_59 : decode cX7_bind 59 = .ok (.aload_n 0, 1) := by decide +kernel
theorem dX7_bind_60 : decode cX7_bind 60 = .ok (.dup, 1) := by decide +kernel
theorem dX7_bind_61 : decode cX7_bind 61 = .ok (.getfield 33, 3) := by decide +kernel
theorem dX7_bind_64 : decode cX7_bind 64 = .ok (.iconst 1, 1) := by decide +kernel
theorem dX7_bind_65 : decode cX7_bind 65 = .ok (.iadd, 1) := by decide +kernel
theorem dX7_bind_66 : decode cX7_bind 66 = .ok (.putfield 33, 3) := by decide +kernel
theorem dX7_bind_69 : decode cX7_bind 69 = .ok (.iconst 1, 1) := by decide +kernel
theorem dX7_bind_70 : decode cX7_bind 70 = .ok (.ireturn, 1) := by decide +kernel
theorem dX8_isTree_0 : decode cX8_isTree 0 = .ok (.iload_n 0, 1) := by decide +kernel
theorem dX8_isTree_1 : decode cX8_isTree 1 = .ok (.bipush (-2), 2) := by decide +kernel
theorem dX8_isTree_3 : decode cX8_isTree 3 = .ok (.if_icmp .eq 13, 3) := by decide +kernel
theorem dX8_isTree_6 : decode cX8_isTree 6 = .ok (.iload_n 0, 1) := by decide +kernel
theorem dX8_isTree_7 : decode cX8_isTree 7 = .ok (.bipush (-3), 2) := by decide +kernel
theorem dX8_isTree_9 : decode cX8_isTree 9 = .ok (.if_icmp .eq 7, 3) := by decide +kernel
theorem dX8_isTree_12 : decode cX8_isTree 12 = .ok (.iconst 1, 1) := by decide +kernel
theorem dX8_isTree_13 : decode cX8_isTree 13 = .ok (.goto 4, 3) := by decide +kernel
theorem dX8_isTree_16 : decode cX8_isTree 16 = .ok (.iconst 0, 1) := by decide +kernel
theorem dX8_isTree_17 : decode cX8_isTree 17 = .ok (.ireturn, 1) := by decide +kernel
theorem iw_X0_expandFn_X0 : ∀ w ∈ wsX00, w ∈ wsX0_expandFn := by decide +kernel
theorem lk_X0_expandFn_9 : Cond.fieldLink RX0 9 "MarkedNames$Expander" "row" "LMarkedNames$Row;" ∈ wsX0_expandFn := by decide +kernel
theorem lk_X0_expandFn_43 : Cond.fieldLink RX0 43 "MarkedNames$Expander" "variables" "I" ∈ wsX0_expandFn := by decide +kernel
theorem lk_X0_expandFn_23 : Cond.fieldLink RX0 23 "MarkedNames$Expander" "outcome" "LMarkedNames$Outcome;" ∈ wsX0_expandFn := by decide +kernel
theorem iw_X0_expandFn_X2 : ∀ w ∈ wsX20, w ∈ wsX0_expandFn := by decide +kernel
theorem iw_X0_bindVariable_X0 : ∀ w ∈ wsX00, w ∈ wsX0_bindVariable := by decide +kernel
theorem lk_X0_bindVariable_9 : Cond.fieldLink RX0 9 "MarkedNames$Expander" "row" "LMarkedNames$Row;" ∈ wsX0_bindVariable := by decide +kernel
theorem lk_X0_bindVariable_43 : Cond.fieldLink RX0 43 "MarkedNames$Expander" "variables" "I" ∈ wsX0_bindVariable := by decide +kernel
theorem iw_X0_bind_X0 : ∀ w ∈ wsX00, w ∈ wsX0_bind := by decide +kernel
theorem lk_X0_bind_19 : Cond.fieldLink RX0 19 "MarkedNames$Expander" "table" "LMarkedNames$Table;" ∈ wsX0_bind := by decide +kernel
theorem lk_X0_bind_9 : Cond.fieldLink RX0 9 "MarkedNames$Expander" "row" "LMarkedNames$Row;" ∈ wsX0_bind := by decide +kernel
theorem iw_X7_bind_X7 : ∀ w ∈ wsX70, w ∈ wsX7_bind := by decide +kernel
theorem lk_X7_bind_33 : Cond.fieldLink RX7 33 "MarkedNames$Table" "length" "I" ∈ wsX7_bind := by decide +kernel
theorem lk_X7_bind_9 : Cond.fieldLink RX7 9 "MarkedNames$Table" "name" "[I" ∈ wsX7_bind := by decide +kernel
theorem lk_X7_bind_15 : Cond.fieldLink RX7 15 "MarkedNames$Table" "marks" "[I" ∈ wsX7_bind := by decide +kernel
theorem lk_X7_bind_18 : Cond.fieldLink RX7 18 "MarkedNames$Table" "kind" "[I" ∈ wsX7_bind := by decide +kernel
theorem lk_X7_bind_21 : Cond.fieldLink RX7 21 "MarkedNames$Table" "value" "[I" ∈ wsX7_bind := by decide +kernel
theorem lk_X0_bind_40 : Cond.fieldLink RX0 40 "MarkedNames$Expander" "bindings" "I" ∈ wsX0_bind := by decide +kernel
theorem lk_X0_bind_23 : Cond.fieldLink RX0 23 "MarkedNames$Expander" "outcome" "LMarkedNames$Outcome;" ∈ wsX0_bind := by decide +kernel
theorem lk_X0_bindVariable_23 : Cond.fieldLink RX0 23 "MarkedNames$Expander" "outcome" "LMarkedNames$Outcome;" ∈ wsX0_bindVariable := by decide +kernel
theorem iw_X0_putVariables_X0 : ∀ w ∈ wsX00, w ∈ wsX0_putVariables := by decide +kernel
theorem lk_X0_putVariables_23 : Cond.fieldLink RX0 23 "MarkedNames$Expander" "outcome" "LMarkedNames$Outcome;" ∈ wsX0_putVariables := by decide +kernel
theorem mw_X0_putVariables__constant_RX0_158_91758_Int32_ : Cond.constant RX0 158 (91758 : Int32) ∈ wsX0_putVariables := by decide +kernel
theorem iw_X0_expandIf_X0 : ∀ w ∈ wsX00, w ∈ wsX0_expandIf := by decide +kernel
theorem lk_X0_expandIf_9 : Cond.fieldLink RX0 9 "MarkedNames$Expander" "row" "LMarkedNames$Row;" ∈ wsX0_expandIf := by decide +kernel
theorem lk_X0_expandIf_23 : Cond.fieldLink RX0 23 "MarkedNames$Expander" "outcome" "LMarkedNames$Outcome;" ∈ wsX0_expandIf := by decide +kernel
theorem mw_X0_expandIf__constant_RX0_167_92518_Int32_ : Cond.constant RX0 167 (92518 : Int32) ∈ wsX0_expandIf := by decide +kernel
theorem iw_X0_expandQ_X0 : ∀ w ∈ wsX00, w ∈ wsX0_expandQ := by decide +kernel
theorem lk_X0_expandQ_9 : Cond.fieldLink RX0 9 "MarkedNames$Expander" "row" "LMarkedNames$Row;" ∈ wsX0_expandQ := by decide +kernel
theorem lk_X0_expandQ_23 : Cond.fieldLink RX0 23 "MarkedNames$Expander" "outcome" "LMarkedNames$Outcome;" ∈ wsX0_expandQ := by decide +kernel
theorem in_X2_putWord_X8 : Cond.initialized RX8 ∈ wsX2_putWord := by decide +kernel
theorem st_X2_putWord_X8_isName : Cond.static yX8_isName ∈ wsX2_putWord := by decide +kernel
theorem st_X2_putWord_X8_isNumber : Cond.static yX8_isNumber ∈ wsX2_putWord := by decide +kernel
theorem iw_X6_isPattern_X6 : ∀ w ∈ wsX60, w ∈ wsX6_isPattern := by decide +kernel
theorem lk_X6_isPattern_9 : Cond.fieldLink RX6 9 "MarkedNames$RuleCheck" "row" "LMarkedNames$Row;" ∈ wsX6_isPattern := by decide +kernel
theorem iw_X5_isHeld_X5 : ∀ w ∈ wsX50, w ∈ wsX5_isHeld := by decide +kernel
theorem lk_X5_isHeld_24 : Cond.fieldLink RX5 24 "MarkedNames$Row" "top" "I" ∈ wsX5_isHeld := by decide +kernel
theorem lk_X5_isHeld_9 : Cond.fieldLink RX5 9 "MarkedNames$Row" "word" "[I" ∈ wsX5_isHeld := by decide +kernel
theorem lk_X5_isHeld_18 : Cond.fieldLink RX5 18 "MarkedNames$Row" "size" "[I" ∈ wsX5_isHeld := by decide +kernel
theorem in_X6_isPattern_X8 : Cond.initialized RX8 ∈ wsX6_isPattern := by decide +kernel
theorem st_X6_isPattern_X8_isTree : Cond.static yX8_isTree ∈ wsX6_isPattern := by decide +kernel
theorem iw_X5_holders_X5 : ∀ w ∈ wsX50, w ∈ wsX5_holders := by decide +kernel
theorem lk_X5_holders_24 : Cond.fieldLink RX5 24 "MarkedNames$Row" "top" "I" ∈ wsX5_holders := by decide +kernel
theorem lk_X5_holders_18 : Cond.fieldLink RX5 18 "MarkedNames$Row" "size" "[I" ∈ wsX5_holders := by decide +kernel
theorem lk_X5_holders_9 : Cond.fieldLink RX5 9 "MarkedNames$Row" "word" "[I" ∈ wsX5_holders := by decide +kernel
theorem iw_X6_linkUses_X6 : ∀ w ∈ wsX60, w ∈ wsX6_linkUses := by decide +kernel
theorem lk_X6_linkUses_9 : Cond.fieldLink RX6 9 "MarkedNames$RuleCheck" "row" "LMarkedNames$Row;" ∈ wsX6_linkUses := by decide +kernel
theorem iw_X5_setVariable_X5 : ∀ w ∈ wsX50, w ∈ wsX5_setVariable := by decide +kernel
theorem lk_X5_setVariable_24 : Cond.fieldLink RX5 24 "MarkedNames$Row" "top" "I" ∈ wsX5_setVariable := by decide +kernel
theorem lk_X5_setVariable_21 : Cond.fieldLink RX5 21 "MarkedNames$Row" "use" "[I" ∈ wsX5_setVariable := by decide +kernel
theorem iw_X5_variableAt_X5 : ∀ w ∈ wsX50, w ∈ wsX5_variableAt := by decide +kernel
theorem lk_X5_variableAt_24 : Cond.fieldLink RX5 24 "MarkedNames$Row" "top" "I" ∈ wsX5_variableAt := by decide +kernel
theorem lk_X5_variableAt_21 : Cond.fieldLink RX5 21 "MarkedNames$Row" "use" "[I" ∈ wsX5_variableAt := by decide +kernel
theorem iw_X5_hasUse_X5 : ∀ w ∈ wsX50, w ∈ wsX5_hasUse := by decide +kernel
theorem lk_X5_hasUse_24 : Cond.fieldLink RX5 24 "MarkedNames$Row" "top" "I" ∈ wsX5_hasUse := by decide +kernel
theorem lk_X5_hasUse_18 : Cond.fieldLink RX5 18 "MarkedNames$Row" "size" "[I" ∈ wsX5_hasUse := by decide +kernel
theorem lk_X5_hasUse_21 : Cond.fieldLink RX5 21 "MarkedNames$Row" "use" "[I" ∈ wsX5_hasUse := by decide +kernel
section
variable {l : Launch} {p : Program} {e : Env} {s : State} {m : MethodId} {args : Array Value} {below : List Frame} {meth : Method} {c : Code} {A : Nat → Prop} {dC : Nat → ClassId} {dI : Nat → Nat → Nat} {cA : ClassId} {a b : Nat → Nat} {lev : Nat}
set_option maxHeartbeats 4000000 in
set_option maxRecDepth 100000 in
theorem X7_bind_met (hlev : 0 ≤ lev) {x1 x2 x3 x4 : Int32} {u : mS} {post : Int32 → mS → Prop} (hw : wp_X7_bind x1 x2 x3 x4 u post) : mKi l yX7_bind wsX7_bind lev (eA a) (dC, dI) vwCl [(cA, .int)] (wA cA a) [.ref (a 9), .int x1, .int x2, .int x3, .int x4] u (fun r w => (r = 0 ∨ r = 1) ∧ post r w) := by
  refine mKz_of (cc := cX7_bind) (maxL := 5) (by decide) rfl rfl (Nat.le_of_ble_eq_true rfl) rfl ?_
  intro p e s m args below meth c A C hs
  unfold wp_X7_bind at hw
  refine mv_aload_n C dX7_bind_0 rfl 0 rfl ?_
  refine mv_get (v := .int (u.1 4)) C iw_X7_bind_X7 9 rfl rfl 4 (by decide) lk_X7_bind_33 rfl rfl dX7_bind_1 ?_
  refine mv_topi (fun y1 ey1 => ?_)
  have hw := hw y1 ey1
  refine mv_if_lt (tgt := 16) C dX7_bind_4 (by decide) (fun h2 => ?_) (fun h2 => ?_)
  · have hw := hw.1 h2
    refine mv_iconst (v := (0 : Int32)) C dX7_bind_16 (by decide) ?_
    exact mv_zret C dX7_bind_17 (Or.inl rfl) hw
  · have hw := hw.2 h2
    refine mv_aload_n C dX7_bind_7 rfl 0 rfl ?_
    refine mv_get (v := .int (u.1 4)) C iw_X7_bind_X7 9 rfl rfl 4 (by decide) lk_X7_bind_33 rfl rfl dX7_bind_8 ?_
    refine mv_topi (fun y3 ey3 => ?_)
    have hw := hw y3 ey3
    refine mv_bipush (v := (40 : Int32)) C dX7_bind_11 (by decide) ?_
    refine mv_icmp_lt (tgt := 18) C dX7_bind_13 (by decide) (fun h4 => ?_) (fun h4 => ?_)
    · have hw := hw.1 h4
      refine mv_aload_n C dX7_bind_18 rfl 0 rfl ?_
      refine mv_get (v := .ref (a 10)) C iw_X7_bind_X7 9 rfl rfl 0 (by decide) lk_X7_bind_9 rfl rfl dX7_bind_19 ?_
      refine mv_aload_n C dX7_bind_22 rfl 0 rfl ?_
      refine mv_get (v := .int (u.1 4)) C iw_X7_bind_X7 9 rfl rfl 4 (by decide) lk_X7_bind_33 rfl rfl dX7_bind_23 ?_
      refine mv_topi (fun y5 ey5 => ?_)
      have hw := hw y5 ey5
      refine mv_iload_n C dX7_bind_26 rfl 1 rfl ?_
      refine mv_iast (f := u.2 5) (ws1 := wA cA a (mPut u 5 y5.toNatClampNeg x1)) C 10 0 rfl rfl hw.1 rfl dX7_bind_27 ?_
      refine mv_nm (f := wA cA a) (fun u6 eu6 => ?_)
      have hw := hw.2 u6 eu6
      refine mv_aload_n C dX7_bind_28 rfl 0 rfl ?_
      refine mv_get (v := .ref (a 11)) C iw_X7_bind_X7 9 rfl rfl 1 (by decide) lk_X7_bind_15 rfl rfl dX7_bind_29 ?_
      refine mv_aload_n C dX7_bind_32 rfl 0 rfl ?_
      refine mv_get (v := .int (u6.1 4)) C iw_X7_bind_X7 9 rfl rfl 4 (by decide) lk_X7_bind_33 rfl rfl dX7_bind_33 ?_
      refine mv_topi (fun y7 ey7 => ?_)
      have hw := hw y7 ey7
      refine mv_iload_n C dX7_bind_36 rfl 2 rfl ?_
      refine mv_iast (f := u6.2 6) (ws1 := wA cA a (mPut u6 6 y7.toNatClampNeg x2)) C 11 0 rfl rfl hw.1 rfl dX7_bind_37 ?_
      refine mv_nm (f := wA cA a) (fun u8 eu8 => ?_)
      have hw := hw.2 u8 eu8
      refine mv_aload_n C dX7_bind_38 rfl 0 rfl ?_
      refine mv_get (v := .ref (a 12)) C iw_X7_bind_X7 9 rfl rfl 2 (by decide) lk_X7_bind_18 rfl rfl dX7_bind_39 ?_
      refine mv_aload_n C dX7_bind_42 rfl 0 rfl ?_
      refine mv_get (v := .int (u8.1 4)) C iw_X7_bind_X7 9 rfl rfl 4 (by decide) lk_X7_bind_33 rfl rfl dX7_bind_43 ?_
      refine mv_topi (fun y9 ey9 => ?_)
      have hw := hw y9 ey9
      refine mv_iload_n C dX7_bind_46 rfl 3 rfl ?_
      refine mv_iast (f := u8.2 7) (ws1 := wA cA a (mPut u8 7 y9.toNatClampNeg x3)) C 12 0 rfl rfl hw.1 rfl dX7_bind_47 ?_
      refine mv_nm (f := wA cA a) (fun u10 eu10 => ?_)
      have hw := hw.2 u10 eu10
      refine mv_aload_n C dX7_bind_48 rfl 0 rfl ?_
      refine mv_get (v := .ref (a 13)) C iw_X7_bind_X7 9 rfl rfl 3 (by decide) lk_X7_bind_21 rfl rfl dX7_bind_49 ?_
      refine mv_aload_n C dX7_bind_52 rfl 0 rfl ?_
      refine mv_get (v := .int (u10.1 4)) C iw_X7_bind_X7 9 rfl rfl 4 (by decide) lk_X7_bind_33 rfl rfl dX7_bind_53 ?_
      refine mv_topi (fun y11 ey11 => ?_)
      have hw := hw y11 ey11
      refine mv_iload C dX7_bind_56 4 rfl ?_
      refine mv_iast (f := u10.2 8) (ws1 := wA cA a (mPut u10 8 y11.toNatClampNeg x4)) C 13 0 rfl rfl hw.1 rfl dX7_bind_58 ?_
      refine mv_nm (f := wA cA a) (fun u12 eu12 => ?_)
      have hw := hw.2 u12 eu12
      refine mv_aload_n C dX7_bind_59 rfl 0 rfl ?_
      refine mv_dup C dX7_bind_60 rfl ?_
      refine mv_get (v := .int (u12.1 4)) C iw_X7_bind_X7 9 rfl rfl 4 (by decide) lk_X7_bind_33 rfl rfl dX7_bind_61 ?_
      refine mv_topi (fun y13 ey13 => ?_)
      have hw := hw y13 ey13
      refine mv_iconst (v := (1 : Int32)) C dX7_bind_64 (by decide) ?_
      refine mv_iadd C dX7_bind_65 ?_
      refine mv_topi (fun y14 ey14 => ?_)
      have hw := hw y14 ey14
      refine mv_put (ty := .int) (ws1 := wA cA a (mSet u12 4 y14)) C iw_X7_bind_X7 tyX7 tyX7_ok nmX7 9 rfl rfl 4 (by decide) lk_X7_bind_33 rfl rfl rfl rfl rfl (Nat.le_of_ble_eq_true rfl) rfl dX7_bind_66 ?_
      refine mv_nm (f := wA cA a) (fun u15 eu15 => ?_)
      have hw := hw u15 eu15
      refine mv_iconst (v := (1 : Int32)) C dX7_bind_69 (by decide) ?_
      exact mv_zret C dX7_bind_70 (Or.inr rfl) hw
    · have hw := hw.2 h4
      refine mv_iconst (v := (0 : Int32)) C dX7_bind_16 (by decide) ?_
      exact mv_zret C dX7_bind_17 (Or.inl rfl) hw
set_option maxHeartbeats 4000000 in
set_option maxRecDepth 100000 in
theorem X0_bind_met (hlev : 1 ≤ lev) {x1 x2 x3 : Int32} {u : mS} {post : Int32 → mS → Prop} (hw : wp_X0_bind x1 x2 x3 u post) : mKi l yX0_bind wsX0_bind lev (eA a) (dC, dI) vwCl [(cA, .int)] (wA cA a) [.ref (a 16), .int x1, .int x2, .int x3] u (fun r w => (r = 0 ∨ r = 1) ∧ post r w) := by
  refine mKz_of (cc := cX0_bind) (maxL := 4) (by decide) rfl rfl (Nat.le_of_ble_eq_true rfl) rfl ?_
  intro p e s m args below meth c A C hs
  unfold wp_X0_bind at hw
  refine mv_aload_n C dX0_bind_0 rfl 0 rfl ?_
  refine mv_get (v := .ref (a 9)) C iw_X0_bind_X0 16 rfl rfl 2 (by decide) lk_X0_bind_19 rfl rfl dX0_bind_1 ?_
  refine mv_aload_n C dX0_bind_4 rfl 0 rfl ?_
  refine mv_get (v := .ref (a 2)) C iw_X0_bind_X0 16 rfl rfl 0 (by decide) lk_X0_bind_9 rfl rfl dX0_bind_5 ?_
  refine mv_iload_n C dX0_bind_8 rfl 1 rfl ?_
  refine mv_callVi (f := wA cA a) (As := [.int x1]) (rest := [.ref (a 9)]) C (eA_ok a) hs 2 rfl rfl (X5_wordAt_met (l := l) (lev := lev - 1) (by omega) hw) (cwV 1 C.2.2.2.2.1 gX0_bind_X5_wordAt rfl rfl rfl (by decide +kernel) (mRm_le (by omega) (by decide))) rfl rfl (Nat.le_of_ble_eq_true rfl) dX0_bind_9 ⟨Nat.le_refl 0, Nat.le_refl 0⟩ (fun r1 u2 hw => ?_)
  refine mv_aload_n C dX0_bind_12 rfl 0 rfl ?_
  refine mv_get (v := .ref (a 2)) C iw_X0_bind_X0 16 rfl rfl 0 (by decide) lk_X0_bind_9 rfl rfl dX0_bind_13 ?_
  refine mv_iload_n C dX0_bind_16 rfl 1 rfl ?_
  refine mv_callVi (f := wA cA a) (As := [.int x1]) (rest := [.int r1, .ref (a 9)]) C (eA_ok a) hs 2 rfl rfl (X5_marksAt_met (l := l) (lev := lev - 1) (by omega) hw) (cwV 1 C.2.2.2.2.1 gX0_bind_X5_marksAt rfl rfl rfl (by decide +kernel) (mRm_le (by omega) (by decide))) rfl rfl (Nat.le_of_ble_eq_true rfl) dX0_bind_17 ⟨Nat.le_refl 0, Nat.le_refl 0⟩ (fun r3 u4 hw => ?_)
  refine mv_iload_n C dX0_bind_20 rfl 2 rfl ?_
  refine mv_iload_n C dX0_bind_21 rfl 3 rfl ?_
  refine mv_callVi (f := wA cA a) (As := [.int r1, .int r3, .int x2, .int x3]) (rest := []) C (eA_ok a) hs 9 rfl rfl (X7_bind_met (l := l) (lev := lev - 1) (by omega) hw) (cwV 4 C.2.2.2.2.1 gX0_bind_X7_bind rfl rfl rfl (by decide +kernel) (mRm_le (by omega) (by decide))) rfl rfl (Nat.le_of_ble_eq_true rfl) dX0_bind_22 ⟨Nat.le_refl 0, Nat.le_refl 0⟩ (fun r5 u6 hw => ?_)
  obtain ⟨gr5, hw⟩ := hw
  refine mv_if_ne (tgt := 39) C dX0_bind_25 (by decide) (fun h7 => ?_) (fun h7 => ?_)
  · have hw := hw.1 h7
    refine mv_aload_n C dX0_bind_39 rfl 0 rfl ?_
    refine mv_dup C dX0_bind_40 rfl ?_
    refine mv_get (v := .int (u6.1 9)) C iw_X0_bind_X0 16 rfl rfl 6 (by decide) lk_X0_bind_40 rfl rfl dX0_bind_41 ?_
    refine mv_topi (fun y8 ey8 => ?_)
    have hw := hw y8 ey8
    refine mv_iconst (v := (1 : Int32)) C dX0_bind_44 (by decide) ?_
    refine mv_iadd C dX0_bind_45 ?_
    refine mv_topi (fun y9 ey9 => ?_)
    have hw := hw y9 ey9
    refine mv_put (ty := .int) (ws1 := wA cA a (mSet u6 9 y9)) C iw_X0_bind_X0 tyX0 tyX0_ok nmX0 16 rfl rfl 6 (by decide) lk_X0_bind_40 rfl rfl rfl rfl rfl (Nat.le_of_ble_eq_true rfl) rfl dX0_bind_46 ?_
    refine mv_nm (f := wA cA a) (fun u10 eu10 => ?_)
    have hw := hw u10 eu10
    refine mv_iconst (v := (1 : Int32)) C dX0_bind_49 (by decide) ?_
    exact mv_zret C dX0_bind_50 (Or.inr rfl) hw
  · have hw := hw.2 h7
    refine mv_aload_n C dX0_bind_28 rfl 0 rfl ?_
    refine mv_get (v := .ref (a 14)) C iw_X0_bind_X0 16 rfl rfl 3 (by decide) lk_X0_bind_23 rfl rfl dX0_bind_29 ?_
    refine mv_bipush (v := (6 : Int32)) C dX0_bind_32 (by decide) ?_
    refine mv_callVv (f := wA cA a) (As := [.int (6 : Int32)]) (rest := []) C (eA_ok a) hs 14 rfl rfl (X2_fail_met (l := l) (lev := lev - 1) (by omega) hw) (cwV 1 C.2.2.2.2.1 gX0_bind_X2_fail rfl rfl rfl (by decide +kernel) (mRm_le (by omega) (by decide))) rfl rfl (Nat.le_of_ble_eq_true rfl) dX0_bind_34 ⟨Nat.le_refl 0, Nat.le_refl 0⟩ (fun u12 hw => ?_)
    refine mv_iconst (v := (0 : Int32)) C dX0_bind_37 (by decide) ?_
    exact mv_zret C dX0_bind_38 (Or.inl rfl) hw
set_option maxHeartbeats 4000000 in
set_option maxRecDepth 100000 in
theorem X0_bindVariable_met (hlev : 2 ≤ lev) {x1 x2 : Int32} {u : mS} {post : mS → Prop} (hw : wp_X0_bindVariable x1 x2 u post) : mKv l yX0_bindVariable wsX0_bindVariable lev (eA a) (dC, dI) vwCl [(cA, .int)] (wA cA a) [.ref (a 16), .int x1, .int x2] u post := by
  refine mKv_of (cc := cX0_bindVariable) (maxL := 3) (by decide) rfl rfl (Nat.le_of_ble_eq_true rfl) rfl ?_
  intro p e s m args below meth c A C hs
  unfold wp_X0_bindVariable at hw
  refine mv_aload_n C dX0_bindVariable_0 rfl 0 rfl ?_
  refine mv_get (v := .ref (a 2)) C iw_X0_bindVariable_X0 16 rfl rfl 0 (by decide) lk_X0_bindVariable_9 rfl rfl dX0_bindVariable_1 ?_
  refine mv_iload_n C dX0_bindVariable_4 rfl 1 rfl ?_
  refine mv_iload_n C dX0_bindVariable_5 rfl 2 rfl ?_
  refine mv_iload_n C dX0_bindVariable_6 rfl 2 rfl ?_
  refine mv_callVi (f := wA cA a) (As := [.int x1, .int x2, .int x2]) (rest := []) C (eA_ok a) hs 2 rfl rfl (X5_findName_met (l := l) (lev := lev - 1) (by omega) hw) (cwV 3 C.2.2.2.2.1 gX0_bindVariable_X5_findName rfl rfl rfl (by decide +kernel) (mRm_le (by omega) (by decide))) rfl rfl (Nat.le_of_ble_eq_true rfl) dX0_bindVariable_7 ⟨Nat.le_refl 0, Nat.le_refl 0⟩ (fun r1 u2 hw => ?_)
  refine mv_if_lt (tgt := 22) C dX0_bindVariable_10 (by decide) (fun h3 => ?_) (fun h3 => ?_)
  · have hw := hw.1 h3
    refine mv_aload_n C dX0_bindVariable_22 rfl 0 rfl ?_
    refine mv_iload_n C dX0_bindVariable_23 rfl 2 rfl ?_
    refine mv_iconst (v := (5 : Int32)) C dX0_bindVariable_24 (by decide) ?_
    refine mv_aload_n C dX0_bindVariable_25 rfl 0 rfl ?_
    refine mv_get (v := .int (u2.1 10)) C iw_X0_bindVariable_X0 16 rfl rfl 7 (by decide) lk_X0_bindVariable_43 rfl rfl dX0_bindVariable_26 ?_
    refine mv_topi (fun y4 ey4 => ?_)
    have hw := hw y4 ey4
    refine mv_callVi (f := wA cA a) (As := [.int x2, .int (5 : Int32), .int y4]) (rest := []) C (eA_ok a) hs 16 rfl rfl (X0_bind_met (l := l) (lev := lev - 1) (by omega) hw) (cwV 3 C.2.2.2.2.1 gX0_bindVariable_X0_bind rfl rfl rfl (by decide +kernel) (mRm_le (by omega) (by decide))) rfl rfl (Nat.le_of_ble_eq_true rfl) dX0_bindVariable_29 ⟨Nat.le_refl 0, Nat.le_refl 0⟩ (fun r5 u6 hw => ?_)
    obtain ⟨gr5, hw⟩ := hw
    refine mv_if_eq (tgt := 45) C dX0_bindVariable_32 (by decide) (fun h7 => ?_) (fun h7 => ?_)
    · have hw := hw.1 h7
      exact mv_vret C dX0_bindVariable_45 hw
    · have hw := hw.2 h7
      refine mv_aload_n C dX0_bindVariable_35 rfl 0 rfl ?_
      refine mv_dup C dX0_bindVariable_36 rfl ?_
      refine mv_get (v := .int (u6.1 10)) C iw_X0_bindVariable_X0 16 rfl rfl 7 (by decide) lk_X0_bindVariable_43 rfl rfl dX0_bindVariable_37 ?_
      refine mv_topi (fun y8 ey8 => ?_)
      have hw := hw y8 ey8
      refine mv_iconst (v := (1 : Int32)) C dX0_bindVariable_40 (by decide) ?_
      refine mv_iadd C dX0_bindVariable_41 ?_
      refine mv_topi (fun y9 ey9 => ?_)
      have hw := hw y9 ey9
      refine mv_put (ty := .int) (ws1 := wA cA a (mSet u6 10 y9)) C iw_X0_bindVariable_X0 tyX0 tyX0_ok nmX0 16 rfl rfl 7 (by decide) lk_X0_bindVariable_43 rfl rfl rfl rfl rfl (Nat.le_of_ble_eq_true rfl) rfl dX0_bindVariable_42 ?_
      refine mv_nm (f := wA cA a) (fun u10 eu10 => ?_)
      have hw := hw u10 eu10
      exact mv_vret C dX0_bindVariable_45 hw
  · have hw := hw.2 h3
    refine mv_aload_n C dX0_bindVariable_13 rfl 0 rfl ?_
    refine mv_get (v := .ref (a 14)) C iw_X0_bindVariable_X0 16 rfl rfl 3 (by decide) lk_X0_bindVariable_23 rfl rfl dX0_bindVariable_14 ?_
    refine mv_iconst (v := (3 : Int32)) C dX0_bindVariable_17 (by decide) ?_
    refine mv_callVv (f := wA cA a) (As := [.int (3 : Int32)]) (rest := []) C (eA_ok a) hs 14 rfl rfl (X2_fail_met (l := l) (lev := lev - 1) (by omega) hw) (cwV 1 C.2.2.2.2.1 gX0_bindVariable_X2_fail rfl rfl rfl (by decide +kernel) (mRm_le (by omega) (by decide))) rfl rfl (Nat.le_of_ble_eq_true rfl) dX0_bindVariable_18 ⟨Nat.le_refl 0, Nat.le_refl 0⟩ (fun u12 hw => ?_)
    exact mv_vret C dX0_bindVariable_21 hw
set_option maxHeartbeats 4000000 in
set_option maxRecDepth 100000 in
theorem wj_X0_putVariables_56_ok (C : mC p s m args meth c cX0_putVariables 4 wsX0_putVariables RX0 none (dC, dI) vwCl [(cA, .int)] A) (hs : eA a A s) (hlev : 3 ≤ lev) {post : mS → Prop} {K38 : Int32 → Int32 → Int32 → mS → Prop} (hK38 : ∀ (x1 x2 x3 : Int32) (u : mS), K38 x1 x2 x3 u → mV p l e (mRm lev) s m args below meth c 4 (dC, dI) vwCl A 0 0 (mQv below args s (dC, dI) vwCl [(cA, .int)] (wA cA a) A post) (wA cA a u) 38 [(0, .ref (a 16)), (1, .int x1), (2, .int x2), (3, .int x3)] []) {x1 x2 x3 : Int32} {u : mS} (hw : wj_X0_putVariables_56 K38 post x1 x2 x3 u) : mV p l e (mRm lev) s m args below meth c 4 (dC, dI) vwCl A 0 0 (mQv below args s (dC, dI) vwCl [(cA, .int)] (wA cA a) A post) (wA cA a u) 56 [(0, .ref (a 16)), (1, .int x1), (2, .int x2), (3, .int x3)] [] := by
  unfold wj_X0_putVariables_56 at hw
  refine mv_aload_n C dX0_putVariables_56 rfl 0 rfl ?_
  refine mv_get (v := .ref (a 14)) C iw_X0_putVariables_X0 16 rfl rfl 3 (by decide) lk_X0_putVariables_23 rfl rfl dX0_putVariables_57 ?_
  refine mv_iload_n C dX0_putVariables_60 rfl 1 rfl ?_
  refine mv_iload_n C dX0_putVariables_61 rfl 3 rfl ?_
  refine mv_iadd C dX0_putVariables_62 ?_
  refine mv_topi (fun y17 ey17 => ?_)
  have hw := hw y17 ey17
  refine mv_callVv (f := wA cA a) (As := [.int y17]) (rest := []) C (eA_ok a) hs 14 rfl rfl (X2_putVariable_met (l := l) (lev := lev - 1) (by omega) hw) (cwV 1 C.2.2.2.2.1 gX0_putVariables_X2_putVariable rfl rfl rfl (by decide +kernel) (mRm_le (by omega) (by decide))) rfl rfl (Nat.le_of_ble_eq_true rfl) dX0_putVariables_63 ⟨Nat.le_refl 0, Nat.le_refl 0⟩ (fun u19 hw => ?_)
  obtain ⟨y20, ey20⟩ : ∃ z : Int32, z = x3 + (1 : Int32) := ⟨_, rfl⟩
  have hw := hw y20 ey20
  refine mv_iinc (v := y20) (lv1 := [(3, .int y20), (0, .ref (a 16)), (1, .int x1), (2, .int x2)]) C dX0_putVariables_66 3 rfl (by rw [ey20]; rfl) (by decide) rfl ?_
  refine mv_goto (tgt := 38) C dX0_putVariables_69 (by decide) ?_
  refine mv_sub [1, 2, 3, 0] rfl ?_
  exact hK38 x1 x2 y20 u19 hw
set_option maxHeartbeats 4000000 in
set_option maxRecDepth 100000 in
theorem wj_X0_putVariables_38_ok (C : mC p s m args meth c cX0_putVariables 4 wsX0_putVariables RX0 none (dC, dI) vwCl [(cA, .int)] A) (hs : eA a A s) (hlev : 3 ≤ lev) {post : mS → Prop} {K38 : Int32 → Int32 → Int32 → mS → Prop} (hK38 : ∀ (x1 x2 x3 : Int32) (u : mS), K38 x1 x2 x3 u → mV p l e (mRm lev) s m args below meth c 4 (dC, dI) vwCl A 0 0 (mQv below args s (dC, dI) vwCl [(cA, .int)] (wA cA a) A post) (wA cA a u) 38 [(0, .ref (a 16)), (1, .int x1), (2, .int x2), (3, .int x3)] []) {x1 x2 x3 : Int32} {u : mS} (hw : wj_X0_putVariables_38 K38 post x1 x2 x3 u) : mV p l e (mRm lev) s m args below meth c 4 (dC, dI) vwCl A 0 0 (mQv below args s (dC, dI) vwCl [(cA, .int)] (wA cA a) A post) (wA cA a u) 38 [(0, .ref (a 16)), (1, .int x1), (2, .int x2), (3, .int x3)] [] := by
  unfold wj_X0_putVariables_38 at hw
  refine mv_iload_n C dX0_putVariables_38 rfl 3 rfl ?_
  refine mv_iload_n C dX0_putVariables_39 rfl 2 rfl ?_
  refine mv_icmp_ge (tgt := 72) C dX0_putVariables_40 (by decide) (fun h9 => ?_) (fun h9 => ?_)
  · have hw := hw.1 h9
    refine mv_aload_n C dX0_putVariables_72 rfl 0 rfl ?_
    refine mv_get (v := .ref (a 14)) C iw_X0_putVariables_X0 16 rfl rfl 3 (by decide) lk_X0_putVariables_23 rfl rfl dX0_putVariables_73 ?_
    refine mv_bipush (v := (41 : Int32)) C dX0_putVariables_76 (by decide) ?_
    refine mv_callVv (f := wA cA a) (As := [.int (41 : Int32)]) (rest := []) C (eA_ok a) hs 14 rfl rfl (X2_put_met (l := l) (lev := lev - 1) (by omega) hw) (cwV 1 C.2.2.2.2.1 gX0_putVariables_X2_put rfl rfl rfl (by decide +kernel) (mRm_le (by omega) (by decide))) rfl rfl (Nat.le_of_ble_eq_true rfl) dX0_putVariables_78 ⟨Nat.le_refl 0, Nat.le_refl 0⟩ (fun u11 hw => ?_)
    refine mv_aload_n C dX0_putVariables_81 rfl 0 rfl ?_
    refine mv_get (v := .ref (a 14)) C iw_X0_putVariables_X0 16 rfl rfl 3 (by decide) lk_X0_putVariables_23 rfl rfl dX0_putVariables_82 ?_
    refine mv_bipush (v := (32 : Int32)) C dX0_putVariables_85 (by decide) ?_
    refine mv_callVv (f := wA cA a) (As := [.int (32 : Int32)]) (rest := []) C (eA_ok a) hs 14 rfl rfl (X2_put_met (l := l) (lev := lev - 1) (by omega) hw) (cwV 1 C.2.2.2.2.1 gX0_putVariables_X2_put rfl rfl rfl (by decide +kernel) (mRm_le (by omega) (by decide))) rfl rfl (Nat.le_of_ble_eq_true rfl) dX0_putVariables_87 ⟨Nat.le_refl 0, Nat.le_refl 0⟩ (fun u13 hw => ?_)
    exact mv_vret C dX0_putVariables_90 hw
  · have hw := hw.2 h9
    refine mv_iload_n C dX0_putVariables_43 rfl 3 rfl ?_
    refine mv_if_le (tgt := 56) C dX0_putVariables_44 (by decide) (fun h14 => ?_) (fun h14 => ?_)
    · have hw := hw.1 h14
      exact wj_X0_putVariables_56_ok C hs hlev hK38 hw
    · have hw := hw.2 h14
      refine mv_aload_n C dX0_putVariables_47 rfl 0 rfl ?_
      refine mv_get (v := .ref (a 14)) C iw_X0_putVariables_X0 16 rfl rfl 3 (by decide) lk_X0_putVariables_23 rfl rfl dX0_putVariables_48 ?_
      refine mv_bipush (v := (32 : Int32)) C dX0_putVariables_51 (by decide) ?_
      refine mv_callVv (f := wA cA a) (As := [.int (32 : Int32)]) (rest := []) C (eA_ok a) hs 14 rfl rfl (X2_put_met (l := l) (lev := lev - 1) (by omega) hw) (cwV 1 C.2.2.2.2.1 gX0_putVariables_X2_put rfl rfl rfl (by decide +kernel) (mRm_le (by omega) (by decide))) rfl rfl (Nat.le_of_ble_eq_true rfl) dX0_putVariables_53 ⟨Nat.le_refl 0, Nat.le_refl 0⟩ (fun u16 hw => ?_)
      exact wj_X0_putVariables_56_ok C hs hlev hK38 hw
set_option maxHeartbeats 4000000 in
set_option maxRecDepth 100000 in
theorem X0_putVariables_met (hlev : 3 ≤ lev) {x1 x2 : Int32} {u : mS} {post : mS → Prop} (hw : wp_X0_putVariables x1 x2 u post) : mKv l yX0_putVariables wsX0_putVariables lev (eA a) (dC, dI) vwCl [(cA, .int)] (wA cA a) [.ref (a 16), .int x1, .int x2] u post := by
  refine mKv_of (cc := cX0_putVariables) (maxL := 4) (by decide) rfl rfl (Nat.le_of_ble_eq_true rfl) rfl ?_
  intro p e s m args below meth c A C hs
  unfold wp_X0_putVariables at hw
  refine mv_aload_n C dX0_putVariables_0 rfl 0 rfl ?_
  refine mv_get (v := .ref (a 14)) C iw_X0_putVariables_X0 16 rfl rfl 3 (by decide) lk_X0_putVariables_23 rfl rfl dX0_putVariables_1 ?_
  refine mv_bipush (v := (40 : Int32)) C dX0_putVariables_4 (by decide) ?_
  refine mv_callVv (f := wA cA a) (As := [.int (40 : Int32)]) (rest := []) C (eA_ok a) hs 14 rfl rfl (X2_put_met (l := l) (lev := lev - 1) (by omega) hw) (cwV 1 C.2.2.2.2.1 gX0_putVariables_X2_put rfl rfl rfl (by decide +kernel) (mRm_le (by omega) (by decide))) rfl rfl (Nat.le_of_ble_eq_true rfl) dX0_putVariables_6 ⟨Nat.le_refl 0, Nat.le_refl 0⟩ (fun u2 hw => ?_)
  refine mv_aload_n C dX0_putVariables_9 rfl 0 rfl ?_
  refine mv_get (v := .ref (a 14)) C iw_X0_putVariables_X0 16 rfl rfl 3 (by decide) lk_X0_putVariables_23 rfl rfl dX0_putVariables_10 ?_
  refine mv_ldc (v := (91758 : Int32)) C mw_X0_putVariables__constant_RX0_158_91758_Int32_ dX0_putVariables_13 ?_
  refine mv_callVv (f := wA cA a) (As := [.int (91758 : Int32)]) (rest := []) C (eA_ok a) hs 14 rfl rfl (X2_putName_met (l := l) (lev := lev - 1) (by omega) hw) (cwV 1 C.2.2.2.2.1 gX0_putVariables_X2_putName rfl rfl rfl (by decide +kernel) (mRm_le (by omega) (by decide))) rfl rfl (Nat.le_of_ble_eq_true rfl) dX0_putVariables_15 ⟨Nat.le_refl 0, Nat.le_refl 0⟩ (fun u4 hw => ?_)
  refine mv_aload_n C dX0_putVariables_18 rfl 0 rfl ?_
  refine mv_get (v := .ref (a 14)) C iw_X0_putVariables_X0 16 rfl rfl 3 (by decide) lk_X0_putVariables_23 rfl rfl dX0_putVariables_19 ?_
  refine mv_bipush (v := (32 : Int32)) C dX0_putVariables_22 (by decide) ?_
  refine mv_callVv (f := wA cA a) (As := [.int (32 : Int32)]) (rest := []) C (eA_ok a) hs 14 rfl rfl (X2_put_met (l := l) (lev := lev - 1) (by omega) hw) (cwV 1 C.2.2.2.2.1 gX0_putVariables_X2_put rfl rfl rfl (by decide +kernel) (mRm_le (by omega) (by decide))) rfl rfl (Nat.le_of_ble_eq_true rfl) dX0_putVariables_24 ⟨Nat.le_refl 0, Nat.le_refl 0⟩ (fun u6 hw => ?_)
  refine mv_aload_n C dX0_putVariables_27 rfl 0 rfl ?_
  refine mv_get (v := .ref (a 14)) C iw_X0_putVariables_X0 16 rfl rfl 3 (by decide) lk_X0_putVariables_23 rfl rfl dX0_putVariables_28 ?_
  refine mv_bipush (v := (40 : Int32)) C dX0_putVariables_31 (by decide) ?_
  refine mv_callVv (f := wA cA a) (As := [.int (40 : Int32)]) (rest := []) C (eA_ok a) hs 14 rfl rfl (X2_put_met (l := l) (lev := lev - 1) (by omega) hw) (cwV 1 C.2.2.2.2.1 gX0_putVariables_X2_put rfl rfl rfl (by decide +kernel) (mRm_le (by omega) (by decide))) rfl rfl (Nat.le_of_ble_eq_true rfl) dX0_putVariables_33 ⟨Nat.le_refl 0, Nat.le_refl 0⟩ (fun u8 hw => ?_)
  refine mv_iconst (v := (0 : Int32)) C dX0_putVariables_36 (by decide) ?_
  refine mv_istore_n (lv1 := [(3, .int (0 : Int32)), (0, .ref (a 16)), (1, .int x1), (2, .int x2)]) C dX0_putVariables_37 rfl (by decide) rfl ?_
  refine mv_sub [1, 2, 3, 0] rfl ?_
  obtain ⟨n, hw⟩ := hw
  exact mL4_of (fun K hK b0 b1 b2 b3 hw => wj_X0_putVariables_38_ok C hs hlev hK hw) n x1 x2 (0 : Int32) u8 hw
set_option maxHeartbeats 4000000 in
set_option maxRecDepth 100000 in
theorem wj_X0_expandFn_34_ok (C : mC p s m args meth c cX0_expandFn 9 wsX0_expandFn RX0 none (dC, dI) vwCl [(cA, .int)] A) (hs : eA a A s) (hlev : 4 ≤ lev) {X : Int32 → Int32 → mS → (mS → Prop) → Prop} {levX : Nat} (hlx : levX + 1 ≤ lev) (hX : ∀ (t r : Int32) (u : mS) (post : mS → Prop), X t r u post → mKv l yX0_expandTree wsX0_expandTree levX (eA a) (dC, dI) vwCl [(cA, .int)] (wA cA a) [.ref (a 16), .int t, .int r] u post) {post : mS → Prop} {u : mS} (hw : wj_X0_expandFn_34 X post  u) : mV p l e (mRm lev) s m args below meth c 9 (dC, dI) vwCl A 0 0 (mQv below args s (dC, dI) vwCl [(cA, .int)] (wA cA a) A post) (wA cA a u) 34 [(0, .ref (a 16))] [] := by
  unfold wj_X0_expandFn_34 at hw
  refine mv_aload_n C dX0_expandFn_34 rfl 0 rfl ?_
  refine mv_get (v := .ref (a 14)) C iw_X0_expandFn_X0 16 rfl rfl 3 (by decide) lk_X0_expandFn_23 rfl rfl dX0_expandFn_35 ?_
  refine mv_iconst (v := (3 : Int32)) C dX0_expandFn_38 (by decide) ?_
  refine mv_callVv (f := wA cA a) (As := [.int (3 : Int32)]) (rest := []) C (eA_ok a) hs 14 rfl rfl (X2_fail_met (l := l) (lev := lev - 1) (by omega) hw) (cwV 1 C.2.2.2.2.1 gX0_expandFn_X2_fail rfl rfl rfl (by decide +kernel) (mRm_le (by omega) (by decide))) rfl rfl (Nat.le_of_ble_eq_true rfl) dX0_expandFn_39 ⟨Nat.le_refl 0, Nat.le_refl 0⟩ (fun u39 hw => ?_)
  exact mv_vret C dX0_expandFn_42 hw
set_option maxHeartbeats 4000000 in
set_option maxRecDepth 100000 in
theorem wj_X0_expandFn_133_ok (C : mC p s m args meth c cX0_expandFn 9 wsX0_expandFn RX0 none (dC, dI) vwCl [(cA, .int)] A) (hs : eA a A s) (hlev : 4 ≤ lev) {X : Int32 → Int32 → mS → (mS → Prop) → Prop} {levX : Nat} (hlx : levX + 1 ≤ lev) (hX : ∀ (t r : Int32) (u : mS) (post : mS → Prop), X t r u post → mKv l yX0_expandTree wsX0_expandTree levX (eA a) (dC, dI) vwCl [(cA, .int)] (wA cA a) [.ref (a 16), .int t, .int r] u post) {post : mS → Prop} {x2 x4 x6 x7 : Int32} {u : mS} (hw : wj_X0_expandFn_133 X post x2 x4 x6 x7 u) : mV p l e (mRm lev) s m args below meth c 9 (dC, dI) vwCl A 0 0 (mQv below args s (dC, dI) vwCl [(cA, .int)] (wA cA a) A post) (wA cA a u) 133 [(0, .ref (a 16)), (2, .int x2), (4, .int x4), (6, .int x6), (7, .int x7)] [] := by
  unfold wj_X0_expandFn_133 at hw
  refine mv_aload_n C dX0_expandFn_133 rfl 0 rfl ?_
  refine mv_get (v := .ref (a 14)) C iw_X0_expandFn_X0 16 rfl rfl 3 (by decide) lk_X0_expandFn_23 rfl rfl dX0_expandFn_134 ?_
  refine mv_getN (v := .int (u.1 7)) C iw_X0_expandFn_X2 14 rfl rfl 2 (by decide) (hs.1 _ nw_4) rfl rfl dX0_expandFn_137 ?_
  refine mv_topi (fun y30 ey30 => ?_)
  have hw := hw y30 ey30
  refine mv_if_eq (tgt := 144) C dX0_expandFn_140 (by decide) (fun h31 => ?_) (fun h31 => ?_)
  · have hw := hw.1 h31
    refine mv_aload_n C dX0_expandFn_144 rfl 0 rfl ?_
    refine mv_iload C dX0_expandFn_145 3 rfl ?_
    refine mv_iload C dX0_expandFn_147 4 rfl ?_
    refine mv_callVv (f := wA cA a) (As := [.int x6, .int x7]) (rest := []) C (eA_ok a) hs 16 rfl rfl (X0_putVariables_met (l := l) (lev := lev - 1) (by omega) hw) (cwV 2 C.2.2.2.2.1 gX0_expandFn_X0_putVariables rfl rfl rfl (by decide +kernel) (mRm_le (by omega) (by decide))) rfl rfl (Nat.le_of_ble_eq_true rfl) dX0_expandFn_149 ⟨Nat.le_refl 0, Nat.le_refl 0⟩ (fun u33 hw => ?_)
    refine mv_aload_n C dX0_expandFn_152 rfl 0 rfl ?_
    refine mv_iload C dX0_expandFn_153 2 rfl ?_
    refine mv_iload_n C dX0_expandFn_155 rfl 1 rfl ?_
    refine mv_iconst (v := (1 : Int32)) C dX0_expandFn_156 (by decide) ?_
    refine mv_iadd C dX0_expandFn_157 ?_
    refine mv_topi (fun y34 ey34 => ?_)
    have hw := hw y34 ey34
    refine mv_callVv (f := wA cA a) (As := [.int x4, .int y34]) (rest := []) C (eA_ok a) hs 16 rfl rfl (hX _ _ _ _ hw) (cwV 2 C.2.2.2.2.1 gX0_expandFn_X0_expandTree rfl rfl rfl (by decide +kernel) (mRm_le (by omega) (by decide))) rfl rfl (Nat.le_of_ble_eq_true rfl) dX0_expandFn_158 ⟨Nat.le_refl 0, Nat.le_refl 0⟩ (fun u35 hw => ?_)
    refine mv_aload_n C dX0_expandFn_161 rfl 0 rfl ?_
    refine mv_get (v := .ref (a 14)) C iw_X0_expandFn_X0 16 rfl rfl 3 (by decide) lk_X0_expandFn_23 rfl rfl dX0_expandFn_162 ?_
    refine mv_bipush (v := (41 : Int32)) C dX0_expandFn_165 (by decide) ?_
    refine mv_callVv (f := wA cA a) (As := [.int (41 : Int32)]) (rest := []) C (eA_ok a) hs 14 rfl rfl (X2_put_met (l := l) (lev := lev - 1) (by omega) hw) (cwV 1 C.2.2.2.2.1 gX0_expandFn_X2_put rfl rfl rfl (by decide +kernel) (mRm_le (by omega) (by decide))) rfl rfl (Nat.le_of_ble_eq_true rfl) dX0_expandFn_167 ⟨Nat.le_refl 0, Nat.le_refl 0⟩ (fun u37 hw => ?_)
    exact mv_vret C dX0_expandFn_170 hw
  · have hw := hw.2 h31
    exact mv_vret C dX0_expandFn_143 hw
set_option maxHeartbeats 4000000 in
set_option maxRecDepth 100000 in
theorem wj_X0_expandFn_97_ok (C : mC p s m args meth c cX0_expandFn 9 wsX0_expandFn RX0 none (dC, dI) vwCl [(cA, .int)] A) (hs : eA a A s) (hlev : 4 ≤ lev) {X : Int32 → Int32 → mS → (mS → Prop) → Prop} {levX : Nat} (hlx : levX + 1 ≤ lev) (hX : ∀ (t r : Int32) (u : mS) (post : mS → Prop), X t r u post → mKv l yX0_expandTree wsX0_expandTree levX (eA a) (dC, dI) vwCl [(cA, .int)] (wA cA a) [.ref (a 16), .int t, .int r] u post) {post : mS → Prop} {K97 : Int32 → Int32 → Int32 → Int32 → Int32 → Int32 → mS → Prop} (hK97 : ∀ (x2 x3 x4 x6 x7 x8 : Int32) (u : mS), K97 x2 x3 x4 x6 x7 x8 u → mV p l e (mRm lev) s m args below meth c 9 (dC, dI) vwCl A 0 0 (mQv below args s (dC, dI) vwCl [(cA, .int)] (wA cA a) A post) (wA cA a u) 97 [(0, .ref (a 16)), (2, .int x2), (3, .int x3), (4, .int x4), (6, .int x6), (7, .int x7), (8, .int x8)] []) {x2 x3 x4 x6 x7 x8 : Int32} {u : mS} (hw : wj_X0_expandFn_97 X K97 post x2 x3 x4 x6 x7 x8 u) : mV p l e (mRm lev) s m args below meth c 9 (dC, dI) vwCl A 0 0 (mQv below args s (dC, dI) vwCl [(cA, .int)] (wA cA a) A post) (wA cA a u) 97 [(0, .ref (a 16)), (2, .int x2), (3, .int x3), (4, .int x4), (6, .int x6), (7, .int x7), (8, .int x8)] [] := by
  unfold wj_X0_expandFn_97 at hw
  refine mv_iload C dX0_expandFn_97 6 rfl ?_
  refine mv_iload C dX0_expandFn_99 5 rfl ?_
  refine mv_icmp_ge (tgt := 133) C dX0_expandFn_101 (by decide) (fun h21 => ?_) (fun h21 => ?_)
  · have hw := hw.1 h21
    refine mv_sub [0, 1, 3, 4, 5] rfl ?_
    exact wj_X0_expandFn_133_ok C hs hlev hlx hX hw
  · have hw := hw.2 h21
    refine mv_aload_n C dX0_expandFn_104 rfl 0 rfl ?_
    refine mv_get (v := .ref (a 14)) C iw_X0_expandFn_X0 16 rfl rfl 3 (by decide) lk_X0_expandFn_23 rfl rfl dX0_expandFn_105 ?_
    refine mv_getN (v := .int (u.1 7)) C iw_X0_expandFn_X2 14 rfl rfl 2 (by decide) (hs.1 _ nw_4) rfl rfl dX0_expandFn_108 ?_
    refine mv_topi (fun y22 ey22 => ?_)
    have hw := hw y22 ey22
    refine mv_if_ne (tgt := 133) C dX0_expandFn_111 (by decide) (fun h23 => ?_) (fun h23 => ?_)
    · have hw := hw.1 h23
      refine mv_sub [0, 1, 3, 4, 5] rfl ?_
      exact wj_X0_expandFn_133_ok C hs hlev hlx hX hw
    · have hw := hw.2 h23
      refine mv_aload_n C dX0_expandFn_114 rfl 0 rfl ?_
      refine mv_iload_n C dX0_expandFn_115 rfl 2 rfl ?_
      refine mv_iconst (v := (1 : Int32)) C dX0_expandFn_116 (by decide) ?_
      refine mv_iadd C dX0_expandFn_117 ?_
      refine mv_topi (fun y24 ey24 => ?_)
      have hw := hw y24 ey24
      refine mv_iload_n C dX0_expandFn_118 rfl 2 rfl ?_
      refine mv_iconst (v := (1 : Int32)) C dX0_expandFn_119 (by decide) ?_
      refine mv_iadd C dX0_expandFn_120 ?_
      refine mv_topi (fun y25 ey25 => ?_)
      have hw := hw y25 ey25
      refine mv_iload C dX0_expandFn_121 6 rfl ?_
      refine mv_iadd C dX0_expandFn_123 ?_
      refine mv_topi (fun y26 ey26 => ?_)
      have hw := hw y26 ey26
      refine mv_callVv (f := wA cA a) (As := [.int y24, .int y26]) (rest := []) C (eA_ok a) hs 16 rfl rfl (X0_bindVariable_met (l := l) (lev := lev - 1) (by omega) hw) (cwV 2 C.2.2.2.2.1 gX0_expandFn_X0_bindVariable rfl rfl rfl (by decide +kernel) (mRm_le (by omega) (by decide))) rfl rfl (Nat.le_of_ble_eq_true rfl) dX0_expandFn_124 ⟨Nat.le_refl 0, Nat.le_refl 0⟩ (fun u28 hw => ?_)
      obtain ⟨y29, ey29⟩ : ∃ z : Int32, z = x8 + (1 : Int32) := ⟨_, rfl⟩
      have hw := hw y29 ey29
      refine mv_iinc (v := y29) (lv1 := [(8, .int y29), (0, .ref (a 16)), (2, .int x2), (3, .int x3), (4, .int x4), (6, .int x6), (7, .int x7)]) C dX0_expandFn_127 6 rfl (by rw [ey29]; rfl) (by decide) rfl ?_
      refine mv_goto (tgt := 97) C dX0_expandFn_130 (by decide) ?_
      refine mv_sub [1, 2, 3, 4, 5, 6, 0] rfl ?_
      exact hK97 x2 x3 x4 x6 x7 y29 u28 hw
set_option maxHeartbeats 4000000 in
set_option maxRecDepth 100000 in
theorem X0_expandFn_met (hlev : 4 ≤ lev) {X : Int32 → Int32 → mS → (mS → Prop) → Prop} {levX : Nat} (hlx : levX + 1 ≤ lev) (hX : ∀ (t r : Int32) (u : mS) (post : mS → Prop), X t r u post → mKv l yX0_expandTree wsX0_expandTree levX (eA a) (dC, dI) vwCl [(cA, .int)] (wA cA a) [.ref (a 16), .int t, .int r] u post) {x1 x2 : Int32} {u : mS} {post : mS → Prop} (hw : wp_X0_expandFn X x1 x2 u post) : mKv l yX0_expandFn wsX0_expandFn lev (eA a) (dC, dI) vwCl [(cA, .int)] (wA cA a) [.ref (a 16), .int x1, .int x2] u post := by
  refine mKv_of (cc := cX0_expandFn) (maxL := 9) (by decide) rfl rfl (Nat.le_of_ble_eq_true rfl) rfl ?_
  intro p e s m args below meth c A C hs
  unfold wp_X0_expandFn at hw
  refine mv_iload_n C dX0_expandFn_0 rfl 1 rfl ?_
  refine mv_iconst (v := (2 : Int32)) C dX0_expandFn_1 (by decide) ?_
  refine mv_iadd C dX0_expandFn_2 ?_
  refine mv_topi (fun y1 ey1 => ?_)
  have hw := hw y1 ey1
  refine mv_istore_n (lv1 := [(3, .int y1), (0, .ref (a 16)), (1, .int x1), (2, .int x2)]) C dX0_expandFn_3 rfl (by decide) rfl ?_
  refine mv_aload_n C dX0_expandFn_4 rfl 1 rfl ?_
  refine mv_get (v := .ref (a 2)) C iw_X0_expandFn_X0 16 rfl rfl 0 (by decide) lk_X0_expandFn_9 rfl rfl dX0_expandFn_5 ?_
  refine mv_iload_n C dX0_expandFn_8 rfl 0 rfl ?_
  refine mv_callVi (f := wA cA a) (As := [.int y1]) (rest := []) C (eA_ok a) hs 2 rfl rfl (X5_after_met (l := l) (lev := lev - 1) (by omega) hw) (cwV 1 C.2.2.2.2.1 gX0_expandFn_X5_after rfl rfl rfl (by decide +kernel) (mRm_le (by omega) (by decide))) rfl rfl (Nat.le_of_ble_eq_true rfl) dX0_expandFn_9 ⟨Nat.le_refl 0, Nat.le_refl 0⟩ (fun r2 u3 hw => ?_)
  refine mv_istore (lv1 := [(4, .int r2), (3, .int y1), (0, .ref (a 16)), (1, .int x1), (2, .int x2)]) C dX0_expandFn_12 (by decide) rfl ?_
  refine mv_aload_n C dX0_expandFn_14 rfl 2 rfl ?_
  refine mv_get (v := .ref (a 2)) C iw_X0_expandFn_X0 16 rfl rfl 0 (by decide) lk_X0_expandFn_9 rfl rfl dX0_expandFn_15 ?_
  refine mv_iload_n C dX0_expandFn_18 rfl 3 rfl ?_
  refine mv_callVi (f := wA cA a) (As := [.int x1]) (rest := []) C (eA_ok a) hs 2 rfl rfl (X5_plainLength_met (l := l) (lev := lev - 1) (by omega) hw) (cwV 1 C.2.2.2.2.1 gX0_expandFn_X5_plainLength rfl rfl rfl (by decide +kernel) (mRm_le (by omega) (by decide))) rfl rfl (Nat.le_of_ble_eq_true rfl) dX0_expandFn_19 ⟨Nat.le_refl 0, Nat.le_refl 0⟩ (fun r4 u5 hw => ?_)
  refine mv_iconst (v := (3 : Int32)) C dX0_expandFn_22 (by decide) ?_
  refine mv_icmp_ne (tgt := 34) C dX0_expandFn_23 (by decide) (fun h6 => ?_) (fun h6 => ?_)
  · have hw := hw.1 h6
    refine mv_sub [2] rfl ?_
    exact wj_X0_expandFn_34_ok C hs hlev hlx hX hw
  · have hw := hw.2 h6
    refine mv_aload_n C dX0_expandFn_26 rfl 2 rfl ?_
    refine mv_iload_n C dX0_expandFn_27 rfl 1 rfl ?_
    refine mv_callVi (f := wA cA a) (As := [.int y1]) (rest := []) C (eA_ok a) hs 16 rfl rfl (X0_areNames_met (l := l) (lev := lev - 1) (by omega) hw) (cwV 1 C.2.2.2.2.1 gX0_expandFn_X0_areNames rfl rfl rfl (by decide +kernel) (mRm_le (by omega) (by decide))) rfl rfl (Nat.le_of_ble_eq_true rfl) dX0_expandFn_28 ⟨Nat.le_refl 0, Nat.le_refl 0⟩ (fun r7 u8 hw => ?_)
    obtain ⟨gr7, hw⟩ := hw
    refine mv_if_ne (tgt := 43) C dX0_expandFn_31 (by decide) (fun h9 => ?_) (fun h9 => ?_)
    · have hw := hw.1 h9
      refine mv_aload_n C dX0_expandFn_43 rfl 2 rfl ?_
      refine mv_callVi (f := wA cA a) (As := []) (rest := []) C (eA_ok a) hs 16 rfl rfl (X0_newScope_met (l := l) (lev := lev - 1) (by omega) hw) (cwV 0 C.2.2.2.2.1 gX0_expandFn_X0_newScope rfl rfl rfl (by decide +kernel) (mRm_le (by omega) (by decide))) rfl rfl (Nat.le_of_ble_eq_true rfl) dX0_expandFn_44 ⟨Nat.le_refl 0, Nat.le_refl 0⟩ (fun r10 u11 hw => ?_)
      refine mv_istore (lv1 := [(5, .int r10), (4, .int r2), (3, .int y1), (0, .ref (a 16)), (1, .int x1), (2, .int x2)]) C dX0_expandFn_47 (by decide) rfl ?_
      refine mv_iload C dX0_expandFn_49 0 rfl ?_
      refine mv_if_ge (tgt := 55) C dX0_expandFn_51 (by decide) (fun h12 => ?_) (fun h12 => ?_)
      · have hw := hw.1 h12
        refine mv_aload_n C dX0_expandFn_55 rfl 3 rfl ?_
        refine mv_get (v := .ref (a 2)) C iw_X0_expandFn_X0 16 rfl rfl 0 (by decide) lk_X0_expandFn_9 rfl rfl dX0_expandFn_56 ?_
        refine mv_iload_n C dX0_expandFn_59 rfl 2 rfl ?_
        refine mv_iload C dX0_expandFn_60 0 rfl ?_
        refine mv_callVv (f := wA cA a) (As := [.int y1, .int r10]) (rest := []) C (eA_ok a) hs 2 rfl rfl (X5_turnScope_met (l := l) (lev := lev - 1) (by omega) hw) (cwV 2 C.2.2.2.2.1 gX0_expandFn_X5_turnScope rfl rfl rfl (by decide +kernel) (mRm_le (by omega) (by decide))) rfl rfl (Nat.le_of_ble_eq_true rfl) dX0_expandFn_62 ⟨Nat.le_refl 0, Nat.le_refl 0⟩ (fun u14 hw => ?_)
        refine mv_aload_n C dX0_expandFn_65 rfl 3 rfl ?_
        refine mv_get (v := .ref (a 2)) C iw_X0_expandFn_X0 16 rfl rfl 0 (by decide) lk_X0_expandFn_9 rfl rfl dX0_expandFn_66 ?_
        refine mv_iload C dX0_expandFn_69 1 rfl ?_
        refine mv_iload C dX0_expandFn_71 0 rfl ?_
        refine mv_callVv (f := wA cA a) (As := [.int r2, .int r10]) (rest := []) C (eA_ok a) hs 2 rfl rfl (X5_turnScope_met (l := l) (lev := lev - 1) (by omega) hw) (cwV 2 C.2.2.2.2.1 gX0_expandFn_X5_turnScope rfl rfl rfl (by decide +kernel) (mRm_le (by omega) (by decide))) rfl rfl (Nat.le_of_ble_eq_true rfl) dX0_expandFn_73 ⟨Nat.le_refl 0, Nat.le_refl 0⟩ (fun u16 hw => ?_)
        refine mv_aload_n C dX0_expandFn_76 rfl 3 rfl ?_
        refine mv_get (v := .int (u16.1 10)) C iw_X0_expandFn_X0 16 rfl rfl 7 (by decide) lk_X0_expandFn_43 rfl rfl dX0_expandFn_77 ?_
        refine mv_topi (fun y17 ey17 => ?_)
        have hw := hw y17 ey17
        refine mv_istore (lv1 := [(6, .int y17), (5, .int r10), (4, .int r2), (3, .int y1), (0, .ref (a 16)), (1, .int x1), (2, .int x2)]) C dX0_expandFn_80 (by decide) rfl ?_
        refine mv_aload_n C dX0_expandFn_82 rfl 4 rfl ?_
        refine mv_get (v := .ref (a 2)) C iw_X0_expandFn_X0 16 rfl rfl 0 (by decide) lk_X0_expandFn_9 rfl rfl dX0_expandFn_83 ?_
        refine mv_iload_n C dX0_expandFn_86 rfl 3 rfl ?_
        refine mv_iconst (v := (1 : Int32)) C dX0_expandFn_87 (by decide) ?_
        refine mv_iadd C dX0_expandFn_88 ?_
        refine mv_topi (fun y18 ey18 => ?_)
        have hw := hw y18 ey18
        refine mv_callVi (f := wA cA a) (As := [.int y18]) (rest := []) C (eA_ok a) hs 2 rfl rfl (X5_itemsFrom_met (l := l) (lev := lev - 1) (by omega) hw) (cwV 1 C.2.2.2.2.1 gX0_expandFn_X5_itemsFrom rfl rfl rfl (by decide +kernel) (mRm_le (by omega) (by decide))) rfl rfl (Nat.le_of_ble_eq_true rfl) dX0_expandFn_89 ⟨Nat.le_refl 0, Nat.le_refl 0⟩ (fun r19 u20 hw => ?_)
        refine mv_istore (lv1 := [(7, .int r19), (6, .int y17), (5, .int r10), (4, .int r2), (3, .int y1), (0, .ref (a 16)), (1, .int x1), (2, .int x2)]) C dX0_expandFn_92 (by decide) rfl ?_
        refine mv_iconst (v := (0 : Int32)) C dX0_expandFn_94 (by decide) ?_
        refine mv_istore (lv1 := [(8, .int (0 : Int32)), (7, .int r19), (6, .int y17), (5, .int r10), (4, .int r2), (3, .int y1), (0, .ref (a 16)), (1, .int x1), (2, .int x2)]) C dX0_expandFn_95 (by decide) rfl ?_
        refine mv_sub [6, 8, 5, 4, 2, 1, 0] rfl ?_
        obtain ⟨n, hw⟩ := hw
        exact mL7_of (fun K hK b0 b1 b2 b3 b4 b5 b6 hw => wj_X0_expandFn_97_ok C hs hlev hlx hX hK hw) n x2 y1 r2 y17 r19 (0 : Int32) u20 hw
      · have hw := hw.2 h12
        exact mv_vret C dX0_expandFn_54 hw
    · have hw := hw.2 h9
      refine mv_sub [2] rfl ?_
      exact wj_X0_expandFn_34_ok C hs hlev hlx hX hw
set_option maxHeartbeats 4000000 in
set_option maxRecDepth 100000 in
theorem wj_X0_expandIf_46_ok (C : mC p s m args meth c cX0_expandIf 5 wsX0_expandIf RX0 none (dC, dI) vwCl [(cA, .int)] A) (hs : eA a A s) (hlev : 2 ≤ lev) {X : Int32 → Int32 → mS → (mS → Prop) → Prop} {levX : Nat} (hlx : levX + 1 ≤ lev) (hX : ∀ (t r : Int32) (u : mS) (post : mS → Prop), X t r u post → mKv l yX0_expandTree wsX0_expandTree levX (eA a) (dC, dI) vwCl [(cA, .int)] (wA cA a) [.ref (a 16), .int t, .int r] u post) {post : mS → Prop} {K46 : Int32 → Int32 → Int32 → mS → Prop} (hK46 : ∀ (x2 x3 x4 : Int32) (u : mS), K46 x2 x3 x4 u → mV p l e (mRm lev) s m args below meth c 5 (dC, dI) vwCl A 0 0 (mQv below args s (dC, dI) vwCl [(cA, .int)] (wA cA a) A post) (wA cA a u) 46 [(0, .ref (a 16)), (2, .int x2), (3, .int x3), (4, .int x4)] []) {x2 x3 x4 : Int32} {u : mS} (hw : wj_X0_expandIf_46 X K46 post x2 x3 x4 u) : mV p l e (mRm lev) s m args below meth c 5 (dC, dI) vwCl A 0 0 (mQv below args s (dC, dI) vwCl [(cA, .int)] (wA cA a) A post) (wA cA a u) 46 [(0, .ref (a 16)), (2, .int x2), (3, .int x3), (4, .int x4)] [] := by
  unfold wj_X0_expandIf_46 at hw
  refine mv_iload C dX0_expandIf_46 3 rfl ?_
  refine mv_iconst (v := (3 : Int32)) C dX0_expandIf_48 (by decide) ?_
  refine mv_icmp_ge (tgt := 84) C dX0_expandIf_49 (by decide) (fun h11 => ?_) (fun h11 => ?_)
  · have hw := hw.1 h11
    refine mv_aload_n C dX0_expandIf_84 rfl 0 rfl ?_
    refine mv_get (v := .ref (a 14)) C iw_X0_expandIf_X0 16 rfl rfl 3 (by decide) lk_X0_expandIf_23 rfl rfl dX0_expandIf_85 ?_
    refine mv_bipush (v := (41 : Int32)) C dX0_expandIf_88 (by decide) ?_
    refine mv_callVv (f := wA cA a) (As := [.int (41 : Int32)]) (rest := []) C (eA_ok a) hs 14 rfl rfl (X2_put_met (l := l) (lev := lev - 1) (by omega) hw) (cwV 1 C.2.2.2.2.1 gX0_expandIf_X2_put rfl rfl rfl (by decide +kernel) (mRm_le (by omega) (by decide))) rfl rfl (Nat.le_of_ble_eq_true rfl) dX0_expandIf_90 ⟨Nat.le_refl 0, Nat.le_refl 0⟩ (fun u13 hw => ?_)
    exact mv_vret C dX0_expandIf_93 hw
  · have hw := hw.2 h11
    refine mv_aload_n C dX0_expandIf_52 rfl 0 rfl ?_
    refine mv_get (v := .ref (a 14)) C iw_X0_expandIf_X0 16 rfl rfl 3 (by decide) lk_X0_expandIf_23 rfl rfl dX0_expandIf_53 ?_
    refine mv_bipush (v := (32 : Int32)) C dX0_expandIf_56 (by decide) ?_
    refine mv_callVv (f := wA cA a) (As := [.int (32 : Int32)]) (rest := []) C (eA_ok a) hs 14 rfl rfl (X2_put_met (l := l) (lev := lev - 1) (by omega) hw) (cwV 1 C.2.2.2.2.1 gX0_expandIf_X2_put rfl rfl rfl (by decide +kernel) (mRm_le (by omega) (by decide))) rfl rfl (Nat.le_of_ble_eq_true rfl) dX0_expandIf_58 ⟨Nat.le_refl 0, Nat.le_refl 0⟩ (fun u15 hw => ?_)
    refine mv_aload_n C dX0_expandIf_61 rfl 0 rfl ?_
    refine mv_iload_n C dX0_expandIf_62 rfl 2 rfl ?_
    refine mv_iload_n C dX0_expandIf_63 rfl 1 rfl ?_
    refine mv_iconst (v := (1 : Int32)) C dX0_expandIf_64 (by decide) ?_
    refine mv_iadd C dX0_expandIf_65 ?_
    refine mv_topi (fun y16 ey16 => ?_)
    have hw := hw y16 ey16
    refine mv_callVv (f := wA cA a) (As := [.int x3, .int y16]) (rest := []) C (eA_ok a) hs 16 rfl rfl (hX _ _ _ _ hw) (cwV 2 C.2.2.2.2.1 gX0_expandIf_X0_expandTree rfl rfl rfl (by decide +kernel) (mRm_le (by omega) (by decide))) rfl rfl (Nat.le_of_ble_eq_true rfl) dX0_expandIf_66 ⟨Nat.le_refl 0, Nat.le_refl 0⟩ (fun u17 hw => ?_)
    refine mv_aload_n C dX0_expandIf_69 rfl 0 rfl ?_
    refine mv_get (v := .ref (a 2)) C iw_X0_expandIf_X0 16 rfl rfl 0 (by decide) lk_X0_expandIf_9 rfl rfl dX0_expandIf_70 ?_
    refine mv_iload_n C dX0_expandIf_73 rfl 2 rfl ?_
    refine mv_callVi (f := wA cA a) (As := [.int x3]) (rest := []) C (eA_ok a) hs 2 rfl rfl (X5_after_met (l := l) (lev := lev - 1) (by omega) hw) (cwV 1 C.2.2.2.2.1 gX0_expandIf_X5_after rfl rfl rfl (by decide +kernel) (mRm_le (by omega) (by decide))) rfl rfl (Nat.le_of_ble_eq_true rfl) dX0_expandIf_74 ⟨Nat.le_refl 0, Nat.le_refl 0⟩ (fun r18 u19 hw => ?_)
    refine mv_istore_n (lv1 := [(3, .int r18), (0, .ref (a 16)), (2, .int x2), (4, .int x4)]) C dX0_expandIf_77 rfl (by decide) rfl ?_
    obtain ⟨y20, ey20⟩ : ∃ z : Int32, z = x4 + (1 : Int32) := ⟨_, rfl⟩
    have hw := hw y20 ey20
    refine mv_iinc (v := y20) (lv1 := [(4, .int y20), (3, .int r18), (0, .ref (a 16)), (2, .int x2)]) C dX0_expandIf_78 3 rfl (by rw [ey20]; rfl) (by decide) rfl ?_
    refine mv_goto (tgt := 46) C dX0_expandIf_81 (by decide) ?_
    refine mv_sub [2, 3, 1, 0] rfl ?_
    exact hK46 x2 r18 y20 u19 hw
set_option maxHeartbeats 4000000 in
set_option maxRecDepth 100000 in
theorem X0_expandIf_met (hlev : 2 ≤ lev) {X : Int32 → Int32 → mS → (mS → Prop) → Prop} {levX : Nat} (hlx : levX + 1 ≤ lev) (hX : ∀ (t r : Int32) (u : mS) (post : mS → Prop), X t r u post → mKv l yX0_expandTree wsX0_expandTree levX (eA a) (dC, dI) vwCl [(cA, .int)] (wA cA a) [.ref (a 16), .int t, .int r] u post) {x1 x2 : Int32} {u : mS} {post : mS → Prop} (hw : wp_X0_expandIf X x1 x2 u post) : mKv l yX0_expandIf wsX0_expandIf lev (eA a) (dC, dI) vwCl [(cA, .int)] (wA cA a) [.ref (a 16), .int x1, .int x2] u post := by
  refine mKv_of (cc := cX0_expandIf) (maxL := 5) (by decide) rfl rfl (Nat.le_of_ble_eq_true rfl) rfl ?_
  intro p e s m args below meth c A C hs
  unfold wp_X0_expandIf at hw
  refine mv_aload_n C dX0_expandIf_0 rfl 0 rfl ?_
  refine mv_get (v := .ref (a 2)) C iw_X0_expandIf_X0 16 rfl rfl 0 (by decide) lk_X0_expandIf_9 rfl rfl dX0_expandIf_1 ?_
  refine mv_iload_n C dX0_expandIf_4 rfl 1 rfl ?_
  refine mv_callVi (f := wA cA a) (As := [.int x1]) (rest := []) C (eA_ok a) hs 2 rfl rfl (X5_plainLength_met (l := l) (lev := lev - 1) (by omega) hw) (cwV 1 C.2.2.2.2.1 gX0_expandIf_X5_plainLength rfl rfl rfl (by decide +kernel) (mRm_le (by omega) (by decide))) rfl rfl (Nat.le_of_ble_eq_true rfl) dX0_expandIf_5 ⟨Nat.le_refl 0, Nat.le_refl 0⟩ (fun r1 u2 hw => ?_)
  refine mv_iconst (v := (4 : Int32)) C dX0_expandIf_8 (by decide) ?_
  refine mv_icmp_eq (tgt := 21) C dX0_expandIf_9 (by decide) (fun h3 => ?_) (fun h3 => ?_)
  · have hw := hw.1 h3
    refine mv_aload_n C dX0_expandIf_21 rfl 0 rfl ?_
    refine mv_get (v := .ref (a 14)) C iw_X0_expandIf_X0 16 rfl rfl 3 (by decide) lk_X0_expandIf_23 rfl rfl dX0_expandIf_22 ?_
    refine mv_bipush (v := (40 : Int32)) C dX0_expandIf_25 (by decide) ?_
    refine mv_callVv (f := wA cA a) (As := [.int (40 : Int32)]) (rest := []) C (eA_ok a) hs 14 rfl rfl (X2_put_met (l := l) (lev := lev - 1) (by omega) hw) (cwV 1 C.2.2.2.2.1 gX0_expandIf_X2_put rfl rfl rfl (by decide +kernel) (mRm_le (by omega) (by decide))) rfl rfl (Nat.le_of_ble_eq_true rfl) dX0_expandIf_27 ⟨Nat.le_refl 0, Nat.le_refl 0⟩ (fun u5 hw => ?_)
    refine mv_aload_n C dX0_expandIf_30 rfl 0 rfl ?_
    refine mv_get (v := .ref (a 14)) C iw_X0_expandIf_X0 16 rfl rfl 3 (by decide) lk_X0_expandIf_23 rfl rfl dX0_expandIf_31 ?_
    refine mv_ldc (v := (92518 : Int32)) C mw_X0_expandIf__constant_RX0_167_92518_Int32_ dX0_expandIf_34 ?_
    refine mv_callVv (f := wA cA a) (As := [.int (92518 : Int32)]) (rest := []) C (eA_ok a) hs 14 rfl rfl (X2_putName_met (l := l) (lev := lev - 1) (by omega) hw) (cwV 1 C.2.2.2.2.1 gX0_expandIf_X2_putName rfl rfl rfl (by decide +kernel) (mRm_le (by omega) (by decide))) rfl rfl (Nat.le_of_ble_eq_true rfl) dX0_expandIf_36 ⟨Nat.le_refl 0, Nat.le_refl 0⟩ (fun u7 hw => ?_)
    refine mv_iload_n C dX0_expandIf_39 rfl 1 rfl ?_
    refine mv_iconst (v := (2 : Int32)) C dX0_expandIf_40 (by decide) ?_
    refine mv_iadd C dX0_expandIf_41 ?_
    refine mv_topi (fun y8 ey8 => ?_)
    have hw := hw y8 ey8
    refine mv_istore_n (lv1 := [(3, .int y8), (0, .ref (a 16)), (1, .int x1), (2, .int x2)]) C dX0_expandIf_42 rfl (by decide) rfl ?_
    refine mv_iconst (v := (0 : Int32)) C dX0_expandIf_43 (by decide) ?_
    refine mv_istore (lv1 := [(4, .int (0 : Int32)), (3, .int y8), (0, .ref (a 16)), (1, .int x1), (2, .int x2)]) C dX0_expandIf_44 (by decide) rfl ?_
    refine mv_sub [2, 4, 1, 0] rfl ?_
    obtain ⟨n, hw⟩ := hw
    exact mL4_of (fun K hK b0 b1 b2 b3 hw => wj_X0_expandIf_46_ok C hs hlev hlx hX hK hw) n x2 y8 (0 : Int32) u7 hw
  · have hw := hw.2 h3
    refine mv_aload_n C dX0_expandIf_12 rfl 0 rfl ?_
    refine mv_get (v := .ref (a 14)) C iw_X0_expandIf_X0 16 rfl rfl 3 (by decide) lk_X0_expandIf_23 rfl rfl dX0_expandIf_13 ?_
    refine mv_iconst (v := (3 : Int32)) C dX0_expandIf_16 (by decide) ?_
    refine mv_callVv (f := wA cA a) (As := [.int (3 : Int32)]) (rest := []) C (eA_ok a) hs 14 rfl rfl (X2_fail_met (l := l) (lev := lev - 1) (by omega) hw) (cwV 1 C.2.2.2.2.1 gX0_expandIf_X2_fail rfl rfl rfl (by decide +kernel) (mRm_le (by omega) (by decide))) rfl rfl (Nat.le_of_ble_eq_true rfl) dX0_expandIf_17 ⟨Nat.le_refl 0, Nat.le_refl 0⟩ (fun u10 hw => ?_)
    exact mv_vret C dX0_expandIf_20 hw
set_option maxHeartbeats 4000000 in
set_option maxRecDepth 100000 in
theorem wj_X2_putWord_75_ok (C : mC p s m args meth c cX2_putWord 2 wsX2_putWord RX2 none (dC, dI) vwCl [(cA, .int)] A) (hs : eA a A s) (hlev : 2 ≤ lev) {post : mS → Prop} {z0 : Int32} {u : mS} (hw : wj_X2_putWord_75 post z0 u) : mV p l e (mRm lev) s m args below meth c 2 (dC, dI) vwCl A 0 0 (mQv below args s (dC, dI) vwCl [(cA, .int)] (wA cA a) A post) (wA cA a u) 75 [] [.int z0, .ref (a 14)] := by
  unfold wj_X2_putWord_75 at hw
  refine mv_callVv (f := wA cA a) (As := [.int z0]) (rest := []) C (eA_ok a) hs 14 rfl rfl (X2_put_met (l := l) (lev := lev - 1) (by omega) hw) (cwV 1 C.2.2.2.2.1 gX2_putWord_X2_put rfl rfl rfl (by decide +kernel) (mRm_le (by omega) (by decide))) rfl rfl (Nat.le_of_ble_eq_true rfl) dX2_putWord_75 ⟨Nat.le_refl 0, Nat.le_refl 0⟩ (fun u19 hw => ?_)
  exact mv_vret C dX2_putWord_78 hw
set_option maxHeartbeats 4000000 in
set_option maxRecDepth 100000 in
theorem X2_putWord_met (hlev : 2 ≤ lev) {x1 : Int32} {u : mS} {post : mS → Prop} (hw : wp_X2_putWord x1 u post) : mKv l yX2_putWord wsX2_putWord lev (eA a) (dC, dI) vwCl [(cA, .int)] (wA cA a) [.ref (a 14), .int x1] u post := by
  refine mKv_of (cc := cX2_putWord) (maxL := 2) (by decide) rfl rfl (Nat.le_of_ble_eq_true rfl) rfl ?_
  intro p e s m args below meth c A C hs
  unfold wp_X2_putWord at hw
  refine mv_iload_n C dX2_putWord_0 rfl 1 rfl ?_
  refine mv_callSNi (f := wA cA a) (As := [.int x1]) (rest := []) C (eA_ok a) hs (X8_isName_met (l := l) (lev := lev - 1) (by omega) hw) ⟨va_cnB 1 C.2.2.2.2.1 ggX2_putWord_X8_isName rfl rfl rfl (hs.1 _ nw_19) (C.2.2.2.2.1 _ in_X2_putWord_X8) (by decide +kernel) (mRm_le (by omega) (by decide)), C.2.2.2.2.1 _ st_X2_putWord_X8_isName, trivial⟩ rfl rfl (Nat.le_of_ble_eq_true rfl) dX2_putWord_1 ⟨Nat.le_refl 0, Nat.le_refl 0⟩ (fun r1 u2 hw => ?_)
  obtain ⟨gr1, hw⟩ := hw
  refine mv_if_eq (tgt := 15) C dX2_putWord_4 (by decide) (fun h3 => ?_) (fun h3 => ?_)
  · have hw := hw.1 h3
    refine mv_iload_n C dX2_putWord_15 rfl 1 rfl ?_
    refine mv_callSNi (f := wA cA a) (As := [.int x1]) (rest := []) C (eA_ok a) hs (X8_isNumber_met (l := l) (lev := lev - 1) (by omega) hw) ⟨va_cnB 1 C.2.2.2.2.1 ggX2_putWord_X8_isNumber rfl rfl rfl (hs.1 _ nw_20) (C.2.2.2.2.1 _ in_X2_putWord_X8) (by decide +kernel) (mRm_le (by omega) (by decide)), C.2.2.2.2.1 _ st_X2_putWord_X8_isNumber, trivial⟩ rfl rfl (Nat.le_of_ble_eq_true rfl) dX2_putWord_16 ⟨Nat.le_refl 0, Nat.le_refl 0⟩ (fun r4 u5 hw => ?_)
    obtain ⟨gr4, hw⟩ := hw
    refine mv_if_eq (tgt := 30) C dX2_putWord_19 (by decide) (fun h6 => ?_) (fun h6 => ?_)
    · have hw := hw.1 h6
      refine mv_iload_n C dX2_putWord_30 rfl 1 rfl ?_
      refine mv_bipush (v := (-3 : Int32)) C dX2_putWord_31 (by decide) ?_
      refine mv_icmp_ne (tgt := 51) C dX2_putWord_33 (by decide) (fun h7 => ?_) (fun h7 => ?_)
      · have hw := hw.1 h7
        refine mv_aload_n C dX2_putWord_51 rfl 0 rfl ?_
        refine mv_iload_n C dX2_putWord_52 rfl 1 rfl ?_
        refine mv_iconst (v := (-1 : Int32)) C dX2_putWord_53 (by decide) ?_
        refine mv_icmp_ne (tgt := 62) C dX2_putWord_54 (by decide) (fun h8 => ?_) (fun h8 => ?_)
        · have hw := hw.1 h8
          refine mv_iload_n C dX2_putWord_62 rfl 1 rfl ?_
          refine mv_bipush (v := (-2 : Int32)) C dX2_putWord_63 (by decide) ?_
          refine mv_icmp_ne (tgt := 73) C dX2_putWord_65 (by decide) (fun h9 => ?_) (fun h9 => ?_)
          · have hw := hw.1 h9
            refine mv_bipush (v := (95 : Int32)) C dX2_putWord_73 (by decide) ?_
            refine mv_sub [] rfl ?_
            exact wj_X2_putWord_75_ok C hs hlev hw
          · have hw := hw.2 h9
            refine mv_bipush (v := (41 : Int32)) C dX2_putWord_68 (by decide) ?_
            refine mv_goto (tgt := 75) C dX2_putWord_70 (by decide) ?_
            refine mv_sub [] rfl ?_
            exact wj_X2_putWord_75_ok C hs hlev hw
        · have hw := hw.2 h8
          refine mv_bipush (v := (40 : Int32)) C dX2_putWord_57 (by decide) ?_
          refine mv_goto (tgt := 75) C dX2_putWord_59 (by decide) ?_
          refine mv_sub [] rfl ?_
          exact wj_X2_putWord_75_ok C hs hlev hw
      · have hw := hw.2 h7
        refine mv_aload_n C dX2_putWord_36 rfl 0 rfl ?_
        refine mv_bipush (v := (46 : Int32)) C dX2_putWord_37 (by decide) ?_
        refine mv_callVv (f := wA cA a) (As := [.int (46 : Int32)]) (rest := []) C (eA_ok a) hs 14 rfl rfl (X2_put_met (l := l) (lev := lev - 1) (by omega) hw) (cwV 1 C.2.2.2.2.1 gX2_putWord_X2_put rfl rfl rfl (by decide +kernel) (mRm_le (by omega) (by decide))) rfl rfl (Nat.le_of_ble_eq_true rfl) dX2_putWord_39 ⟨Nat.le_refl 0, Nat.le_refl 0⟩ (fun u11 hw => ?_)
        refine mv_aload_n C dX2_putWord_42 rfl 0 rfl ?_
        refine mv_bipush (v := (46 : Int32)) C dX2_putWord_43 (by decide) ?_
        refine mv_callVv (f := wA cA a) (As := [.int (46 : Int32)]) (rest := []) C (eA_ok a) hs 14 rfl rfl (X2_put_met (l := l) (lev := lev - 1) (by omega) hw) (cwV 1 C.2.2.2.2.1 gX2_putWord_X2_put rfl rfl rfl (by decide +kernel) (mRm_le (by omega) (by decide))) rfl rfl (Nat.le_of_ble_eq_true rfl) dX2_putWord_45 ⟨Nat.le_refl 0, Nat.le_refl 0⟩ (fun u13 hw => ?_)
        refine mv_goto (tgt := 78) C dX2_putWord_48 (by decide) ?_
        exact mv_vret C dX2_putWord_78 hw
    · have hw := hw.2 h6
      refine mv_aload_n C dX2_putWord_22 rfl 0 rfl ?_
      refine mv_iload_n C dX2_putWord_23 rfl 1 rfl ?_
      refine mv_callVv (f := wA cA a) (As := [.int x1]) (rest := []) C (eA_ok a) hs 14 rfl rfl (X2_putNumber_met (l := l) (lev := lev - 1) (by omega) hw) (cwV 1 C.2.2.2.2.1 gX2_putWord_X2_putNumber rfl rfl rfl (by decide +kernel) (mRm_le (by omega) (by decide))) rfl rfl (Nat.le_of_ble_eq_true rfl) dX2_putWord_24 ⟨Nat.le_refl 0, Nat.le_refl 0⟩ (fun u15 hw => ?_)
      refine mv_goto (tgt := 78) C dX2_putWord_27 (by decide) ?_
      exact mv_vret C dX2_putWord_78 hw
  · have hw := hw.2 h3
    refine mv_aload_n C dX2_putWord_7 rfl 0 rfl ?_
    refine mv_iload_n C dX2_putWord_8 rfl 1 rfl ?_
    refine mv_callVv (f := wA cA a) (As := [.int x1]) (rest := []) C (eA_ok a) hs 14 rfl rfl (X2_putName_met (l := l) (lev := lev - 1) (by omega) hw) (cwV 1 C.2.2.2.2.1 gX2_putWord_X2_putName rfl rfl rfl (by decide +kernel) (mRm_le (by omega) (by decide))) rfl rfl (Nat.le_of_ble_eq_true rfl) dX2_putWord_9 ⟨Nat.le_refl 0, Nat.le_refl 0⟩ (fun u17 hw => ?_)
    refine mv_goto (tgt := 78) C dX2_putWord_12 (by decide) ?_
    exact mv_vret C dX2_putWord_78 hw
set_option maxHeartbeats 4000000 in
set_option maxRecDepth 100000 in
theorem wj_X2_putTree_50_ok (C : mC p s m args meth c cX2_putTree 5 wsX2_putTree RX2 none (dC, dI) vwCl [(cA, .int)] A) (hs : eA a A s) (hlev : 3 ≤ lev) {post : mS → Prop} {K9 : Int32 → Int32 → Int32 → mS → Prop} (hK9 : ∀ (x2 x3 x4 : Int32) (u : mS), K9 x2 x3 x4 u → mV p l e (mRm lev) s m args below meth c 5 (dC, dI) vwCl A 0 0 (mQv below args s (dC, dI) vwCl [(cA, .int)] (wA cA a) A post) (wA cA a u) 9 [(0, .ref (a 14)), (1, .ref (a 2)), (2, .int x2), (3, .int x3), (4, .int x4)] []) {x2 x3 x4 : Int32} {u : mS} (hw : wj_X2_putTree_50 K9 post x2 x3 x4 u) : mV p l e (mRm lev) s m args below meth c 5 (dC, dI) vwCl A 0 0 (mQv below args s (dC, dI) vwCl [(cA, .int)] (wA cA a) A post) (wA cA a u) 50 [(0, .ref (a 14)), (1, .ref (a 2)), (2, .int x2), (3, .int x3), (4, .int x4)] [] := by
  unfold wj_X2_putTree_50 at hw
  refine mv_aload_n C dX2_putTree_50 rfl 0 rfl ?_
  refine mv_aload_n C dX2_putTree_51 rfl 1 rfl ?_
  refine mv_iload C dX2_putTree_52 4 rfl ?_
  refine mv_callVi (f := wA cA a) (As := [.int x4]) (rest := [.ref (a 14)]) C (eA_ok a) hs 2 rfl rfl (X5_wordAt_met (l := l) (lev := lev - 1) (by omega) hw) (cwV 1 C.2.2.2.2.1 gX2_putTree_X5_wordAt rfl rfl rfl (by decide +kernel) (mRm_le (by omega) (by decide))) rfl rfl (Nat.le_of_ble_eq_true rfl) dX2_putTree_54 ⟨Nat.le_refl 0, Nat.le_refl 0⟩ (fun r14 u15 hw => ?_)
  refine mv_callVv (f := wA cA a) (As := [.int r14]) (rest := []) C (eA_ok a) hs 14 rfl rfl (X2_putWord_met (l := l) (lev := lev - 1) (by omega) hw) (cwV 1 C.2.2.2.2.1 gX2_putTree_X2_putWord rfl rfl rfl (by decide +kernel) (mRm_le (by omega) (by decide))) rfl rfl (Nat.le_of_ble_eq_true rfl) dX2_putTree_57 ⟨Nat.le_refl 0, Nat.le_refl 0⟩ (fun u17 hw => ?_)
  obtain ⟨y18, ey18⟩ : ∃ z : Int32, z = x4 + (1 : Int32) := ⟨_, rfl⟩
  have hw := hw y18 ey18
  refine mv_iinc (v := y18) (lv1 := [(4, .int y18), (0, .ref (a 14)), (1, .ref (a 2)), (2, .int x2), (3, .int x3)]) C dX2_putTree_60 4 rfl (by rw [ey18]; rfl) (by decide) rfl ?_
  refine mv_goto (tgt := 9) C dX2_putTree_63 (by decide) ?_
  refine mv_sub [1, 2, 3, 4, 0] rfl ?_
  exact hK9 x2 x3 y18 u17 hw
set_option maxHeartbeats 4000000 in
set_option maxRecDepth 100000 in
theorem wj_X2_putTree_9_ok (C : mC p s m args meth c cX2_putTree 5 wsX2_putTree RX2 none (dC, dI) vwCl [(cA, .int)] A) (hs : eA a A s) (hlev : 3 ≤ lev) {post : mS → Prop} {K9 : Int32 → Int32 → Int32 → mS → Prop} (hK9 : ∀ (x2 x3 x4 : Int32) (u : mS), K9 x2 x3 x4 u → mV p l e (mRm lev) s m args below meth c 5 (dC, dI) vwCl A 0 0 (mQv below args s (dC, dI) vwCl [(cA, .int)] (wA cA a) A post) (wA cA a u) 9 [(0, .ref (a 14)), (1, .ref (a 2)), (2, .int x2), (3, .int x3), (4, .int x4)] []) {x2 x3 x4 : Int32} {u : mS} (hw : wj_X2_putTree_9 K9 post x2 x3 x4 u) : mV p l e (mRm lev) s m args below meth c 5 (dC, dI) vwCl A 0 0 (mQv below args s (dC, dI) vwCl [(cA, .int)] (wA cA a) A post) (wA cA a u) 9 [(0, .ref (a 14)), (1, .ref (a 2)), (2, .int x2), (3, .int x3), (4, .int x4)] [] := by
  unfold wj_X2_putTree_9 at hw
  refine mv_iload C dX2_putTree_9 4 rfl ?_
  refine mv_iload_n C dX2_putTree_11 rfl 3 rfl ?_
  refine mv_icmp_ge (tgt := 66) C dX2_putTree_12 (by decide) (fun h3 => ?_) (fun h3 => ?_)
  · have hw := hw.1 h3
    exact mv_vret C dX2_putTree_66 hw
  · have hw := hw.2 h3
    refine mv_iload C dX2_putTree_15 4 rfl ?_
    refine mv_iload_n C dX2_putTree_17 rfl 2 rfl ?_
    refine mv_icmp_le (tgt := 50) C dX2_putTree_18 (by decide) (fun h4 => ?_) (fun h4 => ?_)
    · have hw := hw.1 h4
      exact wj_X2_putTree_50_ok C hs hlev hK9 hw
    · have hw := hw.2 h4
      refine mv_aload_n C dX2_putTree_21 rfl 1 rfl ?_
      refine mv_iload C dX2_putTree_22 4 rfl ?_
      refine mv_callVi (f := wA cA a) (As := [.int x4]) (rest := []) C (eA_ok a) hs 2 rfl rfl (X5_wordAt_met (l := l) (lev := lev - 1) (by omega) hw) (cwV 1 C.2.2.2.2.1 gX2_putTree_X5_wordAt rfl rfl rfl (by decide +kernel) (mRm_le (by omega) (by decide))) rfl rfl (Nat.le_of_ble_eq_true rfl) dX2_putTree_24 ⟨Nat.le_refl 0, Nat.le_refl 0⟩ (fun r5 u6 hw => ?_)
      refine mv_bipush (v := (-2 : Int32)) C dX2_putTree_27 (by decide) ?_
      refine mv_icmp_eq (tgt := 50) C dX2_putTree_29 (by decide) (fun h7 => ?_) (fun h7 => ?_)
      · have hw := hw.1 h7
        exact wj_X2_putTree_50_ok C hs hlev hK9 hw
      · have hw := hw.2 h7
        refine mv_aload_n C dX2_putTree_32 rfl 1 rfl ?_
        refine mv_iload C dX2_putTree_33 4 rfl ?_
        refine mv_iconst (v := (1 : Int32)) C dX2_putTree_35 (by decide) ?_
        refine mv_isub C dX2_putTree_36 ?_
        refine mv_topi (fun y8 ey8 => ?_)
        have hw := hw y8 ey8
        refine mv_callVi (f := wA cA a) (As := [.int y8]) (rest := []) C (eA_ok a) hs 2 rfl rfl (X5_wordAt_met (l := l) (lev := lev - 1) (by omega) hw) (cwV 1 C.2.2.2.2.1 gX2_putTree_X5_wordAt rfl rfl rfl (by decide +kernel) (mRm_le (by omega) (by decide))) rfl rfl (Nat.le_of_ble_eq_true rfl) dX2_putTree_37 ⟨Nat.le_refl 0, Nat.le_refl 0⟩ (fun r9 u10 hw => ?_)
        refine mv_iconst (v := (-1 : Int32)) C dX2_putTree_40 (by decide) ?_
        refine mv_icmp_eq (tgt := 50) C dX2_putTree_41 (by decide) (fun h11 => ?_) (fun h11 => ?_)
        · have hw := hw.1 h11
          exact wj_X2_putTree_50_ok C hs hlev hK9 hw
        · have hw := hw.2 h11
          refine mv_aload_n C dX2_putTree_44 rfl 0 rfl ?_
          refine mv_bipush (v := (32 : Int32)) C dX2_putTree_45 (by decide) ?_
          refine mv_callVv (f := wA cA a) (As := [.int (32 : Int32)]) (rest := []) C (eA_ok a) hs 14 rfl rfl (X2_put_met (l := l) (lev := lev - 1) (by omega) hw) (cwV 1 C.2.2.2.2.1 gX2_putTree_X2_put rfl rfl rfl (by decide +kernel) (mRm_le (by omega) (by decide))) rfl rfl (Nat.le_of_ble_eq_true rfl) dX2_putTree_47 ⟨Nat.le_refl 0, Nat.le_refl 0⟩ (fun u13 hw => ?_)
          exact wj_X2_putTree_50_ok C hs hlev hK9 hw
set_option maxHeartbeats 4000000 in
set_option maxRecDepth 100000 in
theorem X2_putTree_met (hlev : 3 ≤ lev) {x2 : Int32} {u : mS} {post : mS → Prop} (hw : wp_X2_putTree x2 u post) : mKv l yX2_putTree wsX2_putTree lev (eA a) (dC, dI) vwCl [(cA, .int)] (wA cA a) [.ref (a 14), .ref (a 2), .int x2] u post := by
  refine mKv_of (cc := cX2_putTree) (maxL := 5) (by decide) rfl rfl (Nat.le_of_ble_eq_true rfl) rfl ?_
  intro p e s m args below meth c A C hs
  unfold wp_X2_putTree at hw
  refine mv_aload_n C dX2_putTree_0 rfl 1 rfl ?_
  refine mv_iload_n C dX2_putTree_1 rfl 2 rfl ?_
  refine mv_callVi (f := wA cA a) (As := [.int x2]) (rest := []) C (eA_ok a) hs 2 rfl rfl (X5_after_met (l := l) (lev := lev - 1) (by omega) hw) (cwV 1 C.2.2.2.2.1 gX2_putTree_X5_after rfl rfl rfl (by decide +kernel) (mRm_le (by omega) (by decide))) rfl rfl (Nat.le_of_ble_eq_true rfl) dX2_putTree_2 ⟨Nat.le_refl 0, Nat.le_refl 0⟩ (fun r1 u2 hw => ?_)
  refine mv_istore_n (lv1 := [(3, .int r1), (0, .ref (a 14)), (1, .ref (a 2)), (2, .int x2)]) C dX2_putTree_5 rfl (by decide) rfl ?_
  refine mv_iload_n C dX2_putTree_6 rfl 3 rfl ?_
  refine mv_istore (lv1 := [(4, .int x2), (3, .int r1), (0, .ref (a 14)), (1, .ref (a 2)), (2, .int x2)]) C dX2_putTree_7 (by decide) rfl ?_
  refine mv_sub [2, 3, 4, 1, 0] rfl ?_
  obtain ⟨n, hw⟩ := hw
  exact mL4_of (fun K hK b0 b1 b2 b3 hw => wj_X2_putTree_9_ok C hs hlev hK hw) n x2 r1 x2 u2 hw
set_option maxHeartbeats 4000000 in
set_option maxRecDepth 100000 in
theorem X0_expandQ_met (hlev : 4 ≤ lev) {x1 : Int32} {u : mS} {post : mS → Prop} (hw : wp_X0_expandQ x1 u post) : mKv l yX0_expandQ wsX0_expandQ lev (eA a) (dC, dI) vwCl [(cA, .int)] (wA cA a) [.ref (a 16), .int x1] u post := by
  refine mKv_of (cc := cX0_expandQ) (maxL := 2) (by decide) rfl rfl (Nat.le_of_ble_eq_true rfl) rfl ?_
  intro p e s m args below meth c A C hs
  unfold wp_X0_expandQ at hw
  refine mv_aload_n C dX0_expandQ_0 rfl 0 rfl ?_
  refine mv_get (v := .ref (a 2)) C iw_X0_expandQ_X0 16 rfl rfl 0 (by decide) lk_X0_expandQ_9 rfl rfl dX0_expandQ_1 ?_
  refine mv_iload_n C dX0_expandQ_4 rfl 1 rfl ?_
  refine mv_callVi (f := wA cA a) (As := [.int x1]) (rest := []) C (eA_ok a) hs 2 rfl rfl (X5_plainLength_met (l := l) (lev := lev - 1) (by omega) hw) (cwV 1 C.2.2.2.2.1 gX0_expandQ_X5_plainLength rfl rfl rfl (by decide +kernel) (mRm_le (by omega) (by decide))) rfl rfl (Nat.le_of_ble_eq_true rfl) dX0_expandQ_5 ⟨Nat.le_refl 0, Nat.le_refl 0⟩ (fun r1 u2 hw => ?_)
  refine mv_iconst (v := (2 : Int32)) C dX0_expandQ_8 (by decide) ?_
  refine mv_icmp_eq (tgt := 21) C dX0_expandQ_9 (by decide) (fun h3 => ?_) (fun h3 => ?_)
  · have hw := hw.1 h3
    refine mv_aload_n C dX0_expandQ_21 rfl 0 rfl ?_
    refine mv_get (v := .ref (a 14)) C iw_X0_expandQ_X0 16 rfl rfl 3 (by decide) lk_X0_expandQ_23 rfl rfl dX0_expandQ_22 ?_
    refine mv_aload_n C dX0_expandQ_25 rfl 0 rfl ?_
    refine mv_get (v := .ref (a 2)) C iw_X0_expandQ_X0 16 rfl rfl 0 (by decide) lk_X0_expandQ_9 rfl rfl dX0_expandQ_26 ?_
    refine mv_iload_n C dX0_expandQ_29 rfl 1 rfl ?_
    refine mv_callVv (f := wA cA a) (As := [.ref (a 2), .int x1]) (rest := []) C (eA_ok a) hs 14 rfl rfl (X2_putTree_met (l := l) (lev := lev - 1) (by omega) hw) (cwV 2 C.2.2.2.2.1 gX0_expandQ_X2_putTree rfl rfl rfl (by decide +kernel) (mRm_le (by omega) (by decide))) rfl rfl (Nat.le_of_ble_eq_true rfl) dX0_expandQ_30 ⟨Nat.le_refl 0, Nat.le_refl 0⟩ (fun u5 hw => ?_)
    exact mv_vret C dX0_expandQ_33 hw
  · have hw := hw.2 h3
    refine mv_aload_n C dX0_expandQ_12 rfl 0 rfl ?_
    refine mv_get (v := .ref (a 14)) C iw_X0_expandQ_X0 16 rfl rfl 3 (by decide) lk_X0_expandQ_23 rfl rfl dX0_expandQ_13 ?_
    refine mv_iconst (v := (3 : Int32)) C dX0_expandQ_16 (by decide) ?_
    refine mv_callVv (f := wA cA a) (As := [.int (3 : Int32)]) (rest := []) C (eA_ok a) hs 14 rfl rfl (X2_fail_met (l := l) (lev := lev - 1) (by omega) hw) (cwV 1 C.2.2.2.2.1 gX0_expandQ_X2_fail rfl rfl rfl (by decide +kernel) (mRm_le (by omega) (by decide))) rfl rfl (Nat.le_of_ble_eq_true rfl) dX0_expandQ_17 ⟨Nat.le_refl 0, Nat.le_refl 0⟩ (fun u7 hw => ?_)
    exact mv_vret C dX0_expandQ_20 hw
set_option maxHeartbeats 4000000 in
set_option maxRecDepth 100000 in
theorem X5_isHeld_met (hlev : 0 ≤ lev) {x1 : Int32} {u : mS} {post : Int32 → mS → Prop} (hw : wp_X5_isHeld x1 u post) : mKi l yX5_isHeld wsX5_isHeld lev (eA a) (dC, dI) vwCl [(cA, .int)] (wA cA a) [.ref (a 2), .int x1] u (fun r w => (r = 0 ∨ r = 1) ∧ post r w) := by
  refine mKz_of (cc := cX5_isHeld) (maxL := 3) (by decide) rfl rfl (Nat.le_of_ble_eq_true rfl) rfl ?_
  intro p e s m args below meth c A C hs
  unfold wp_X5_isHeld at hw
  refine mv_iload_n C dX5_isHeld_0 rfl 1 rfl ?_
  refine mv_if_lt (tgt := 30) C dX5_isHeld_1 (by decide) (fun h1 => ?_) (fun h1 => ?_)
  · have hw := hw.1 h1
    refine mv_iconst (v := (0 : Int32)) C dX5_isHeld_30 (by decide) ?_
    exact mv_zret C dX5_isHeld_31 (Or.inl rfl) hw
  · have hw := hw.2 h1
    refine mv_iload_n C dX5_isHeld_4 rfl 1 rfl ?_
    refine mv_aload_n C dX5_isHeld_5 rfl 0 rfl ?_
    refine mv_get (v := .int (u.1 1)) C iw_X5_isHeld_X5 2 rfl rfl 4 (by decide) lk_X5_isHeld_24 rfl rfl dX5_isHeld_6 ?_
    refine mv_topi (fun y2 ey2 => ?_)
    have hw := hw y2 ey2
    refine mv_icmp_ge (tgt := 30) C dX5_isHeld_9 (by decide) (fun h3 => ?_) (fun h3 => ?_)
    · have hw := hw.1 h3
      refine mv_iconst (v := (0 : Int32)) C dX5_isHeld_30 (by decide) ?_
      exact mv_zret C dX5_isHeld_31 (Or.inl rfl) hw
    · have hw := hw.2 h3
      refine mv_iload_n C dX5_isHeld_12 rfl 1 rfl ?_
      refine mv_sipush (v := (3000 : Int32)) C dX5_isHeld_13 (by decide) ?_
      refine mv_icmp_ge (tgt := 30) C dX5_isHeld_16 (by decide) (fun h4 => ?_) (fun h4 => ?_)
      · have hw := hw.1 h4
        refine mv_iconst (v := (0 : Int32)) C dX5_isHeld_30 (by decide) ?_
        exact mv_zret C dX5_isHeld_31 (Or.inl rfl) hw
      · have hw := hw.2 h4
        refine mv_aload_n C dX5_isHeld_19 rfl 0 rfl ?_
        refine mv_get (v := .ref (a 3)) C iw_X5_isHeld_X5 2 rfl rfl 0 (by decide) lk_X5_isHeld_9 rfl rfl dX5_isHeld_20 ?_
        refine mv_iload_n C dX5_isHeld_23 rfl 1 rfl ?_
        refine mv_iald (f := u.2 1) C 3 0 rfl rfl hw.1 dX5_isHeld_24 ?_
        refine mv_topi (fun y5 ey5 => ?_)
        have hw := hw.2 y5 ey5
        refine mv_bipush (v := (-2 : Int32)) C dX5_isHeld_25 (by decide) ?_
        refine mv_icmp_ne (tgt := 32) C dX5_isHeld_27 (by decide) (fun h6 => ?_) (fun h6 => ?_)
        · have hw := hw.1 h6
          refine mv_iload_n C dX5_isHeld_32 rfl 1 rfl ?_
          refine mv_aload_n C dX5_isHeld_33 rfl 0 rfl ?_
          refine mv_get (v := .ref (a 5)) C iw_X5_isHeld_X5 2 rfl rfl 2 (by decide) lk_X5_isHeld_18 rfl rfl dX5_isHeld_34 ?_
          refine mv_iload_n C dX5_isHeld_37 rfl 1 rfl ?_
          refine mv_iald (f := u.2 3) C 5 0 rfl rfl hw.1 dX5_isHeld_38 ?_
          refine mv_topi (fun y7 ey7 => ?_)
          have hw := hw.2 y7 ey7
          refine mv_iadd C dX5_isHeld_39 ?_
          refine mv_topi (fun y8 ey8 => ?_)
          have hw := hw y8 ey8
          refine mv_istore_n (lv1 := [(2, .int y8), (0, .ref (a 2)), (1, .int x1)]) C dX5_isHeld_40 rfl (by decide) rfl ?_
          refine mv_iload_n C dX5_isHeld_41 rfl 0 rfl ?_
          refine mv_if_lt (tgt := 75) C dX5_isHeld_42 (by decide) (fun h9 => ?_) (fun h9 => ?_)
          · have hw := hw.1 h9
            refine mv_iconst (v := (0 : Int32)) C dX5_isHeld_75 (by decide) ?_
            exact mv_zret C dX5_isHeld_76 (Or.inl rfl) hw
          · have hw := hw.2 h9
            refine mv_iload_n C dX5_isHeld_45 rfl 0 rfl ?_
            refine mv_aload_n C dX5_isHeld_46 rfl 1 rfl ?_
            refine mv_get (v := .int (u.1 1)) C iw_X5_isHeld_X5 2 rfl rfl 4 (by decide) lk_X5_isHeld_24 rfl rfl dX5_isHeld_47 ?_
            refine mv_topi (fun y10 ey10 => ?_)
            have hw := hw y10 ey10
            refine mv_icmp_ge (tgt := 75) C dX5_isHeld_50 (by decide) (fun h11 => ?_) (fun h11 => ?_)
            · have hw := hw.1 h11
              refine mv_iconst (v := (0 : Int32)) C dX5_isHeld_75 (by decide) ?_
              exact mv_zret C dX5_isHeld_76 (Or.inl rfl) hw
            · have hw := hw.2 h11
              refine mv_iload_n C dX5_isHeld_53 rfl 0 rfl ?_
              refine mv_sipush (v := (3000 : Int32)) C dX5_isHeld_54 (by decide) ?_
              refine mv_icmp_ge (tgt := 75) C dX5_isHeld_57 (by decide) (fun h12 => ?_) (fun h12 => ?_)
              · have hw := hw.1 h12
                refine mv_iconst (v := (0 : Int32)) C dX5_isHeld_75 (by decide) ?_
                exact mv_zret C dX5_isHeld_76 (Or.inl rfl) hw
              · have hw := hw.2 h12
                refine mv_aload_n C dX5_isHeld_60 rfl 1 rfl ?_
                refine mv_get (v := .ref (a 3)) C iw_X5_isHeld_X5 2 rfl rfl 0 (by decide) lk_X5_isHeld_9 rfl rfl dX5_isHeld_61 ?_
                refine mv_iload_n C dX5_isHeld_64 rfl 0 rfl ?_
                refine mv_iald (f := u.2 1) C 3 0 rfl rfl hw.1 dX5_isHeld_65 ?_
                refine mv_topi (fun y13 ey13 => ?_)
                have hw := hw.2 y13 ey13
                refine mv_bipush (v := (-3 : Int32)) C dX5_isHeld_66 (by decide) ?_
                refine mv_icmp_ne (tgt := 75) C dX5_isHeld_68 (by decide) (fun h14 => ?_) (fun h14 => ?_)
                · have hw := hw.1 h14
                  refine mv_iconst (v := (0 : Int32)) C dX5_isHeld_75 (by decide) ?_
                  exact mv_zret C dX5_isHeld_76 (Or.inl rfl) hw
                · have hw := hw.2 h14
                  refine mv_iconst (v := (1 : Int32)) C dX5_isHeld_71 (by decide) ?_
                  refine mv_goto (tgt := 76) C dX5_isHeld_72 (by decide) ?_
                  exact mv_zret C dX5_isHeld_76 (Or.inr rfl) hw
        · have hw := hw.2 h6
          refine mv_iconst (v := (0 : Int32)) C dX5_isHeld_30 (by decide) ?_
          exact mv_zret C dX5_isHeld_31 (Or.inl rfl) hw
set_option maxHeartbeats 4000000 in
set_option maxRecDepth 100000 in
theorem X8_isTree_met (hlev : 0 ≤ lev) {x0 : Int32} {u : mS} {post : Int32 → mS → Prop} (hw : wp_X8_isTree x0 u post) : mKi l yX8_isTree wsX8_isTree lev (eA a) (dC, dI) vwCl [(cA, .int)] (wA cA a) [.int x0] u (fun r w => (r = 0 ∨ r = 1) ∧ post r w) := by
  refine mKz_of (cc := cX8_isTree) (maxL := 1) (by decide) rfl rfl (Nat.le_of_ble_eq_true rfl) rfl ?_
  intro p e s m args below meth c A C hs
  unfold wp_X8_isTree at hw
  refine mv_iload_n C dX8_isTree_0 rfl 0 rfl ?_
  refine mv_bipush (v := (-2 : Int32)) C dX8_isTree_1 (by decide) ?_
  refine mv_icmp_eq (tgt := 16) C dX8_isTree_3 (by decide) (fun h1 => ?_) (fun h1 => ?_)
  · have hw := hw.1 h1
    refine mv_iconst (v := (0 : Int32)) C dX8_isTree_16 (by decide) ?_
    exact mv_zret C dX8_isTree_17 (Or.inl rfl) hw
  · have hw := hw.2 h1
    refine mv_iload_n C dX8_isTree_6 rfl 0 rfl ?_
    refine mv_bipush (v := (-3 : Int32)) C dX8_isTree_7 (by decide) ?_
    refine mv_icmp_eq (tgt := 16) C dX8_isTree_9 (by decide) (fun h2 => ?_) (fun h2 => ?_)
    · have hw := hw.1 h2
      refine mv_iconst (v := (0 : Int32)) C dX8_isTree_16 (by decide) ?_
      exact mv_zret C dX8_isTree_17 (Or.inl rfl) hw
    · have hw := hw.2 h2
      refine mv_iconst (v := (1 : Int32)) C dX8_isTree_12 (by decide) ?_
      refine mv_goto (tgt := 17) C dX8_isTree_13 (by decide) ?_
      exact mv_zret C dX8_isTree_17 (Or.inr rfl) hw
set_option maxHeartbeats 4000000 in
set_option maxRecDepth 100000 in
theorem wj_X5_holders_100_ok (C : mC p s m args meth c cX5_holders 6 wsX5_holders RX5 (some .int) (dC, dI) vwCl [(cA, .int)] A) (hs : eA a A s) (hlev : 0 ≤ lev) {post : Int32 → mS → Prop} {K15 : Int32 → Int32 → Int32 → mS → Prop} (hK15 : ∀ (x2 x3 x4 : Int32) (u : mS), K15 x2 x3 x4 u → mV p l e (mRm lev) s m args below meth c 6 (dC, dI) vwCl A 0 0 (mQi below args s (dC, dI) vwCl [(cA, .int)] (wA cA a) A post) (wA cA a u) 15 [(0, .ref (a 2)), (2, .int x2), (3, .int x3), (4, .int x4)] []) {x2 x3 x4 : Int32} {u : mS} (hw : wj_X5_holders_100 K15 post x2 x3 x4 u) : mV p l e (mRm lev) s m args below meth c 6 (dC, dI) vwCl A 0 0 (mQi below args s (dC, dI) vwCl [(cA, .int)] (wA cA a) A post) (wA cA a u) 100 [(0, .ref (a 2)), (2, .int x2), (3, .int x3), (4, .int x4)] [] := by
  unfold wj_X5_holders_100 at hw
  obtain ⟨y18, ey18⟩ : ∃ z : Int32, z = x4 + (1 : Int32) := ⟨_, rfl⟩
  have hw := hw y18 ey18
  refine mv_iinc (v := y18) (lv1 := [(4, .int y18), (0, .ref (a 2)), (2, .int x2), (3, .int x3)]) C dX5_holders_100 3 rfl (by rw [ey18]; rfl) (by decide) rfl ?_
  refine mv_goto (tgt := 15) C dX5_holders_103 (by decide) ?_
  refine mv_sub [1, 2, 3, 0] rfl ?_
  exact hK15 x2 x3 y18 u hw
set_option maxHeartbeats 4000000 in
set_option maxRecDepth 100000 in
theorem wj_X5_holders_106_ok (C : mC p s m args meth c cX5_holders 6 wsX5_holders RX5 (some .int) (dC, dI) vwCl [(cA, .int)] A) (hs : eA a A s) (hlev : 0 ≤ lev) {post : Int32 → mS → Prop} {x3 : Int32} {u : mS} (hw : wj_X5_holders_106 post x3 u) : mV p l e (mRm lev) s m args below meth c 6 (dC, dI) vwCl A 0 0 (mQi below args s (dC, dI) vwCl [(cA, .int)] (wA cA a) A post) (wA cA a u) 106 [(3, .int x3)] [] := by
  unfold wj_X5_holders_106 at hw
  refine mv_iload_n C dX5_holders_106 rfl 0 rfl ?_
  exact mv_iret C dX5_holders_107 hw
set_option maxHeartbeats 4000000 in
set_option maxRecDepth 100000 in
theorem wj_X5_holders_15_ok (C : mC p s m args meth c cX5_holders 6 wsX5_holders RX5 (some .int) (dC, dI) vwCl [(cA, .int)] A) (hs : eA a A s) (hlev : 0 ≤ lev) {post : Int32 → mS → Prop} {K15 : Int32 → Int32 → Int32 → mS → Prop} (hK15 : ∀ (x2 x3 x4 : Int32) (u : mS), K15 x2 x3 x4 u → mV p l e (mRm lev) s m args below meth c 6 (dC, dI) vwCl A 0 0 (mQi below args s (dC, dI) vwCl [(cA, .int)] (wA cA a) A post) (wA cA a u) 15 [(0, .ref (a 2)), (2, .int x2), (3, .int x3), (4, .int x4)] []) {x2 x3 x4 : Int32} {u : mS} (hw : wj_X5_holders_15 K15 post x2 x3 x4 u) : mV p l e (mRm lev) s m args below meth c 6 (dC, dI) vwCl A 0 0 (mQi below args s (dC, dI) vwCl [(cA, .int)] (wA cA a) A post) (wA cA a u) 15 [(0, .ref (a 2)), (2, .int x2), (3, .int x3), (4, .int x4)] [] := by
  unfold wj_X5_holders_15 at hw
  refine mv_iload C dX5_holders_15 3 rfl ?_
  refine mv_iload_n C dX5_holders_17 rfl 1 rfl ?_
  refine mv_icmp_gt (tgt := 106) C dX5_holders_18 (by decide) (fun h3 => ?_) (fun h3 => ?_)
  · have hw := hw.1 h3
    refine mv_sub [2] rfl ?_
    exact wj_X5_holders_106_ok C hs hlev hw
  · have hw := hw.2 h3
    refine mv_iload C dX5_holders_21 3 rfl ?_
    refine mv_aload_n C dX5_holders_23 rfl 0 rfl ?_
    refine mv_get (v := .int (u.1 1)) C iw_X5_holders_X5 2 rfl rfl 4 (by decide) lk_X5_holders_24 rfl rfl dX5_holders_24 ?_
    refine mv_topi (fun y4 ey4 => ?_)
    have hw := hw y4 ey4
    refine mv_icmp_ge (tgt := 106) C dX5_holders_27 (by decide) (fun h5 => ?_) (fun h5 => ?_)
    · have hw := hw.1 h5
      refine mv_sub [2] rfl ?_
      exact wj_X5_holders_106_ok C hs hlev hw
    · have hw := hw.2 h5
      refine mv_iload C dX5_holders_30 3 rfl ?_
      refine mv_sipush (v := (3000 : Int32)) C dX5_holders_32 (by decide) ?_
      refine mv_icmp_ge (tgt := 106) C dX5_holders_35 (by decide) (fun h6 => ?_) (fun h6 => ?_)
      · have hw := hw.1 h6
        refine mv_sub [2] rfl ?_
        exact wj_X5_holders_106_ok C hs hlev hw
      · have hw := hw.2 h6
        refine mv_iload C dX5_holders_38 3 rfl ?_
        refine mv_aload_n C dX5_holders_40 rfl 0 rfl ?_
        refine mv_get (v := .ref (a 5)) C iw_X5_holders_X5 2 rfl rfl 2 (by decide) lk_X5_holders_18 rfl rfl dX5_holders_41 ?_
        refine mv_iload C dX5_holders_44 3 rfl ?_
        refine mv_iald (f := u.2 3) C 5 0 rfl rfl hw.1 dX5_holders_46 ?_
        refine mv_topi (fun y7 ey7 => ?_)
        have hw := hw.2 y7 ey7
        refine mv_iadd C dX5_holders_47 ?_
        refine mv_topi (fun y8 ey8 => ?_)
        have hw := hw y8 ey8
        refine mv_istore (lv1 := [(5, .int y8), (0, .ref (a 2)), (2, .int x2), (3, .int x3), (4, .int x4)]) C dX5_holders_48 (by decide) rfl ?_
        refine mv_iload C dX5_holders_50 0 rfl ?_
        refine mv_iload_n C dX5_holders_52 rfl 2 rfl ?_
        refine mv_icmp_le (tgt := 100) C dX5_holders_53 (by decide) (fun h9 => ?_) (fun h9 => ?_)
        · have hw := hw.1 h9
          refine mv_sub [1, 2, 3, 4] rfl ?_
          exact wj_X5_holders_100_ok C hs hlev hK15 hw
        · have hw := hw.2 h9
          refine mv_iload C dX5_holders_56 0 rfl ?_
          refine mv_aload_n C dX5_holders_58 rfl 1 rfl ?_
          refine mv_get (v := .int (u.1 1)) C iw_X5_holders_X5 2 rfl rfl 4 (by decide) lk_X5_holders_24 rfl rfl dX5_holders_59 ?_
          refine mv_topi (fun y10 ey10 => ?_)
          have hw := hw y10 ey10
          refine mv_icmp_ge (tgt := 100) C dX5_holders_62 (by decide) (fun h11 => ?_) (fun h11 => ?_)
          · have hw := hw.1 h11
            refine mv_sub [1, 2, 3, 4] rfl ?_
            exact wj_X5_holders_100_ok C hs hlev hK15 hw
          · have hw := hw.2 h11
            refine mv_iload C dX5_holders_65 0 rfl ?_
            refine mv_sipush (v := (3000 : Int32)) C dX5_holders_67 (by decide) ?_
            refine mv_icmp_ge (tgt := 100) C dX5_holders_70 (by decide) (fun h12 => ?_) (fun h12 => ?_)
            · have hw := hw.1 h12
              refine mv_sub [1, 2, 3, 4] rfl ?_
              exact wj_X5_holders_100_ok C hs hlev hK15 hw
            · have hw := hw.2 h12
              refine mv_aload_n C dX5_holders_73 rfl 1 rfl ?_
              refine mv_get (v := .ref (a 3)) C iw_X5_holders_X5 2 rfl rfl 0 (by decide) lk_X5_holders_9 rfl rfl dX5_holders_74 ?_
              refine mv_iload C dX5_holders_77 4 rfl ?_
              refine mv_iald (f := u.2 1) C 3 0 rfl rfl hw.1 dX5_holders_79 ?_
              refine mv_topi (fun y13 ey13 => ?_)
              have hw := hw.2 y13 ey13
              refine mv_bipush (v := (-2 : Int32)) C dX5_holders_80 (by decide) ?_
              refine mv_icmp_eq (tgt := 100) C dX5_holders_82 (by decide) (fun h14 => ?_) (fun h14 => ?_)
              · have hw := hw.1 h14
                refine mv_sub [1, 2, 3, 4] rfl ?_
                exact wj_X5_holders_100_ok C hs hlev hK15 hw
              · have hw := hw.2 h14
                refine mv_aload_n C dX5_holders_85 rfl 1 rfl ?_
                refine mv_get (v := .ref (a 3)) C iw_X5_holders_X5 2 rfl rfl 0 (by decide) lk_X5_holders_9 rfl rfl dX5_holders_86 ?_
                refine mv_iload C dX5_holders_89 0 rfl ?_
                refine mv_iald (f := u.2 1) C 3 0 rfl rfl hw.1 dX5_holders_91 ?_
                refine mv_topi (fun y15 ey15 => ?_)
                have hw := hw.2 y15 ey15
                refine mv_bipush (v := (-3 : Int32)) C dX5_holders_92 (by decide) ?_
                refine mv_icmp_ne (tgt := 100) C dX5_holders_94 (by decide) (fun h16 => ?_) (fun h16 => ?_)
                · have hw := hw.1 h16
                  refine mv_sub [1, 2, 3, 4] rfl ?_
                  exact wj_X5_holders_100_ok C hs hlev hK15 hw
                · have hw := hw.2 h16
                  obtain ⟨y17, ey17⟩ : ∃ z : Int32, z = x3 + (1 : Int32) := ⟨_, rfl⟩
                  have hw := hw y17 ey17
                  refine mv_iinc (v := y17) (lv1 := [(3, .int y17), (5, .int y8), (0, .ref (a 2)), (2, .int x2), (4, .int x4)]) C dX5_holders_97 3 rfl (by rw [ey17]; rfl) (by decide) rfl ?_
                  refine mv_sub [2, 3, 0, 4] rfl ?_
                  exact wj_X5_holders_100_ok C hs hlev hK15 hw
set_option maxHeartbeats 4000000 in
set_option maxRecDepth 100000 in
theorem wj_X5_holders_13_ok (C : mC p s m args meth c cX5_holders 6 wsX5_holders RX5 (some .int) (dC, dI) vwCl [(cA, .int)] A) (hs : eA a A s) (hlev : 0 ≤ lev) {post : Int32 → mS → Prop} {x2 x3 z0 : Int32} {u : mS} (hw : wj_X5_holders_13 post x2 x3 z0 u) : mV p l e (mRm lev) s m args below meth c 6 (dC, dI) vwCl A 0 0 (mQi below args s (dC, dI) vwCl [(cA, .int)] (wA cA a) A post) (wA cA a u) 13 [(0, .ref (a 2)), (2, .int x2), (3, .int x3)] [.int z0] := by
  unfold wj_X5_holders_13 at hw
  refine mv_istore (lv1 := [(4, .int z0), (0, .ref (a 2)), (2, .int x2), (3, .int x3)]) C dX5_holders_13 (by decide) rfl ?_
  refine mv_sub [1, 2, 3, 0] rfl ?_
  obtain ⟨n, hw⟩ := hw
  exact mL4_of (fun K hK b0 b1 b2 b3 hw => wj_X5_holders_15_ok C hs hlev hK hw) n x2 x3 z0 u hw
set_option maxHeartbeats 4000000 in
set_option maxRecDepth 100000 in
theorem X5_holders_met (hlev : 0 ≤ lev) {x1 x2 : Int32} {u : mS} {post : Int32 → mS → Prop} (hw : wp_X5_holders x1 x2 u post) : mKi l yX5_holders wsX5_holders lev (eA a) (dC, dI) vwCl [(cA, .int)] (wA cA a) [.ref (a 2), .int x1, .int x2] u post := by
  refine mKi_of (cc := cX5_holders) (maxL := 6) (by decide) rfl rfl (Nat.le_of_ble_eq_true rfl) rfl ?_
  intro p e s m args below meth c A C hs
  unfold wp_X5_holders at hw
  refine mv_iconst (v := (0 : Int32)) C dX5_holders_0 (by decide) ?_
  refine mv_istore_n (lv1 := [(3, .int (0 : Int32)), (0, .ref (a 2)), (1, .int x1), (2, .int x2)]) C dX5_holders_1 rfl (by decide) rfl ?_
  refine mv_iload_n C dX5_holders_2 rfl 2 rfl ?_
  refine mv_if_ge (tgt := 10) C dX5_holders_3 (by decide) (fun h1 => ?_) (fun h1 => ?_)
  · have hw := hw.1 h1
    refine mv_iload_n C dX5_holders_10 rfl 2 rfl ?_
    refine mv_iconst (v := (1 : Int32)) C dX5_holders_11 (by decide) ?_
    refine mv_iadd C dX5_holders_12 ?_
    refine mv_topi (fun y2 ey2 => ?_)
    have hw := hw y2 ey2
    refine mv_sub [1, 3, 0] rfl ?_
    exact wj_X5_holders_13_ok C hs hlev hw
  · have hw := hw.2 h1
    refine mv_iconst (v := (0 : Int32)) C dX5_holders_6 (by decide) ?_
    refine mv_goto (tgt := 13) C dX5_holders_7 (by decide) ?_
    refine mv_sub [1, 3, 0] rfl ?_
    exact wj_X5_holders_13_ok C hs hlev hw
set_option maxHeartbeats 4000000 in
set_option maxRecDepth 100000 in
theorem wj_X6_isPattern_131_ok (C : mC p s m args meth c cX6_isPattern 7 wsX6_isPattern RX6 (some .boolean) (dC, dI) vwCl [(cA, .int)] A) (hs : eA a A s) (hlev : 1 ≤ lev) {post : Int32 → mS → Prop} {K64 : Int32 → Int32 → Int32 → Int32 → mS → Prop} (hK64 : ∀ (x1 x3 x4 x5 : Int32) (u : mS), K64 x1 x3 x4 x5 u → mV p l e (mRm lev) s m args below meth c 7 (dC, dI) vwCl A 0 0 (mQi below args s (dC, dI) vwCl [(cA, .int)] (wA cA a) A (fun r w => (r = 0 ∨ r = 1) ∧ post r w)) (wA cA a u) 64 [(0, .ref (a 8)), (1, .int x1), (3, .int x3), (4, .int x4), (5, .int x5)] []) {x1 x3 x4 x5 : Int32} {u : mS} (hw : wj_X6_isPattern_131 K64 post x1 x3 x4 x5 u) : mV p l e (mRm lev) s m args below meth c 7 (dC, dI) vwCl A 0 0 (mQi below args s (dC, dI) vwCl [(cA, .int)] (wA cA a) A (fun r w => (r = 0 ∨ r = 1) ∧ post r w)) (wA cA a u) 131 [(0, .ref (a 8)), (1, .int x1), (3, .int x3), (4, .int x4), (5, .int x5)] [] := by
  unfold wj_X6_isPattern_131 at hw
  refine mv_aload_n C dX6_isPattern_131 rfl 0 rfl ?_
  refine mv_get (v := .ref (a 2)) C iw_X6_isPattern_X6 8 rfl rfl 0 (by decide) lk_X6_isPattern_9 rfl rfl dX6_isPattern_132 ?_
  refine mv_iload_n C dX6_isPattern_135 rfl 2 rfl ?_
  refine mv_iload C dX6_isPattern_136 4 rfl ?_
  refine mv_iload C dX6_isPattern_138 4 rfl ?_
  refine mv_callVi (f := wA cA a) (As := [.int x3, .int x5, .int x5]) (rest := []) C (eA_ok a) hs 2 rfl rfl (X5_findName_met (l := l) (lev := lev - 1) (by omega) hw) (cwV 3 C.2.2.2.2.1 gX6_isPattern_X5_findName rfl rfl rfl (by decide +kernel) (mRm_le (by omega) (by decide))) rfl rfl (Nat.le_of_ble_eq_true rfl) dX6_isPattern_140 ⟨Nat.le_refl 0, Nat.le_refl 0⟩ (fun r29 u30 hw => ?_)
  refine mv_if_lt (tgt := 148) C dX6_isPattern_143 (by decide) (fun h31 => ?_) (fun h31 => ?_)
  · have hw := hw.1 h31
    obtain ⟨y32, ey32⟩ : ∃ z : Int32, z = x5 + (1 : Int32) := ⟨_, rfl⟩
    have hw := hw y32 ey32
    refine mv_iinc (v := y32) (lv1 := [(5, .int y32), (0, .ref (a 8)), (1, .int x1), (3, .int x3), (4, .int x4)]) C dX6_isPattern_148 4 rfl (by rw [ey32]; rfl) (by decide) rfl ?_
    refine mv_goto (tgt := 64) C dX6_isPattern_151 (by decide) ?_
    refine mv_sub [1, 2, 3, 4, 0] rfl ?_
    exact hK64 x1 x3 x4 y32 u30 hw
  · have hw := hw.2 h31
    refine mv_iconst (v := (0 : Int32)) C dX6_isPattern_146 (by decide) ?_
    exact mv_zret C dX6_isPattern_147 (Or.inl rfl) hw
set_option maxHeartbeats 4000000 in
set_option maxRecDepth 100000 in
theorem wj_X6_isPattern_107_ok (C : mC p s m args meth c cX6_isPattern 7 wsX6_isPattern RX6 (some .boolean) (dC, dI) vwCl [(cA, .int)] A) (hs : eA a A s) (hlev : 1 ≤ lev) {post : Int32 → mS → Prop} {K64 : Int32 → Int32 → Int32 → Int32 → mS → Prop} (hK64 : ∀ (x1 x3 x4 x5 : Int32) (u : mS), K64 x1 x3 x4 x5 u → mV p l e (mRm lev) s m args below meth c 7 (dC, dI) vwCl A 0 0 (mQi below args s (dC, dI) vwCl [(cA, .int)] (wA cA a) A (fun r w => (r = 0 ∨ r = 1) ∧ post r w)) (wA cA a u) 64 [(0, .ref (a 8)), (1, .int x1), (3, .int x3), (4, .int x4), (5, .int x5)] []) {x1 x3 x4 x5 x6 : Int32} {u : mS} (hw : wj_X6_isPattern_107 K64 post x1 x3 x4 x5 x6 u) : mV p l e (mRm lev) s m args below meth c 7 (dC, dI) vwCl A 0 0 (mQi below args s (dC, dI) vwCl [(cA, .int)] (wA cA a) A (fun r w => (r = 0 ∨ r = 1) ∧ post r w)) (wA cA a u) 107 [(0, .ref (a 8)), (1, .int x1), (3, .int x3), (4, .int x4), (5, .int x5), (6, .int x6)] [] := by
  unfold wj_X6_isPattern_107 at hw
  refine mv_iload C dX6_isPattern_107 5 rfl ?_
  refine mv_callSNi (f := wA cA a) (As := [.int x6]) (rest := []) C (eA_ok a) hs (X8_isTree_met (l := l) (lev := lev - 1) (by omega) hw) ⟨va_cnB 1 C.2.2.2.2.1 ggX6_isPattern_X8_isTree rfl rfl rfl (hs.1 _ nw_16) (C.2.2.2.2.1 _ in_X6_isPattern_X8) (by decide +kernel) (mRm_le (by omega) (by decide)), C.2.2.2.2.1 _ st_X6_isPattern_X8_isTree, trivial⟩ rfl rfl (Nat.le_of_ble_eq_true rfl) dX6_isPattern_109 ⟨Nat.le_refl 0, Nat.le_refl 0⟩ (fun r23 u24 hw => ?_)
  obtain ⟨gr23, hw⟩ := hw
  refine mv_if_eq (tgt := 131) C dX6_isPattern_112 (by decide) (fun h25 => ?_) (fun h25 => ?_)
  · have hw := hw.1 h25
    refine mv_sub [0, 1, 2, 3, 4] rfl ?_
    exact wj_X6_isPattern_131_ok C hs hlev hK64 hw
  · have hw := hw.2 h25
    refine mv_aload_n C dX6_isPattern_115 rfl 0 rfl ?_
    refine mv_get (v := .ref (a 2)) C iw_X6_isPattern_X6 8 rfl rfl 0 (by decide) lk_X6_isPattern_9 rfl rfl dX6_isPattern_116 ?_
    refine mv_iload_n C dX6_isPattern_119 rfl 1 rfl ?_
    refine mv_iload C dX6_isPattern_120 4 rfl ?_
    refine mv_callVi (f := wA cA a) (As := [.int x1, .int x5]) (rest := []) C (eA_ok a) hs 2 rfl rfl (X5_holders_met (l := l) (lev := lev - 1) (by omega) hw) (cwV 2 C.2.2.2.2.1 gX6_isPattern_X5_holders rfl rfl rfl (by decide +kernel) (mRm_le (by omega) (by decide))) rfl rfl (Nat.le_of_ble_eq_true rfl) dX6_isPattern_122 ⟨Nat.le_refl 0, Nat.le_refl 0⟩ (fun r26 u27 hw => ?_)
    refine mv_iconst (v := (2 : Int32)) C dX6_isPattern_125 (by decide) ?_
    refine mv_icmp_le (tgt := 131) C dX6_isPattern_126 (by decide) (fun h28 => ?_) (fun h28 => ?_)
    · have hw := hw.1 h28
      refine mv_sub [0, 1, 2, 3, 4] rfl ?_
      exact wj_X6_isPattern_131_ok C hs hlev hK64 hw
    · have hw := hw.2 h28
      refine mv_iconst (v := (0 : Int32)) C dX6_isPattern_129 (by decide) ?_
      exact mv_zret C dX6_isPattern_130 (Or.inl rfl) hw
set_option maxHeartbeats 4000000 in
set_option maxRecDepth 100000 in
theorem wj_X6_isPattern_64_ok (C : mC p s m args meth c cX6_isPattern 7 wsX6_isPattern RX6 (some .boolean) (dC, dI) vwCl [(cA, .int)] A) (hs : eA a A s) (hlev : 1 ≤ lev) {post : Int32 → mS → Prop} {K64 : Int32 → Int32 → Int32 → Int32 → mS → Prop} (hK64 : ∀ (x1 x3 x4 x5 : Int32) (u : mS), K64 x1 x3 x4 x5 u → mV p l e (mRm lev) s m args below meth c 7 (dC, dI) vwCl A 0 0 (mQi below args s (dC, dI) vwCl [(cA, .int)] (wA cA a) A (fun r w => (r = 0 ∨ r = 1) ∧ post r w)) (wA cA a u) 64 [(0, .ref (a 8)), (1, .int x1), (3, .int x3), (4, .int x4), (5, .int x5)] []) {x1 x3 x4 x5 : Int32} {u : mS} (hw : wj_X6_isPattern_64 K64 post x1 x3 x4 x5 u) : mV p l e (mRm lev) s m args below meth c 7 (dC, dI) vwCl A 0 0 (mQi below args s (dC, dI) vwCl [(cA, .int)] (wA cA a) A (fun r w => (r = 0 ∨ r = 1) ∧ post r w)) (wA cA a u) 64 [(0, .ref (a 8)), (1, .int x1), (3, .int x3), (4, .int x4), (5, .int x5)] [] := by
  unfold wj_X6_isPattern_64 at hw
  refine mv_iload C dX6_isPattern_64 4 rfl ?_
  refine mv_iload C dX6_isPattern_66 3 rfl ?_
  refine mv_icmp_ge (tgt := 154) C dX6_isPattern_68 (by decide) (fun h15 => ?_) (fun h15 => ?_)
  · have hw := hw.1 h15
    refine mv_iconst (v := (1 : Int32)) C dX6_isPattern_154 (by decide) ?_
    exact mv_zret C dX6_isPattern_155 (Or.inr rfl) hw
  · have hw := hw.2 h15
    refine mv_aload_n C dX6_isPattern_71 rfl 0 rfl ?_
    refine mv_get (v := .ref (a 2)) C iw_X6_isPattern_X6 8 rfl rfl 0 (by decide) lk_X6_isPattern_9 rfl rfl dX6_isPattern_72 ?_
    refine mv_iload C dX6_isPattern_75 4 rfl ?_
    refine mv_callVi (f := wA cA a) (As := [.int x5]) (rest := []) C (eA_ok a) hs 2 rfl rfl (X5_wordAt_met (l := l) (lev := lev - 1) (by omega) hw) (cwV 1 C.2.2.2.2.1 gX6_isPattern_X5_wordAt rfl rfl rfl (by decide +kernel) (mRm_le (by omega) (by decide))) rfl rfl (Nat.le_of_ble_eq_true rfl) dX6_isPattern_77 ⟨Nat.le_refl 0, Nat.le_refl 0⟩ (fun r16 u17 hw => ?_)
    refine mv_istore (lv1 := [(6, .int r16), (0, .ref (a 8)), (1, .int x1), (3, .int x3), (4, .int x4), (5, .int x5)]) C dX6_isPattern_80 (by decide) rfl ?_
    refine mv_iload C dX6_isPattern_82 0 rfl ?_
    refine mv_bipush (v := (-3 : Int32)) C dX6_isPattern_84 (by decide) ?_
    refine mv_icmp_ne (tgt := 107) C dX6_isPattern_86 (by decide) (fun h18 => ?_) (fun h18 => ?_)
    · have hw := hw.1 h18
      refine mv_sub [1, 2, 3, 4, 5, 0] rfl ?_
      exact wj_X6_isPattern_107_ok C hs hlev hK64 hw
    · have hw := hw.2 h18
      refine mv_aload_n C dX6_isPattern_89 rfl 1 rfl ?_
      refine mv_get (v := .ref (a 2)) C iw_X6_isPattern_X6 8 rfl rfl 0 (by decide) lk_X6_isPattern_9 rfl rfl dX6_isPattern_90 ?_
      refine mv_iload C dX6_isPattern_93 5 rfl ?_
      refine mv_iconst (v := (1 : Int32)) C dX6_isPattern_95 (by decide) ?_
      refine mv_iadd C dX6_isPattern_96 ?_
      refine mv_topi (fun y19 ey19 => ?_)
      have hw := hw y19 ey19
      refine mv_callVi (f := wA cA a) (As := [.int y19]) (rest := []) C (eA_ok a) hs 2 rfl rfl (X5_wordAt_met (l := l) (lev := lev - 1) (by omega) hw) (cwV 1 C.2.2.2.2.1 gX6_isPattern_X5_wordAt rfl rfl rfl (by decide +kernel) (mRm_le (by omega) (by decide))) rfl rfl (Nat.le_of_ble_eq_true rfl) dX6_isPattern_97 ⟨Nat.le_refl 0, Nat.le_refl 0⟩ (fun r20 u21 hw => ?_)
      refine mv_bipush (v := (-2 : Int32)) C dX6_isPattern_100 (by decide) ?_
      refine mv_icmp_eq (tgt := 107) C dX6_isPattern_102 (by decide) (fun h22 => ?_) (fun h22 => ?_)
      · have hw := hw.1 h22
        refine mv_sub [1, 2, 3, 4, 5, 0] rfl ?_
        exact wj_X6_isPattern_107_ok C hs hlev hK64 hw
      · have hw := hw.2 h22
        refine mv_iconst (v := (0 : Int32)) C dX6_isPattern_105 (by decide) ?_
        exact mv_zret C dX6_isPattern_106 (Or.inl rfl) hw
set_option maxHeartbeats 4000000 in
set_option maxRecDepth 100000 in
theorem X6_isPattern_met (hlev : 1 ≤ lev) {x1 : Int32} {u : mS} {post : Int32 → mS → Prop} (hw : wp_X6_isPattern x1 u post) : mKi l yX6_isPattern wsX6_isPattern lev (eA a) (dC, dI) vwCl [(cA, .int)] (wA cA a) [.ref (a 8), .int x1] u (fun r w => (r = 0 ∨ r = 1) ∧ post r w) := by
  refine mKz_of (cc := cX6_isPattern) (maxL := 7) (by decide) rfl rfl (Nat.le_of_ble_eq_true rfl) rfl ?_
  intro p e s m args below meth c A C hs
  unfold wp_X6_isPattern at hw
  refine mv_iload_n C dX6_isPattern_0 rfl 1 rfl ?_
  refine mv_iconst (v := (1 : Int32)) C dX6_isPattern_1 (by decide) ?_
  refine mv_iadd C dX6_isPattern_2 ?_
  refine mv_topi (fun y1 ey1 => ?_)
  have hw := hw y1 ey1
  refine mv_istore_n (lv1 := [(2, .int y1), (0, .ref (a 8)), (1, .int x1)]) C dX6_isPattern_3 rfl (by decide) rfl ?_
  refine mv_aload_n C dX6_isPattern_4 rfl 1 rfl ?_
  refine mv_get (v := .ref (a 2)) C iw_X6_isPattern_X6 8 rfl rfl 0 (by decide) lk_X6_isPattern_9 rfl rfl dX6_isPattern_5 ?_
  refine mv_iload_n C dX6_isPattern_8 rfl 2 rfl ?_
  refine mv_callVi (f := wA cA a) (As := [.int x1]) (rest := []) C (eA_ok a) hs 2 rfl rfl (X5_wordAt_met (l := l) (lev := lev - 1) (by omega) hw) (cwV 1 C.2.2.2.2.1 gX6_isPattern_X5_wordAt rfl rfl rfl (by decide +kernel) (mRm_le (by omega) (by decide))) rfl rfl (Nat.le_of_ble_eq_true rfl) dX6_isPattern_9 ⟨Nat.le_refl 0, Nat.le_refl 0⟩ (fun r2 u3 hw => ?_)
  refine mv_iconst (v := (-1 : Int32)) C dX6_isPattern_12 (by decide) ?_
  refine mv_icmp_ne (tgt := 40) C dX6_isPattern_13 (by decide) (fun h4 => ?_) (fun h4 => ?_)
  · have hw := hw.1 h4
    refine mv_iconst (v := (0 : Int32)) C dX6_isPattern_40 (by decide) ?_
    exact mv_zret C dX6_isPattern_41 (Or.inl rfl) hw
  · have hw := hw.2 h4
    refine mv_aload_n C dX6_isPattern_16 rfl 1 rfl ?_
    refine mv_get (v := .ref (a 2)) C iw_X6_isPattern_X6 8 rfl rfl 0 (by decide) lk_X6_isPattern_9 rfl rfl dX6_isPattern_17 ?_
    refine mv_iload_n C dX6_isPattern_20 rfl 0 rfl ?_
    refine mv_callVi (f := wA cA a) (As := [.int y1]) (rest := []) C (eA_ok a) hs 2 rfl rfl (X5_wordAt_met (l := l) (lev := lev - 1) (by omega) hw) (cwV 1 C.2.2.2.2.1 gX6_isPattern_X5_wordAt rfl rfl rfl (by decide +kernel) (mRm_le (by omega) (by decide))) rfl rfl (Nat.le_of_ble_eq_true rfl) dX6_isPattern_21 ⟨Nat.le_refl 0, Nat.le_refl 0⟩ (fun r5 u6 hw => ?_)
    refine mv_bipush (v := (-2 : Int32)) C dX6_isPattern_24 (by decide) ?_
    refine mv_icmp_eq (tgt := 40) C dX6_isPattern_26 (by decide) (fun h7 => ?_) (fun h7 => ?_)
    · have hw := hw.1 h7
      refine mv_iconst (v := (0 : Int32)) C dX6_isPattern_40 (by decide) ?_
      exact mv_zret C dX6_isPattern_41 (Or.inl rfl) hw
    · have hw := hw.2 h7
      refine mv_aload_n C dX6_isPattern_29 rfl 1 rfl ?_
      refine mv_get (v := .ref (a 2)) C iw_X6_isPattern_X6 8 rfl rfl 0 (by decide) lk_X6_isPattern_9 rfl rfl dX6_isPattern_30 ?_
      refine mv_iload_n C dX6_isPattern_33 rfl 0 rfl ?_
      refine mv_callVi (f := wA cA a) (As := [.int y1]) (rest := []) C (eA_ok a) hs 2 rfl rfl (X5_isHeld_met (l := l) (lev := lev - 1) (by omega) hw) (cwV 1 C.2.2.2.2.1 gX6_isPattern_X5_isHeld rfl rfl rfl (by decide +kernel) (mRm_le (by omega) (by decide))) rfl rfl (Nat.le_of_ble_eq_true rfl) dX6_isPattern_34 ⟨Nat.le_refl 0, Nat.le_refl 0⟩ (fun r8 u9 hw => ?_)
      obtain ⟨gr8, hw⟩ := hw
      refine mv_if_eq (tgt := 42) C dX6_isPattern_37 (by decide) (fun h10 => ?_) (fun h10 => ?_)
      · have hw := hw.1 h10
        refine mv_aload_n C dX6_isPattern_42 rfl 1 rfl ?_
        refine mv_get (v := .ref (a 2)) C iw_X6_isPattern_X6 8 rfl rfl 0 (by decide) lk_X6_isPattern_9 rfl rfl dX6_isPattern_43 ?_
        refine mv_iload_n C dX6_isPattern_46 rfl 0 rfl ?_
        refine mv_callVi (f := wA cA a) (As := [.int y1]) (rest := []) C (eA_ok a) hs 2 rfl rfl (X5_after_met (l := l) (lev := lev - 1) (by omega) hw) (cwV 1 C.2.2.2.2.1 gX6_isPattern_X5_after rfl rfl rfl (by decide +kernel) (mRm_le (by omega) (by decide))) rfl rfl (Nat.le_of_ble_eq_true rfl) dX6_isPattern_47 ⟨Nat.le_refl 0, Nat.le_refl 0⟩ (fun r11 u12 hw => ?_)
        refine mv_istore_n (lv1 := [(3, .int r11), (2, .int y1), (0, .ref (a 8)), (1, .int x1)]) C dX6_isPattern_50 rfl (by decide) rfl ?_
        refine mv_aload_n C dX6_isPattern_51 rfl 2 rfl ?_
        refine mv_get (v := .ref (a 2)) C iw_X6_isPattern_X6 8 rfl rfl 0 (by decide) lk_X6_isPattern_9 rfl rfl dX6_isPattern_52 ?_
        refine mv_iload_n C dX6_isPattern_55 rfl 3 rfl ?_
        refine mv_callVi (f := wA cA a) (As := [.int x1]) (rest := []) C (eA_ok a) hs 2 rfl rfl (X5_after_met (l := l) (lev := lev - 1) (by omega) hw) (cwV 1 C.2.2.2.2.1 gX6_isPattern_X5_after rfl rfl rfl (by decide +kernel) (mRm_le (by omega) (by decide))) rfl rfl (Nat.le_of_ble_eq_true rfl) dX6_isPattern_56 ⟨Nat.le_refl 0, Nat.le_refl 0⟩ (fun r13 u14 hw => ?_)
        refine mv_istore (lv1 := [(4, .int r13), (3, .int r11), (2, .int y1), (0, .ref (a 8)), (1, .int x1)]) C dX6_isPattern_59 (by decide) rfl ?_
        refine mv_iload_n C dX6_isPattern_61 rfl 1 rfl ?_
        refine mv_istore (lv1 := [(5, .int r11), (4, .int r13), (3, .int r11), (2, .int y1), (0, .ref (a 8)), (1, .int x1)]) C dX6_isPattern_62 (by decide) rfl ?_
        refine mv_sub [4, 5, 2, 1, 0] rfl ?_
        obtain ⟨n, hw⟩ := hw
        exact mL5_of (fun K hK b0 b1 b2 b3 b4 hw => wj_X6_isPattern_64_ok C hs hlev hK hw) n x1 r11 r13 r11 u14 hw
      · have hw := hw.2 h10
        refine mv_iconst (v := (0 : Int32)) C dX6_isPattern_40 (by decide) ?_
        exact mv_zret C dX6_isPattern_41 (Or.inl rfl) hw
set_option maxHeartbeats 4000000 in
set_option maxRecDepth 100000 in
theorem wj_X5_setVariable_35_ok (C : mC p s m args meth c cX5_setVariable 3 wsX5_setVariable RX5 none (dC, dI) vwCl [(cA, .int)] A) (hs : eA a A s) (hlev : 0 ≤ lev) {post : mS → Prop} {z0 z1 : Int32} {u : mS} (hw : wj_X5_setVariable_35 post z0 z1 u) : mV p l e (mRm lev) s m args below meth c 3 (dC, dI) vwCl A 0 0 (mQv below args s (dC, dI) vwCl [(cA, .int)] (wA cA a) A post) (wA cA a u) 35 [] [.int z0, .int z1, .ref (a 6)] := by
  unfold wj_X5_setVariable_35 at hw
  refine mv_iast (f := u.2 4) (ws1 := wA cA a (mPut u 4 z1.toNatClampNeg z0)) C 6 0 rfl rfl hw.1 rfl dX5_setVariable_35 ?_
  refine mv_nm (f := wA cA a) (fun u7 eu7 => ?_)
  have hw := hw.2 u7 eu7
  exact mv_vret C dX5_setVariable_36 hw
set_option maxHeartbeats 4000000 in
set_option maxRecDepth 100000 in
theorem X5_setVariable_met (hlev : 0 ≤ lev) {x1 x2 : Int32} {u : mS} {post : mS → Prop} (hw : wp_X5_setVariable x1 x2 u post) : mKv l yX5_setVariable wsX5_setVariable lev (eA a) (dC, dI) vwCl [(cA, .int)] (wA cA a) [.ref (a 2), .int x1, .int x2] u post := by
  refine mKv_of (cc := cX5_setVariable) (maxL := 3) (by decide) rfl rfl (Nat.le_of_ble_eq_true rfl) rfl ?_
  intro p e s m args below meth c A C hs
  unfold wp_X5_setVariable at hw
  refine mv_iload_n C dX5_setVariable_0 rfl 1 rfl ?_
  refine mv_if_lt (tgt := 36) C dX5_setVariable_1 (by decide) (fun h1 => ?_) (fun h1 => ?_)
  · have hw := hw.1 h1
    exact mv_vret C dX5_setVariable_36 hw
  · have hw := hw.2 h1
    refine mv_iload_n C dX5_setVariable_4 rfl 1 rfl ?_
    refine mv_aload_n C dX5_setVariable_5 rfl 0 rfl ?_
    refine mv_get (v := .int (u.1 1)) C iw_X5_setVariable_X5 2 rfl rfl 4 (by decide) lk_X5_setVariable_24 rfl rfl dX5_setVariable_6 ?_
    refine mv_topi (fun y2 ey2 => ?_)
    have hw := hw y2 ey2
    refine mv_icmp_ge (tgt := 36) C dX5_setVariable_9 (by decide) (fun h3 => ?_) (fun h3 => ?_)
    · have hw := hw.1 h3
      exact mv_vret C dX5_setVariable_36 hw
    · have hw := hw.2 h3
      refine mv_iload_n C dX5_setVariable_12 rfl 1 rfl ?_
      refine mv_sipush (v := (3000 : Int32)) C dX5_setVariable_13 (by decide) ?_
      refine mv_icmp_ge (tgt := 36) C dX5_setVariable_16 (by decide) (fun h4 => ?_) (fun h4 => ?_)
      · have hw := hw.1 h4
        exact mv_vret C dX5_setVariable_36 hw
      · have hw := hw.2 h4
        refine mv_aload_n C dX5_setVariable_19 rfl 0 rfl ?_
        refine mv_get (v := .ref (a 6)) C iw_X5_setVariable_X5 2 rfl rfl 3 (by decide) lk_X5_setVariable_21 rfl rfl dX5_setVariable_20 ?_
        refine mv_iload_n C dX5_setVariable_23 rfl 1 rfl ?_
        refine mv_iload_n C dX5_setVariable_24 rfl 2 rfl ?_
        refine mv_if_ge (tgt := 32) C dX5_setVariable_25 (by decide) (fun h5 => ?_) (fun h5 => ?_)
        · have hw := hw.1 h5
          refine mv_iload_n C dX5_setVariable_32 rfl 1 rfl ?_
          refine mv_iload_n C dX5_setVariable_33 rfl 2 rfl ?_
          refine mv_isub C dX5_setVariable_34 ?_
          refine mv_topi (fun y6 ey6 => ?_)
          have hw := hw y6 ey6
          refine mv_sub [] rfl ?_
          exact wj_X5_setVariable_35_ok C hs hlev hw
        · have hw := hw.2 h5
          refine mv_iconst (v := (0 : Int32)) C dX5_setVariable_28 (by decide) ?_
          refine mv_goto (tgt := 35) C dX5_setVariable_29 (by decide) ?_
          refine mv_sub [] rfl ?_
          exact wj_X5_setVariable_35_ok C hs hlev hw
set_option maxHeartbeats 4000000 in
set_option maxRecDepth 100000 in
theorem wj_X6_linkUses_24_ok (C : mC p s m args meth c cX6_linkUses 6 wsX6_linkUses RX6 none (dC, dI) vwCl [(cA, .int)] A) (hs : eA a A s) (hlev : 1 ≤ lev) {post : mS → Prop} {K24 : Int32 → Int32 → Int32 → Int32 → mS → Prop} (hK24 : ∀ (x2 x3 x4 x5 : Int32) (u : mS), K24 x2 x3 x4 x5 u → mV p l e (mRm lev) s m args below meth c 6 (dC, dI) vwCl A 0 0 (mQv below args s (dC, dI) vwCl [(cA, .int)] (wA cA a) A post) (wA cA a u) 24 [(0, .ref (a 8)), (2, .int x2), (3, .int x3), (4, .int x4), (5, .int x5)] []) {x2 x3 x4 x5 : Int32} {u : mS} (hw : wj_X6_linkUses_24 K24 post x2 x3 x4 x5 u) : mV p l e (mRm lev) s m args below meth c 6 (dC, dI) vwCl A 0 0 (mQv below args s (dC, dI) vwCl [(cA, .int)] (wA cA a) A post) (wA cA a u) 24 [(0, .ref (a 8)), (2, .int x2), (3, .int x3), (4, .int x4), (5, .int x5)] [] := by
  unfold wj_X6_linkUses_24 at hw
  refine mv_iload C dX6_linkUses_24 4 rfl ?_
  refine mv_iload C dX6_linkUses_26 3 rfl ?_
  refine mv_icmp_ge (tgt := 57) C dX6_linkUses_28 (by decide) (fun h6 => ?_) (fun h6 => ?_)
  · have hw := hw.1 h6
    exact mv_vret C dX6_linkUses_57 hw
  · have hw := hw.2 h6
    refine mv_aload_n C dX6_linkUses_31 rfl 0 rfl ?_
    refine mv_get (v := .ref (a 2)) C iw_X6_linkUses_X6 8 rfl rfl 0 (by decide) lk_X6_linkUses_9 rfl rfl dX6_linkUses_32 ?_
    refine mv_iload C dX6_linkUses_35 4 rfl ?_
    refine mv_aload_n C dX6_linkUses_37 rfl 0 rfl ?_
    refine mv_get (v := .ref (a 2)) C iw_X6_linkUses_X6 8 rfl rfl 0 (by decide) lk_X6_linkUses_9 rfl rfl dX6_linkUses_38 ?_
    refine mv_iload_n C dX6_linkUses_41 rfl 2 rfl ?_
    refine mv_iload_n C dX6_linkUses_42 rfl 1 rfl ?_
    refine mv_iload C dX6_linkUses_43 4 rfl ?_
    refine mv_callVi (f := wA cA a) (As := [.int x3, .int x2, .int x5]) (rest := [.int x5, .ref (a 2)]) C (eA_ok a) hs 2 rfl rfl (X5_findName_met (l := l) (lev := lev - 1) (by omega) hw) (cwV 3 C.2.2.2.2.1 gX6_linkUses_X5_findName rfl rfl rfl (by decide +kernel) (mRm_le (by omega) (by decide))) rfl rfl (Nat.le_of_ble_eq_true rfl) dX6_linkUses_45 ⟨Nat.le_refl 0, Nat.le_refl 0⟩ (fun r7 u8 hw => ?_)
    refine mv_callVv (f := wA cA a) (As := [.int x5, .int r7]) (rest := []) C (eA_ok a) hs 2 rfl rfl (X5_setVariable_met (l := l) (lev := lev - 1) (by omega) hw) (cwV 2 C.2.2.2.2.1 gX6_linkUses_X5_setVariable rfl rfl rfl (by decide +kernel) (mRm_le (by omega) (by decide))) rfl rfl (Nat.le_of_ble_eq_true rfl) dX6_linkUses_48 ⟨Nat.le_refl 0, Nat.le_refl 0⟩ (fun u10 hw => ?_)
    obtain ⟨y11, ey11⟩ : ∃ z : Int32, z = x5 + (1 : Int32) := ⟨_, rfl⟩
    have hw := hw y11 ey11
    refine mv_iinc (v := y11) (lv1 := [(5, .int y11), (0, .ref (a 8)), (2, .int x2), (3, .int x3), (4, .int x4)]) C dX6_linkUses_51 4 rfl (by rw [ey11]; rfl) (by decide) rfl ?_
    refine mv_goto (tgt := 24) C dX6_linkUses_54 (by decide) ?_
    refine mv_sub [1, 2, 3, 4, 0] rfl ?_
    exact hK24 x2 x3 x4 y11 u10 hw
set_option maxHeartbeats 4000000 in
set_option maxRecDepth 100000 in
theorem X6_linkUses_met (hlev : 1 ≤ lev) {x1 x2 : Int32} {u : mS} {post : mS → Prop} (hw : wp_X6_linkUses x1 x2 u post) : mKv l yX6_linkUses wsX6_linkUses lev (eA a) (dC, dI) vwCl [(cA, .int)] (wA cA a) [.ref (a 8), .int x1, .int x2] u post := by
  refine mKv_of (cc := cX6_linkUses) (maxL := 6) (by decide) rfl rfl (Nat.le_of_ble_eq_true rfl) rfl ?_
  intro p e s m args below meth c A C hs
  unfold wp_X6_linkUses at hw
  refine mv_aload_n C dX6_linkUses_0 rfl 0 rfl ?_
  refine mv_get (v := .ref (a 2)) C iw_X6_linkUses_X6 8 rfl rfl 0 (by decide) lk_X6_linkUses_9 rfl rfl dX6_linkUses_1 ?_
  refine mv_iload_n C dX6_linkUses_4 rfl 1 rfl ?_
  refine mv_iconst (v := (1 : Int32)) C dX6_linkUses_5 (by decide) ?_
  refine mv_iadd C dX6_linkUses_6 ?_
  refine mv_topi (fun y1 ey1 => ?_)
  have hw := hw y1 ey1
  refine mv_callVi (f := wA cA a) (As := [.int y1]) (rest := []) C (eA_ok a) hs 2 rfl rfl (X5_after_met (l := l) (lev := lev - 1) (by omega) hw) (cwV 1 C.2.2.2.2.1 gX6_linkUses_X5_after rfl rfl rfl (by decide +kernel) (mRm_le (by omega) (by decide))) rfl rfl (Nat.le_of_ble_eq_true rfl) dX6_linkUses_7 ⟨Nat.le_refl 0, Nat.le_refl 0⟩ (fun r2 u3 hw => ?_)
  refine mv_istore_n (lv1 := [(3, .int r2), (0, .ref (a 8)), (1, .int x1), (2, .int x2)]) C dX6_linkUses_10 rfl (by decide) rfl ?_
  refine mv_aload_n C dX6_linkUses_11 rfl 1 rfl ?_
  refine mv_get (v := .ref (a 2)) C iw_X6_linkUses_X6 8 rfl rfl 0 (by decide) lk_X6_linkUses_9 rfl rfl dX6_linkUses_12 ?_
  refine mv_iload_n C dX6_linkUses_15 rfl 3 rfl ?_
  refine mv_callVi (f := wA cA a) (As := [.int x2]) (rest := []) C (eA_ok a) hs 2 rfl rfl (X5_after_met (l := l) (lev := lev - 1) (by omega) hw) (cwV 1 C.2.2.2.2.1 gX6_linkUses_X5_after rfl rfl rfl (by decide +kernel) (mRm_le (by omega) (by decide))) rfl rfl (Nat.le_of_ble_eq_true rfl) dX6_linkUses_16 ⟨Nat.le_refl 0, Nat.le_refl 0⟩ (fun r4 u5 hw => ?_)
  refine mv_istore (lv1 := [(4, .int r4), (3, .int r2), (0, .ref (a 8)), (1, .int x1), (2, .int x2)]) C dX6_linkUses_19 (by decide) rfl ?_
  refine mv_iload_n C dX6_linkUses_21 rfl 4 rfl ?_
  refine mv_istore (lv1 := [(5, .int x2), (4, .int r4), (3, .int r2), (0, .ref (a 8)), (1, .int x1), (2, .int x2)]) C dX6_linkUses_22 (by decide) rfl ?_
  refine mv_sub [3, 5, 2, 1, 0] rfl ?_
  obtain ⟨n, hw⟩ := hw
  exact mL5_of (fun K hK b0 b1 b2 b3 b4 hw => wj_X6_linkUses_24_ok C hs hlev hK hw) n x2 r2 r4 x2 u5 hw
set_option maxHeartbeats 4000000 in
set_option maxRecDepth 100000 in
theorem X5_variableAt_met (hlev : 0 ≤ lev) {x1 : Int32} {u : mS} {post : Int32 → mS → Prop} (hw : wp_X5_variableAt x1 u post) : mKi l yX5_variableAt wsX5_variableAt lev (eA a) (dC, dI) vwCl [(cA, .int)] (wA cA a) [.ref (a 2), .int x1] u post := by
  refine mKi_of (cc := cX5_variableAt) (maxL := 2) (by decide) rfl rfl (Nat.le_of_ble_eq_true rfl) rfl ?_
  intro p e s m args below meth c A C hs
  unfold wp_X5_variableAt at hw
  refine mv_iload_n C dX5_variableAt_0 rfl 1 rfl ?_
  refine mv_if_lt (tgt := 39) C dX5_variableAt_1 (by decide) (fun h1 => ?_) (fun h1 => ?_)
  · have hw := hw.1 h1
    refine mv_iconst (v := (-1 : Int32)) C dX5_variableAt_39 (by decide) ?_
    exact mv_iret C dX5_variableAt_40 hw
  · have hw := hw.2 h1
    refine mv_iload_n C dX5_variableAt_4 rfl 1 rfl ?_
    refine mv_aload_n C dX5_variableAt_5 rfl 0 rfl ?_
    refine mv_get (v := .int (u.1 1)) C iw_X5_variableAt_X5 2 rfl rfl 4 (by decide) lk_X5_variableAt_24 rfl rfl dX5_variableAt_6 ?_
    refine mv_topi (fun y2 ey2 => ?_)
    have hw := hw y2 ey2
    refine mv_icmp_ge (tgt := 39) C dX5_variableAt_9 (by decide) (fun h3 => ?_) (fun h3 => ?_)
    · have hw := hw.1 h3
      refine mv_iconst (v := (-1 : Int32)) C dX5_variableAt_39 (by decide) ?_
      exact mv_iret C dX5_variableAt_40 hw
    · have hw := hw.2 h3
      refine mv_iload_n C dX5_variableAt_12 rfl 1 rfl ?_
      refine mv_sipush (v := (3000 : Int32)) C dX5_variableAt_13 (by decide) ?_
      refine mv_icmp_ge (tgt := 39) C dX5_variableAt_16 (by decide) (fun h4 => ?_) (fun h4 => ?_)
      · have hw := hw.1 h4
        refine mv_iconst (v := (-1 : Int32)) C dX5_variableAt_39 (by decide) ?_
        exact mv_iret C dX5_variableAt_40 hw
      · have hw := hw.2 h4
        refine mv_aload_n C dX5_variableAt_19 rfl 0 rfl ?_
        refine mv_get (v := .ref (a 6)) C iw_X5_variableAt_X5 2 rfl rfl 3 (by decide) lk_X5_variableAt_21 rfl rfl dX5_variableAt_20 ?_
        refine mv_iload_n C dX5_variableAt_23 rfl 1 rfl ?_
        refine mv_iald (f := u.2 4) C 6 0 rfl rfl hw.1 dX5_variableAt_24 ?_
        refine mv_topi (fun y5 ey5 => ?_)
        have hw := hw.2 y5 ey5
        refine mv_if_le (tgt := 39) C dX5_variableAt_25 (by decide) (fun h6 => ?_) (fun h6 => ?_)
        · have hw := hw.1 h6
          refine mv_iconst (v := (-1 : Int32)) C dX5_variableAt_39 (by decide) ?_
          exact mv_iret C dX5_variableAt_40 hw
        · have hw := hw.2 h6
          refine mv_iload_n C dX5_variableAt_28 rfl 1 rfl ?_
          refine mv_aload_n C dX5_variableAt_29 rfl 0 rfl ?_
          refine mv_get (v := .ref (a 6)) C iw_X5_variableAt_X5 2 rfl rfl 3 (by decide) lk_X5_variableAt_21 rfl rfl dX5_variableAt_30 ?_
          refine mv_iload_n C dX5_variableAt_33 rfl 1 rfl ?_
          refine mv_iald (f := u.2 4) C 6 0 rfl rfl hw.1 dX5_variableAt_34 ?_
          refine mv_topi (fun y7 ey7 => ?_)
          have hw := hw.2 y7 ey7
          refine mv_isub C dX5_variableAt_35 ?_
          refine mv_topi (fun y8 ey8 => ?_)
          have hw := hw y8 ey8
          refine mv_goto (tgt := 40) C dX5_variableAt_36 (by decide) ?_
          exact mv_iret C dX5_variableAt_40 hw
set_option maxHeartbeats 4000000 in
set_option maxRecDepth 100000 in
theorem wj_X5_hasUse_23_ok (C : mC p s m args meth c cX5_hasUse 3 wsX5_hasUse RX5 (some .boolean) (dC, dI) vwCl [(cA, .int)] A) (hs : eA a A s) (hlev : 0 ≤ lev) {post : Int32 → mS → Prop} {K23 : Int32 → Int32 → mS → Prop} (hK23 : ∀ (x1 x2 : Int32) (u : mS), K23 x1 x2 u → mV p l e (mRm lev) s m args below meth c 3 (dC, dI) vwCl A 0 0 (mQi below args s (dC, dI) vwCl [(cA, .int)] (wA cA a) A (fun r w => (r = 0 ∨ r = 1) ∧ post r w)) (wA cA a u) 23 [(0, .ref (a 2)), (1, .int x1), (2, .int x2)] []) {x1 x2 : Int32} {u : mS} (hw : wj_X5_hasUse_23 K23 post x1 x2 u) : mV p l e (mRm lev) s m args below meth c 3 (dC, dI) vwCl A 0 0 (mQi below args s (dC, dI) vwCl [(cA, .int)] (wA cA a) A (fun r w => (r = 0 ∨ r = 1) ∧ post r w)) (wA cA a u) 23 [(0, .ref (a 2)), (1, .int x1), (2, .int x2)] [] := by
  unfold wj_X5_hasUse_23 at hw
  refine mv_iload_n C dX5_hasUse_23 rfl 2 rfl ?_
  refine mv_iload_n C dX5_hasUse_24 rfl 1 rfl ?_
  refine mv_aload_n C dX5_hasUse_25 rfl 0 rfl ?_
  refine mv_get (v := .ref (a 5)) C iw_X5_hasUse_X5 2 rfl rfl 2 (by decide) lk_X5_hasUse_18 rfl rfl dX5_hasUse_26 ?_
  refine mv_iload_n C dX5_hasUse_29 rfl 1 rfl ?_
  refine mv_iald (f := u.2 3) C 5 0 rfl rfl hw.1 dX5_hasUse_30 ?_
  refine mv_topi (fun y5 ey5 => ?_)
  have hw := hw.2 y5 ey5
  refine mv_iadd C dX5_hasUse_31 ?_
  refine mv_topi (fun y6 ey6 => ?_)
  have hw := hw y6 ey6
  refine mv_icmp_ge (tgt := 67) C dX5_hasUse_32 (by decide) (fun h7 => ?_) (fun h7 => ?_)
  · have hw := hw.1 h7
    refine mv_iconst (v := (0 : Int32)) C dX5_hasUse_67 (by decide) ?_
    exact mv_zret C dX5_hasUse_68 (Or.inl rfl) hw
  · have hw := hw.2 h7
    refine mv_iload_n C dX5_hasUse_35 rfl 2 rfl ?_
    refine mv_aload_n C dX5_hasUse_36 rfl 0 rfl ?_
    refine mv_get (v := .int (u.1 1)) C iw_X5_hasUse_X5 2 rfl rfl 4 (by decide) lk_X5_hasUse_24 rfl rfl dX5_hasUse_37 ?_
    refine mv_topi (fun y8 ey8 => ?_)
    have hw := hw y8 ey8
    refine mv_icmp_ge (tgt := 67) C dX5_hasUse_40 (by decide) (fun h9 => ?_) (fun h9 => ?_)
    · have hw := hw.1 h9
      refine mv_iconst (v := (0 : Int32)) C dX5_hasUse_67 (by decide) ?_
      exact mv_zret C dX5_hasUse_68 (Or.inl rfl) hw
    · have hw := hw.2 h9
      refine mv_iload_n C dX5_hasUse_43 rfl 2 rfl ?_
      refine mv_sipush (v := (3000 : Int32)) C dX5_hasUse_44 (by decide) ?_
      refine mv_icmp_ge (tgt := 67) C dX5_hasUse_47 (by decide) (fun h10 => ?_) (fun h10 => ?_)
      · have hw := hw.1 h10
        refine mv_iconst (v := (0 : Int32)) C dX5_hasUse_67 (by decide) ?_
        exact mv_zret C dX5_hasUse_68 (Or.inl rfl) hw
      · have hw := hw.2 h10
        refine mv_aload_n C dX5_hasUse_50 rfl 0 rfl ?_
        refine mv_get (v := .ref (a 6)) C iw_X5_hasUse_X5 2 rfl rfl 3 (by decide) lk_X5_hasUse_21 rfl rfl dX5_hasUse_51 ?_
        refine mv_iload_n C dX5_hasUse_54 rfl 2 rfl ?_
        refine mv_iald (f := u.2 4) C 6 0 rfl rfl hw.1 dX5_hasUse_55 ?_
        refine mv_topi (fun y11 ey11 => ?_)
        have hw := hw.2 y11 ey11
        refine mv_if_le (tgt := 61) C dX5_hasUse_56 (by decide) (fun h12 => ?_) (fun h12 => ?_)
        · have hw := hw.1 h12
          obtain ⟨y13, ey13⟩ : ∃ z : Int32, z = x2 + (1 : Int32) := ⟨_, rfl⟩
          have hw := hw y13 ey13
          refine mv_iinc (v := y13) (lv1 := [(2, .int y13), (0, .ref (a 2)), (1, .int x1)]) C dX5_hasUse_61 2 rfl (by rw [ey13]; rfl) (by decide) rfl ?_
          refine mv_goto (tgt := 23) C dX5_hasUse_64 (by decide) ?_
          refine mv_sub [1, 2, 0] rfl ?_
          exact hK23 x1 y13 u hw
        · have hw := hw.2 h12
          refine mv_iconst (v := (1 : Int32)) C dX5_hasUse_59 (by decide) ?_
          exact mv_zret C dX5_hasUse_60 (Or.inr rfl) hw
set_option maxHeartbeats 4000000 in
set_option maxRecDepth 100000 in
theorem X5_hasUse_met (hlev : 0 ≤ lev) {x1 : Int32} {u : mS} {post : Int32 → mS → Prop} (hw : wp_X5_hasUse x1 u post) : mKi l yX5_hasUse wsX5_hasUse lev (eA a) (dC, dI) vwCl [(cA, .int)] (wA cA a) [.ref (a 2), .int x1] u (fun r w => (r = 0 ∨ r = 1) ∧ post r w) := by
  refine mKz_of (cc := cX5_hasUse) (maxL := 3) (by decide) rfl rfl (Nat.le_of_ble_eq_true rfl) rfl ?_
  intro p e s m args below meth c A C hs
  unfold wp_X5_hasUse at hw
  refine mv_iload_n C dX5_hasUse_0 rfl 1 rfl ?_
  refine mv_if_lt (tgt := 19) C dX5_hasUse_1 (by decide) (fun h1 => ?_) (fun h1 => ?_)
  · have hw := hw.1 h1
    refine mv_iconst (v := (0 : Int32)) C dX5_hasUse_19 (by decide) ?_
    exact mv_zret C dX5_hasUse_20 (Or.inl rfl) hw
  · have hw := hw.2 h1
    refine mv_iload_n C dX5_hasUse_4 rfl 1 rfl ?_
    refine mv_aload_n C dX5_hasUse_5 rfl 0 rfl ?_
    refine mv_get (v := .int (u.1 1)) C iw_X5_hasUse_X5 2 rfl rfl 4 (by decide) lk_X5_hasUse_24 rfl rfl dX5_hasUse_6 ?_
    refine mv_topi (fun y2 ey2 => ?_)
    have hw := hw y2 ey2
    refine mv_icmp_ge (tgt := 19) C dX5_hasUse_9 (by decide) (fun h3 => ?_) (fun h3 => ?_)
    · have hw := hw.1 h3
      refine mv_iconst (v := (0 : Int32)) C dX5_hasUse_19 (by decide) ?_
      exact mv_zret C dX5_hasUse_20 (Or.inl rfl) hw
    · have hw := hw.2 h3
      refine mv_iload_n C dX5_hasUse_12 rfl 1 rfl ?_
      refine mv_sipush (v := (3000 : Int32)) C dX5_hasUse_13 (by decide) ?_
      refine mv_icmp_lt (tgt := 21) C dX5_hasUse_16 (by decide) (fun h4 => ?_) (fun h4 => ?_)
      · have hw := hw.1 h4
        refine mv_iload_n C dX5_hasUse_21 rfl 1 rfl ?_
        refine mv_istore_n (lv1 := [(2, .int x1), (0, .ref (a 2)), (1, .int x1)]) C dX5_hasUse_22 rfl (by decide) rfl ?_
        refine mv_sub [1, 2, 0] rfl ?_
        obtain ⟨n, hw⟩ := hw
        exact mL3_of (fun K hK b0 b1 b2 hw => wj_X5_hasUse_23_ok C hs hlev hK hw) n x1 x1 u hw
      · have hw := hw.2 h4
        refine mv_iconst (v := (0 : Int32)) C dX5_hasUse_19 (by decide) ?_
        exact mv_zret C dX5_hasUse_20 (Or.inl rfl) hw
end
