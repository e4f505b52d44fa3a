set_option maxRecDepth 20000 in
theorem ggX0_start_X7_forgetExpansion : GoodIn wsX0_start wsX7_forgetExpansion := goodIn_r _ [10, 11, 12, 22, 23, 24, 25, 26, 27] (by decide +kernel) (by decide +kernel)
set_option maxRecDepth 20000 in
theorem gX0_start_X7_forgetExpansion : GoodIn wsX0_start (wsV RX0 49 RX7 yX7_forgetExpansion wsX7_forgetExpansion) := goodIn_app (goodIn_of _ (by decide +kernel)) ggX0_start_X7_forgetExpansion
theorem dX0_start_0 : decode cX0_start 0 = .ok (.aload_n 0, 1) := by decide +kernel
theorem dX0_start_1 : decode cX0_start 1 = .ok (.iconst 0, 1) := by decide +kernel
theorem dX0_start_2 : decode cX0_start 2 = .ok (.putfield 36, 3) := by decide +kernel
theorem dX0_start_5 : decode cX0_start 5 = .ok (.aload_n 0, 1) := by decide +kernel
theorem dX0_start_6 : decode cX0_start 6 = .ok (.iconst 0, 1) := by decide +kernel
theorem dX0_start_7 : decode cX0_start 7 = .ok (.putfield 40, 3) := by decide +kernel
theorem dX0_start_10 : decode cX0_start 10 = .ok (.aload_n 0, 1) := by decide +kernel
theorem dX0_start_11 : decode cX0_start 11 = .ok (.iconst 0, 1) := by decide +kernel
theorem dX0_start_12 : decode cX0_start 12 = .ok (.putfield 43, 3) := by decide +kernel
theorem dX0_start_15 : decode cX0_start 15 = .ok (.aload_n 0, 1) := by decide +kernel
theorem dX0_start_16 : decode cX0_start 16 = .ok (.iload_n 1, 1) := by decide +kernel
theorem dX0_start_17 : decode cX0_start 17 = .ok (.putfield 46, 3) := by decide +kernel
theorem dX0_start_20 : decode cX0_start 20 = .ok (.aload_n 0, 1) := by decide +kernel
theorem dX0_start_21 : decode cX0_start 21 = .ok (.getfield 19, 3) := by decide +kernel
theorem dX0_start_24 : decode cX0_start 24 = .ok (.invokevirtual 49, 3) := by decide +kernel
theorem dX0_start_27 : decode cX0_start 27 = .ok (.return_, 1) := by decide +kernel
theorem dX2_clear_0 : decode cX2_clear 0 = .ok (.aload_n 0, 1) := by decide +kernel
theorem dX2_clear_1 : decode cX2_clear 1 = .ok (.iconst 0, 1) := by decide +kernel
theorem dX2_clear_2 : decode cX2_clear 2 = .ok (.putfield 15, 3) := by decide +kernel
theorem dX2_clear_5 : decode cX2_clear 5 = .ok (.aload_n 0, 1) := by decide +kernel
theorem dX2_clear_6 : decode cX2_clear 6 = .ok (.iconst 0, 1) := by decide +kernel
theorem dX2_clear_7 : decode cX2_clear 7 = .ok (.putfield 19, 3) := by decide +kernel
theorem dX2_clear_10 : decode cX2_clear 10 = .ok (.return_, 1) := by decide +kernel
theorem dX2_charAt_0 : decode cX2_charAt 0 = .ok (.iload_n 1, 1) := by decide +kernel
theorem dX2_charAt_1 : decode cX2_charAt 1 = .ok (.ifCond .lt 27, 3) := by decide +kernel
theorem dX2_charAt_4 : decode cX2_charAt 4 = .ok (.iload_n 1, 1) := by decide +kernel
theorem dX2_charAt_5 : decode cX2_charAt 5 = .ok (.aload_n 0, 1) := by decide +kernel
theorem dX2_charAt_6 : decode cX2_charAt 6 = .ok (.getfield 15, 3) := by decide +kernel
theorem dX2_charAt_9 : decode cX2_charAt 9 = .ok (.if_icmp .ge 19, 3) := by decide +kernel
theorem dX2_charAt_12 : decode cX2_charAt 12 = .ok (.iload_n 1, 1) := by decide +kernel
theorem dX2_charAt_13 : decode cX2_charAt 13 = .ok (.sipush 200, 3) := by decide +kernel
theorem dX2_charAt_16 : decode cX2_charAt 16 = .ok (.if_icmp .ge 12, 3) := by decide +kernel
theorem dX2_charAt_19 : decode cX2_charAt 19 = .ok (.aload_n 0, 1) := by decide +kernel
theorem dX2_charAt_20 : decode cX2_charAt 20 = .ok (.getfield 9, 3) := by decide +kernel
theorem dX2_charAt_23 : decode cX2_charAt 23 = .ok (.iload_n 1, 1) := by decide +kernel
theorem dX2_charAt_24 : decode cX2_charAt 24 = .ok (.iaload, 1) := by decide +kernel
theorem dX2_charAt_25 : decode cX2_charAt 25 = .ok (.goto 4, 3) := by decide +kernel
theorem dX2_charAt_28 : decode cX2_charAt 28 = .ok (.iconst (-1), 1) := by decide +kernel
theorem dX2_charAt_29 : decode cX2_charAt 29 = .ok (.ireturn, 1) := by decide +kernel
theorem dX7_forgetExpansion_0 : decode cX7_forgetExpansion 0 = .ok (.aload_n 0, 1) := by decide +kernel
theorem dX7_forgetExpansion_1 : decode cX7_forgetExpansion 1 = .ok (.getstatic 24, 3) := by decide +kernel
theorem dX7_forgetExpansion_4 : decode cX7_forgetExpansion 4 = .ok (.arraylength, 1) := by decide +kernel
theorem dX7_forgetExpansion_5 : decode cX7_forgetExpansion 5 = .ok (.aload_n 0, 1) := by decide +kernel
theorem dX7_forgetExpansion_6 : decode cX7_forgetExpansion 6 = .ok (.getfield 37, 3) := by decide +kernel
theorem dX7_forgetExpansion_9 : decode cX7_forgetExpansion 9 = .ok (.iadd, 1) := by decide +kernel
theorem dX7_forgetExpansion_10 : decode cX7_forgetExpansion 10 = .ok (.putfield 33, 3) := by decide +kernel
theorem dX7_forgetExpansion_13 : decode cX7_forgetExpansion 13 = .ok (.return_, 1) := by decide +kernel
set_option maxRecDepth 20000 in
theorem ggX7_bindOwn_X7_bind : GoodIn wsX7_bindOwn wsX7_bind := goodIn_r _ [11, 6, 12, 13, 14, 15, 20, 21, 22, 23, 24, 25] (by decide +kernel) (by decide +kernel)
set_option maxRecDepth 20000 in
theorem gX7_bindOwn_X7_bind : GoodIn wsX7_bindOwn (wsV RX7 43 RX7 yX7_bind wsX7_bind) := goodIn_app (goodIn_of _ (by decide +kernel)) ggX7_bindOwn_X7_bind
set_option maxRecDepth 20000 in
theorem ggX7_bindOwn_X7_forgetExpansion : GoodIn wsX7_bindOwn wsX7_forgetExpansion := goodIn_r _ [19, 1, 6, 20, 21, 22, 23, 24, 25] (by decide +kernel) (by decide +kernel)
set_option maxRecDepth 20000 in
theorem gX7_bindOwn_X7_forgetExpansion : GoodIn wsX7_bindOwn (wsV RX7 47 RX7 yX7_forgetExpansion wsX7_forgetExpansion) := goodIn_app (goodIn_of _ (by decide +kernel)) ggX7_bindOwn_X7_forgetExpansion
theorem dX7_bindOwn_0 : decode cX7_bindOwn 0 = .ok (.iload_n 1, 1) := by decide +kernel
theorem dX7_bindOwn_1 : decode cX7_bindOwn 1 = .ok (.ifCond .lt 16, 3) := by decide +kernel
theorem dX7_bindOwn_4 : decode cX7_bindOwn 4 = .ok (.iload_n 1, 1) := by decide +kernel
theorem dX7_bindOwn_5 : decode cX7_bindOwn 5 = .ok (.aload_n 0, 1) := by decide +kernel
theorem dX7_bindOwn_6 : decode cX7_bindOwn 6 = .ok (.getfield 37, 3) := by decide +kernel
theorem dX7_bindOwn_9 : decode cX7_bindOwn 9 = .ok (.if_icmp .gt 8, 3) := by decide +kernel
theorem dX7_bindOwn_12 : decode cX7_bindOwn 12 = .ok (.iload_n 1, 1) := by decide +kernel
theorem dX7_bindOwn_13 : decode cX7_bindOwn 13 = .ok (.iconst 4, 1) := by decide +kernel
theorem dX7_bindOwn_14 : decode cX7_bindOwn 14 = .ok (.if_icmp .lt 4, 3) := by decide +kernel
theorem dX7_bindOwn_17 : decode cX7_bindOwn 17 = .ok (.return_, 1) := by decide +kernel
theorem dX7_bindOwn_18 : decode cX7_bindOwn 18 = .ok (.aload_n 0, 1) := by decide +kernel
theorem dX7_bindOwn_19 : decode cX7_bindOwn 19 = .ok (.aload_n 0, 1) := by decide +kernel
theorem dX7_bindOwn_20 : decode cX7_bindOwn 20 = .ok (.getfield 37, 3) := by decide +kernel
theorem dX7_bindOwn_23 : decode cX7_bindOwn 23 = .ok (.iload_n 1, 1) := by decide +kernel
theorem dX7_bindOwn_24 : decode cX7_bindOwn 24 = .ok (.iconst 1, 1) := by decide +kernel
theorem dX7_bindOwn_25 : decode cX7_bindOwn 25 = .ok (.iadd, 1) := by decide +kernel
theorem dX7_bindOwn_26 : decode cX7_bindOwn 26 = .ok (.invokestatic 40, 3) := by decide +kernel
theorem dX7_bindOwn_29 : decode cX7_bindOwn 29 = .ok (.putfield 37, 3) := by decide +kernel
theorem dX7_bindOwn_32 : decode cX7_bindOwn 32 = .ok (.aload_n 0, 1) := by decide +kernel
theorem dX7_bindOwn_33 : decode cX7_bindOwn 33 = .ok (.getstatic 24, 3) := by decide +kernel
theorem dX7_bindOwn_36 : decode cX7_bindOwn 36 = .ok (.arraylength, 1) := by decide +kernel
theorem dX7_bindOwn_37 : decode cX7_bindOwn 37 = .ok (.iload_n 1, 1) := by decide +kernel
theorem dX7_bindOwn_38 : decode cX7_bindOwn 38 = .ok (.iadd, 1) := by decide +kernel
theorem dX7_bindOwn_39 : decode cX7_bindOwn 39 = .ok (.putfield 33, 3) := by decide +kernel
theorem dX7_bindOwn_42 : decode cX7_bindOwn 42 = .ok (.aload_n 0, 1) := by decide +kernel
theorem dX7_bindOwn_43 : decode cX7_bindOwn 43 = .ok (.iload_n 2, 1) := by decide +kernel
theorem dX7_bindOwn_44 : decode cX7_bindOwn 44 = .ok (.iconst 0, 1) := by decide +kernel
theorem dX7_bindOwn_45 : decode cX7_bindOwn 45 = .ok (.bipush 6, 2) := by decide +kernel
theorem dX7_bindOwn_47 : decode cX7_bindOwn 47 = .ok (.iload_n 3, 1) := by decide +kernel
theorem dX7_bindOwn_48 : decode cX7_bindOwn 48 = .ok (.invokevirtual 43, 3) := by decide +kernel
theorem dX7_bindOwn_51 : decode cX7_bindOwn 51 = .ok (.pop, 1) := by decide +kernel
theorem dX7_bindOwn_52 : decode cX7_bindOwn 52 = .ok (.aload_n 0, 1) := by decide +kernel
theorem dX7_bindOwn_53 : decode cX7_bindOwn 53 = .ok (.invokevirtual 47, 3) := by decide +kernel
theorem dX7_bindOwn_56 : decode cX7_bindOwn 56 = .ok (.return_, 1) := by decide +kernel
set_option maxRecDepth 100000 in
theorem gpX8_rules_X8_takeTyped_0 : GoodIn wsX8_rules wsX8_takeTyped_r1 := goodIn_r _ [9, 10, 11, 12, 13, 14, 15, 16, 17, 18, 19, 20, 21, 22, 23, 24, 25, 26, 27, 28, 29, 30, 31, 32] (by decide +kernel) (by decide +kernel)
set_option maxRecDepth 100000 in
theorem gpX8_rules_X8_takeTyped_1 : GoodIn wsX8_rules wsX8_takeTyped_r2 := goodIn_r _ [33, 34, 35, 36, 37, 38, 39, 40, 41, 42, 43, 44, 45, 46, 47, 48, 49, 50, 51, 52, 53, 54, 55, 56] (by decide +kernel) (by decide +kernel)
set_option maxRecDepth 100000 in
theorem gpX8_rules_X8_takeTyped_2 : GoodIn wsX8_rules wsX8_takeTyped_r3 := goodIn_r _ [57, 58, 59, 60, 61, 62, 63, 64, 65, 66, 67, 68, 69, 70, 71, 72, 73, 74, 75, 76, 77] (by decide +kernel) (by decide +kernel)
set_option maxRecDepth 100000 in
theorem gpX8_rules_X8_takeTyped_3 : GoodIn wsX8_rules wsX80 := goodIn_r _ [182, 183, 184, 185, 186, 187, 188, 189] (by decide +kernel) (by decide +kernel)
set_option maxRecDepth 100000 in
theorem gpX8_rules_X8_takeTyped_4 : GoodIn wsX8_rules wsX30 := goodIn_r _ [196, 197] (by decide +kernel) (by decide +kernel)
set_option maxRecDepth 100000 in
theorem gpX8_rules_X8_takeTyped_5 : GoodIn wsX8_rules wsX50 := goodIn_r _ [198, 199, 200, 201, 202, 203] (by decide +kernel) (by decide +kernel)
set_option maxRecDepth 100000 in
theorem gpX8_rules_X8_takeTyped_c : GoodIn wsX8_rules [Cond.code yX8_takeTyped cX8_takeTyped 2 (some .int)] := goodIn_r _ [8] (by decide +kernel) (by decide +kernel)
theorem ggX8_rules_X8_takeTyped : GoodIn wsX8_rules wsX8_takeTyped := goodIn_cons2 gpX8_rules_X8_takeTyped_c (goodIn_app (goodIn_app (goodIn_app (goodIn_app gpX8_rules_X8_takeTyped_0 (goodIn_app gpX8_rules_X8_takeTyped_1 gpX8_rules_X8_takeTyped_2)) gpX8_rules_X8_takeTyped_3) gpX8_rules_X8_takeTyped_4) gpX8_rules_X8_takeTyped_5)
set_option maxRecDepth 20000 in
theorem gX8_rules_X8_takeTyped : GoodIn wsX8_rules (wsV RX8 67 RX8 yX8_takeTyped wsX8_takeTyped) := goodIn_app (goodIn_of _ (by decide +kernel)) ggX8_rules_X8_takeTyped
set_option maxRecDepth 100000 in
theorem gpX8_rules_X6_isNameWithRules_0 : GoodIn wsX8_rules wsX6_isNameWithRules_r1 := goodIn_r _ [83, 84, 85, 86, 27, 87, 88, 75, 76, 77, 29, 50, 89, 90, 91, 92, 93, 94, 95, 96, 97, 98, 7, 99] (by decide +kernel) (by decide +kernel)
set_option maxRecDepth 100000 in
theorem gpX8_rules_X6_isNameWithRules_1 : GoodIn wsX8_rules wsX6_isNameWithRules_r2 := goodIn_r _ [100, 101, 102, 81, 103, 104, 105, 106, 107, 52, 108, 109, 110, 111, 112, 113, 114, 115, 116, 117, 118, 119, 120, 121] (by decide +kernel) (by decide +kernel)
set_option maxRecDepth 100000 in
theorem gpX8_rules_X6_isNameWithRules_2 : GoodIn wsX8_rules wsX6_isNameWithRules_r3 := goodIn_r _ [122, 123, 124, 125, 51, 126, 127, 128, 129, 130, 131, 132, 133, 53, 134, 135, 136, 137, 138, 139, 140, 141, 142, 143] (by decide +kernel) (by decide +kernel)
set_option maxRecDepth 100000 in
theorem gpX8_rules_X6_isNameWithRules_3 : GoodIn wsX8_rules wsX6_isNameWithRules_r4 := goodIn_r _ [144, 145] (by decide +kernel) (by decide +kernel)
set_option maxRecDepth 100000 in
theorem gpX8_rules_X6_isNameWithRules_4 : GoodIn wsX8_rules wsX60 := goodIn_r _ [204] (by decide +kernel) (by decide +kernel)
set_option maxRecDepth 100000 in
theorem gpX8_rules_X6_isNameWithRules_5 : GoodIn wsX8_rules wsX50 := goodIn_r _ [198, 199, 200, 201, 202, 203] (by decide +kernel) (by decide +kernel)
set_option maxRecDepth 100000 in
theorem gpX8_rules_X6_isNameWithRules_c : GoodIn wsX8_rules [Cond.code yX6_isNameWithRules cX6_isNameWithRules 5 (some .boolean)] := goodIn_r _ [82] (by decide +kernel) (by decide +kernel)
theorem ggX8_rules_X6_isNameWithRules : GoodIn wsX8_rules wsX6_isNameWithRules := goodIn_cons2 gpX8_rules_X6_isNameWithRules_c (goodIn_app (goodIn_app (goodIn_app gpX8_rules_X6_isNameWithRules_0 (goodIn_app gpX8_rules_X6_isNameWithRules_1 (goodIn_app gpX8_rules_X6_isNameWithRules_2 gpX8_rules_X6_isNameWithRules_3))) gpX8_rules_X6_isNameWithRules_4) gpX8_rules_X6_isNameWithRules_5)
set_option maxRecDepth 20000 in
theorem gX8_rules_X6_isNameWithRules : GoodIn wsX8_rules (wsV RX8 71 RX6 yX6_isNameWithRules wsX6_isNameWithRules) := goodIn_app (goodIn_of _ (by decide +kernel)) ggX8_rules_X6_isNameWithRules
set_option maxRecDepth 20000 in
theorem ggX8_rules_X5_wordAt : GoodIn wsX8_rules wsX5_wordAt := goodIn_r _ [77, 29, 50, 198, 199, 200, 201, 202, 203] (by decide +kernel) (by decide +kernel)
set_option maxRecDepth 20000 in
theorem gX8_rules_X5_wordAt : GoodIn wsX8_rules (wsV RX8 75 RX5 yX5_wordAt wsX5_wordAt) := goodIn_app (goodIn_of _ (by decide +kernel)) ggX8_rules_X5_wordAt
set_option maxRecDepth 20000 in
theorem ggX8_rules_X7_ownSlot : GoodIn wsX8_rules wsX7_ownSlot := goodIn_r _ [151, 152, 153, 190, 191, 192, 193, 194, 195] (by decide +kernel) (by decide +kernel)
set_option maxRecDepth 20000 in
theorem gX8_rules_X7_ownSlot : GoodIn wsX8_rules (wsV RX8 79 RX7 yX7_ownSlot wsX7_ownSlot) := goodIn_app (goodIn_of _ (by decide +kernel)) ggX8_rules_X7_ownSlot
set_option maxRecDepth 20000 in
theorem ggX8_rules_X5_keep : GoodIn wsX8_rules wsX5_keep := goodIn_r _ [157, 50, 158, 159, 160, 161, 51, 52, 53, 162, 105, 106, 27, 107, 29, 198, 199, 200, 201, 202, 203] (by decide +kernel) (by decide +kernel)
set_option maxRecDepth 20000 in
theorem gX8_rules_X5_keep : GoodIn wsX8_rules (wsV RX8 82 RX5 yX5_keep wsX5_keep) := goodIn_app (goodIn_of _ (by decide +kernel)) ggX8_rules_X5_keep
set_option maxRecDepth 20000 in
theorem ggX8_rules_X7_bindOwn : GoodIn wsX8_rules wsX7_bindOwn := goodIn_r _ [166, 152, 167, 168, 21, 169, 170, 171, 172, 173, 150, 174, 153, 175, 176, 177, 178, 179, 180, 181, 190, 191, 192, 193, 194, 195] (by decide +kernel) (by decide +kernel)
set_option maxRecDepth 20000 in
theorem gX8_rules_X7_bindOwn : GoodIn wsX8_rules (wsV RX8 86 RX7 yX7_bindOwn wsX7_bindOwn) := goodIn_app (goodIn_of _ (by decide +kernel)) ggX8_rules_X7_bindOwn
theorem dX8_rules_0 : decode cX8_rules 0 = .ok (.aload_n 0, 1) := by decide +kernel
theorem dX8_rules_1 : decode cX8_rules 1 = .ok (.invokevirtual 67, 3) := by decide +kernel
theorem dX8_rules_4 : decode cX8_rules 4 = .ok (.istore_n 1, 1) := by decide +kernel
theorem dX8_rules_5 : decode cX8_rules 5 = .ok (.iload_n 1, 1) := by decide +kernel
theorem dX8_rules_6 : decode cX8_rules 6 = .ok (.ifCond .lt 7, 3) := by decide +kernel
theorem dX8_rules_9 : decode cX8_rules 9 = .ok (.iconst (-1), 1) := by decide +kernel
theorem dX8_rules_10 : decode cX8_rules 10 = .ok (.iload_n 1, 1) := by decide +kernel
theorem dX8_rules_11 : decode cX8_rules 11 = .ok (.isub, 1) := by decide +kernel
theorem dX8_rules_12 : decode cX8_rules 12 = .ok (.ireturn, 1) := by decide +kernel
theorem dX8_rules_13 : decode cX8_rules 13 = .ok (.aload_n 0, 1) := by decide +kernel
theorem dX8_rules_14 : decode cX8_rules 14 = .ok (.getfield 32, 3) := by decide +kernel
theorem dX8_rules_17 : decode cX8_rules 17 = .ok (.sipush 480, 3) := by decide +kernel
theorem dX8_rules_20 : decode cX8_rules 20 = .ok (.invokevirtual 71, 3) := by decide +kernel
theorem dX8_rules_23 : decode cX8_rules 23 = .ok (.ifCond .ne 7, 3) := by decide +kernel
theorem dX8_rules_26 : decode cX8_rules 26 = .ok (.sipush (-1000), 3) := by decide +kernel
theorem dX8_rules_29 : decode cX8_rules 29 = .ok (.ireturn, 1) := by decide +kernel
theorem dX8_rules_30 : decode cX8_rules 30 = .ok (.aload_n 0, 1) := by decide +kernel
theorem dX8_rules_31 : decode cX8_rules 31 = .ok (.getfield 16, 3) := by decide +kernel
theorem dX8_rules_34 : decode cX8_rules 34 = .ok (.sipush 481, 3) := by decide +kernel
theorem dX8_rules_37 : decode cX8_rules 37 = .ok (.invokevirtual 75, 3) := by decide +kernel
theorem dX8_rules_40 : decode cX8_rules 40 = .ok (.istore_n 2, 1) := by decide +kernel
theorem dX8_rules_41 : decode cX8_rules 41 = .ok (.aload_n 0, 1) := by decide +kernel
theorem dX8_rules_42 : decode cX8_rules 42 = .ok (.getfield 39, 3) := by decide +kernel
theorem dX8_rules_45 : decode cX8_rules 45 = .ok (.iload_n 2, 1) := by decide +kernel
theorem dX8_rules_46 : decode cX8_rules 46 = .ok (.invokevirtual 79, 3) := by decide +kernel
theorem dX8_rules_49 : decode cX8_rules 49 = .ok (.istore_n 3, 1) := by decide +kernel
theorem dX8_rules_50 : decode cX8_rules 50 = .ok (.iload_n 3, 1) := by decide +kernel
theorem dX8_rules_51 : decode cX8_rules 51 = .ok (.ifCond .ge 7, 3) := by decide +kernel
theorem dX8_rules_54 : decode cX8_rules 54 = .ok (.sipush (-1001), 3) := by decide +kernel
theorem dX8_rules_57 : decode cX8_rules 57 = .ok (.ireturn, 1) := by decide +kernel
theorem dX8_rules_58 : decode cX8_rules 58 = .ok (.aload_n 0, 1) := by decide +kernel
theorem dX8_rules_59 : decode cX8_rules 59 = .ok (.getfield 39, 3) := by decide +kernel
theorem dX8_rules_62 : decode cX8_rules 62 = .ok (.iload_n 3, 1) := by decide +kernel
theorem dX8_rules_63 : decode cX8_rules 63 = .ok (.iload_n 2, 1) := by decide +kernel
theorem dX8_rules_64 : decode cX8_rules 64 = .ok (.aload_n 0, 1) := by decide +kernel
theorem dX8_rules_65 : decode cX8_rules 65 = .ok (.getfield 16, 3) := by decide +kernel
theorem dX8_rules_68 : decode cX8_rules 68 = .ok (.sipush 480, 3) := by decide +kernel
theorem dX8_rules_71 : decode cX8_rules 71 = .ok (.iload_n 3, 1) := by decide +kernel
theorem dX8_rules_72 : decode cX8_rules 72 = .ok (.invokevirtual 82, 3) := by decide +kernel
theorem dX8_rules_75 : decode cX8_rules 75 = .ok (.invokevirtual 86, 3) := by decide +kernel
theorem dX8_rules_78 : decode cX8_rules 78 = .ok (.aload_n 0, 1) := by decide +kernel
theorem dX8_rules_79 : decode cX8_rules 79 = .ok (.getfield 39, 3) := by decide +kernel
theorem dX8_rules_82 : decode cX8_rules 82 = .ok (.getfield 90, 3) := by decide +kernel
theorem dX8_rules_85 : decode cX8_rules 85 = .ok (.ireturn, 1) := by decide +kernel
set_option maxRecDepth 100000 in
theorem gpX8_expand_X8_takeTyped_0 : GoodIn wsX8_expand wsX8_takeTyped_r1 := goodIn_r _ [8, 9, 10, 11, 12, 13, 14, 15, 16, 17, 18, 19, 20, 21, 22, 23, 24, 25, 26, 27, 28, 29, 30, 31] (by decide +kernel) (by decide +kernel)
set_option maxRecDepth 100000 in
theorem gpX8_expand_X8_takeTyped_1 : GoodIn wsX8_expand wsX8_takeTyped_r2 := goodIn_r _ [32, 33, 34, 35, 36, 37, 38, 39, 40, 41, 42, 43, 44, 45, 46, 47, 48, 49, 50, 51, 52, 53, 54, 55] (by decide +kernel) (by decide +kernel)
set_option maxRecDepth 100000 in
theorem gpX8_expand_X8_takeTyped_2 : GoodIn wsX8_expand wsX8_takeTyped_r3 := goodIn_r _ [56, 57, 58, 59, 60, 61, 62, 63, 64, 65, 66, 67, 68, 69, 70, 71, 72, 73, 74, 75, 76] (by decide +kernel) (by decide +kernel)
set_option maxRecDepth 100000 in
theorem gpX8_expand_X8_takeTyped_3 : GoodIn wsX8_expand wsX80 := goodIn_r _ [399, 400, 401, 402, 403, 404, 405, 406] (by decide +kernel) (by decide +kernel)
set_option maxRecDepth 100000 in
theorem gpX8_expand_X8_takeTyped_4 : GoodIn wsX8_expand wsX30 := goodIn_r _ [410, 411] (by decide +kernel) (by decide +kernel)
set_option maxRecDepth 100000 in
theorem gpX8_expand_X8_takeTyped_5 : GoodIn wsX8_expand wsX50 := goodIn_r _ [412, 413, 414, 415, 416, 417] (by decide +kernel) (by decide +kernel)
set_option maxRecDepth 100000 in
theorem gpX8_expand_X8_takeTyped_c : GoodIn wsX8_expand [Cond.code yX8_takeTyped cX8_takeTyped 2 (some .int)] := goodIn_r _ [7] (by decide +kernel) (by decide +kernel)
theorem ggX8_expand_X8_takeTyped : GoodIn wsX8_expand wsX8_takeTyped := goodIn_cons2 gpX8_expand_X8_takeTyped_c (goodIn_app (goodIn_app (goodIn_app (goodIn_app gpX8_expand_X8_takeTyped_0 (goodIn_app gpX8_expand_X8_takeTyped_1 gpX8_expand_X8_takeTyped_2)) gpX8_expand_X8_takeTyped_3) gpX8_expand_X8_takeTyped_4) gpX8_expand_X8_takeTyped_5)
set_option maxRecDepth 20000 in
theorem gX8_expand_X8_takeTyped : GoodIn wsX8_expand (wsV RX8 67 RX8 yX8_takeTyped wsX8_takeTyped) := goodIn_app (goodIn_of _ (by decide +kernel)) ggX8_expand_X8_takeTyped
set_option maxRecDepth 20000 in
theorem ggX8_expand_X2_clear : GoodIn wsX8_expand wsX2_clear := goodIn_r _ [81, 82, 83, 407, 408, 409] (by decide +kernel) (by decide +kernel)
set_option maxRecDepth 20000 in
theorem gX8_expand_X2_clear : GoodIn wsX8_expand (wsV RX8 93 RX2 yX2_clear wsX2_clear) := goodIn_app (goodIn_of _ (by decide +kernel)) ggX8_expand_X2_clear
set_option maxRecDepth 20000 in
theorem ggX8_expand_X0_start : GoodIn wsX8_expand wsX0_start := goodIn_r _ [88, 89, 90, 91, 92, 93, 94, 95, 96, 97, 98, 99, 100, 418, 419, 420, 421, 422, 423, 424, 425, 426, 427, 428, 429, 430, 431, 432] (by decide +kernel) (by decide +kernel)
set_option maxRecDepth 20000 in
theorem gX8_expand_X0_start : GoodIn wsX8_expand (wsV RX8 96 RX0 yX0_start wsX0_start) := goodIn_app (goodIn_of _ (by decide +kernel)) ggX8_expand_X0_start
set_option maxRecDepth 100000 in
theorem gpX8_expand_X0_expandTree_0 : GoodIn wsX8_expand wsX0_expandTree_r1 := goodIn_r _ [105, 106, 107, 74, 75, 26, 76, 28, 49, 108, 109, 110, 87, 111, 6, 112, 113, 114, 115, 116, 93, 117, 118, 119] (by decide +kernel) (by decide +kernel)
set_option maxRecDepth 100000 in
theorem gpX8_expand_X0_expandTree_1 : GoodIn wsX8_expand wsX0_expandTree_r2 := goodIn_r _ [120, 121, 122, 123, 124, 50, 125, 126, 127, 97, 128, 100, 129, 130, 131, 132, 133, 134, 135, 136, 137, 138, 139, 140] (by decide +kernel) (by decide +kernel)
set_option maxRecDepth 100000 in
theorem gpX8_expand_X0_expandTree_2 : GoodIn wsX8_expand wsX0_expandTree_r3 := goodIn_r _ [141, 142, 143, 144, 80, 145, 83, 146, 147, 148, 149, 150, 151, 152, 153, 154, 155, 156, 157, 158, 82, 159, 160, 161] (by decide +kernel) (by decide +kernel)
set_option maxRecDepth 100000 in
theorem gpX8_expand_X0_expandTree_3 : GoodIn wsX8_expand wsX0_expandTree_r4 := goodIn_r _ [162, 163, 164, 165, 166, 167, 168, 169, 170, 171, 172, 173, 174, 175, 176, 92, 177, 178, 179, 180, 181, 89, 182, 183] (by decide +kernel) (by decide +kernel)
set_option maxRecDepth 100000 in
theorem gpX8_expand_X0_expandTree_4 : GoodIn wsX8_expand wsX0_expandTree_r5 := goodIn_r _ [184, 185, 186, 187, 188, 189, 51, 190, 191, 192, 193, 194, 195, 196, 197, 198, 199, 200, 201, 202, 203, 204, 205, 206] (by decide +kernel) (by decide +kernel)
set_option maxRecDepth 100000 in
theorem gpX8_expand_X0_expandTree_5 : GoodIn wsX8_expand wsX0_expandTree_r6 := goodIn_r _ [207, 208, 209, 210, 211, 212, 213, 214, 215, 216, 217, 218, 219, 220, 221, 222, 223, 224, 225, 226, 227, 228, 229, 230] (by decide +kernel) (by decide +kernel)
set_option maxRecDepth 100000 in
theorem gpX8_expand_X0_expandTree_6 : GoodIn wsX8_expand wsX0_expandTree_r7 := goodIn_r _ [231, 232, 233, 234, 235, 236, 237, 238, 239, 240, 241, 242, 243, 244, 245, 246, 247, 248, 249, 250, 251, 252, 253, 254] (by decide +kernel) (by decide +kernel)
set_option maxRecDepth 100000 in
theorem gpX8_expand_X0_expandTree_7 : GoodIn wsX8_expand wsX0_expandTree_r8 := goodIn_r _ [255, 256, 257, 258, 259, 260, 261, 262, 263, 29, 264, 265, 266, 267, 268, 269, 20, 270, 271, 272, 273, 274, 52, 275] (by decide +kernel) (by decide +kernel)
set_option maxRecDepth 100000 in
theorem gpX8_expand_X0_expandTree_8 : GoodIn wsX8_expand wsX0_expandTree_r9 := goodIn_r _ [276, 277, 278, 279, 280, 281, 282, 283, 284, 285, 286, 287, 288, 289, 290, 291, 46, 47, 48, 53, 54, 55, 56, 292] (by decide +kernel) (by decide +kernel)
set_option maxRecDepth 100000 in
theorem gpX8_expand_X0_expandTree_9 : GoodIn wsX8_expand wsX0_expandTree_r10 := goodIn_r _ [102, 103, 293, 294, 295, 296, 297, 91, 298, 299, 300, 301, 302, 303, 304, 305, 306, 307, 308, 309, 310, 311, 312, 313] (by decide +kernel) (by decide +kernel)
set_option maxRecDepth 100000 in
theorem gpX8_expand_X0_expandTree_10 : GoodIn wsX8_expand wsX0_expandTree_r11 := goodIn_r _ [314, 90, 315, 316, 317, 318, 319, 320, 321, 322, 323, 324, 325, 326, 327, 328, 329, 330, 331, 332, 333, 334, 335, 336] (by decide +kernel) (by decide +kernel)
set_option maxRecDepth 100000 in
theorem gpX8_expand_X0_expandTree_11 : GoodIn wsX8_expand wsX0_expandTree_r12 := goodIn_r _ [337, 338, 339, 340, 341, 342, 343, 344, 345, 346, 347, 348, 349, 350, 351, 352, 353, 354, 355, 356, 357, 358, 359, 360] (by decide +kernel) (by decide +kernel)
set_option maxRecDepth 100000 in
theorem gpX8_expand_X0_expandTree_12 : GoodIn wsX8_expand wsX0_expandTree_r13 := goodIn_r _ [361, 362, 363, 364, 365, 366, 367, 368, 369, 370, 371, 372, 373, 374, 375, 376, 377, 378, 379, 380, 381, 382, 383, 384] (by decide +kernel) (by decide +kernel)
set_option maxRecDepth 100000 in
theorem gpX8_expand_X0_expandTree_13 : GoodIn wsX8_expand wsX0_expandTree_r14 := goodIn_r _ [385, 386, 387, 388, 389, 390, 391, 392, 393, 394, 395, 396, 397, 398] (by decide +kernel) (by decide +kernel)
set_option maxRecDepth 100000 in
theorem gpX8_expand_X0_expandTree_14 : GoodIn wsX8_expand wsX00 := goodIn_r _ [418, 419, 420, 421, 422, 423, 424, 425, 426] (by decide +kernel) (by decide +kernel)
set_option maxRecDepth 100000 in
theorem gpX8_expand_X0_expandTree_15 : GoodIn wsX8_expand wsX20 := goodIn_r _ [407, 408, 409] (by decide +kernel) (by decide +kernel)
set_option maxRecDepth 100000 in
theorem gpX8_expand_X0_expandTree_16 : GoodIn wsX8_expand wsX50 := goodIn_r _ [412, 413, 414, 415, 416, 417] (by decide +kernel) (by decide +kernel)
set_option maxRecDepth 100000 in
theorem gpX8_expand_X0_expandTree_17 : GoodIn wsX8_expand wsX10 := goodIn_r _ [433, 434, 435, 436, 437, 438] (by decide +kernel) (by decide +kernel)
set_option maxRecDepth 100000 in
theorem gpX8_expand_X0_expandTree_18 : GoodIn wsX8_expand wsX40 := goodIn_r _ [439, 440, 441, 442] (by decide +kernel) (by decide +kernel)
set_option maxRecDepth 100000 in
theorem gpX8_expand_X0_expandTree_19 : GoodIn wsX8_expand wsX70 := goodIn_r _ [427, 428, 429, 430, 431, 432] (by decide +kernel) (by decide +kernel)
set_option maxRecDepth 100000 in
theorem gpX8_expand_X0_expandTree_20 : GoodIn wsX8_expand wsX60 := goodIn_r _ [443] (by decide +kernel) (by decide +kernel)
set_option maxRecDepth 100000 in
theorem gpX8_expand_X0_expandTree_c : GoodIn wsX8_expand [Cond.code yX0_expandTree cX0_expandTree 4 none] := goodIn_r _ [104] (by decide +kernel) (by decide +kernel)
theorem ggX8_expand_X0_expandTree : GoodIn wsX8_expand wsX0_expandTree := goodIn_cons2 gpX8_expand_X0_expandTree_c (goodIn_app (goodIn_app (goodIn_app (goodIn_app (goodIn_app (goodIn_app (goodIn_app (goodIn_app gpX8_expand_X0_expandTree_0 (goodIn_app gpX8_expand_X0_expandTree_1 (goodIn_app gpX8_expand_X0_expandTree_2 (goodIn_app gpX8_expand_X0_expandTree_3 (goodIn_app gpX8_expand_X0_expandTree_4 (goodIn_app gpX8_expand_X0_expandTree_5 (goodIn_app gpX8_expand_X0_expandTree_6 (goodIn_app gpX8_expand_X0_expandTree_7 (goodIn_app gpX8_expand_X0_expandTree_8 (goodIn_app gpX8_expand_X0_expandTree_9 (goodIn_app gpX8_expand_X0_expandTree_10 (goodIn_app gpX8_expand_X0_expandTree_11 (goodIn_app gpX8_expand_X0_expandTree_12 gpX8_expand_X0_expandTree_13))))))))))))) gpX8_expand_X0_expandTree_14) gpX8_expand_X0_expandTree_15) gpX8_expand_X0_expandTree_16) gpX8_expand_X0_expandTree_17) gpX8_expand_X0_expandTree_18) gpX8_expand_X0_expandTree_19) gpX8_expand_X0_expandTree_20)
set_option maxRecDepth 20000 in
theorem gX8_expand_X0_expandTree : GoodIn wsX8_expand (wsV RX8 99 RX0 yX0_expandTree wsX0_expandTree) := goodIn_app (goodIn_of _ (by decide +kernel)) ggX8_expand_X0_expandTree
theorem dX8_expand_0 : decode cX8_expand 0 = .ok (.iload_n 1, 1) := by decide +kernel
theorem dX8_expand_1 : decode cX8_expand 1 = .ok (.ifCond .lt 9, 3) := by decide +kernel
theorem dX8_expand_4 : decode cX8_expand 4 = .ok (.iload_n 1, 1) := by decide +kernel
theorem dX8_expand_5 : decode cX8_expand 5 = .ok (.bipush 8, 2) := by decide +kernel
theorem dX8_expand_7 : decode cX8_expand 7 = .ok (.if_icmp .le 7, 3) := by decide +kernel
theorem dX8_expand_10 : decode cX8_expand 10 = .ok (.sipush (-7000), 3) := by decide +kernel
theorem dX8_expand_13 : decode cX8_expand 13 = .ok (.ireturn, 1) := by decide +kernel
theorem dX8_expand_14 : decode cX8_expand 14 = .ok (.aload_n 0, 1) := by decide +kernel
theorem dX8_expand_15 : decode cX8_expand 15 = .ok (.invokevirtual 67, 3) := by decide +kernel
theorem dX8_expand_18 : decode cX8_expand 18 = .ok (.istore_n 2, 1) := by decide +kernel
theorem dX8_expand_19 : decode cX8_expand 19 = .ok (.aload_n 0, 1) := by decide +kernel
theorem dX8_expand_20 : decode cX8_expand 20 = .ok (.getfield 46, 3) := by decide +kernel
theorem dX8_expand_23 : decode cX8_expand 23 = .ok (.invokevirtual 93, 3) := by decide +kernel
theorem dX8_expand_26 : decode cX8_expand 26 = .ok (.aload_n 0, 1) := by decide +kernel
theorem dX8_expand_27 : decode cX8_expand 27 = .ok (.getfield 55, 3) := by decide +kernel
theorem dX8_expand_30 : decode cX8_expand 30 = .ok (.iload_n 2, 1) := by decide +kernel
theorem dX8_expand_31 : decode cX8_expand 31 = .ok (.ifCond .lt 7, 3) := by decide +kernel
theorem dX8_expand_34 : decode cX8_expand 34 = .ok (.iconst 0, 1) := by decide +kernel
theorem dX8_expand_35 : decode cX8_expand 35 = .ok (.goto 4, 3) := by decide +kernel
theorem dX8_expand_38 : decode cX8_expand 38 = .ok (.iload_n 1, 1) := by decide +kernel
theorem dX8_expand_39 : decode cX8_expand 39 = .ok (.invokevirtual 96, 3) := by decide +kernel
theorem dX8_expand_42 : decode cX8_expand 42 = .ok (.iload_n 2, 1) := by decide +kernel
theorem dX8_expand_43 : decode cX8_expand 43 = .ok (.ifCond .lt 7, 3) := by decide +kernel
theorem dX8_expand_46 : decode cX8_expand 46 = .ok (.iconst (-1), 1) := by decide +kernel
theorem dX8_expand_47 : decode cX8_expand 47 = .ok (.iload_n 2, 1) := by decide +kernel
theorem dX8_expand_48 : decode cX8_expand 48 = .ok (.isub, 1) := by decide +kernel
theorem dX8_expand_49 : decode cX8_expand 49 = .ok (.ireturn, 1) := by decide +kernel
theorem dX8_expand_50 : decode cX8_expand 50 = .ok (.aload_n 0, 1) := by decide +kernel
theorem dX8_expand_51 : decode cX8_expand 51 = .ok (.getfield 55, 3) := by decide +kernel
theorem dX8_expand_54 : decode cX8_expand 54 = .ok (.sipush 480, 3) := by decide +kernel
theorem dX8_expand_57 : decode cX8_expand 57 = .ok (.iconst 0, 1) := by decide +kernel
theorem dX8_expand_58 : decode cX8_expand 58 = .ok (.invokevirtual 99, 3) := by decide +kernel
theorem dX8_expand_61 : decode cX8_expand 61 = .ok (.aload_n 0, 1) := by decide +kernel
theorem dX8_expand_62 : decode cX8_expand 62 = .ok (.getfield 46, 3) := by decide +kernel
theorem dX8_expand_65 : decode cX8_expand 65 = .ok (.getfield 103, 3) := by decide +kernel
theorem dX8_expand_68 : decode cX8_expand 68 = .ok (.ifCond .eq 23, 3) := by decide +kernel
theorem dX8_expand_71 : decode cX8_expand 71 = .ok (.aload_n 0, 1) := by decide +kernel
theorem dX8_expand_72 : decode cX8_expand 72 = .ok (.getfield 46, 3) := by decide +kernel
theorem dX8_expand_75 : decode cX8_expand 75 = .ok (.iconst 0, 1) := by decide +kernel
theorem dX8_expand_76 : decode cX8_expand 76 = .ok (.putfield 106, 3) := by decide +kernel
theorem dX8_expand_79 : decode cX8_expand 79 = .ok (.sipush (-1000), 3) := by decide +kernel
theorem dX8_expand_82 : decode cX8_expand 82 = .ok (.aload_n 0, 1) := by decide +kernel
theorem dX8_expand_83 : decode cX8_expand 83 = .ok (.getfield 46, 3) := by decide +kernel
theorem dX8_expand_86 : decode cX8_expand 86 = .ok (.getfield 103, 3) := by decide +kernel
theorem dX8_expand_89 : decode cX8_expand 89 = .ok (.imul, 1) := by decide +kernel
theorem dX8_expand_90 : decode cX8_expand 90 = .ok (.ireturn, 1) := by decide +kernel
theorem dX8_expand_91 : decode cX8_expand 91 = .ok (.aload_n 0, 1) := by decide +kernel
theorem dX8_expand_92 : decode cX8_expand 92 = .ok (.getfield 46, 3) := by decide +kernel
theorem dX8_expand_95 : decode cX8_expand 95 = .ok (.getfield 106, 3) := by decide +kernel
theorem dX8_expand_98 : decode cX8_expand 98 = .ok (.ireturn, 1) := by decide +kernel
set_option maxRecDepth 20000 in
theorem ggX8_at_X2_charAt : GoodIn wsX8_at wsX2_charAt := goodIn_r _ [6, 7, 8, 17, 18, 19] (by decide +kernel) (by decide +kernel)
set_option maxRecDepth 20000 in
theorem gX8_at_X2_charAt : GoodIn wsX8_at (wsV RX8 109 RX2 yX2_charAt wsX2_charAt) := goodIn_app (goodIn_of _ (by decide +kernel)) ggX8_at_X2_charAt
theorem dX8_at_0 : decode cX8_at 0 = .ok (.aload_n 0, 1) := by decide +kernel
theorem dX8_at_1 : decode cX8_at 1 = .ok (.getfield 46, 3) := by decide +kernel
theorem dX8_at_4 : decode cX8_at 4 = .ok (.iload_n 1, 1) := by decide +kernel
theorem dX8_at_5 : decode cX8_at 5 = .ok (.invokevirtual 109, 3) := by decide +kernel
theorem dX8_at_8 : decode cX8_at 8 = .ok (.ireturn, 1) := by decide +kernel
theorem dX8_count_0 : decode cX8_count 0 = .ok (.iload_n 1, 1) := by decide +kernel
theorem dX8_count_1 : decode cX8_count 1 = .ok (.tableswitch 63 0 3 #[31, 39, 47, 55], 31) := by decide +kernel
theorem dX8_count_32 : decode cX8_count 32 = .ok (.aload_n 0, 1) := by decide +kernel
theorem dX8_count_33 : decode cX8_count 33 = .ok (.getfield 55, 3) := by decide +kernel
theorem dX8_count_36 : decode cX8_count 36 = .ok (.getfield 112, 3) := by decide +kernel
theorem dX8_count_39 : decode cX8_count 39 = .ok (.ireturn, 1) := by decide +kernel
theorem dX8_count_40 : decode cX8_count 40 = .ok (.aload_n 0, 1) := by decide +kernel
theorem dX8_count_41 : decode cX8_count 41 = .ok (.getfield 55, 3) := by decide +kernel
theorem dX8_count_44 : decode cX8_count 44 = .ok (.getfield 115, 3) := by decide +kernel
theorem dX8_count_47 : decode cX8_count 47 = .ok (.ireturn, 1) := by decide +kernel
theorem dX8_count_48 : decode cX8_count 48 = .ok (.aload_n 0, 1) := by decide +kernel
theorem dX8_count_49 : decode cX8_count 49 = .ok (.getfield 55, 3) := by decide +kernel
theorem dX8_count_52 : decode cX8_count 52 = .ok (.getfield 118, 3) := by decide +kernel
theorem dX8_count_55 : decode cX8_count 55 = .ok (.ireturn, 1) := by decide +kernel
theorem dX8_count_56 : decode cX8_count 56 = .ok (.aload_n 0, 1) := by decide +kernel
theorem dX8_count_57 : decode cX8_count 57 = .ok (.getfield 55, 3) := by decide +kernel
theorem dX8_count_60 : decode cX8_count 60 = .ok (.getfield 121, 3) := by decide +kernel
theorem dX8_count_63 : decode cX8_count 63 = .ok (.ireturn, 1) := by decide +kernel
theorem dX8_count_64 : decode cX8_count 64 = .ok (.iconst (-1), 1) := by decide +kernel
theorem dX8_count_65 : decode cX8_count 65 = .ok (.ireturn, 1) := by decide +kernel
theorem iw_X8_rules_X8 : ∀ w ∈ wsX80, w ∈ wsX8_rules := by decide +kernel
theorem lk_X8_rules_32 : Cond.fieldLink RX8 32 "MarkedNames" "check" "LMarkedNames$RuleCheck;" ∈ wsX8_rules := by decide +kernel
theorem lk_X8_rules_16 : Cond.fieldLink RX8 16 "MarkedNames" "row" "LMarkedNames$Row;" ∈ wsX8_rules := by decide +kernel
theorem lk_X8_rules_39 : Cond.fieldLink RX8 39 "MarkedNames" "table" "LMarkedNames$Table;" ∈ wsX8_rules := by decide +kernel
theorem iw_X7_bindOwn_X7 : ∀ w ∈ wsX70, w ∈ wsX7_bindOwn := by decide +kernel
theorem lk_X7_bindOwn_37 : Cond.fieldLink RX7 37 "MarkedNames$Table" "ownNames" "I" ∈ wsX7_bindOwn := by decide +kernel
theorem ml_X7_bindOwn_40 : Cond.methodLink RX7 40 Lib.Math.max.name ∈ wsX7_bindOwn := by decide +kernel
theorem ms_X7_bindOwn_max : Cond.static Lib.Math.max.name ∈ wsX7_bindOwn := by decide +kernel
theorem mi_X7_bindOwn_Math : Cond.initialized "java/lang/Math" ∈ wsX7_bindOwn := by decide +kernel
theorem mc_X7_bindOwn_max : Cond.code Lib.Math.max.name Lib.Math.max.code 2 (some .int) ∈ wsX7_bindOwn := by decide +kernel
theorem lk_X7_bindOwn_33 : Cond.fieldLink RX7 33 "MarkedNames$Table" "length" "I" ∈ wsX7_bindOwn := by decide +kernel
theorem iw_X7_forgetExpansion_X7 : ∀ w ∈ wsX70, w ∈ wsX7_forgetExpansion := by decide +kernel
theorem lk_X7_forgetExpansion_37 : Cond.fieldLink RX7 37 "MarkedNames$Table" "ownNames" "I" ∈ wsX7_forgetExpansion := by decide +kernel
theorem lk_X7_forgetExpansion_33 : Cond.fieldLink RX7 33 "MarkedNames$Table" "length" "I" ∈ wsX7_forgetExpansion := by decide +kernel
theorem iw_X8_rules_X7 : ∀ w ∈ wsX70, w ∈ wsX8_rules := by decide +kernel
theorem iw_X8_expand_X8 : ∀ w ∈ wsX80, w ∈ wsX8_expand := by decide +kernel
theorem lk_X8_expand_46 : Cond.fieldLink RX8 46 "MarkedNames" "outcome" "LMarkedNames$Outcome;" ∈ wsX8_expand := by decide +kernel
theorem iw_X2_clear_X2 : ∀ w ∈ wsX20, w ∈ wsX2_clear := by decide +kernel
theorem lk_X2_clear_15 : Cond.fieldLink RX2 15 "MarkedNames$Outcome" "length" "I" ∈ wsX2_clear := by decide +kernel
theorem lk_X2_clear_19 : Cond.fieldLink RX2 19 "MarkedNames$Outcome" "error" "I" ∈ wsX2_clear := by decide +kernel
theorem lk_X8_expand_55 : Cond.fieldLink RX8 55 "MarkedNames" "expander" "LMarkedNames$Expander;" ∈ wsX8_expand := by decide +kernel
theorem iw_X0_start_X0 : ∀ w ∈ wsX00, w ∈ wsX0_start := by decide +kernel
theorem lk_X0_start_36 : Cond.fieldLink RX0 36 "MarkedNames$Expander" "scopes" "I" ∈ wsX0_start := by decide +kernel
theorem lk_X0_start_40 : Cond.fieldLink RX0 40 "MarkedNames$Expander" "bindings" "I" ∈ wsX0_start := by decide +kernel
theorem lk_X0_start_43 : Cond.fieldLink RX0 43 "MarkedNames$Expander" "variables" "I" ∈ wsX0_start := by decide +kernel
theorem lk_X0_start_46 : Cond.fieldLink RX0 46 "MarkedNames$Expander" "fuel" "I" ∈ wsX0_start := by decide +kernel
theorem lk_X0_start_19 : Cond.fieldLink RX0 19 "MarkedNames$Expander" "table" "LMarkedNames$Table;" ∈ wsX0_start := by decide +kernel
theorem iw_X8_expand_X2 : ∀ w ∈ wsX20, w ∈ wsX8_expand := by decide +kernel
theorem iw_X8_at_X8 : ∀ w ∈ wsX80, w ∈ wsX8_at := by decide +kernel
theorem lk_X8_at_46 : Cond.fieldLink RX8 46 "MarkedNames" "outcome" "LMarkedNames$Outcome;" ∈ wsX8_at := by decide +kernel
theorem iw_X2_charAt_X2 : ∀ w ∈ wsX20, w ∈ wsX2_charAt := by decide +kernel
theorem lk_X2_charAt_15 : Cond.fieldLink RX2 15 "MarkedNames$Outcome" "length" "I" ∈ wsX2_charAt := by decide +kernel
theorem lk_X2_charAt_9 : Cond.fieldLink RX2 9 "MarkedNames$Outcome" "text" "[I" ∈ wsX2_charAt := by decide +kernel
theorem iw_X8_count_X8 : ∀ w ∈ wsX80, w ∈ wsX8_count := by decide +kernel
theorem lk_X8_count_55 : Cond.fieldLink RX8 55 "MarkedNames" "expander" "LMarkedNames$Expander;" ∈ wsX8_count := by decide +kernel
theorem iw_X8_count_X0 : ∀ w ∈ wsX00, w ∈ wsX8_count := by decide +kernel
section
variable {l : Launch} {p : Program} {e : Env} {s : State} {m : MethodId} {args : Array Value} {below : List Frame} {meth : Method} {c : Code} {A : Nat → Prop} {dC : Nat → ClassId} {dI : Nat → Nat → Nat} {cA : ClassId} {a b : Nat → Nat} {lev : Nat}
set_option maxHeartbeats 4000000 in
set_option maxRecDepth 100000 in
theorem X7_forgetExpansion_met (hlev : 0 ≤ lev) {u : mS} {post : mS → Prop} (hw : wp_X7_forgetExpansion  u post) : mKv l yX7_forgetExpansion wsX7_forgetExpansion lev (eA a) (dC, dI) vwCl [(cA, .int)] (wA cA a) [.ref (a 9)] u post := by
  refine mKv_of (cc := cX7_forgetExpansion) (maxL := 1) (by decide) rfl rfl (Nat.le_of_ble_eq_true rfl) rfl ?_
  intro p e s m args below meth c A C hs
  unfold wp_X7_forgetExpansion at hw
  refine mv_aload_n C dX7_forgetExpansion_0 rfl 0 rfl ?_
  refine mv_getsN C hs.2.1 (hs.1 _ nw_1) dX7_forgetExpansion_1 ?_
  refine mv_tlen (v := (8 : Int32)) C hs.2.2 (by decide) dX7_forgetExpansion_4 ?_
  refine mv_aload_n C dX7_forgetExpansion_5 rfl 0 rfl ?_
  refine mv_get (v := .int (u.1 5)) C iw_X7_forgetExpansion_X7 9 rfl rfl 5 (by decide) lk_X7_forgetExpansion_37 rfl rfl dX7_forgetExpansion_6 ?_
  refine mv_topi (fun y1 ey1 => ?_)
  have hw := hw y1 ey1
  refine mv_iadd C dX7_forgetExpansion_9 ?_
  refine mv_topi (fun y2 ey2 => ?_)
  have hw := hw y2 ey2
  refine mv_put (ty := .int) (ws1 := wA cA a (mSet u 4 y2)) C iw_X7_forgetExpansion_X7 tyX7 tyX7_ok nmX7 9 rfl rfl 4 (by decide) lk_X7_forgetExpansion_33 rfl rfl rfl rfl rfl (Nat.le_of_ble_eq_true rfl) rfl dX7_forgetExpansion_10 ?_
  refine mv_nm (f := wA cA a) (fun u3 eu3 => ?_)
  have hw := hw u3 eu3
  exact mv_vret C dX7_forgetExpansion_13 hw
set_option maxHeartbeats 4000000 in
set_option maxRecDepth 100000 in
theorem X7_bindOwn_met (hlev : 1 ≤ lev) {x1 x2 x3 : Int32} {u : mS} {post : mS → Prop} (hw : wp_X7_bindOwn x1 x2 x3 u post) : mKv l yX7_bindOwn wsX7_bindOwn lev (eA a) (dC, dI) vwCl [(cA, .int)] (wA cA a) [.ref (a 9), .int x1, .int x2, .int x3] u post := by
  refine mKv_of (cc := cX7_bindOwn) (maxL := 4) (by decide) rfl rfl (Nat.le_of_ble_eq_true rfl) rfl ?_
  intro p e s m args below meth c A C hs
  unfold wp_X7_bindOwn at hw
  refine mv_iload_n C dX7_bindOwn_0 rfl 1 rfl ?_
  refine mv_if_lt (tgt := 17) C dX7_bindOwn_1 (by decide) (fun h1 => ?_) (fun h1 => ?_)
  · have hw := hw.1 h1
    exact mv_vret C dX7_bindOwn_17 hw
  · have hw := hw.2 h1
    refine mv_iload_n C dX7_bindOwn_4 rfl 1 rfl ?_
    refine mv_aload_n C dX7_bindOwn_5 rfl 0 rfl ?_
    refine mv_get (v := .int (u.1 5)) C iw_X7_bindOwn_X7 9 rfl rfl 5 (by decide) lk_X7_bindOwn_37 rfl rfl dX7_bindOwn_6 ?_
    refine mv_topi (fun y2 ey2 => ?_)
    have hw := hw y2 ey2
    refine mv_icmp_gt (tgt := 17) C dX7_bindOwn_9 (by decide) (fun h3 => ?_) (fun h3 => ?_)
    · have hw := hw.1 h3
      exact mv_vret C dX7_bindOwn_17 hw
    · have hw := hw.2 h3
      refine mv_iload_n C dX7_bindOwn_12 rfl 1 rfl ?_
      refine mv_iconst (v := (4 : Int32)) C dX7_bindOwn_13 (by decide) ?_
      refine mv_icmp_lt (tgt := 18) C dX7_bindOwn_14 (by decide) (fun h4 => ?_) (fun h4 => ?_)
      · have hw := hw.1 h4
        refine mv_aload_n C dX7_bindOwn_18 rfl 0 rfl ?_
        refine mv_aload_n C dX7_bindOwn_19 rfl 0 rfl ?_
        refine mv_get (v := .int (u.1 5)) C iw_X7_bindOwn_X7 9 rfl rfl 5 (by decide) lk_X7_bindOwn_37 rfl rfl dX7_bindOwn_20 ?_
        refine mv_topi (fun y5 ey5 => ?_)
        have hw := hw y5 ey5
        refine mv_iload_n C dX7_bindOwn_23 rfl 1 rfl ?_
        refine mv_iconst (v := (1 : Int32)) C dX7_bindOwn_24 (by decide) ?_
        refine mv_iadd C dX7_bindOwn_25 ?_
        refine mv_topi (fun y6 ey6 => ?_)
        have hw := hw y6 ey6
        refine mv_mmax C ml_X7_bindOwn_40 ms_X7_bindOwn_max mi_X7_bindOwn_Math mc_X7_bindOwn_max (by show 1 ≤ lev; omega) (by show _ ≤ 64 * lev; exact Nat.le_trans (Nat.le_of_ble_eq_true rfl : _ ≤ 64) (by omega)) (Nat.le_refl 0) (Nat.le_refl 0) dX7_bindOwn_26 ?_
        refine mv_topi (fun y7 ey7 => ?_)
        have hw := hw y7 ey7
        refine mv_put (ty := .int) (ws1 := wA cA a (mSet u 5 y7)) C iw_X7_bindOwn_X7 tyX7 tyX7_ok nmX7 9 rfl rfl 5 (by decide) lk_X7_bindOwn_37 rfl rfl rfl rfl rfl (Nat.le_of_ble_eq_true rfl) rfl dX7_bindOwn_29 ?_
        refine mv_nm (f := wA cA a) (fun u8 eu8 => ?_)
        have hw := hw u8 eu8
        refine mv_aload_n C dX7_bindOwn_32 rfl 0 rfl ?_
        refine mv_getsN C hs.2.1 (hs.1 _ nw_1) dX7_bindOwn_33 ?_
        refine mv_tlen (v := (8 : Int32)) C hs.2.2 (by decide) dX7_bindOwn_36 ?_
        refine mv_iload_n C dX7_bindOwn_37 rfl 1 rfl ?_
        refine mv_iadd C dX7_bindOwn_38 ?_
        refine mv_topi (fun y9 ey9 => ?_)
        have hw := hw y9 ey9
        refine mv_put (ty := .int) (ws1 := wA cA a (mSet u8 4 y9)) C iw_X7_bindOwn_X7 tyX7 tyX7_ok nmX7 9 rfl rfl 4 (by decide) lk_X7_bindOwn_33 rfl rfl rfl rfl rfl (Nat.le_of_ble_eq_true rfl) rfl dX7_bindOwn_39 ?_
        refine mv_nm (f := wA cA a) (fun u10 eu10 => ?_)
        have hw := hw u10 eu10
        refine mv_aload_n C dX7_bindOwn_42 rfl 0 rfl ?_
        refine mv_iload_n C dX7_bindOwn_43 rfl 2 rfl ?_
        refine mv_iconst (v := (0 : Int32)) C dX7_bindOwn_44 (by decide) ?_
        refine mv_bipush (v := (6 : Int32)) C dX7_bindOwn_45 (by decide) ?_
        refine mv_iload_n C dX7_bindOwn_47 rfl 3 rfl ?_
        refine mv_callVi (f := wA cA a) (As := [.int x2, .int (0 : Int32), .int (6 : Int32), .int x3]) (rest := []) C (eA_ok a) hs 9 rfl rfl (X7_bind_met (l := l) (lev := lev - 1) (by omega) hw) (cwV 4 C.2.2.2.2.1 gX7_bindOwn_X7_bind rfl rfl rfl (by decide +kernel) (mRm_le (by omega) (by decide))) rfl rfl (Nat.le_of_ble_eq_true rfl) dX7_bindOwn_48 ⟨Nat.le_refl 0, Nat.le_refl 0⟩ (fun r11 u12 hw => ?_)
        obtain ⟨gr11, hw⟩ := hw
        refine mv_pop C dX7_bindOwn_51 rfl ?_
        refine mv_aload_n C dX7_bindOwn_52 rfl 0 rfl ?_
        refine mv_callVv (f := wA cA a) (As := []) (rest := []) C (eA_ok a) hs 9 rfl rfl (X7_forgetExpansion_met (l := l) (lev := lev - 1) (by omega) hw) (cwV 0 C.2.2.2.2.1 gX7_bindOwn_X7_forgetExpansion rfl rfl rfl (by decide +kernel) (mRm_le (by omega) (by decide))) rfl rfl (Nat.le_of_ble_eq_true rfl) dX7_bindOwn_53 ⟨Nat.le_refl 0, Nat.le_refl 0⟩ (fun u14 hw => ?_)
        exact mv_vret C dX7_bindOwn_56 hw
      · have hw := hw.2 h4
        exact mv_vret C dX7_bindOwn_17 hw
set_option maxHeartbeats 4000000 in
set_option maxRecDepth 100000 in
theorem X8_rules_met (hlev : 6 ≤ lev) {u : mS} {post : Int32 → mS → Prop} (hw : wp_X8_rules  u post) : mKi l yX8_rules wsX8_rules lev (eA a) (dC, dI) vwCl [(cA, .int)] (wA cA a) [.ref (a 0)] u post := by
  refine mKi_of (cc := cX8_rules) (maxL := 4) (by decide) rfl rfl (Nat.le_of_ble_eq_true rfl) rfl ?_
  intro p e s m args below meth c A C hs
  unfold wp_X8_rules at hw
  refine mv_aload_n C dX8_rules_0 rfl 0 rfl ?_
  refine mv_callVi (f := wA cA a) (As := []) (rest := []) C (eA_ok a) hs 0 rfl rfl (X8_takeTyped_met (l := l) (lev := lev - 1) (by omega) hw) (cwV 0 C.2.2.2.2.1 gX8_rules_X8_takeTyped rfl rfl rfl (by decide +kernel) (mRm_le (by omega) (by decide))) rfl rfl (Nat.le_of_ble_eq_true rfl) dX8_rules_1 ⟨Nat.le_refl 0, Nat.le_refl 0⟩ (fun r1 u2 hw => ?_)
  refine mv_istore_n (lv1 := [(1, .int r1), (0, .ref (a 0))]) C dX8_rules_4 rfl (by decide) rfl ?_
  refine mv_iload_n C dX8_rules_5 rfl 0 rfl ?_
  refine mv_if_lt (tgt := 13) C dX8_rules_6 (by decide) (fun h3 => ?_) (fun h3 => ?_)
  · have hw := hw.1 h3
    refine mv_aload_n C dX8_rules_13 rfl 1 rfl ?_
    refine mv_get (v := .ref (a 8)) C iw_X8_rules_X8 0 rfl rfl 4 (by decide) lk_X8_rules_32 rfl rfl dX8_rules_14 ?_
    refine mv_sipush (v := (480 : Int32)) C dX8_rules_17 (by decide) ?_
    refine mv_callVi (f := wA cA a) (As := [.int (480 : Int32)]) (rest := []) C (eA_ok a) hs 8 rfl rfl (X6_isNameWithRules_met (l := l) (lev := lev - 1) (by omega) hw) (cwV 1 C.2.2.2.2.1 gX8_rules_X6_isNameWithRules rfl rfl rfl (by decide +kernel) (mRm_le (by omega) (by decide))) rfl rfl (Nat.le_of_ble_eq_true rfl) dX8_rules_20 ⟨Nat.le_refl 0, Nat.le_refl 0⟩ (fun r4 u5 hw => ?_)
    obtain ⟨gr4, hw⟩ := hw
    refine mv_if_ne (tgt := 30) C dX8_rules_23 (by decide) (fun h6 => ?_) (fun h6 => ?_)
    · have hw := hw.1 h6
      refine mv_aload_n C dX8_rules_30 rfl 1 rfl ?_
      refine mv_get (v := .ref (a 2)) C iw_X8_rules_X8 0 rfl rfl 2 (by decide) lk_X8_rules_16 rfl rfl dX8_rules_31 ?_
      refine mv_sipush (v := (481 : Int32)) C dX8_rules_34 (by decide) ?_
      refine mv_callVi (f := wA cA a) (As := [.int (481 : Int32)]) (rest := []) C (eA_ok a) hs 2 rfl rfl (X5_wordAt_met (l := l) (lev := lev - 1) (by omega) hw) (cwV 1 C.2.2.2.2.1 gX8_rules_X5_wordAt rfl rfl rfl (by decide +kernel) (mRm_le (by omega) (by decide))) rfl rfl (Nat.le_of_ble_eq_true rfl) dX8_rules_37 ⟨Nat.le_refl 0, Nat.le_refl 0⟩ (fun r7 u8 hw => ?_)
      refine mv_istore_n (lv1 := [(2, .int r7), (1, .int r1), (0, .ref (a 0))]) C dX8_rules_40 rfl (by decide) rfl ?_
      refine mv_aload_n C dX8_rules_41 rfl 2 rfl ?_
      refine mv_get (v := .ref (a 9)) C iw_X8_rules_X8 0 rfl rfl 5 (by decide) lk_X8_rules_39 rfl rfl dX8_rules_42 ?_
      refine mv_iload_n C dX8_rules_45 rfl 0 rfl ?_
      refine mv_callVi (f := wA cA a) (As := [.int r7]) (rest := []) C (eA_ok a) hs 9 rfl rfl (X7_ownSlot_met (l := l) (lev := lev - 1) (by omega) hw) (cwV 1 C.2.2.2.2.1 gX8_rules_X7_ownSlot rfl rfl rfl (by decide +kernel) (mRm_le (by omega) (by decide))) rfl rfl (Nat.le_of_ble_eq_true rfl) dX8_rules_46 ⟨Nat.le_refl 0, Nat.le_refl 0⟩ (fun r9 u10 hw => ?_)
      refine mv_istore_n (lv1 := [(3, .int r9), (2, .int r7), (1, .int r1), (0, .ref (a 0))]) C dX8_rules_49 rfl (by decide) rfl ?_
      refine mv_iload_n C dX8_rules_50 rfl 0 rfl ?_
      refine mv_if_ge (tgt := 58) C dX8_rules_51 (by decide) (fun h11 => ?_) (fun h11 => ?_)
      · have hw := hw.1 h11
        refine mv_aload_n C dX8_rules_58 rfl 3 rfl ?_
        refine mv_get (v := .ref (a 9)) C iw_X8_rules_X8 0 rfl rfl 5 (by decide) lk_X8_rules_39 rfl rfl dX8_rules_59 ?_
        refine mv_iload_n C dX8_rules_62 rfl 0 rfl ?_
        refine mv_iload_n C dX8_rules_63 rfl 1 rfl ?_
        refine mv_aload_n C dX8_rules_64 rfl 3 rfl ?_
        refine mv_get (v := .ref (a 2)) C iw_X8_rules_X8 0 rfl rfl 2 (by decide) lk_X8_rules_16 rfl rfl dX8_rules_65 ?_
        refine mv_sipush (v := (480 : Int32)) C dX8_rules_68 (by decide) ?_
        refine mv_iload_n C dX8_rules_71 rfl 0 rfl ?_
        refine mv_callVi (f := wA cA a) (As := [.int (480 : Int32), .int r9]) (rest := [.int r7, .int r9, .ref (a 9)]) C (eA_ok a) hs 2 rfl rfl (X5_keep_met (l := l) (lev := lev - 1) (by omega) hw) (cwV 2 C.2.2.2.2.1 gX8_rules_X5_keep rfl rfl rfl (by decide +kernel) (mRm_le (by omega) (by decide))) rfl rfl (Nat.le_of_ble_eq_true rfl) dX8_rules_72 ⟨Nat.le_refl 0, Nat.le_refl 0⟩ (fun r12 u13 hw => ?_)
        refine mv_callVv (f := wA cA a) (As := [.int r9, .int r7, .int r12]) (rest := []) C (eA_ok a) hs 9 rfl rfl (X7_bindOwn_met (l := l) (lev := lev - 1) (by omega) hw) (cwV 3 C.2.2.2.2.1 gX8_rules_X7_bindOwn rfl rfl rfl (by decide +kernel) (mRm_le (by omega) (by decide))) rfl rfl (Nat.le_of_ble_eq_true rfl) dX8_rules_75 ⟨Nat.le_refl 0, Nat.le_refl 0⟩ (fun u15 hw => ?_)
        refine mv_aload_n C dX8_rules_78 rfl 3 rfl ?_
        refine mv_get (v := .ref (a 9)) C iw_X8_rules_X8 0 rfl rfl 5 (by decide) lk_X8_rules_39 rfl rfl dX8_rules_79 ?_
        refine mv_getN (v := .int (u15.1 5)) C iw_X8_rules_X7 9 rfl rfl 5 (by decide) (hs.1 _ nw_2) rfl rfl dX8_rules_82 ?_
        refine mv_topi (fun y16 ey16 => ?_)
        have hw := hw y16 ey16
        exact mv_iret C dX8_rules_85 hw
      · have hw := hw.2 h11
        refine mv_sipush (v := (-1001 : Int32)) C dX8_rules_54 (by decide) ?_
        exact mv_iret C dX8_rules_57 hw
    · have hw := hw.2 h6
      refine mv_sipush (v := (-1000 : Int32)) C dX8_rules_26 (by decide) ?_
      exact mv_iret C dX8_rules_29 hw
  · have hw := hw.2 h3
    refine mv_iconst (v := (-1 : Int32)) C dX8_rules_9 (by decide) ?_
    refine mv_iload_n C dX8_rules_10 rfl 0 rfl ?_
    refine mv_isub C dX8_rules_11 ?_
    refine mv_topi (fun y17 ey17 => ?_)
    have hw := hw y17 ey17
    exact mv_iret C dX8_rules_12 hw
set_option maxHeartbeats 4000000 in
set_option maxRecDepth 100000 in
theorem X2_clear_met (hlev : 0 ≤ lev) {u : mS} {post : mS → Prop} (hw : wp_X2_clear  u post) : mKv l yX2_clear wsX2_clear lev (eA a) (dC, dI) vwCl [(cA, .int)] (wA cA a) [.ref (a 14)] u post := by
  refine mKv_of (cc := cX2_clear) (maxL := 1) (by decide) rfl rfl (Nat.le_of_ble_eq_true rfl) rfl ?_
  intro p e s m args below meth c A C hs
  unfold wp_X2_clear at hw
  refine mv_aload_n C dX2_clear_0 rfl 0 rfl ?_
  refine mv_iconst (v := (0 : Int32)) C dX2_clear_1 (by decide) ?_
  refine mv_put (ty := .int) (ws1 := wA cA a (mSet u 6 (0 : Int32))) C iw_X2_clear_X2 tyX2 tyX2_ok nmX2 14 rfl rfl 1 (by decide) lk_X2_clear_15 rfl rfl rfl rfl rfl (Nat.le_of_ble_eq_true rfl) rfl dX2_clear_2 ?_
  refine mv_nm (f := wA cA a) (fun u1 eu1 => ?_)
  have hw := hw u1 eu1
  refine mv_aload_n C dX2_clear_5 rfl 0 rfl ?_
  refine mv_iconst (v := (0 : Int32)) C dX2_clear_6 (by decide) ?_
  refine mv_put (ty := .int) (ws1 := wA cA a (mSet u1 7 (0 : Int32))) C iw_X2_clear_X2 tyX2 tyX2_ok nmX2 14 rfl rfl 2 (by decide) lk_X2_clear_19 rfl rfl rfl rfl rfl (Nat.le_of_ble_eq_true rfl) rfl dX2_clear_7 ?_
  refine mv_nm (f := wA cA a) (fun u2 eu2 => ?_)
  have hw := hw u2 eu2
  exact mv_vret C dX2_clear_10 hw
set_option maxHeartbeats 4000000 in
set_option maxRecDepth 100000 in
theorem X0_start_met (hlev : 1 ≤ lev) {x1 : Int32} {u : mS} {post : mS → Prop} (hw : wp_X0_start x1 u post) : mKv l yX0_start wsX0_start lev (eA a) (dC, dI) vwCl [(cA, .int)] (wA cA a) [.ref (a 16), .int x1] u post := by
  refine mKv_of (cc := cX0_start) (maxL := 2) (by decide) rfl rfl (Nat.le_of_ble_eq_true rfl) rfl ?_
  intro p e s m args below meth c A C hs
  unfold wp_X0_start at hw
  refine mv_aload_n C dX0_start_0 rfl 0 rfl ?_
  refine mv_iconst (v := (0 : Int32)) C dX0_start_1 (by decide) ?_
  refine mv_put (ty := .int) (ws1 := wA cA a (mSet u 8 (0 : Int32))) C iw_X0_start_X0 tyX0 tyX0_ok nmX0 16 rfl rfl 5 (by decide) lk_X0_start_36 rfl rfl rfl rfl rfl (Nat.le_of_ble_eq_true rfl) rfl dX0_start_2 ?_
  refine mv_nm (f := wA cA a) (fun u1 eu1 => ?_)
  have hw := hw u1 eu1
  refine mv_aload_n C dX0_start_5 rfl 0 rfl ?_
  refine mv_iconst (v := (0 : Int32)) C dX0_start_6 (by decide) ?_
  refine mv_put (ty := .int) (ws1 := wA cA a (mSet u1 9 (0 : Int32))) C iw_X0_start_X0 tyX0 tyX0_ok nmX0 16 rfl rfl 6 (by decide) lk_X0_start_40 rfl rfl rfl rfl rfl (Nat.le_of_ble_eq_true rfl) rfl dX0_start_7 ?_
  refine mv_nm (f := wA cA a) (fun u2 eu2 => ?_)
  have hw := hw u2 eu2
  refine mv_aload_n C dX0_start_10 rfl 0 rfl ?_
  refine mv_iconst (v := (0 : Int32)) C dX0_start_11 (by decide) ?_
  refine mv_put (ty := .int) (ws1 := wA cA a (mSet u2 10 (0 : Int32))) C iw_X0_start_X0 tyX0 tyX0_ok nmX0 16 rfl rfl 7 (by decide) lk_X0_start_43 rfl rfl rfl rfl rfl (Nat.le_of_ble_eq_true rfl) rfl dX0_start_12 ?_
  refine mv_nm (f := wA cA a) (fun u3 eu3 => ?_)
  have hw := hw u3 eu3
  refine mv_aload_n C dX0_start_15 rfl 0 rfl ?_
  refine mv_iload_n C dX0_start_16 rfl 1 rfl ?_
  refine mv_put (ty := .int) (ws1 := wA cA a (mSet u3 11 x1)) C iw_X0_start_X0 tyX0 tyX0_ok nmX0 16 rfl rfl 8 (by decide) lk_X0_start_46 rfl rfl rfl rfl rfl (Nat.le_of_ble_eq_true rfl) rfl dX0_start_17 ?_
  refine mv_nm (f := wA cA a) (fun u4 eu4 => ?_)
  have hw := hw u4 eu4
  refine mv_aload_n C dX0_start_20 rfl 0 rfl ?_
  refine mv_get (v := .ref (a 9)) C iw_X0_start_X0 16 rfl rfl 2 (by decide) lk_X0_start_19 rfl rfl dX0_start_21 ?_
  refine mv_callVv (f := wA cA a) (As := []) (rest := []) C (eA_ok a) hs 9 rfl rfl (X7_forgetExpansion_met (l := l) (lev := lev - 1) (by omega) hw) (cwV 0 C.2.2.2.2.1 gX0_start_X7_forgetExpansion rfl rfl rfl (by decide +kernel) (mRm_le (by omega) (by decide))) rfl rfl (Nat.le_of_ble_eq_true rfl) dX0_start_24 ⟨Nat.le_refl 0, Nat.le_refl 0⟩ (fun u6 hw => ?_)
  exact mv_vret C dX0_start_27 hw
set_option maxHeartbeats 4000000 in
set_option maxRecDepth 100000 in
theorem wj_X8_expand_10_ok (C : mC p s m args meth c cX8_expand 3 wsX8_expand RX8 (some .int) (dC, dI) vwCl [(cA, .int)] A) (hs : eA a A s) (hlev : 83 ≤ lev) {post : Int32 → mS → Prop} {u : mS} (hw : wj_X8_expand_10 post  u) : mV p l e (mRm lev) s m args below meth c 3 (dC, dI) vwCl A 0 0 (mQi below args s (dC, dI) vwCl [(cA, .int)] (wA cA a) A post) (wA cA a u) 10 [] [] := by
  unfold wj_X8_expand_10 at hw
  refine mv_sipush (v := (-7000 : Int32)) C dX8_expand_10 (by decide) ?_
  exact mv_iret C dX8_expand_13 hw
set_option maxHeartbeats 4000000 in
set_option maxRecDepth 100000 in
theorem wj_X8_expand_39_ok (C : mC p s m args meth c cX8_expand 3 wsX8_expand RX8 (some .int) (dC, dI) vwCl [(cA, .int)] A) (hs : eA a A s) (hlev : 83 ≤ lev) {post : Int32 → mS → Prop} {x2 z0 : Int32} {u : mS} (hw : wj_X8_expand_39 post x2 z0 u) : mV p l e (mRm lev) s m args below meth c 3 (dC, dI) vwCl A 0 0 (mQi below args s (dC, dI) vwCl [(cA, .int)] (wA cA a) A post) (wA cA a u) 39 [(0, .ref (a 0)), (2, .int x2)] [.int z0, .ref (a 16)] := by
  unfold wj_X8_expand_39 at hw
  refine mv_callVv (f := wA cA a) (As := [.int z0]) (rest := []) C (eA_ok a) hs 16 rfl rfl (X0_start_met (l := l) (lev := lev - 1) (by omega) hw) (cwV 1 C.2.2.2.2.1 gX8_expand_X0_start rfl rfl rfl (by decide +kernel) (mRm_le (by omega) (by decide))) rfl rfl (Nat.le_of_ble_eq_true rfl) dX8_expand_39 ⟨Nat.le_refl 0, Nat.le_refl 0⟩ (fun u9 hw => ?_)
  refine mv_iload_n C dX8_expand_42 rfl 1 rfl ?_
  refine mv_if_lt (tgt := 50) C dX8_expand_43 (by decide) (fun h10 => ?_) (fun h10 => ?_)
  · have hw := hw.1 h10
    refine mv_aload_n C dX8_expand_50 rfl 0 rfl ?_
    refine mv_get (v := .ref (a 16)) C iw_X8_expand_X8 0 rfl rfl 7 (by decide) lk_X8_expand_55 rfl rfl dX8_expand_51 ?_
    refine mv_sipush (v := (480 : Int32)) C dX8_expand_54 (by decide) ?_
    refine mv_iconst (v := (0 : Int32)) C dX8_expand_57 (by decide) ?_
    refine mv_callVv (f := wA cA a) (As := [.int (480 : Int32), .int (0 : Int32)]) (rest := []) C (eA_ok a) hs 16 rfl rfl (wpT_met (l := l) 25 (lev - 1) (by omega) (show wpT 25 _ _ _ _ from hw)) (cwV 2 C.2.2.2.2.1 gX8_expand_X0_expandTree rfl rfl rfl (by decide +kernel) (mRm_le (by omega) (by decide))) rfl rfl (Nat.le_of_ble_eq_true rfl) dX8_expand_58 ⟨Nat.le_refl 0, Nat.le_refl 0⟩ (fun u12 hw => ?_)
    refine mv_aload_n C dX8_expand_61 rfl 0 rfl ?_
    refine mv_get (v := .ref (a 14)) C iw_X8_expand_X8 0 rfl rfl 6 (by decide) lk_X8_expand_46 rfl rfl dX8_expand_62 ?_
    refine mv_getN (v := .int (u12.1 7)) C iw_X8_expand_X2 14 rfl rfl 2 (by decide) (hs.1 _ nw_5) rfl rfl dX8_expand_65 ?_
    refine mv_topi (fun y13 ey13 => ?_)
    have hw := hw y13 ey13
    refine mv_if_eq (tgt := 91) C dX8_expand_68 (by decide) (fun h14 => ?_) (fun h14 => ?_)
    · have hw := hw.1 h14
      refine mv_aload_n C dX8_expand_91 rfl 0 rfl ?_
      refine mv_get (v := .ref (a 14)) C iw_X8_expand_X8 0 rfl rfl 6 (by decide) lk_X8_expand_46 rfl rfl dX8_expand_92 ?_
      refine mv_getN (v := .int (u12.1 6)) C iw_X8_expand_X2 14 rfl rfl 1 (by decide) (hs.1 _ nw_3) rfl rfl dX8_expand_95 ?_
      refine mv_topi (fun y15 ey15 => ?_)
      have hw := hw y15 ey15
      exact mv_iret C dX8_expand_98 hw
    · have hw := hw.2 h14
      refine mv_aload_n C dX8_expand_71 rfl 0 rfl ?_
      refine mv_get (v := .ref (a 14)) C iw_X8_expand_X8 0 rfl rfl 6 (by decide) lk_X8_expand_46 rfl rfl dX8_expand_72 ?_
      refine mv_iconst (v := (0 : Int32)) C dX8_expand_75 (by decide) ?_
      refine mv_putN (ty := .int) (ws1 := wA cA a (mSet u12 6 (0 : Int32))) C iw_X8_expand_X2 tyX2 tyX2_ok nmX2 14 rfl rfl 1 (by decide) (hs.1 _ nw_3) rfl rfl rfl rfl rfl (Nat.le_of_ble_eq_true rfl) rfl dX8_expand_76 ?_
      refine mv_nm (f := wA cA a) (fun u16 eu16 => ?_)
      have hw := hw u16 eu16
      refine mv_sipush (v := (-1000 : Int32)) C dX8_expand_79 (by decide) ?_
      refine mv_aload_n C dX8_expand_82 rfl 0 rfl ?_
      refine mv_get (v := .ref (a 14)) C iw_X8_expand_X8 0 rfl rfl 6 (by decide) lk_X8_expand_46 rfl rfl dX8_expand_83 ?_
      refine mv_getN (v := .int (u16.1 7)) C iw_X8_expand_X2 14 rfl rfl 2 (by decide) (hs.1 _ nw_5) rfl rfl dX8_expand_86 ?_
      refine mv_topi (fun y17 ey17 => ?_)
      have hw := hw y17 ey17
      refine mv_imul C dX8_expand_89 ?_
      refine mv_topi (fun y18 ey18 => ?_)
      have hw := hw y18 ey18
      exact mv_iret C dX8_expand_90 hw
  · have hw := hw.2 h10
    refine mv_iconst (v := (-1 : Int32)) C dX8_expand_46 (by decide) ?_
    refine mv_iload_n C dX8_expand_47 rfl 1 rfl ?_
    refine mv_isub C dX8_expand_48 ?_
    refine mv_topi (fun y19 ey19 => ?_)
    have hw := hw y19 ey19
    exact mv_iret C dX8_expand_49 hw
set_option maxHeartbeats 4000000 in
set_option maxRecDepth 100000 in
theorem X8_expand_met (hlev : 83 ≤ lev) {x1 : Int32} {u : mS} {post : Int32 → mS → Prop} (hw : wp_X8_expand x1 u post) : mKi l yX8_expand wsX8_expand lev (eA a) (dC, dI) vwCl [(cA, .int)] (wA cA a) [.ref (a 0), .int x1] u post := by
  refine mKi_of (cc := cX8_expand) (maxL := 3) (by decide) rfl rfl (Nat.le_of_ble_eq_true rfl) rfl ?_
  intro p e s m args below meth c A C hs
  unfold wp_X8_expand at hw
  refine mv_iload_n C dX8_expand_0 rfl 1 rfl ?_
  refine mv_if_lt (tgt := 10) C dX8_expand_1 (by decide) (fun h1 => ?_) (fun h1 => ?_)
  · have hw := hw.1 h1
    refine mv_sub [] rfl ?_
    exact wj_X8_expand_10_ok C hs hlev hw
  · have hw := hw.2 h1
    refine mv_iload_n C dX8_expand_4 rfl 1 rfl ?_
    refine mv_bipush (v := (8 : Int32)) C dX8_expand_5 (by decide) ?_
    refine mv_icmp_le (tgt := 14) C dX8_expand_7 (by decide) (fun h2 => ?_) (fun h2 => ?_)
    · have hw := hw.1 h2
      refine mv_aload_n C dX8_expand_14 rfl 0 rfl ?_
      refine mv_callVi (f := wA cA a) (As := []) (rest := []) C (eA_ok a) hs 0 rfl rfl (X8_takeTyped_met (l := l) (lev := lev - 1) (by omega) hw) (cwV 0 C.2.2.2.2.1 gX8_expand_X8_takeTyped rfl rfl rfl (by decide +kernel) (mRm_le (by omega) (by decide))) rfl rfl (Nat.le_of_ble_eq_true rfl) dX8_expand_15 ⟨Nat.le_refl 0, Nat.le_refl 0⟩ (fun r3 u4 hw => ?_)
      refine mv_istore_n (lv1 := [(2, .int r3), (0, .ref (a 0)), (1, .int x1)]) C dX8_expand_18 rfl (by decide) rfl ?_
      refine mv_aload_n C dX8_expand_19 rfl 1 rfl ?_
      refine mv_get (v := .ref (a 14)) C iw_X8_expand_X8 0 rfl rfl 6 (by decide) lk_X8_expand_46 rfl rfl dX8_expand_20 ?_
      refine mv_callVv (f := wA cA a) (As := []) (rest := []) C (eA_ok a) hs 14 rfl rfl (X2_clear_met (l := l) (lev := lev - 1) (by omega) hw) (cwV 0 C.2.2.2.2.1 gX8_expand_X2_clear rfl rfl rfl (by decide +kernel) (mRm_le (by omega) (by decide))) rfl rfl (Nat.le_of_ble_eq_true rfl) dX8_expand_23 ⟨Nat.le_refl 0, Nat.le_refl 0⟩ (fun u6 hw => ?_)
      refine mv_aload_n C dX8_expand_26 rfl 1 rfl ?_
      refine mv_get (v := .ref (a 16)) C iw_X8_expand_X8 0 rfl rfl 7 (by decide) lk_X8_expand_55 rfl rfl dX8_expand_27 ?_
      refine mv_iload_n C dX8_expand_30 rfl 0 rfl ?_
      refine mv_if_lt (tgt := 38) C dX8_expand_31 (by decide) (fun h7 => ?_) (fun h7 => ?_)
      · have hw := hw.1 h7
        refine mv_iload_n C dX8_expand_38 rfl 2 rfl ?_
        refine mv_sub [1, 0] rfl ?_
        exact wj_X8_expand_39_ok C hs hlev hw
      · have hw := hw.2 h7
        refine mv_iconst (v := (0 : Int32)) C dX8_expand_34 (by decide) ?_
        refine mv_goto (tgt := 39) C dX8_expand_35 (by decide) ?_
        refine mv_sub [1, 0] rfl ?_
        exact wj_X8_expand_39_ok C hs hlev hw
    · have hw := hw.2 h2
      refine mv_sub [] rfl ?_
      exact wj_X8_expand_10_ok C hs hlev hw
set_option maxHeartbeats 4000000 in
set_option maxRecDepth 100000 in
theorem X2_charAt_met (hlev : 0 ≤ lev) {x1 : Int32} {u : mS} {post : Int32 → mS → Prop} (hw : wp_X2_charAt x1 u post) : mKi l yX2_charAt wsX2_charAt lev (eA a) (dC, dI) vwCl [(cA, .int)] (wA cA a) [.ref (a 14), .int x1] u post := by
  refine mKi_of (cc := cX2_charAt) (maxL := 2) (by decide) rfl rfl (Nat.le_of_ble_eq_true rfl) rfl ?_
  intro p e s m args below meth c A C hs
  unfold wp_X2_charAt at hw
  refine mv_iload_n C dX2_charAt_0 rfl 1 rfl ?_
  refine mv_if_lt (tgt := 28) C dX2_charAt_1 (by decide) (fun h1 => ?_) (fun h1 => ?_)
  · have hw := hw.1 h1
    refine mv_iconst (v := (-1 : Int32)) C dX2_charAt_28 (by decide) ?_
    exact mv_iret C dX2_charAt_29 hw
  · have hw := hw.2 h1
    refine mv_iload_n C dX2_charAt_4 rfl 1 rfl ?_
    refine mv_aload_n C dX2_charAt_5 rfl 0 rfl ?_
    refine mv_get (v := .int (u.1 6)) C iw_X2_charAt_X2 14 rfl rfl 1 (by decide) lk_X2_charAt_15 rfl rfl dX2_charAt_6 ?_
    refine mv_topi (fun y2 ey2 => ?_)
    have hw := hw y2 ey2
    refine mv_icmp_ge (tgt := 28) C dX2_charAt_9 (by decide) (fun h3 => ?_) (fun h3 => ?_)
    · have hw := hw.1 h3
      refine mv_iconst (v := (-1 : Int32)) C dX2_charAt_28 (by decide) ?_
      exact mv_iret C dX2_charAt_29 hw
    · have hw := hw.2 h3
      refine mv_iload_n C dX2_charAt_12 rfl 1 rfl ?_
      refine mv_sipush (v := (200 : Int32)) C dX2_charAt_13 (by decide) ?_
      refine mv_icmp_ge (tgt := 28) C dX2_charAt_16 (by decide) (fun h4 => ?_) (fun h4 => ?_)
      · have hw := hw.1 h4
        refine mv_iconst (v := (-1 : Int32)) C dX2_charAt_28 (by decide) ?_
        exact mv_iret C dX2_charAt_29 hw
      · have hw := hw.2 h4
        refine mv_aload_n C dX2_charAt_19 rfl 0 rfl ?_
        refine mv_get (v := .ref (a 15)) C iw_X2_charAt_X2 14 rfl rfl 0 (by decide) lk_X2_charAt_9 rfl rfl dX2_charAt_20 ?_
        refine mv_iload_n C dX2_charAt_23 rfl 1 rfl ?_
        refine mv_iald (f := u.2 9) C 15 0 rfl rfl hw.1 dX2_charAt_24 ?_
        refine mv_topi (fun y5 ey5 => ?_)
        have hw := hw.2 y5 ey5
        refine mv_goto (tgt := 29) C dX2_charAt_25 (by decide) ?_
        exact mv_iret C dX2_charAt_29 hw
set_option maxHeartbeats 4000000 in
set_option maxRecDepth 100000 in
theorem X8_at_met (hlev : 1 ≤ lev) {x1 : Int32} {u : mS} {post : Int32 → mS → Prop} (hw : wp_X8_at x1 u post) : mKi l yX8_at wsX8_at lev (eA a) (dC, dI) vwCl [(cA, .int)] (wA cA a) [.ref (a 0), .int x1] u post := by
  refine mKi_of (cc := cX8_at) (maxL := 2) (by decide) rfl rfl (Nat.le_of_ble_eq_true rfl) rfl ?_
  intro p e s m args below meth c A C hs
  unfold wp_X8_at at hw
  refine mv_aload_n C dX8_at_0 rfl 0 rfl ?_
  refine mv_get (v := .ref (a 14)) C iw_X8_at_X8 0 rfl rfl 6 (by decide) lk_X8_at_46 rfl rfl dX8_at_1 ?_
  refine mv_iload_n C dX8_at_4 rfl 1 rfl ?_
  refine mv_callVi (f := wA cA a) (As := [.int x1]) (rest := []) C (eA_ok a) hs 14 rfl rfl (X2_charAt_met (l := l) (lev := lev - 1) (by omega) hw) (cwV 1 C.2.2.2.2.1 gX8_at_X2_charAt rfl rfl rfl (by decide +kernel) (mRm_le (by omega) (by decide))) rfl rfl (Nat.le_of_ble_eq_true rfl) dX8_at_5 ⟨Nat.le_refl 0, Nat.le_refl 0⟩ (fun r1 u2 hw => ?_)
  exact mv_iret C dX8_at_8 hw
set_option maxHeartbeats 4000000 in
set_option maxRecDepth 100000 in
theorem X8_count_met (hlev : 0 ≤ lev) {x1 : Int32} {u : mS} {post : Int32 → mS → Prop} (hw : wp_X8_count x1 u post) : mKi l yX8_count wsX8_count lev (eA a) (dC, dI) vwCl [(cA, .int)] (wA cA a) [.ref (a 0), .int x1] u post := by
  refine mKi_of (cc := cX8_count) (maxL := 2) (by decide) rfl rfl (Nat.le_of_ble_eq_true rfl) rfl ?_
  intro p e s m args below meth c A C hs
  unfold wp_X8_count at hw
  refine mv_iload_n C dX8_count_0 rfl 1 rfl ?_
  by_cases hc1_0 : x1 = (0 : Int32)
  · have hw := hw.1 hc1_0
    refine mv_tableIn (tgt := 32) C dX8_count_1 (by rw [hc1_0]; decide) (by rw [hc1_0]; decide) (by rw [hc1_0]; rfl) (by decide) ?_
    refine mv_aload_n C dX8_count_32 rfl 0 rfl ?_
    refine mv_get (v := .ref (a 16)) C iw_X8_count_X8 0 rfl rfl 7 (by decide) lk_X8_count_55 rfl rfl dX8_count_33 ?_
    refine mv_getN (v := .int (u.1 8)) C iw_X8_count_X0 16 rfl rfl 5 (by decide) (hs.1 _ nw_8) rfl rfl dX8_count_36 ?_
    refine mv_topi (fun y1 ey1 => ?_)
    have hw := hw y1 ey1
    exact mv_iret C dX8_count_39 hw
  by_cases hc1_1 : x1 = (1 : Int32)
  · have hw := hw.2.1 hc1_1
    refine mv_tableIn (tgt := 40) C dX8_count_1 (by rw [hc1_1]; decide) (by rw [hc1_1]; decide) (by rw [hc1_1]; rfl) (by decide) ?_
    refine mv_aload_n C dX8_count_40 rfl 0 rfl ?_
    refine mv_get (v := .ref (a 16)) C iw_X8_count_X8 0 rfl rfl 7 (by decide) lk_X8_count_55 rfl rfl dX8_count_41 ?_
    refine mv_getN (v := .int (u.1 9)) C iw_X8_count_X0 16 rfl rfl 6 (by decide) (hs.1 _ nw_9) rfl rfl dX8_count_44 ?_
    refine mv_topi (fun y2 ey2 => ?_)
    have hw := hw y2 ey2
    exact mv_iret C dX8_count_47 hw
  by_cases hc1_2 : x1 = (2 : Int32)
  · have hw := hw.2.2.1 hc1_2
    refine mv_tableIn (tgt := 48) C dX8_count_1 (by rw [hc1_2]; decide) (by rw [hc1_2]; decide) (by rw [hc1_2]; rfl) (by decide) ?_
    refine mv_aload_n C dX8_count_48 rfl 0 rfl ?_
    refine mv_get (v := .ref (a 16)) C iw_X8_count_X8 0 rfl rfl 7 (by decide) lk_X8_count_55 rfl rfl dX8_count_49 ?_
    refine mv_getN (v := .int (u.1 10)) C iw_X8_count_X0 16 rfl rfl 7 (by decide) (hs.1 _ nw_10) rfl rfl dX8_count_52 ?_
    refine mv_topi (fun y3 ey3 => ?_)
    have hw := hw y3 ey3
    exact mv_iret C dX8_count_55 hw
  by_cases hc1_3 : x1 = (3 : Int32)
  · have hw := hw.2.2.2.1 hc1_3
    refine mv_tableIn (tgt := 56) C dX8_count_1 (by rw [hc1_3]; decide) (by rw [hc1_3]; decide) (by rw [hc1_3]; rfl) (by decide) ?_
    refine mv_aload_n C dX8_count_56 rfl 0 rfl ?_
    refine mv_get (v := .ref (a 16)) C iw_X8_count_X8 0 rfl rfl 7 (by decide) lk_X8_count_55 rfl rfl dX8_count_57 ?_
    refine mv_getN (v := .int (u.1 11)) C iw_X8_count_X0 16 rfl rfl 8 (by decide) (hs.1 _ nw_11) rfl rfl dX8_count_60 ?_
    refine mv_topi (fun y4 ey4 => ?_)
    have hw := hw y4 ey4
    exact mv_iret C dX8_count_63 hw
  have hw := hw.2.2.2.2 hc1_0 hc1_1 hc1_2 hc1_3
  have hdft : mV p l e (mRm lev) s m args below meth c 2 (dC, dI) vwCl A 0 0 (mQi below args s (dC, dI) vwCl [(cA, .int)] (wA cA a) A post) (wA cA a u) 64 [(0, .ref (a 0)), (1, .int x1)] [] := by
    refine mv_iconst (v := (-1 : Int32)) C dX8_count_64 (by decide) ?_
    exact mv_iret C dX8_count_65 hw
  exact mv_tableOut (tgt := 64) C dX8_count_1 (by have q0 : ¬ x1.toInt = 0 := mne hc1_0; have q1 : ¬ x1.toInt = 1 := mne hc1_1; have q2 : ¬ x1.toInt = 2 := mne hc1_2; have q3 : ¬ x1.toInt = 3 := mne hc1_3; omega) (by decide) hdft
end
