set_option maxRecDepth 20000 in
theorem ggX0_start_X7_forgetExpansion : GoodIn wsX0_start wsX7_forgetExpansion := goodIn_r _ [10, 11, 12, 22, 23, 24, 25, 26, 27] (by decide +kernel) (by decide +kernel)
set_option maxRecDepth 20000 in
theorem gX0_start_X7_forgetExpansion : GoodIn wsX0_start (wsV RX0 49 RX7 yX7_forgetExpansion wsX7_forgetExpansion) := goodIn_app (goodIn_of _ (by decide +kernel)) ggX0_start_X7_forgetExpansion
theorem dX0_start_0 : decode cX0_start 0 = .ok (.aload_n 0, 1) := by decide +kernel
theorem dX0_start_1 : decode cX0_start 1 = .ok (.iconst 0, 1) := by decide +kernel
theorem dX0_start_2 : decode cX0_start 2 = .ok (.putfield 36, 3) := by decide +kernel
theorem dX0_start_5 : decode cX0_start 5 = .ok (.aload_n 0, 1) := by decide +kernel
theorem dX0_start_6 : decode cX0_start 6 = .ok (.iconst 0, 1) := by decide +kernel
theorem dX0_start_7 : decode cX0_start 7 = .ok (.putfield 40, 3) := by decide +kernel
theorem dX0_start_10 : decode cX0_start 10 = .ok (.aload_n 0, 1) := by decide +kernel
theorem dX0_start_11 : decode cX0_start 11 = .ok (.iconst 0, 1) := by decide +kernel
theorem dX0_start_12 : decode cX0_start 12 = .ok (.putfield 43, 3) := by decide +kernel
theorem dX0_start_15 : decode cX0_start 15 = .ok (.aload_n 0, 1) := by decide +kernel
theorem dX0_start_16 : decode cX0_start 16 = .ok (.iload_n 1, 1) := by decide +kernel
theorem dX0_start_17 : decode cX0_start 17 = .ok (.putfield 46, 3) := by decide +kernel
theorem dX0_start_20 : decode cX0_start 20 = .ok (.aload_n 0, 1) := by decide +kernel
theorem dX0_start_21 : decode cX0_start 21 = .ok (.getfield 19, 3) := by decide +kernel
theorem dX0_start_24 : decode cX0_start 24 = .ok (.invokevirtual 49, 3) := by decide +kernel
theorem dX0_start_27 : decode cX0_start 27 = .ok (.return_, 1) := by decide +kernel
theorem dX2_clear_0 : decode cX2_clear 0 = .ok (.aload_n 0, 1) := by decide +kernel
theorem dX2_clear_1 : decode cX2_clear 1 = .ok (.iconst 0, 1) := by decide +kernel
theorem dX2_clear_2 : decode cX2_clear 2 = .ok (.putfield 15, 3) := by decide +kernel
theorem dX2_clear_5 : decode cX2_clear 5 = .ok (.aload_n 0, 1) := by decide +kernel
theorem dX2_clear_6 : decode cX2_clear 6 = .ok (.iconst 0, 1) := by decide +kernel
theorem dX2_clear_7 : decode cX2_clear 7 = .ok (.putfield 19, 3) := by decide +kernel
theorem dX2_clear_10 : decode cX2_clear 10 = .ok (.return_, 1) := by decide +kernel
theorem dX2_charAt_0 : decode cX2_charAt 0 = .ok (.iload_n 1, 1) := by decide +kernel
theorem dX2_charAt_1 : decode cX2_charAt 1 = .ok (.ifCond .lt 27, 3) := by decide +kernel
theorem dX2_charAt_4 : decode cX2_charAt 4 = .ok (.iload_n 1, 1) := by decide +kernel
theorem dX2_charAt_5 : decode cX2_charAt 5 = .ok (.aload_n 0, 1) := by decide +kernel
theorem dX2_charAt_6 : decode cX2_charAt 6 = .ok (.getfield 15, 3) := by decide +kernel
theorem dX2_charAt_9 : decode cX2_charAt 9 = .ok (.if_icmp .ge 19, 3) := by decide +kernel
theorem dX2_charAt_12 : decode cX2_charAt 12 = .ok (.iload_n 1, 1) := by decide +kernel
theorem dX2_charAt_13 : decode cX2_charAt 13 = .ok (.sipush 200, 3) := by decide +kernel
theorem dX2_charAt_16 : decode cX2_charAt 16 = .ok (.if_icmp .ge 12, 3) := by decide +kernel
theorem dX2_charAt_19 : decode cX2_charAt 19 = .ok (.aload_n 0, 1) := by decide +kernel
theorem dX2_charAt_20 : decode cX2_charAt 20 = .ok (.getfield 9, 3) := by decide +kernel
theorem dX2_charAt_23 : decode cX2_charAt 23 = .ok (.iload_n 1, 1) := by decide +kernel
theorem dX2_charAt_24 : decode cX2_charAt 24 = .ok (.iaload, 1) := by decide +kernel
theorem dX2_charAt_25 : decode cX2_charAt 25 = .ok (.goto 4, 3) := by decide +kernel
theorem dX2_charAt_28 : decode cX2_charAt 28 = .ok (.iconst (-1), 1) := by decide +kernel
theorem dX2_charAt_29 : decode cX2_charAt 29 = .ok (.ireturn, 1) := by decide +kernel
set_option maxRecDepth 20000 in
theorem ggX3_read_X5_restart : GoodIn wsX3_read wsX5_restart := goodIn_r _ [12, 13, 14, 65, 66, 67, 68, 69, 70] (by decide +kernel) (by decide +kernel)
set_option maxRecDepth 20000 in
theorem gX3_read_X5_restart : GoodIn wsX3_read (wsV RX3 15 RX5 yX5_restart wsX5_restart) := goodIn_app (goodIn_of _ (by decide +kernel)) ggX3_read_X5_restart
set_option maxRecDepth 20000 in
theorem ggX3_read_X3_isWhole : GoodIn wsX3_read wsX3_isWhole := goodIn_r _ [23, 2, 1, 63, 64, 65, 66, 67, 68, 69, 70] (by decide +kernel) (by decide +kernel)
set_option maxRecDepth 20000 in
theorem gX3_read_X3_isWhole : GoodIn wsX3_read (wsV RX3 35 RX3 yX3_isWhole wsX3_isWhole) := goodIn_app (goodIn_of _ (by decide +kernel)) ggX3_read_X3_isWhole
theorem dX3_read_0 : decode cX3_read 0 = .ok (.aload_n 0, 1) := by decide +kernel
theorem dX3_read_1 : decode cX3_read 1 = .ok (.getfield 9, 3) := by decide +kernel
theorem dX3_read_4 : decode cX3_read 4 = .ok (.invokevirtual 15, 3) := by decide +kernel
theorem dX3_read_7 : decode cX3_read 7 = .ok (.aload_n 0, 1) := by decide +kernel
theorem dX3_read_8 : decode cX3_read 8 = .ok (.iconst 0, 1) := by decide +kernel
theorem dX3_read_9 : decode cX3_read 9 = .ok (.putfield 20, 3) := by decide +kernel
theorem dX3_read_12 : decode cX3_read 12 = .ok (.iload_n 2, 1) := by decide +kernel
theorem dX3_read_13 : decode cX3_read 13 = .ok (.aload_n 1, 1) := by decide +kernel
theorem dX3_read_14 : decode cX3_read 14 = .ok (.arraylength, 1) := by decide +kernel
theorem dX3_read_15 : decode cX3_read 15 = .ok (.invokestatic 24, 3) := by decide +kernel
theorem dX3_read_18 : decode cX3_read 18 = .ok (.istore_n 3, 1) := by decide +kernel
theorem dX3_read_19 : decode cX3_read 19 = .ok (.iconst 0, 1) := by decide +kernel
theorem dX3_read_20 : decode cX3_read 20 = .ok (.istore 4, 2) := by decide +kernel
theorem dX3_read_22 : decode cX3_read 22 = .ok (.iconst 0, 1) := by decide +kernel
theorem dX3_read_23 : decode cX3_read 23 = .ok (.istore 5, 2) := by decide +kernel
theorem dX3_read_25 : decode cX3_read 25 = .ok (.iload 5, 2) := by decide +kernel
theorem dX3_read_27 : decode cX3_read 27 = .ok (.ldc 30, 2) := by decide +kernel
theorem dX3_read_29 : decode cX3_read 29 = .ok (.if_icmp .ge 53, 3) := by decide +kernel
theorem dX3_read_32 : decode cX3_read 32 = .ok (.iload 4, 2) := by decide +kernel
theorem dX3_read_34 : decode cX3_read 34 = .ok (.iload_n 3, 1) := by decide +kernel
theorem dX3_read_35 : decode cX3_read 35 = .ok (.if_icmp .ge 47, 3) := by decide +kernel
theorem dX3_read_38 : decode cX3_read 38 = .ok (.aload_n 1, 1) := by decide +kernel
theorem dX3_read_39 : decode cX3_read 39 = .ok (.iload 4, 2) := by decide +kernel
theorem dX3_read_41 : decode cX3_read 41 = .ok (.iaload, 1) := by decide +kernel
theorem dX3_read_42 : decode cX3_read 42 = .ok (.bipush 32, 2) := by decide +kernel
theorem dX3_read_44 : decode cX3_read 44 = .ok (.if_icmp .ne 7, 3) := by decide +kernel
theorem dX3_read_47 : decode cX3_read 47 = .ok (.iconst 1, 1) := by decide +kernel
theorem dX3_read_48 : decode cX3_read 48 = .ok (.goto 11, 3) := by decide +kernel
theorem dX3_read_51 : decode cX3_read 51 = .ok (.aload_n 0, 1) := by decide +kernel
theorem dX3_read_52 : decode cX3_read 52 = .ok (.aload_n 1, 1) := by decide +kernel
theorem dX3_read_53 : decode cX3_read 53 = .ok (.iload_n 3, 1) := by decide +kernel
theorem dX3_read_54 : decode cX3_read 54 = .ok (.iload 4, 2) := by decide +kernel
theorem dX3_read_59 : decode cX3_read 59 = .ok (.istore 6, 2) := by decide +kernel
theorem dX3_read_61 : decode cX3_read 61 = .ok (.iload 6, 2) := by decide +kernel
theorem dX3_read_63 : decode cX3_read 63 = .ok (.ifCond .ne 6, 3) := by decide +kernel
theorem dX3_read_66 : decode cX3_read 66 = .ok (.iload 4, 2) := by decide +kernel
theorem dX3_read_68 : decode cX3_read 68 = .ok (.ireturn, 1) := by decide +kernel
theorem dX3_read_69 : decode cX3_read 69 = .ok (.iload 4, 2) := by decide +kernel
theorem dX3_read_71 : decode cX3_read 71 = .ok (.iload 6, 2) := by decide +kernel
theorem dX3_read_73 : decode cX3_read 73 = .ok (.iadd, 1) := by decide +kernel
theorem dX3_read_74 : decode cX3_read 74 = .ok (.istore 4, 2) := by decide +kernel
theorem dX3_read_76 : decode cX3_read 76 = .ok (.iinc 5 1, 3) := by decide +kernel
theorem dX3_read_79 : decode cX3_read 79 = .ok (.goto (-54), 3) := by decide +kernel
theorem dX3_read_82 : decode cX3_read 82 = .ok (.aload_n 0, 1) := by decide +kernel
theorem dX3_read_83 : decode cX3_read 83 = .ok (.invokevirtual 35, 3) := by decide +kernel
theorem dX3_read_86 : decode cX3_read 86 = .ok (.ifCond .eq 7, 3) := by decide +kernel
theorem dX3_read_89 : decode cX3_read 89 = .ok (.iconst (-1), 1) := by decide +kernel
theorem dX3_read_90 : decode cX3_read 90 = .ok (.goto 4, 3) := by decide +kernel
theorem dX3_read_93 : decode cX3_read 93 = .ok (.iload_n 3, 1) := by decide +kernel
theorem dX3_read_94 : decode cX3_read 94 = .ok (.ireturn, 1) := by decide +kernel
theorem dX3_isWhole_0 : decode cX3_isWhole 0 = .ok (.aload_n 0, 1) := by decide +kernel
theorem dX3_isWhole_1 : decode cX3_isWhole 1 = .ok (.getfield 20, 3) := by decide +kernel
theorem dX3_isWhole_4 : decode cX3_isWhole 4 = .ok (.ifCond .ne 20, 3) := by decide +kernel
theorem dX3_isWhole_7 : decode cX3_isWhole 7 = .ok (.aload_n 0, 1) := by decide +kernel
theorem dX3_isWhole_8 : decode cX3_isWhole 8 = .ok (.getfield 9, 3) := by decide +kernel
theorem dX3_isWhole_11 : decode cX3_isWhole 11 = .ok (.getfield 39, 3) := by decide +kernel
theorem dX3_isWhole_14 : decode cX3_isWhole 14 = .ok (.sipush 480, 3) := by decide +kernel
theorem dX3_isWhole_17 : decode cX3_isWhole 17 = .ok (.if_icmp .le 7, 3) := by decide +kernel
theorem dX3_isWhole_20 : decode cX3_isWhole 20 = .ok (.iconst 1, 1) := by decide +kernel
theorem dX3_isWhole_21 : decode cX3_isWhole 21 = .ok (.goto 4, 3) := by decide +kernel
theorem dX3_isWhole_24 : decode cX3_isWhole 24 = .ok (.iconst 0, 1) := by decide +kernel
theorem dX3_isWhole_25 : decode cX3_isWhole 25 = .ok (.ireturn, 1) := by decide +kernel
theorem dX5_restart_0 : decode cX5_restart 0 = .ok (.aload_n 0, 1) := by decide +kernel
theorem dX5_restart_1 : decode cX5_restart 1 = .ok (.sipush 480, 3) := by decide +kernel
theorem dX5_restart_4 : decode cX5_restart 4 = .ok (.putfield 24, 3) := by decide +kernel
theorem dX5_restart_7 : decode cX5_restart 7 = .ok (.aload_n 0, 1) := by decide +kernel
theorem dX5_restart_8 : decode cX5_restart 8 = .ok (.iconst (-1), 1) := by decide +kernel
theorem dX5_restart_9 : decode cX5_restart 9 = .ok (.putfield 28, 3) := by decide +kernel
theorem dX5_restart_12 : decode cX5_restart 12 = .ok (.return_, 1) := by decide +kernel
theorem dX7_forgetExpansion_0 : decode cX7_forgetExpansion 0 = .ok (.aload_n 0, 1) := by decide +kernel
theorem dX7_forgetExpansion_1 : decode cX7_forgetExpansion 1 = .ok (.getstatic 24, 3) := by decide +kernel
theorem dX7_forgetExpansion_4 : decode cX7_forgetExpansion 4 = .ok (.arraylength, 1) := by decide +kernel
theorem dX7_forgetExpansion_5 : decode cX7_forgetExpansion 5 = .ok (.aload_n 0, 1) := by decide +kernel
theorem dX7_forgetExpansion_6 : decode cX7_forgetExpansion 6 = .ok (.getfield 37, 3) := by decide +kernel
theorem dX7_forgetExpansion_9 : decode cX7_forgetExpansion 9 = .ok (.iadd, 1) := by decide +kernel
theorem dX7_forgetExpansion_10 : decode cX7_forgetExpansion 10 = .ok (.putfield 33, 3) := by decide +kernel
theorem dX7_forgetExpansion_13 : decode cX7_forgetExpansion 13 = .ok (.return_, 1) := by decide +kernel
set_option maxRecDepth 20000 in
theorem ggX8_type_X8_appendTyped : GoodIn wsX8_type wsX8_appendTyped := goodIn_r _ [6, 1, 7, 8, 9, 10, 11, 12, 13, 14, 15] (by decide +kernel) (by decide +kernel)
set_option maxRecDepth 20000 in
theorem gX8_type_X8_appendTyped : GoodIn wsX8_type (wsV RX8 63 RX8 yX8_appendTyped wsX8_appendTyped) := goodIn_app (goodIn_of _ (by decide +kernel)) ggX8_type_X8_appendTyped
theorem dX8_type_0 : decode cX8_type 0 = .ok (.iload_n 2, 1) := by decide +kernel
theorem dX8_type_1 : decode cX8_type 1 = .ok (.iconst 1, 1) := by decide +kernel
theorem dX8_type_2 : decode cX8_type 2 = .ok (.if_icmp .lt 19, 3) := by decide +kernel
theorem dX8_type_5 : decode cX8_type 5 = .ok (.iload_n 2, 1) := by decide +kernel
theorem dX8_type_6 : decode cX8_type 6 = .ok (.iconst 4, 1) := by decide +kernel
theorem dX8_type_7 : decode cX8_type 7 = .ok (.if_icmp .gt 14, 3) := by decide +kernel
theorem dX8_type_10 : decode cX8_type 10 = .ok (.aload_n 0, 1) := by decide +kernel
theorem dX8_type_11 : decode cX8_type 11 = .ok (.getfield 59, 3) := by decide +kernel
theorem dX8_type_14 : decode cX8_type 14 = .ok (.iload_n 2, 1) := by decide +kernel
theorem dX8_type_15 : decode cX8_type 15 = .ok (.iadd, 1) := by decide +kernel
theorem dX8_type_16 : decode cX8_type 16 = .ok (.bipush 120, 2) := by decide +kernel
theorem dX8_type_18 : decode cX8_type 18 = .ok (.if_icmp .le 5, 3) := by decide +kernel
theorem dX8_type_21 : decode cX8_type 21 = .ok (.iconst 0, 1) := by decide +kernel
theorem dX8_type_22 : decode cX8_type 22 = .ok (.ireturn, 1) := by decide +kernel
theorem dX8_type_23 : decode cX8_type 23 = .ok (.iconst 0, 1) := by decide +kernel
theorem dX8_type_24 : decode cX8_type 24 = .ok (.istore_n 3, 1) := by decide +kernel
theorem dX8_type_25 : decode cX8_type 25 = .ok (.iload_n 3, 1) := by decide +kernel
theorem dX8_type_26 : decode cX8_type 26 = .ok (.iload_n 2, 1) := by decide +kernel
theorem dX8_type_27 : decode cX8_type 27 = .ok (.if_icmp .ge 37, 3) := by decide +kernel
theorem dX8_type_30 : decode cX8_type 30 = .ok (.iload_n 1, 1) := by decide +kernel
theorem dX8_type_31 : decode cX8_type 31 = .ok (.bipush 8, 2) := by decide +kernel
theorem dX8_type_33 : decode cX8_type 33 = .ok (.iload_n 3, 1) := by decide +kernel
theorem dX8_type_34 : decode cX8_type 34 = .ok (.imul, 1) := by decide +kernel
theorem dX8_type_35 : decode cX8_type 35 = .ok (.ishr, 1) := by decide +kernel
theorem dX8_type_36 : decode cX8_type 36 = .ok (.sipush 255, 3) := by decide +kernel
theorem dX8_type_39 : decode cX8_type 39 = .ok (.iand, 1) := by decide +kernel
theorem dX8_type_40 : decode cX8_type 40 = .ok (.istore 4, 2) := by decide +kernel
theorem dX8_type_42 : decode cX8_type 42 = .ok (.iload 4, 2) := by decide +kernel
theorem dX8_type_44 : decode cX8_type 44 = .ok (.bipush 32, 2) := by decide +kernel
theorem dX8_type_46 : decode cX8_type 46 = .ok (.if_icmp .lt 10, 3) := by decide +kernel
theorem dX8_type_49 : decode cX8_type 49 = .ok (.iload 4, 2) := by decide +kernel
theorem dX8_type_51 : decode cX8_type 51 = .ok (.bipush 126, 2) := by decide +kernel
theorem dX8_type_53 : decode cX8_type 53 = .ok (.if_icmp .le 5, 3) := by decide +kernel
theorem dX8_type_56 : decode cX8_type 56 = .ok (.iconst 0, 1) := by decide +kernel
theorem dX8_type_57 : decode cX8_type 57 = .ok (.ireturn, 1) := by decide +kernel
theorem dX8_type_58 : decode cX8_type 58 = .ok (.iinc 3 1, 3) := by decide +kernel
theorem dX8_type_61 : decode cX8_type 61 = .ok (.goto (-36), 3) := by decide +kernel
theorem dX8_type_64 : decode cX8_type 64 = .ok (.iload_n 2, 1) := by decide +kernel
theorem dX8_type_65 : decode cX8_type 65 = .ok (.iconst 1, 1) := by decide +kernel
theorem dX8_type_66 : decode cX8_type 66 = .ok (.isub, 1) := by decide +kernel
theorem dX8_type_67 : decode cX8_type 67 = .ok (.istore_n 3, 1) := by decide +kernel
theorem dX8_type_68 : decode cX8_type 68 = .ok (.iload_n 3, 1) := by decide +kernel
theorem dX8_type_69 : decode cX8_type 69 = .ok (.ifCond .lt 23, 3) := by decide +kernel
theorem dX8_type_72 : decode cX8_type 72 = .ok (.aload_n 0, 1) := by decide +kernel
theorem dX8_type_73 : decode cX8_type 73 = .ok (.iload_n 1, 1) := by decide +kernel
theorem dX8_type_74 : decode cX8_type 74 = .ok (.bipush 8, 2) := by decide +kernel
theorem dX8_type_76 : decode cX8_type 76 = .ok (.iload_n 3, 1) := by decide +kernel
theorem dX8_type_77 : decode cX8_type 77 = .ok (.imul, 1) := by decide +kernel
theorem dX8_type_78 : decode cX8_type 78 = .ok (.ishr, 1) := by decide +kernel
theorem dX8_type_79 : decode cX8_type 79 = .ok (.sipush 255, 3) := by decide +kernel
theorem dX8_type_82 : decode cX8_type 82 = .ok (.iand, 1) := by decide +kernel
theorem dX8_type_83 : decode cX8_type 83 = .ok (.invokevirtual 63, 3) := by decide +kernel
theorem dX8_type_86 : decode cX8_type 86 = .ok (.iinc 3 (-1), 3) := by decide +kernel
theorem dX8_type_89 : decode cX8_type 89 = .ok (.goto (-21), 3) := by decide +kernel
theorem dX8_type_92 : decode cX8_type 92 = .ok (.iconst 1, 1) := by decide +kernel
theorem dX8_type_93 : decode cX8_type 93 = .ok (.ireturn, 1) := by decide +kernel
set_option maxRecDepth 20000 in
theorem ggX8_rules_X8_takeTyped : GoodIn wsX8_rules wsX8_takeTyped := goodIn_r _ [8, 9, 10, 11, 12, 13, 14, 15, 16, 17, 18, 19, 20, 21, 22, 23, 24, 25, 26, 27, 28, 29, 30, 31, 32, 33, 34, 35, 36, 37, 38, 39, 40, 41, 42, 43, 44, 45, 46, 47, 48, 49, 50, 51, 52, 53, 54, 55, 56, 57, 58, 59, 60, 61, 62, 63, 64, 65, 66, 67, 68, 69, 70, 71, 72, 73, 74, 75, 76, 77, 182, 183, 184, 185, 186, 187, 188, 189, 196, 197, 198, 199, 200, 201, 202, 203] (by decide +kernel) (by decide +kernel)
set_option maxRecDepth 20000 in
theorem gX8_rules_X8_takeTyped : GoodIn wsX8_rules (wsV RX8 67 RX8 yX8_takeTyped wsX8_takeTyped) := goodIn_app (goodIn_of _ (by decide +kernel)) ggX8_rules_X8_takeTyped
theorem dX8_rules_0 : decode cX8_rules 0 = .ok (.aload_n 0, 1) := by decide +kernel
theorem dX8_rules_1 : decode cX8_rules 1 = .ok (.invokevirtual 67, 3) := by decide +kernel
theorem dX8_rules_4 : decode cX8_rules 4 = .ok (.istore_n 1, 1) := by decide +kernel
theorem dX8_rules_5 : decode cX8_rules 5 = .ok (.iload_n 1, 1) := by decide +kernel
theorem dX8_rules_6 : decode cX8_rules 6 = .ok (.ifCond .lt 7, 3) := by decide +kernel
theorem dX8_rules_9 : decode cX8_rules 9 = .ok (.iconst (-1), 1) := by decide +kernel
theorem dX8_rules_10 : decode cX8_rules 10 = .ok (.iload_n 1, 1) := by decide +kernel
theorem dX8_rules_11 : decode cX8_rules 11 = .ok (.isub, 1) := by decide +kernel
theorem dX8_rules_12 : decode cX8_rules 12 = .ok (.ireturn, 1) := by decide +kernel
theorem dX8_rules_13 : decode cX8_rules 13 = .ok (.aload_n 0, 1) := by decide +kernel
theorem dX8_rules_14 : decode cX8_rules 14 = .ok (.getfield 32, 3) := by decide +kernel
theorem dX8_rules_17 : decode cX8_rules 17 = .ok (.sipush 480, 3) := by decide +kernel
set_option maxRecDepth 20000 in
theorem ggX8_expand_X8_takeTyped : GoodIn wsX8_expand wsX8_takeTyped := goodIn_r _ [7, 8, 9, 10, 11, 12, 13, 14, 15, 16, 17, 18, 19, 20, 21, 22, 23, 24, 25, 26, 27, 28, 29, 30, 31, 32, 33, 34, 35, 36, 37, 38, 39, 40, 41, 42, 43, 44, 45, 46, 47, 48, 49, 50, 51, 52, 53, 54, 55, 56, 57, 58, 59, 60, 61, 62, 63, 64, 65, 66, 67, 68, 69, 70, 71, 72, 73, 74, 75, 76, 399, 400, 401, 402, 403, 404, 405, 406, 410, 411, 412, 413, 414, 415, 416, 417] (by decide +kernel) (by decide +kernel)
set_option maxRecDepth 20000 in
theorem gX8_expand_X8_takeTyped : GoodIn wsX8_expand (wsV RX8 67 RX8 yX8_takeTyped wsX8_takeTyped) := goodIn_app (goodIn_of _ (by decide +kernel)) ggX8_expand_X8_takeTyped
set_option maxRecDepth 20000 in
theorem ggX8_expand_X2_clear : GoodIn wsX8_expand wsX2_clear := goodIn_r _ [81, 82, 83, 407, 408, 409] (by decide +kernel) (by decide +kernel)
set_option maxRecDepth 20000 in
theorem gX8_expand_X2_clear : GoodIn wsX8_expand (wsV RX8 93 RX2 yX2_clear wsX2_clear) := goodIn_app (goodIn_of _ (by decide +kernel)) ggX8_expand_X2_clear
set_option maxRecDepth 20000 in
theorem ggX8_expand_X0_start : GoodIn wsX8_expand wsX0_start := goodIn_r _ [88, 89, 90, 91, 92, 93, 94, 95, 96, 97, 98, 99, 100, 418, 419, 420, 421, 422, 423, 424, 425, 426, 427, 428, 429, 430, 431, 432] (by decide +kernel) (by decide +kernel)
set_option maxRecDepth 20000 in
theorem gX8_expand_X0_start : GoodIn wsX8_expand (wsV RX8 96 RX0 yX0_start wsX0_start) := goodIn_app (goodIn_of _ (by decide +kernel)) ggX8_expand_X0_start
theorem dX8_expand_0 : decode cX8_expand 0 = .ok (.iload_n 1, 1) := by decide +kernel
theorem dX8_expand_1 : decode cX8_expand 1 = .ok (.ifCond .lt 9, 3) := by decide +kernel
theorem dX8_expand_4 : decode cX8_expand 4 = .ok (.iload_n 1, 1) := by decide +kernel
theorem dX8_expand_5 : decode cX8_expand 5 = .ok (.bipush 8, 2) := by decide +kernel
theorem dX8_expand_7 : decode cX8_expand 7 = .ok (.if_icmp .le 7, 3) := by decide +kernel
theorem dX8_expand_10 : decode cX8_expand 10 = .ok (.sipush (-7000), 3) := by decide +kernel
theorem dX8_expand_13 : decode cX8_expand 13 = .ok (.ireturn, 1) := by decide +kernel
theorem dX8_expand_14 : decode cX8_expand 14 = .ok (.aload_n 0, 1) := by decide +kernel
theorem dX8_expand_15 : decode cX8_expand 15 = .ok (.invokevirtual 67, 3) := by decide +kernel
theorem dX8_expand_18 : decode cX8_expand 18 = .ok (.istore_n 2, 1) := by decide +kernel
theorem dX8_expand_19 : decode cX8_expand 19 = .ok (.aload_n 0, 1) := by decide +kernel
theorem dX8_expand_20 : decode cX8_expand 20 = .ok (.getfield 46, 3) := by decide +kernel
theorem dX8_expand_23 : decode cX8_expand 23 = .ok (.invokevirtual 93, 3) := by decide +kernel
theorem dX8_expand_26 : decode cX8_expand 26 = .ok (.aload_n 0, 1) := by decide +kernel
theorem dX8_expand_27 : decode cX8_expand 27 = .ok (.getfield 55, 3) := by decide +kernel
theorem dX8_expand_30 : decode cX8_expand 30 = .ok (.iload_n 2, 1) := by decide +kernel
theorem dX8_expand_31 : decode cX8_expand 31 = .ok (.ifCond .lt 7, 3) := by decide +kernel
theorem dX8_expand_34 : decode cX8_expand 34 = .ok (.iconst 0, 1) := by decide +kernel
theorem dX8_expand_35 : decode cX8_expand 35 = .ok (.goto 4, 3) := by decide +kernel
theorem dX8_expand_38 : decode cX8_expand 38 = .ok (.iload_n 1, 1) := by decide +kernel
theorem dX8_expand_39 : decode cX8_expand 39 = .ok (.invokevirtual 96, 3) := by decide +kernel
theorem dX8_expand_42 : decode cX8_expand 42 = .ok (.iload_n 2, 1) := by decide +kernel
theorem dX8_expand_43 : decode cX8_expand 43 = .ok (.ifCond .lt 7, 3) := by decide +kernel
theorem dX8_expand_46 : decode cX8_expand 46 = .ok (.iconst (-1), 1) := by decide +kernel
theorem dX8_expand_47 : decode cX8_expand 47 = .ok (.iload_n 2, 1) := by decide +kernel
theorem dX8_expand_48 : decode cX8_expand 48 = .ok (.isub, 1) := by decide +kernel
theorem dX8_expand_49 : decode cX8_expand 49 = .ok (.ireturn, 1) := by decide +kernel
theorem dX8_expand_50 : decode cX8_expand 50 = .ok (.aload_n 0, 1) := by decide +kernel
theorem dX8_expand_51 : decode cX8_expand 51 = .ok (.getfield 55, 3) := by decide +kernel
theorem dX8_expand_54 : decode cX8_expand 54 = .ok (.sipush 480, 3) := by decide +kernel
theorem dX8_expand_57 : decode cX8_expand 57 = .ok (.iconst 0, 1) := by decide +kernel
set_option maxRecDepth 20000 in
theorem ggX8_at_X2_charAt : GoodIn wsX8_at wsX2_charAt := goodIn_r _ [6, 7, 8, 17, 18, 19] (by decide +kernel) (by decide +kernel)
set_option maxRecDepth 20000 in
theorem gX8_at_X2_charAt : GoodIn wsX8_at (wsV RX8 109 RX2 yX2_charAt wsX2_charAt) := goodIn_app (goodIn_of _ (by decide +kernel)) ggX8_at_X2_charAt
theorem dX8_at_0 : decode cX8_at 0 = .ok (.aload_n 0, 1) := by decide +kernel
theorem dX8_at_1 : decode cX8_at 1 = .ok (.getfield 46, 3) := by decide +kernel
theorem dX8_at_4 : decode cX8_at 4 = .ok (.iload_n 1, 1) := by decide +kernel
theorem dX8_at_5 : decode cX8_at 5 = .ok (.invokevirtual 109, 3) := by decide +kernel
theorem dX8_at_8 : decode cX8_at 8 = .ok (.ireturn, 1) := by decide +kernel
theorem dX8_count_0 : decode cX8_count 0 = .ok (.iload_n 1, 1) := by decide +kernel
theorem dX8_count_1 : decode cX8_count 1 = .ok (.tableswitch 63 0 3 #[31, 39, 47, 55], 31) := by decide +kernel
theorem dX8_count_32 : decode cX8_count 32 = .ok (.aload_n 0, 1) := by decide +kernel
theorem dX8_count_33 : decode cX8_count 33 = .ok (.getfield 55, 3) := by decide +kernel
theorem dX8_count_36 : decode cX8_count 36 = .ok (.getfield 112, 3) := by decide +kernel
theorem dX8_count_39 : decode cX8_count 39 = .ok (.ireturn, 1) := by decide +kernel
theorem dX8_count_40 : decode cX8_count 40 = .ok (.aload_n 0, 1) := by decide +kernel
theorem dX8_count_41 : decode cX8_count 41 = .ok (.getfield 55, 3) := by decide +kernel
theorem dX8_count_44 : decode cX8_count 44 = .ok (.getfield 115, 3) := by decide +kernel
theorem dX8_count_47 : decode cX8_count 47 = .ok (.ireturn, 1) := by decide +kernel
theorem dX8_count_48 : decode cX8_count 48 = .ok (.aload_n 0, 1) := by decide +kernel
theorem dX8_count_49 : decode cX8_count 49 = .ok (.getfield 55, 3) := by decide +kernel
theorem dX8_count_52 : decode cX8_count 52 = .ok (.getfield 118, 3) := by decide +kernel
theorem dX8_count_55 : decode cX8_count 55 = .ok (.ireturn, 1) := by decide +kernel
theorem dX8_count_56 : decode cX8_count 56 = .ok (.aload_n 0, 1) := by decide +kernel
theorem dX8_count_57 : decode cX8_count 57 = .ok (.getfield 55, 3) := by decide +kernel
theorem dX8_count_60 : decode cX8_count 60 = .ok (.getfield 121, 3) := by decide +kernel
theorem dX8_count_63 : decode cX8_count 63 = .ok (.ireturn, 1) := by decide +kernel
theorem dX8_count_64 : decode cX8_count 64 = .ok (.iconst (-1), 1) := by decide +kernel
theorem dX8_count_65 : decode cX8_count 65 = .ok (.ireturn, 1) := by decide +kernel
theorem dX8_appendTyped_0 : decode cX8_appendTyped 0 = .ok (.aload_n 0, 1) := by decide +kernel
theorem dX8_appendTyped_1 : decode cX8_appendTyped 1 = .ok (.getfield 59, 3) := by decide +kernel
theorem dX8_appendTyped_4 : decode cX8_appendTyped 4 = .ok (.ifCond .lt 35, 3) := by decide +kernel
theorem dX8_appendTyped_7 : decode cX8_appendTyped 7 = .ok (.aload_n 0, 1) := by decide +kernel
theorem dX8_appendTyped_8 : decode cX8_appendTyped 8 = .ok (.getfield 59, 3) := by decide +kernel
theorem dX8_appendTyped_11 : decode cX8_appendTyped 11 = .ok (.aload_n 0, 1) := by decide +kernel
theorem dX8_appendTyped_12 : decode cX8_appendTyped 12 = .ok (.getfield 9, 3) := by decide +kernel
theorem dX8_appendTyped_15 : decode cX8_appendTyped 15 = .ok (.arraylength, 1) := by decide +kernel
theorem dX8_appendTyped_16 : decode cX8_appendTyped 16 = .ok (.if_icmp .ge 23, 3) := by decide +kernel
theorem dX8_appendTyped_19 : decode cX8_appendTyped 19 = .ok (.aload_n 0, 1) := by decide +kernel
theorem dX8_appendTyped_20 : decode cX8_appendTyped 20 = .ok (.getfield 9, 3) := by decide +kernel
theorem dX8_appendTyped_23 : decode cX8_appendTyped 23 = .ok (.aload_n 0, 1) := by decide +kernel
theorem dX8_appendTyped_24 : decode cX8_appendTyped 24 = .ok (.getfield 59, 3) := by decide +kernel
theorem dX8_appendTyped_27 : decode cX8_appendTyped 27 = .ok (.iload_n 1, 1) := by decide +kernel
theorem dX8_appendTyped_28 : decode cX8_appendTyped 28 = .ok (.iastore, 1) := by decide +kernel
theorem dX8_appendTyped_29 : decode cX8_appendTyped 29 = .ok (.aload_n 0, 1) := by decide +kernel
theorem dX8_appendTyped_30 : decode cX8_appendTyped 30 = .ok (.dup, 1) := by decide +kernel
theorem dX8_appendTyped_31 : decode cX8_appendTyped 31 = .ok (.getfield 59, 3) := by decide +kernel
theorem dX8_appendTyped_34 : decode cX8_appendTyped 34 = .ok (.iconst 1, 1) := by decide +kernel
theorem dX8_appendTyped_35 : decode cX8_appendTyped 35 = .ok (.iadd, 1) := by decide +kernel
theorem dX8_appendTyped_36 : decode cX8_appendTyped 36 = .ok (.putfield 59, 3) := by decide +kernel
theorem dX8_appendTyped_39 : decode cX8_appendTyped 39 = .ok (.return_, 1) := by decide +kernel
set_option maxRecDepth 20000 in
theorem ggX8_takeTyped_X3_read : GoodIn wsX8_takeTyped wsX3_read := goodIn_r _ [8, 9, 10, 11, 12, 13, 14, 15, 16, 17, 18, 19, 20, 21, 22, 23, 24, 25, 7, 26, 27, 28, 29, 30, 31, 32, 33, 34, 35, 36, 37, 38, 39, 40, 41, 42, 43, 44, 45, 46, 47, 48, 49, 50, 51, 52, 53, 54, 55, 56, 57, 58, 59, 60, 61, 62, 63, 64, 65, 66, 67, 68, 69, 78, 79, 80, 81, 82, 83, 84, 85] (by decide +kernel) (by decide +kernel)
set_option maxRecDepth 20000 in
theorem gX8_takeTyped_X3_read : GoodIn wsX8_takeTyped (wsV RX8 124 RX3 yX3_read wsX3_read) := goodIn_app (goodIn_of _ (by decide +kernel)) ggX8_takeTyped_X3_read
theorem dX8_takeTyped_0 : decode cX8_takeTyped 0 = .ok (.aload_n 0, 1) := by decide +kernel
theorem dX8_takeTyped_1 : decode cX8_takeTyped 1 = .ok (.getfield 25, 3) := by decide +kernel
theorem dX8_takeTyped_4 : decode cX8_takeTyped 4 = .ok (.aload_n 0, 1) := by decide +kernel
theorem dX8_takeTyped_5 : decode cX8_takeTyped 5 = .ok (.getfield 9, 3) := by decide +kernel
theorem dX8_takeTyped_8 : decode cX8_takeTyped 8 = .ok (.aload_n 0, 1) := by decide +kernel
theorem dX8_takeTyped_9 : decode cX8_takeTyped 9 = .ok (.getfield 59, 3) := by decide +kernel
theorem dX8_takeTyped_12 : decode cX8_takeTyped 12 = .ok (.invokevirtual 124, 3) := by decide +kernel
theorem dX8_takeTyped_15 : decode cX8_takeTyped 15 = .ok (.istore_n 1, 1) := by decide +kernel
theorem dX8_takeTyped_16 : decode cX8_takeTyped 16 = .ok (.aload_n 0, 1) := by decide +kernel
theorem dX8_takeTyped_17 : decode cX8_takeTyped 17 = .ok (.iconst 0, 1) := by decide +kernel
theorem dX8_takeTyped_18 : decode cX8_takeTyped 18 = .ok (.putfield 59, 3) := by decide +kernel
theorem dX8_takeTyped_21 : decode cX8_takeTyped 21 = .ok (.iload_n 1, 1) := by decide +kernel
theorem dX8_takeTyped_22 : decode cX8_takeTyped 22 = .ok (.ireturn, 1) := by decide +kernel
theorem iw_X8_type_X8 : ∀ w ∈ wsX80, w ∈ wsX8_type := by decide +kernel
theorem lk_X8_type_59 : Cond.fieldLink RX8 59 "MarkedNames" "typedLength" "I" ∈ wsX8_type := by decide +kernel
theorem iw_X8_appendTyped_X8 : ∀ w ∈ wsX80, w ∈ wsX8_appendTyped := by decide +kernel
theorem lk_X8_appendTyped_59 : Cond.fieldLink RX8 59 "MarkedNames" "typedLength" "I" ∈ wsX8_appendTyped := by decide +kernel
theorem lk_X8_appendTyped_9 : Cond.fieldLink RX8 9 "MarkedNames" "typed" "[I" ∈ wsX8_appendTyped := by decide +kernel
theorem iw_X8_takeTyped_X8 : ∀ w ∈ wsX80, w ∈ wsX8_takeTyped := by decide +kernel
theorem lk_X8_takeTyped_25 : Cond.fieldLink RX8 25 "MarkedNames" "reader" "LMarkedNames$Reader;" ∈ wsX8_takeTyped := by decide +kernel
theorem lk_X8_takeTyped_9 : Cond.fieldLink RX8 9 "MarkedNames" "typed" "[I" ∈ wsX8_takeTyped := by decide +kernel
theorem lk_X8_takeTyped_59 : Cond.fieldLink RX8 59 "MarkedNames" "typedLength" "I" ∈ wsX8_takeTyped := by decide +kernel
theorem iw_X3_read_X3 : ∀ w ∈ wsX30, w ∈ wsX3_read := by decide +kernel
theorem lk_X3_read_9 : Cond.fieldLink RX3 9 "MarkedNames$Reader" "row" "LMarkedNames$Row;" ∈ wsX3_read := by decide +kernel
theorem iw_X5_restart_X5 : ∀ w ∈ wsX50, w ∈ wsX5_restart := by decide +kernel
theorem lk_X5_restart_24 : Cond.fieldLink RX5 24 "MarkedNames$Row" "top" "I" ∈ wsX5_restart := by decide +kernel
theorem lk_X5_restart_28 : Cond.fieldLink RX5 28 "MarkedNames$Row" "open" "I" ∈ wsX5_restart := by decide +kernel
theorem lk_X3_read_20 : Cond.fieldLink RX3 20 "MarkedNames$Reader" "depth" "I" ∈ wsX3_read := by decide +kernel
theorem ml_X3_read_24 : Cond.methodLink RX3 24 Lib.Math.min.name ∈ wsX3_read := by decide +kernel
theorem ms_X3_read_min : Cond.static Lib.Math.min.name ∈ wsX3_read := by decide +kernel
theorem mi_X3_read_Math : Cond.initialized "java/lang/Math" ∈ wsX3_read := by decide +kernel
theorem mc_X3_read_min : Cond.code Lib.Math.min.name Lib.Math.min.code 2 (some .int) ∈ wsX3_read := by decide +kernel
theorem mw_X3_read__constant_RX3_30_1000000_Int32_ : Cond.constant RX3 30 (1000000 : Int32) ∈ wsX3_read := by decide +kernel
theorem iw_X3_isWhole_X3 : ∀ w ∈ wsX30, w ∈ wsX3_isWhole := by decide +kernel
theorem lk_X3_isWhole_20 : Cond.fieldLink RX3 20 "MarkedNames$Reader" "depth" "I" ∈ wsX3_isWhole := by decide +kernel
theorem lk_X3_isWhole_9 : Cond.fieldLink RX3 9 "MarkedNames$Reader" "row" "LMarkedNames$Row;" ∈ wsX3_isWhole := by decide +kernel
theorem iw_X3_isWhole_X5 : ∀ w ∈ wsX50, w ∈ wsX3_isWhole := by decide +kernel
theorem iw_X8_rules_X8 : ∀ w ∈ wsX80, w ∈ wsX8_rules := by decide +kernel
theorem lk_X8_rules_32 : Cond.fieldLink RX8 32 "MarkedNames" "check" "LMarkedNames$RuleCheck;" ∈ wsX8_rules := by decide +kernel
theorem iw_X8_expand_X8 : ∀ w ∈ wsX80, w ∈ wsX8_expand := by decide +kernel
theorem lk_X8_expand_46 : Cond.fieldLink RX8 46 "MarkedNames" "outcome" "LMarkedNames$Outcome;" ∈ wsX8_expand := by decide +kernel
theorem iw_X2_clear_X2 : ∀ w ∈ wsX20, w ∈ wsX2_clear := by decide +kernel
theorem lk_X2_clear_15 : Cond.fieldLink RX2 15 "MarkedNames$Outcome" "length" "I" ∈ wsX2_clear := by decide +kernel
theorem lk_X2_clear_19 : Cond.fieldLink RX2 19 "MarkedNames$Outcome" "error" "I" ∈ wsX2_clear := by decide +kernel
theorem lk_X8_expand_55 : Cond.fieldLink RX8 55 "MarkedNames" "expander" "LMarkedNames$Expander;" ∈ wsX8_expand := by decide +kernel
theorem iw_X0_start_X0 : ∀ w ∈ wsX00, w ∈ wsX0_start := by decide +kernel
theorem lk_X0_start_36 : Cond.fieldLink RX0 36 "MarkedNames$Expander" "scopes" "I" ∈ wsX0_start := by decide +kernel
theorem lk_X0_start_40 : Cond.fieldLink RX0 40 "MarkedNames$Expander" "bindings" "I" ∈ wsX0_start := by decide +kernel
theorem lk_X0_start_43 : Cond.fieldLink RX0 43 "MarkedNames$Expander" "variables" "I" ∈ wsX0_start := by decide +kernel
theorem lk_X0_start_46 : Cond.fieldLink RX0 46 "MarkedNames$Expander" "fuel" "I" ∈ wsX0_start := by decide +kernel
theorem lk_X0_start_19 : Cond.fieldLink RX0 19 "MarkedNames$Expander" "table" "LMarkedNames$Table;" ∈ wsX0_start := by decide +kernel
theorem iw_X7_forgetExpansion_X7 : ∀ w ∈ wsX70, w ∈ wsX7_forgetExpansion := by decide +kernel
theorem lk_X7_forgetExpansion_37 : Cond.fieldLink RX7 37 "MarkedNames$Table" "ownNames" "I" ∈ wsX7_forgetExpansion := by decide +kernel
theorem lk_X7_forgetExpansion_33 : Cond.fieldLink RX7 33 "MarkedNames$Table" "length" "I" ∈ wsX7_forgetExpansion := by decide +kernel
theorem iw_X8_at_X8 : ∀ w ∈ wsX80, w ∈ wsX8_at := by decide +kernel
theorem lk_X8_at_46 : Cond.fieldLink RX8 46 "MarkedNames" "outcome" "LMarkedNames$Outcome;" ∈ wsX8_at := by decide +kernel
theorem iw_X2_charAt_X2 : ∀ w ∈ wsX20, w ∈ wsX2_charAt := by decide +kernel
theorem lk_X2_charAt_15 : Cond.fieldLink RX2 15 "MarkedNames$Outcome" "length" "I" ∈ wsX2_charAt := by decide +kernel
theorem lk_X2_charAt_9 : Cond.fieldLink RX2 9 "MarkedNames$Outcome" "text" "[I" ∈ wsX2_charAt := by decide +kernel
theorem iw_X8_count_X8 : ∀ w ∈ wsX80, w ∈ wsX8_count := by decide +kernel
theorem lk_X8_count_55 : Cond.fieldLink RX8 55 "MarkedNames" "expander" "LMarkedNames$Expander;" ∈ wsX8_count := by decide +kernel
theorem iw_X8_count_X0 : ∀ w ∈ wsX00, w ∈ wsX8_count := by decide +kernel
section
variable {l : Launch} {p : Program} {e : Env} {s : State} {m : MethodId} {args : Array Value} {below : List Frame} {meth : Method} {c : Code} {A : Nat → Prop} {dC : Nat → ClassId} {dI : Nat → Nat → Nat} {cA : ClassId} {a b : Nat → Nat} {lev : Nat}
set_option maxHeartbeats 4000000 in
set_option maxRecDepth 100000 in
theorem X8_appendTyped_met (hlev : 0 ≤ lev) {x1 : Int32} {u : mS} {post : mS → Prop} (hw : wp_X8_appendTyped x1 u post) : mKv l yX8_appendTyped wsX8_appendTyped lev (eA a) (dC, dI) vwCl [(cA, .int)] (wA cA a) [.ref (a 0), .int x1] u post := by
  refine mKv_of (cc := cX8_appendTyped) (maxL := 2) (by decide) rfl rfl (Nat.le_of_ble_eq_true rfl) rfl ?_
  intro p e s m args below meth c A C hs
  unfold wp_X8_appendTyped at hw
  refine mv_aload_n C dX8_appendTyped_0 rfl 0 rfl ?_
  refine mv_get (v := .int (u.1 0)) C iw_X8_appendTyped_X8 0 rfl rfl 1 (by decide) lk_X8_appendTyped_59 rfl rfl dX8_appendTyped_1 ?_
  refine mv_topi (fun y1 ey1 => ?_)
  have hw := hw y1 ey1
  refine mv_if_lt (tgt := 39) C dX8_appendTyped_4 (by decide) (fun h2 => ?_) (fun h2 => ?_)
  · have hw := hw.1 h2
    exact mv_vret C dX8_appendTyped_39 hw
  · have hw := hw.2 h2
    refine mv_aload_n C dX8_appendTyped_7 rfl 0 rfl ?_
    refine mv_get (v := .int (u.1 0)) C iw_X8_appendTyped_X8 0 rfl rfl 1 (by decide) lk_X8_appendTyped_59 rfl rfl dX8_appendTyped_8 ?_
    refine mv_topi (fun y3 ey3 => ?_)
    have hw := hw y3 ey3
    refine mv_aload_n C dX8_appendTyped_11 rfl 0 rfl ?_
    refine mv_get (v := .ref (a 1)) C iw_X8_appendTyped_X8 0 rfl rfl 0 (by decide) lk_X8_appendTyped_9 rfl rfl dX8_appendTyped_12 ?_
    refine mv_alen (v := (120 : Int32)) C 1 0 rfl rfl (by decide) dX8_appendTyped_15 ?_
    refine mv_icmp_ge (tgt := 39) C dX8_appendTyped_16 (by decide) (fun h4 => ?_) (fun h4 => ?_)
    · have hw := hw.1 h4
      exact mv_vret C dX8_appendTyped_39 hw
    · have hw := hw.2 h4
      refine mv_aload_n C dX8_appendTyped_19 rfl 0 rfl ?_
      refine mv_get (v := .ref (a 1)) C iw_X8_appendTyped_X8 0 rfl rfl 0 (by decide) lk_X8_appendTyped_9 rfl rfl dX8_appendTyped_20 ?_
      refine mv_aload_n C dX8_appendTyped_23 rfl 0 rfl ?_
      refine mv_get (v := .int (u.1 0)) C iw_X8_appendTyped_X8 0 rfl rfl 1 (by decide) lk_X8_appendTyped_59 rfl rfl dX8_appendTyped_24 ?_
      refine mv_topi (fun y5 ey5 => ?_)
      have hw := hw y5 ey5
      refine mv_iload_n C dX8_appendTyped_27 rfl 1 rfl ?_
      refine mv_iast (f := u.2 0) (ws1 := wA cA a (mPut u 0 y5.toNatClampNeg x1)) C 1 0 rfl rfl hw.1 rfl dX8_appendTyped_28 ?_
      refine mv_nm (f := wA cA a) (fun u6 eu6 => ?_)
      have hw := hw.2 u6 eu6
      refine mv_aload_n C dX8_appendTyped_29 rfl 0 rfl ?_
      refine mv_dup C dX8_appendTyped_30 rfl ?_
      refine mv_get (v := .int (u6.1 0)) C iw_X8_appendTyped_X8 0 rfl rfl 1 (by decide) lk_X8_appendTyped_59 rfl rfl dX8_appendTyped_31 ?_
      refine mv_topi (fun y7 ey7 => ?_)
      have hw := hw y7 ey7
      refine mv_iconst (v := (1 : Int32)) C dX8_appendTyped_34 (by decide) ?_
      refine mv_iadd C dX8_appendTyped_35 ?_
      refine mv_topi (fun y8 ey8 => ?_)
      have hw := hw y8 ey8
      refine mv_put (ty := .int) (ws1 := wA cA a (mSet u6 0 y8)) C iw_X8_appendTyped_X8 tyX8 tyX8_ok nmX8 0 rfl rfl 1 (by decide) lk_X8_appendTyped_59 rfl rfl rfl rfl rfl (Nat.le_of_ble_eq_true rfl) rfl dX8_appendTyped_36 ?_
      refine mv_nm (f := wA cA a) (fun u9 eu9 => ?_)
      have hw := hw u9 eu9
      exact mv_vret C dX8_appendTyped_39 hw
set_option maxHeartbeats 4000000 in
set_option maxRecDepth 100000 in
theorem wj_X8_type_68_ok (C : mC p s m args meth c cX8_type 5 wsX8_type RX8 (some .boolean) (dC, dI) vwCl [(cA, .int)] A) (hs : eA a A s) (hlev : 1 ≤ lev) {post : Int32 → mS → Prop} {K68 : Int32 → Int32 → mS → Prop} (hK68 : ∀ (x1 x3 : Int32) (u : mS), K68 x1 x3 u → mV p l e (mRm lev) s m args below meth c 5 (dC, dI) vwCl A 0 0 (mQi below args s (dC, dI) vwCl [(cA, .int)] (wA cA a) A (fun r w => (r = 0 ∨ r = 1) ∧ post r w)) (wA cA a u) 68 [(0, .ref (a 0)), (1, .int x1), (3, .int x3)] []) {x1 x3 : Int32} {u : mS} (hw : wj_X8_type_68 K68 post x1 x3 u) : mV p l e (mRm lev) s m args below meth c 5 (dC, dI) vwCl A 0 0 (mQi below args s (dC, dI) vwCl [(cA, .int)] (wA cA a) A (fun r w => (r = 0 ∨ r = 1) ∧ post r w)) (wA cA a u) 68 [(0, .ref (a 0)), (1, .int x1), (3, .int x3)] [] := by
  unfold wj_X8_type_68 at hw
  refine mv_iload_n C dX8_type_68 rfl 2 rfl ?_
  refine mv_if_lt (tgt := 92) C dX8_type_69 (by decide) (fun h14 => ?_) (fun h14 => ?_)
  · have hw := hw.1 h14
    refine mv_iconst (v := (1 : Int32)) C dX8_type_92 (by decide) ?_
    exact mv_zret C dX8_type_93 (Or.inr rfl) hw
  · have hw := hw.2 h14
    refine mv_aload_n C dX8_type_72 rfl 0 rfl ?_
    refine mv_iload_n C dX8_type_73 rfl 1 rfl ?_
    refine mv_bipush (v := (8 : Int32)) C dX8_type_74 (by decide) ?_
    refine mv_iload_n C dX8_type_76 rfl 2 rfl ?_
    refine mv_imul C dX8_type_77 ?_
    refine mv_topi (fun y15 ey15 => ?_)
    have hw := hw y15 ey15
    refine mv_ishr C dX8_type_78 ?_
    refine mv_topi (fun y16 ey16 => ?_)
    have hw := hw y16 ey16
    refine mv_sipush (v := (255 : Int32)) C dX8_type_79 (by decide) ?_
    refine mv_iand C dX8_type_82 ?_
    refine mv_topi (fun y17 ey17 => ?_)
    have hw := hw y17 ey17
    refine mv_callVv (f := wA cA a) (As := [.int y17]) (rest := []) C (eA_ok a) hs 0 rfl rfl (X8_appendTyped_met (l := l) (lev := lev - 1) (by omega) hw) (cwV 1 C.2.2.2.2.1 gX8_type_X8_appendTyped rfl rfl rfl (by decide +kernel) (mRm_le (by omega) (by decide))) rfl rfl (Nat.le_of_ble_eq_true rfl) dX8_type_83 ⟨Nat.le_refl 0, Nat.le_refl 0⟩ (fun u19 hw => ?_)
    obtain ⟨y20, ey20⟩ : ∃ z : Int32, z = x3 + (-1 : Int32) := ⟨_, rfl⟩
    have hw := hw y20 ey20
    refine mv_iinc (v := y20) (lv1 := [(3, .int y20), (0, .ref (a 0)), (1, .int x1)]) C dX8_type_86 2 rfl (by rw [ey20]; rfl) (by decide) rfl ?_
    refine mv_goto (tgt := 68) C dX8_type_89 (by decide) ?_
    refine mv_sub [1, 2, 0] rfl ?_
    exact hK68 x1 y20 u19 hw
set_option maxHeartbeats 4000000 in
set_option maxRecDepth 100000 in
theorem wj_X8_type_25_ok (C : mC p s m args meth c cX8_type 5 wsX8_type RX8 (some .boolean) (dC, dI) vwCl [(cA, .int)] A) (hs : eA a A s) (hlev : 1 ≤ lev) {post : Int32 → mS → Prop} {K25 : Int32 → Int32 → Int32 → mS → Prop} (hK25 : ∀ (x1 x2 x3 : Int32) (u : mS), K25 x1 x2 x3 u → mV p l e (mRm lev) s m args below meth c 5 (dC, dI) vwCl A 0 0 (mQi below args s (dC, dI) vwCl [(cA, .int)] (wA cA a) A (fun r w => (r = 0 ∨ r = 1) ∧ post r w)) (wA cA a u) 25 [(0, .ref (a 0)), (1, .int x1), (2, .int x2), (3, .int x3)] []) {x1 x2 x3 : Int32} {u : mS} (hw : wj_X8_type_25 K25 post x1 x2 x3 u) : mV p l e (mRm lev) s m args below meth c 5 (dC, dI) vwCl A 0 0 (mQi below args s (dC, dI) vwCl [(cA, .int)] (wA cA a) A (fun r w => (r = 0 ∨ r = 1) ∧ post r w)) (wA cA a u) 25 [(0, .ref (a 0)), (1, .int x1), (2, .int x2), (3, .int x3)] [] := by
  unfold wj_X8_type_25 at hw
  refine mv_iload_n C dX8_type_25 rfl 3 rfl ?_
  refine mv_iload_n C dX8_type_26 rfl 2 rfl ?_
  refine mv_icmp_ge (tgt := 64) C dX8_type_27 (by decide) (fun h6 => ?_) (fun h6 => ?_)
  · have hw := hw.1 h6
    refine mv_iload_n C dX8_type_64 rfl 2 rfl ?_
    refine mv_iconst (v := (1 : Int32)) C dX8_type_65 (by decide) ?_
    refine mv_isub C dX8_type_66 ?_
    refine mv_topi (fun y7 ey7 => ?_)
    have hw := hw y7 ey7
    refine mv_istore_n (lv1 := [(3, .int y7), (0, .ref (a 0)), (1, .int x1), (2, .int x2)]) C dX8_type_67 rfl (by decide) rfl ?_
    refine mv_sub [1, 2, 0] rfl ?_
    obtain ⟨n, hw⟩ := hw
    exact mL3_of (fun K hK b0 b1 b2 hw => wj_X8_type_68_ok C hs hlev hK hw) n x1 y7 u hw
  · have hw := hw.2 h6
    refine mv_iload_n C dX8_type_30 rfl 1 rfl ?_
    refine mv_bipush (v := (8 : Int32)) C dX8_type_31 (by decide) ?_
    refine mv_iload_n C dX8_type_33 rfl 3 rfl ?_
    refine mv_imul C dX8_type_34 ?_
    refine mv_topi (fun y8 ey8 => ?_)
    have hw := hw y8 ey8
    refine mv_ishr C dX8_type_35 ?_
    refine mv_topi (fun y9 ey9 => ?_)
    have hw := hw y9 ey9
    refine mv_sipush (v := (255 : Int32)) C dX8_type_36 (by decide) ?_
    refine mv_iand C dX8_type_39 ?_
    refine mv_topi (fun y10 ey10 => ?_)
    have hw := hw y10 ey10
    refine mv_istore (lv1 := [(4, .int y10), (0, .ref (a 0)), (1, .int x1), (2, .int x2), (3, .int x3)]) C dX8_type_40 (by decide) rfl ?_
    refine mv_iload C dX8_type_42 0 rfl ?_
    refine mv_bipush (v := (32 : Int32)) C dX8_type_44 (by decide) ?_
    refine mv_icmp_lt (tgt := 56) C dX8_type_46 (by decide) (fun h11 => ?_) (fun h11 => ?_)
    · have hw := hw.1 h11
      refine mv_iconst (v := (0 : Int32)) C dX8_type_56 (by decide) ?_
      exact mv_zret C dX8_type_57 (Or.inl rfl) hw
    · have hw := hw.2 h11
      refine mv_iload C dX8_type_49 0 rfl ?_
      refine mv_bipush (v := (126 : Int32)) C dX8_type_51 (by decide) ?_
      refine mv_icmp_le (tgt := 58) C dX8_type_53 (by decide) (fun h12 => ?_) (fun h12 => ?_)
      · have hw := hw.1 h12
        obtain ⟨y13, ey13⟩ : ∃ z : Int32, z = x3 + (1 : Int32) := ⟨_, rfl⟩
        have hw := hw y13 ey13
        refine mv_iinc (v := y13) (lv1 := [(3, .int y13), (4, .int y10), (0, .ref (a 0)), (1, .int x1), (2, .int x2)]) C dX8_type_58 4 rfl (by rw [ey13]; rfl) (by decide) rfl ?_
        refine mv_goto (tgt := 25) C dX8_type_61 (by decide) ?_
        refine mv_sub [2, 3, 4, 0] rfl ?_
        exact hK25 x1 x2 y13 u hw
      · have hw := hw.2 h12
        refine mv_iconst (v := (0 : Int32)) C dX8_type_56 (by decide) ?_
        exact mv_zret C dX8_type_57 (Or.inl rfl) hw
set_option maxHeartbeats 4000000 in
set_option maxRecDepth 100000 in
theorem X8_type_met (hlev : 1 ≤ lev) {x1 x2 : Int32} {u : mS} {post : Int32 → mS → Prop} (hw : wp_X8_type x1 x2 u post) : mKi l yX8_type wsX8_type lev (eA a) (dC, dI) vwCl [(cA, .int)] (wA cA a) [.ref (a 0), .int x1, .int x2] u (fun r w => (r = 0 ∨ r = 1) ∧ post r w) := by
  refine mKz_of (cc := cX8_type) (maxL := 5) (by decide) rfl rfl (Nat.le_of_ble_eq_true rfl) rfl ?_
  intro p e s m args below meth c A C hs
  unfold wp_X8_type at hw
  refine mv_iload_n C dX8_type_0 rfl 2 rfl ?_
  refine mv_iconst (v := (1 : Int32)) C dX8_type_1 (by decide) ?_
  refine mv_icmp_lt (tgt := 21) C dX8_type_2 (by decide) (fun h1 => ?_) (fun h1 => ?_)
  · have hw := hw.1 h1
    refine mv_iconst (v := (0 : Int32)) C dX8_type_21 (by decide) ?_
    exact mv_zret C dX8_type_22 (Or.inl rfl) hw
  · have hw := hw.2 h1
    refine mv_iload_n C dX8_type_5 rfl 2 rfl ?_
    refine mv_iconst (v := (4 : Int32)) C dX8_type_6 (by decide) ?_
    refine mv_icmp_gt (tgt := 21) C dX8_type_7 (by decide) (fun h2 => ?_) (fun h2 => ?_)
    · have hw := hw.1 h2
      refine mv_iconst (v := (0 : Int32)) C dX8_type_21 (by decide) ?_
      exact mv_zret C dX8_type_22 (Or.inl rfl) hw
    · have hw := hw.2 h2
      refine mv_aload_n C dX8_type_10 rfl 0 rfl ?_
      refine mv_get (v := .int (u.1 0)) C iw_X8_type_X8 0 rfl rfl 1 (by decide) lk_X8_type_59 rfl rfl dX8_type_11 ?_
      refine mv_topi (fun y3 ey3 => ?_)
      have hw := hw y3 ey3
      refine mv_iload_n C dX8_type_14 rfl 2 rfl ?_
      refine mv_iadd C dX8_type_15 ?_
      refine mv_topi (fun y4 ey4 => ?_)
      have hw := hw y4 ey4
      refine mv_bipush (v := (120 : Int32)) C dX8_type_16 (by decide) ?_
      refine mv_icmp_le (tgt := 23) C dX8_type_18 (by decide) (fun h5 => ?_) (fun h5 => ?_)
      · have hw := hw.1 h5
        refine mv_iconst (v := (0 : Int32)) C dX8_type_23 (by decide) ?_
        refine mv_istore_n (lv1 := [(3, .int (0 : Int32)), (0, .ref (a 0)), (1, .int x1), (2, .int x2)]) C dX8_type_24 rfl (by decide) rfl ?_
        refine mv_sub [1, 2, 3, 0] rfl ?_
        obtain ⟨n, hw⟩ := hw
        exact mL4_of (fun K hK b0 b1 b2 b3 hw => wj_X8_type_25_ok C hs hlev hK hw) n x1 x2 (0 : Int32) u hw
      · have hw := hw.2 h5
        refine mv_iconst (v := (0 : Int32)) C dX8_type_21 (by decide) ?_
        exact mv_zret C dX8_type_22 (Or.inl rfl) hw
set_option maxHeartbeats 4000000 in
set_option maxRecDepth 100000 in
theorem X5_restart_met (hlev : 0 ≤ lev) {u : mS} {post : mS → Prop} (hw : wp_X5_restart  u post) : mKv l yX5_restart wsX5_restart lev (eA a) (dC, dI) vwCl [(cA, .int)] (wA cA a) [.ref (a 2)] u post := by
  refine mKv_of (cc := cX5_restart) (maxL := 1) (by decide) rfl rfl (Nat.le_of_ble_eq_true rfl) rfl ?_
  intro p e s m args below meth c A C hs
  unfold wp_X5_restart at hw
  refine mv_aload_n C dX5_restart_0 rfl 0 rfl ?_
  refine mv_sipush (v := (480 : Int32)) C dX5_restart_1 (by decide) ?_
  refine mv_put (ty := .int) (ws1 := wA cA a (mSet u 1 (480 : Int32))) C iw_X5_restart_X5 tyX5 tyX5_ok nmX5 2 rfl rfl 4 (by decide) lk_X5_restart_24 rfl rfl rfl rfl rfl (Nat.le_of_ble_eq_true rfl) rfl dX5_restart_4 ?_
  refine mv_nm (f := wA cA a) (fun u1 eu1 => ?_)
  have hw := hw u1 eu1
  refine mv_aload_n C dX5_restart_7 rfl 0 rfl ?_
  refine mv_iconst (v := (-1 : Int32)) C dX5_restart_8 (by decide) ?_
  refine mv_put (ty := .int) (ws1 := wA cA a (mSet u1 2 (-1 : Int32))) C iw_X5_restart_X5 tyX5 tyX5_ok nmX5 2 rfl rfl 5 (by decide) lk_X5_restart_28 rfl rfl rfl rfl rfl (Nat.le_of_ble_eq_true rfl) rfl dX5_restart_9 ?_
  refine mv_nm (f := wA cA a) (fun u2 eu2 => ?_)
  have hw := hw u2 eu2
  exact mv_vret C dX5_restart_12 hw
set_option maxHeartbeats 4000000 in
set_option maxRecDepth 100000 in
theorem X3_isWhole_met (hlev : 0 ≤ lev) {u : mS} {post : Int32 → mS → Prop} (hw : wp_X3_isWhole  u post) : mKi l yX3_isWhole wsX3_isWhole lev (eA a) (dC, dI) vwCl [(cA, .int)] (wA cA a) [.ref (a 7)] u (fun r w => (r = 0 ∨ r = 1) ∧ post r w) := by
  refine mKz_of (cc := cX3_isWhole) (maxL := 1) (by decide) rfl rfl (Nat.le_of_ble_eq_true rfl) rfl ?_
  intro p e s m args below meth c A C hs
  unfold wp_X3_isWhole at hw
  refine mv_aload_n C dX3_isWhole_0 rfl 0 rfl ?_
  refine mv_get (v := .int (u.1 3)) C iw_X3_isWhole_X3 7 rfl rfl 1 (by decide) lk_X3_isWhole_20 rfl rfl dX3_isWhole_1 ?_
  refine mv_topi (fun y1 ey1 => ?_)
  have hw := hw y1 ey1
  refine mv_if_ne (tgt := 24) C dX3_isWhole_4 (by decide) (fun h2 => ?_) (fun h2 => ?_)
  · have hw := hw.1 h2
    refine mv_iconst (v := (0 : Int32)) C dX3_isWhole_24 (by decide) ?_
    exact mv_zret C dX3_isWhole_25 (Or.inl rfl) hw
  · have hw := hw.2 h2
    refine mv_aload_n C dX3_isWhole_7 rfl 0 rfl ?_
    refine mv_get (v := .ref (a 2)) C iw_X3_isWhole_X3 7 rfl rfl 0 (by decide) lk_X3_isWhole_9 rfl rfl dX3_isWhole_8 ?_
    refine mv_getN (v := .int (u.1 1)) C iw_X3_isWhole_X5 2 rfl rfl 4 (by decide) (hs.1 _ nw_0) rfl rfl dX3_isWhole_11 ?_
    refine mv_topi (fun y3 ey3 => ?_)
    have hw := hw y3 ey3
    refine mv_sipush (v := (480 : Int32)) C dX3_isWhole_14 (by decide) ?_
    refine mv_icmp_le (tgt := 24) C dX3_isWhole_17 (by decide) (fun h4 => ?_) (fun h4 => ?_)
    · have hw := hw.1 h4
      refine mv_iconst (v := (0 : Int32)) C dX3_isWhole_24 (by decide) ?_
      exact mv_zret C dX3_isWhole_25 (Or.inl rfl) hw
    · have hw := hw.2 h4
      refine mv_iconst (v := (1 : Int32)) C dX3_isWhole_20 (by decide) ?_
      refine mv_goto (tgt := 25) C dX3_isWhole_21 (by decide) ?_
      exact mv_zret C dX3_isWhole_25 (Or.inr rfl) hw
set_option maxHeartbeats 4000000 in
set_option maxRecDepth 100000 in
theorem wj_X3_read_1_59_ok (C : mC p s m args meth c cX3_read 7 wsX3_read RX3 (some .int) (dC, dI) vwCl [(cA, .int)] A) (hs : eA a A s) (hlev : 1 ≤ lev) {post : Int32 → mS → Prop} {K25 : Int32 → Int32 → Int32 → mS → Prop} (hK25 : ∀ (x3 x4 x5 : Int32) (u : mS), K25 x3 x4 x5 u → mV p l e (mRm lev) s m args below meth c 7 (dC, dI) vwCl A 0 0 (mQi below args s (dC, dI) vwCl [(cA, .int)] (wA cA a) A post) (wA cA a u) 25 [(0, .ref (a 7)), (1, .ref (a 1)), (3, .int x3), (4, .int x4), (5, .int x5)] []) {x3 x4 x5 z0 : Int32} {u : mS} (hw : wj_X3_read_1_59 K25 post x3 x4 x5 z0 u) : mV p l e (mRm lev) s m args below meth c 7 (dC, dI) vwCl A 0 0 (mQi below args s (dC, dI) vwCl [(cA, .int)] (wA cA a) A post) (wA cA a u) 59 [(0, .ref (a 7)), (1, .ref (a 1)), (3, .int x3), (4, .int x4), (5, .int x5)] [.int z0] := by
  unfold wj_X3_read_1_59 at hw
  refine mv_istore (lv1 := [(6, .int z0), (0, .ref (a 7)), (1, .ref (a 1)), (3, .int x3), (4, .int x4), (5, .int x5)]) C dX3_read_59 (by decide) rfl ?_
  refine mv_iload C dX3_read_61 0 rfl ?_
  refine mv_if_ne (tgt := 69) C dX3_read_63 (by decide) (fun h9 => ?_) (fun h9 => ?_)
  · have hw := hw.1 h9
    refine mv_iload C dX3_read_69 4 rfl ?_
    refine mv_iload C dX3_read_71 0 rfl ?_
    refine mv_iadd C dX3_read_73 ?_
    refine mv_topi (fun y10 ey10 => ?_)
    have hw := hw y10 ey10
    refine mv_istore (lv1 := [(4, .int y10), (6, .int z0), (0, .ref (a 7)), (1, .ref (a 1)), (3, .int x3), (5, .int x5)]) C dX3_read_74 (by decide) rfl ?_
    obtain ⟨y11, ey11⟩ : ∃ z : Int32, z = x5 + (1 : Int32) := ⟨_, rfl⟩
    have hw := hw y11 ey11
    refine mv_iinc (v := y11) (lv1 := [(5, .int y11), (4, .int y10), (6, .int z0), (0, .ref (a 7)), (1, .ref (a 1)), (3, .int x3)]) C dX3_read_76 5 rfl (by rw [ey11]; rfl) (by decide) rfl ?_
    refine mv_goto (tgt := 25) C dX3_read_79 (by decide) ?_
    refine mv_sub [3, 4, 5, 1, 0] rfl ?_
    exact hK25 x3 y10 y11 u hw
  · have hw := hw.2 h9
    refine mv_iload C dX3_read_66 4 rfl ?_
    exact mv_iret C dX3_read_68 hw
set_option maxHeartbeats 4000000 in
set_option maxRecDepth 100000 in
theorem wj_X3_read_1_82_ok (C : mC p s m args meth c cX3_read 7 wsX3_read RX3 (some .int) (dC, dI) vwCl [(cA, .int)] A) (hs : eA a A s) (hlev : 1 ≤ lev) {post : Int32 → mS → Prop} {x3 : Int32} {u : mS} (hw : wj_X3_read_1_82 post x3 u) : mV p l e (mRm lev) s m args below meth c 7 (dC, dI) vwCl A 0 0 (mQi below args s (dC, dI) vwCl [(cA, .int)] (wA cA a) A post) (wA cA a u) 82 [(0, .ref (a 7)), (3, .int x3)] [] := by
  unfold wj_X3_read_1_82 at hw
  refine mv_aload_n C dX3_read_82 rfl 0 rfl ?_
  refine mv_callVi (f := wA cA a) (As := []) (rest := []) C (eA_ok a) hs 7 rfl rfl (X3_isWhole_met (l := l) (lev := lev - 1) (by omega) hw) (cwV 0 C.2.2.2.2.1 gX3_read_X3_isWhole rfl rfl rfl (by decide +kernel) (mRm_le (by omega) (by decide))) rfl rfl (Nat.le_of_ble_eq_true rfl) dX3_read_83 ⟨Nat.le_refl 0, Nat.le_refl 0⟩ (fun r12 u13 hw => ?_)
  obtain ⟨gr12, hw⟩ := hw
  refine mv_if_eq (tgt := 93) C dX3_read_86 (by decide) (fun h14 => ?_) (fun h14 => ?_)
  · have hw := hw.1 h14
    refine mv_iload_n C dX3_read_93 rfl 1 rfl ?_
    exact mv_iret C dX3_read_94 hw
  · have hw := hw.2 h14
    refine mv_iconst (v := (-1 : Int32)) C dX3_read_89 (by decide) ?_
    refine mv_goto (tgt := 94) C dX3_read_90 (by decide) ?_
    exact mv_iret C dX3_read_94 hw
set_option maxHeartbeats 4000000 in
set_option maxRecDepth 100000 in
theorem wj_X3_read_1_25_ok (C : mC p s m args meth c cX3_read 7 wsX3_read RX3 (some .int) (dC, dI) vwCl [(cA, .int)] A) (hs : eA a A s) (hlev : 1 ≤ lev) {post : Int32 → mS → Prop} {K25 : Int32 → Int32 → Int32 → mS → Prop} (hK25 : ∀ (x3 x4 x5 : Int32) (u : mS), K25 x3 x4 x5 u → mV p l e (mRm lev) s m args below meth c 7 (dC, dI) vwCl A 0 0 (mQi below args s (dC, dI) vwCl [(cA, .int)] (wA cA a) A post) (wA cA a u) 25 [(0, .ref (a 7)), (1, .ref (a 1)), (3, .int x3), (4, .int x4), (5, .int x5)] []) {x3 x4 x5 : Int32} {u : mS} (hw : wj_X3_read_1_25 K25 post x3 x4 x5 u) : mV p l e (mRm lev) s m args below meth c 7 (dC, dI) vwCl A 0 0 (mQi below args s (dC, dI) vwCl [(cA, .int)] (wA cA a) A post) (wA cA a u) 25 [(0, .ref (a 7)), (1, .ref (a 1)), (3, .int x3), (4, .int x4), (5, .int x5)] [] := by
  unfold wj_X3_read_1_25 at hw
  refine mv_iload C dX3_read_25 4 rfl ?_
  refine mv_ldc (v := (1000000 : Int32)) C mw_X3_read__constant_RX3_30_1000000_Int32_ dX3_read_27 ?_
  refine mv_icmp_ge (tgt := 82) C dX3_read_29 (by decide) (fun h5 => ?_) (fun h5 => ?_)
  · have hw := hw.1 h5
    refine mv_sub [0, 2] rfl ?_
    exact wj_X3_read_1_82_ok C hs hlev hw
  · have hw := hw.2 h5
    refine mv_iload C dX3_read_32 3 rfl ?_
    refine mv_iload_n C dX3_read_34 rfl 2 rfl ?_
    refine mv_icmp_ge (tgt := 82) C dX3_read_35 (by decide) (fun h6 => ?_) (fun h6 => ?_)
    · have hw := hw.1 h6
      refine mv_sub [0, 2] rfl ?_
      exact wj_X3_read_1_82_ok C hs hlev hw
    · have hw := hw.2 h6
      refine mv_aload_n C dX3_read_38 rfl 1 rfl ?_
      refine mv_iload C dX3_read_39 3 rfl ?_
      refine mv_iald (f := u.2 0) C 1 0 rfl rfl hw.1 dX3_read_41 ?_
      refine mv_topi (fun y7 ey7 => ?_)
      have hw := hw.2 y7 ey7
      refine mv_bipush (v := (32 : Int32)) C dX3_read_42 (by decide) ?_
      refine mv_icmp_ne (tgt := 51) C dX3_read_44 (by decide) (fun h8 => ?_) (fun h8 => ?_)
      · have hw := hw.1 h8
        refine mv_aload_n C dX3_read_51 rfl 0 rfl ?_
        refine mv_aload_n C dX3_read_52 rfl 1 rfl ?_
        refine mv_iload_n C dX3_read_53 rfl 2 rfl ?_
        refine mv_iload C dX3_read_54 3 rfl ?_
        exact hw.elim
      · have hw := hw.2 h8
        refine mv_iconst (v := (1 : Int32)) C dX3_read_47 (by decide) ?_
        refine mv_goto (tgt := 59) C dX3_read_48 (by decide) ?_
        exact wj_X3_read_1_59_ok C hs hlev hK25 hw
set_option maxHeartbeats 4000000 in
set_option maxRecDepth 100000 in
theorem X3_read_1_met (hlev : 1 ≤ lev) {x2 : Int32} {u : mS} {post : Int32 → mS → Prop} (hw : wp_X3_read_1 x2 u post) : mKi l yX3_read wsX3_read lev (eA a) (dC, dI) vwCl [(cA, .int)] (wA cA a) [.ref (a 7), .ref (a 1), .int x2] u post := by
  refine mKi_of (cc := cX3_read) (maxL := 7) (by decide) rfl rfl (Nat.le_of_ble_eq_true rfl) rfl ?_
  intro p e s m args below meth c A C hs
  unfold wp_X3_read_1 at hw
  refine mv_aload_n C dX3_read_0 rfl 0 rfl ?_
  refine mv_get (v := .ref (a 2)) C iw_X3_read_X3 7 rfl rfl 0 (by decide) lk_X3_read_9 rfl rfl dX3_read_1 ?_
  refine mv_callVv (f := wA cA a) (As := []) (rest := []) C (eA_ok a) hs 2 rfl rfl (X5_restart_met (l := l) (lev := lev - 1) (by omega) hw) (cwV 0 C.2.2.2.2.1 gX3_read_X5_restart rfl rfl rfl (by decide +kernel) (mRm_le (by omega) (by decide))) rfl rfl (Nat.le_of_ble_eq_true rfl) dX3_read_4 ⟨Nat.le_refl 0, Nat.le_refl 0⟩ (fun u2 hw => ?_)
  refine mv_aload_n C dX3_read_7 rfl 0 rfl ?_
  refine mv_iconst (v := (0 : Int32)) C dX3_read_8 (by decide) ?_
  refine mv_put (ty := .int) (ws1 := wA cA a (mSet u2 3 (0 : Int32))) C iw_X3_read_X3 tyX3 tyX3_ok nmX3 7 rfl rfl 1 (by decide) lk_X3_read_20 rfl rfl rfl rfl rfl (Nat.le_of_ble_eq_true rfl) rfl dX3_read_9 ?_
  refine mv_nm (f := wA cA a) (fun u3 eu3 => ?_)
  have hw := hw u3 eu3
  refine mv_iload_n C dX3_read_12 rfl 2 rfl ?_
  refine mv_aload_n C dX3_read_13 rfl 1 rfl ?_
  refine mv_alen (v := (120 : Int32)) C 1 0 rfl rfl (by decide) dX3_read_14 ?_
  refine mv_mmin C ml_X3_read_24 ms_X3_read_min mi_X3_read_Math mc_X3_read_min (by show 1 ≤ lev; omega) (by show _ ≤ 64 * lev; exact Nat.le_trans (Nat.le_of_ble_eq_true rfl : _ ≤ 64) (by omega)) (Nat.le_refl 0) (Nat.le_refl 0) dX3_read_15 ?_
  refine mv_topi (fun y4 ey4 => ?_)
  have hw := hw y4 ey4
  refine mv_istore_n (lv1 := [(3, .int y4), (0, .ref (a 7)), (1, .ref (a 1)), (2, .int x2)]) C dX3_read_18 rfl (by decide) rfl ?_
  refine mv_iconst (v := (0 : Int32)) C dX3_read_19 (by decide) ?_
  refine mv_istore (lv1 := [(4, .int (0 : Int32)), (3, .int y4), (0, .ref (a 7)), (1, .ref (a 1)), (2, .int x2)]) C dX3_read_20 (by decide) rfl ?_
  refine mv_iconst (v := (0 : Int32)) C dX3_read_22 (by decide) ?_
  refine mv_istore (lv1 := [(5, .int (0 : Int32)), (4, .int (0 : Int32)), (3, .int y4), (0, .ref (a 7)), (1, .ref (a 1)), (2, .int x2)]) C dX3_read_23 (by decide) rfl ?_
  refine mv_sub [3, 4, 2, 1, 0] rfl ?_
  obtain ⟨n, hw⟩ := hw
  exact mL4_of (fun K hK b0 b1 b2 b3 hw => wj_X3_read_1_25_ok C hs hlev hK hw) n y4 (0 : Int32) (0 : Int32) u3 hw
set_option maxHeartbeats 4000000 in
set_option maxRecDepth 100000 in
theorem X8_takeTyped_met (hlev : 2 ≤ lev) {u : mS} {post : Int32 → mS → Prop} (hw : wp_X8_takeTyped  u post) : mKi l yX8_takeTyped wsX8_takeTyped lev (eA a) (dC, dI) vwCl [(cA, .int)] (wA cA a) [.ref (a 0)] u post := by
  refine mKi_of (cc := cX8_takeTyped) (maxL := 2) (by decide) rfl rfl (Nat.le_of_ble_eq_true rfl) rfl ?_
  intro p e s m args below meth c A C hs
  unfold wp_X8_takeTyped at hw
  refine mv_aload_n C dX8_takeTyped_0 rfl 0 rfl ?_
  refine mv_get (v := .ref (a 7)) C iw_X8_takeTyped_X8 0 rfl rfl 3 (by decide) lk_X8_takeTyped_25 rfl rfl dX8_takeTyped_1 ?_
  refine mv_aload_n C dX8_takeTyped_4 rfl 0 rfl ?_
  refine mv_get (v := .ref (a 1)) C iw_X8_takeTyped_X8 0 rfl rfl 0 (by decide) lk_X8_takeTyped_9 rfl rfl dX8_takeTyped_5 ?_
  refine mv_aload_n C dX8_takeTyped_8 rfl 0 rfl ?_
  refine mv_get (v := .int (u.1 0)) C iw_X8_takeTyped_X8 0 rfl rfl 1 (by decide) lk_X8_takeTyped_59 rfl rfl dX8_takeTyped_9 ?_
  refine mv_topi (fun y1 ey1 => ?_)
  have hw := hw y1 ey1
  refine mv_callVi (f := wA cA a) (As := [.ref (a 1), .int y1]) (rest := []) C (eA_ok a) hs 7 rfl rfl (X3_read_1_met (l := l) (lev := lev - 1) (by omega) hw) (cwV 2 C.2.2.2.2.1 gX8_takeTyped_X3_read rfl rfl rfl (by decide +kernel) (mRm_le (by omega) (by decide))) rfl rfl (Nat.le_of_ble_eq_true rfl) dX8_takeTyped_12 ⟨Nat.le_refl 0, Nat.le_refl 0⟩ (fun r2 u3 hw => ?_)
  refine mv_istore_n (lv1 := [(1, .int r2), (0, .ref (a 0))]) C dX8_takeTyped_15 rfl (by decide) rfl ?_
  refine mv_aload_n C dX8_takeTyped_16 rfl 1 rfl ?_
  refine mv_iconst (v := (0 : Int32)) C dX8_takeTyped_17 (by decide) ?_
  refine mv_put (ty := .int) (ws1 := wA cA a (mSet u3 0 (0 : Int32))) C iw_X8_takeTyped_X8 tyX8 tyX8_ok nmX8 0 rfl rfl 1 (by decide) lk_X8_takeTyped_59 rfl rfl rfl rfl rfl (Nat.le_of_ble_eq_true rfl) rfl dX8_takeTyped_18 ?_
  refine mv_nm (f := wA cA a) (fun u4 eu4 => ?_)
  have hw := hw u4 eu4
  refine mv_iload_n C dX8_takeTyped_21 rfl 0 rfl ?_
  exact mv_iret C dX8_takeTyped_22 hw
set_option maxHeartbeats 4000000 in
set_option maxRecDepth 100000 in
theorem X8_rules_met (hlev : 3 ≤ lev) {u : mS} {post : Int32 → mS → Prop} (hw : wp_X8_rules  u post) : mKi l yX8_rules wsX8_rules lev (eA a) (dC, dI) vwCl [(cA, .int)] (wA cA a) [.ref (a 0)] u post := by
  refine mKi_of (cc := cX8_rules) (maxL := 4) (by decide) rfl rfl (Nat.le_of_ble_eq_true rfl) rfl ?_
  intro p e s m args below meth c A C hs
  unfold wp_X8_rules at hw
  refine mv_aload_n C dX8_rules_0 rfl 0 rfl ?_
  refine mv_callVi (f := wA cA a) (As := []) (rest := []) C (eA_ok a) hs 0 rfl rfl (X8_takeTyped_met (l := l) (lev := lev - 1) (by omega) hw) (cwV 0 C.2.2.2.2.1 gX8_rules_X8_takeTyped rfl rfl rfl (by decide +kernel) (mRm_le (by omega) (by decide))) rfl rfl (Nat.le_of_ble_eq_true rfl) dX8_rules_1 ⟨Nat.le_refl 0, Nat.le_refl 0⟩ (fun r1 u2 hw => ?_)
  refine mv_istore_n (lv1 := [(1, .int r1), (0, .ref (a 0))]) C dX8_rules_4 rfl (by decide) rfl ?_
  refine mv_iload_n C dX8_rules_5 rfl 0 rfl ?_
  refine mv_if_lt (tgt := 13) C dX8_rules_6 (by decide) (fun h3 => ?_) (fun h3 => ?_)
  · have hw := hw.1 h3
    refine mv_aload_n C dX8_rules_13 rfl 1 rfl ?_
    refine mv_get (v := .ref (a 8)) C iw_X8_rules_X8 0 rfl rfl 4 (by decide) lk_X8_rules_32 rfl rfl dX8_rules_14 ?_
    refine mv_sipush (v := (480 : Int32)) C dX8_rules_17 (by decide) ?_
    exact hw.elim
  · have hw := hw.2 h3
    refine mv_iconst (v := (-1 : Int32)) C dX8_rules_9 (by decide) ?_
    refine mv_iload_n C dX8_rules_10 rfl 0 rfl ?_
    refine mv_isub C dX8_rules_11 ?_
    refine mv_topi (fun y4 ey4 => ?_)
    have hw := hw y4 ey4
    exact mv_iret C dX8_rules_12 hw
set_option maxHeartbeats 4000000 in
set_option maxRecDepth 100000 in
theorem X2_clear_met (hlev : 0 ≤ lev) {u : mS} {post : mS → Prop} (hw : wp_X2_clear  u post) : mKv l yX2_clear wsX2_clear lev (eA a) (dC, dI) vwCl [(cA, .int)] (wA cA a) [.ref (a 14)] u post := by
  refine mKv_of (cc := cX2_clear) (maxL := 1) (by decide) rfl rfl (Nat.le_of_ble_eq_true rfl) rfl ?_
  intro p e s m args below meth c A C hs
  unfold wp_X2_clear at hw
  refine mv_aload_n C dX2_clear_0 rfl 0 rfl ?_
  refine mv_iconst (v := (0 : Int32)) C dX2_clear_1 (by decide) ?_
  refine mv_put (ty := .int) (ws1 := wA cA a (mSet u 6 (0 : Int32))) C iw_X2_clear_X2 tyX2 tyX2_ok nmX2 14 rfl rfl 1 (by decide) lk_X2_clear_15 rfl rfl rfl rfl rfl (Nat.le_of_ble_eq_true rfl) rfl dX2_clear_2 ?_
  refine mv_nm (f := wA cA a) (fun u1 eu1 => ?_)
  have hw := hw u1 eu1
  refine mv_aload_n C dX2_clear_5 rfl 0 rfl ?_
  refine mv_iconst (v := (0 : Int32)) C dX2_clear_6 (by decide) ?_
  refine mv_put (ty := .int) (ws1 := wA cA a (mSet u1 7 (0 : Int32))) C iw_X2_clear_X2 tyX2 tyX2_ok nmX2 14 rfl rfl 2 (by decide) lk_X2_clear_19 rfl rfl rfl rfl rfl (Nat.le_of_ble_eq_true rfl) rfl dX2_clear_7 ?_
  refine mv_nm (f := wA cA a) (fun u2 eu2 => ?_)
  have hw := hw u2 eu2
  exact mv_vret C dX2_clear_10 hw
set_option maxHeartbeats 4000000 in
set_option maxRecDepth 100000 in
theorem X7_forgetExpansion_met (hlev : 0 ≤ lev) {u : mS} {post : mS → Prop} (hw : wp_X7_forgetExpansion  u post) : mKv l yX7_forgetExpansion wsX7_forgetExpansion lev (eA a) (dC, dI) vwCl [(cA, .int)] (wA cA a) [.ref (a 9)] u post := by
  refine mKv_of (cc := cX7_forgetExpansion) (maxL := 1) (by decide) rfl rfl (Nat.le_of_ble_eq_true rfl) rfl ?_
  intro p e s m args below meth c A C hs
  unfold wp_X7_forgetExpansion at hw
  refine mv_aload_n C dX7_forgetExpansion_0 rfl 0 rfl ?_
  refine mv_getsN C hs.2.1 (hs.1 _ nw_1) dX7_forgetExpansion_1 ?_
  refine mv_tlen (v := (8 : Int32)) C hs.2.2 (by decide) dX7_forgetExpansion_4 ?_
  refine mv_aload_n C dX7_forgetExpansion_5 rfl 0 rfl ?_
  refine mv_get (v := .int (u.1 5)) C iw_X7_forgetExpansion_X7 9 rfl rfl 5 (by decide) lk_X7_forgetExpansion_37 rfl rfl dX7_forgetExpansion_6 ?_
  refine mv_topi (fun y1 ey1 => ?_)
  have hw := hw y1 ey1
  refine mv_iadd C dX7_forgetExpansion_9 ?_
  refine mv_topi (fun y2 ey2 => ?_)
  have hw := hw y2 ey2
  refine mv_put (ty := .int) (ws1 := wA cA a (mSet u 4 y2)) C iw_X7_forgetExpansion_X7 tyX7 tyX7_ok nmX7 9 rfl rfl 4 (by decide) lk_X7_forgetExpansion_33 rfl rfl rfl rfl rfl (Nat.le_of_ble_eq_true rfl) rfl dX7_forgetExpansion_10 ?_
  refine mv_nm (f := wA cA a) (fun u3 eu3 => ?_)
  have hw := hw u3 eu3
  exact mv_vret C dX7_forgetExpansion_13 hw
set_option maxHeartbeats 4000000 in
set_option maxRecDepth 100000 in
theorem X0_start_met (hlev : 1 ≤ lev) {x1 : Int32} {u : mS} {post : mS → Prop} (hw : wp_X0_start x1 u post) : mKv l yX0_start wsX0_start lev (eA a) (dC, dI) vwCl [(cA, .int)] (wA cA a) [.ref (a 16), .int x1] u post := by
  refine mKv_of (cc := cX0_start) (maxL := 2) (by decide) rfl rfl (Nat.le_of_ble_eq_true rfl) rfl ?_
  intro p e s m args below meth c A C hs
  unfold wp_X0_start at hw
  refine mv_aload_n C dX0_start_0 rfl 0 rfl ?_
  refine mv_iconst (v := (0 : Int32)) C dX0_start_1 (by decide) ?_
  refine mv_put (ty := .int) (ws1 := wA cA a (mSet u 8 (0 : Int32))) C iw_X0_start_X0 tyX0 tyX0_ok nmX0 16 rfl rfl 5 (by decide) lk_X0_start_36 rfl rfl rfl rfl rfl (Nat.le_of_ble_eq_true rfl) rfl dX0_start_2 ?_
  refine mv_nm (f := wA cA a) (fun u1 eu1 => ?_)
  have hw := hw u1 eu1
  refine mv_aload_n C dX0_start_5 rfl 0 rfl ?_
  refine mv_iconst (v := (0 : Int32)) C dX0_start_6 (by decide) ?_
  refine mv_put (ty := .int) (ws1 := wA cA a (mSet u1 9 (0 : Int32))) C iw_X0_start_X0 tyX0 tyX0_ok nmX0 16 rfl rfl 6 (by decide) lk_X0_start_40 rfl rfl rfl rfl rfl (Nat.le_of_ble_eq_true rfl) rfl dX0_start_7 ?_
  refine mv_nm (f := wA cA a) (fun u2 eu2 => ?_)
  have hw := hw u2 eu2
  refine mv_aload_n C dX0_start_10 rfl 0 rfl ?_
  refine mv_iconst (v := (0 : Int32)) C dX0_start_11 (by decide) ?_
  refine mv_put (ty := .int) (ws1 := wA cA a (mSet u2 10 (0 : Int32))) C iw_X0_start_X0 tyX0 tyX0_ok nmX0 16 rfl rfl 7 (by decide) lk_X0_start_43 rfl rfl rfl rfl rfl (Nat.le_of_ble_eq_true rfl) rfl dX0_start_12 ?_
  refine mv_nm (f := wA cA a) (fun u3 eu3 => ?_)
  have hw := hw u3 eu3
  refine mv_aload_n C dX0_start_15 rfl 0 rfl ?_
  refine mv_iload_n C dX0_start_16 rfl 1 rfl ?_
  refine mv_put (ty := .int) (ws1 := wA cA a (mSet u3 11 x1)) C iw_X0_start_X0 tyX0 tyX0_ok nmX0 16 rfl rfl 8 (by decide) lk_X0_start_46 rfl rfl rfl rfl rfl (Nat.le_of_ble_eq_true rfl) rfl dX0_start_17 ?_
  refine mv_nm (f := wA cA a) (fun u4 eu4 => ?_)
  have hw := hw u4 eu4
  refine mv_aload_n C dX0_start_20 rfl 0 rfl ?_
  refine mv_get (v := .ref (a 9)) C iw_X0_start_X0 16 rfl rfl 2 (by decide) lk_X0_start_19 rfl rfl dX0_start_21 ?_
  refine mv_callVv (f := wA cA a) (As := []) (rest := []) C (eA_ok a) hs 9 rfl rfl (X7_forgetExpansion_met (l := l) (lev := lev - 1) (by omega) hw) (cwV 0 C.2.2.2.2.1 gX0_start_X7_forgetExpansion rfl rfl rfl (by decide +kernel) (mRm_le (by omega) (by decide))) rfl rfl (Nat.le_of_ble_eq_true rfl) dX0_start_24 ⟨Nat.le_refl 0, Nat.le_refl 0⟩ (fun u6 hw => ?_)
  exact mv_vret C dX0_start_27 hw
set_option maxHeartbeats 4000000 in
set_option maxRecDepth 100000 in
theorem wj_X8_expand_10_ok (C : mC p s m args meth c cX8_expand 3 wsX8_expand RX8 (some .int) (dC, dI) vwCl [(cA, .int)] A) (hs : eA a A s) (hlev : 3 ≤ lev) {post : Int32 → mS → Prop} {u : mS} (hw : wj_X8_expand_10 post  u) : mV p l e (mRm lev) s m args below meth c 3 (dC, dI) vwCl A 0 0 (mQi below args s (dC, dI) vwCl [(cA, .int)] (wA cA a) A post) (wA cA a u) 10 [] [] := by
  unfold wj_X8_expand_10 at hw
  refine mv_sipush (v := (-7000 : Int32)) C dX8_expand_10 (by decide) ?_
  exact mv_iret C dX8_expand_13 hw
set_option maxHeartbeats 4000000 in
set_option maxRecDepth 100000 in
theorem wj_X8_expand_39_ok (C : mC p s m args meth c cX8_expand 3 wsX8_expand RX8 (some .int) (dC, dI) vwCl [(cA, .int)] A) (hs : eA a A s) (hlev : 3 ≤ lev) {post : Int32 → mS → Prop} {x2 z0 : Int32} {u : mS} (hw : wj_X8_expand_39 post x2 z0 u) : mV p l e (mRm lev) s m args below meth c 3 (dC, dI) vwCl A 0 0 (mQi below args s (dC, dI) vwCl [(cA, .int)] (wA cA a) A post) (wA cA a u) 39 [(0, .ref (a 0)), (2, .int x2)] [.int z0, .ref (a 16)] := by
  unfold wj_X8_expand_39 at hw
  refine mv_callVv (f := wA cA a) (As := [.int z0]) (rest := []) C (eA_ok a) hs 16 rfl rfl (X0_start_met (l := l) (lev := lev - 1) (by omega) hw) (cwV 1 C.2.2.2.2.1 gX8_expand_X0_start rfl rfl rfl (by decide +kernel) (mRm_le (by omega) (by decide))) rfl rfl (Nat.le_of_ble_eq_true rfl) dX8_expand_39 ⟨Nat.le_refl 0, Nat.le_refl 0⟩ (fun u9 hw => ?_)
  refine mv_iload_n C dX8_expand_42 rfl 1 rfl ?_
  refine mv_if_lt (tgt := 50) C dX8_expand_43 (by decide) (fun h10 => ?_) (fun h10 => ?_)
  · have hw := hw.1 h10
    refine mv_aload_n C dX8_expand_50 rfl 0 rfl ?_
    refine mv_get (v := .ref (a 16)) C iw_X8_expand_X8 0 rfl rfl 7 (by decide) lk_X8_expand_55 rfl rfl dX8_expand_51 ?_
    refine mv_sipush (v := (480 : Int32)) C dX8_expand_54 (by decide) ?_
    refine mv_iconst (v := (0 : Int32)) C dX8_expand_57 (by decide) ?_
    exact hw.elim
  · have hw := hw.2 h10
    refine mv_iconst (v := (-1 : Int32)) C dX8_expand_46 (by decide) ?_
    refine mv_iload_n C dX8_expand_47 rfl 1 rfl ?_
    refine mv_isub C dX8_expand_48 ?_
    refine mv_topi (fun y11 ey11 => ?_)
    have hw := hw y11 ey11
    exact mv_iret C dX8_expand_49 hw
set_option maxHeartbeats 4000000 in
set_option maxRecDepth 100000 in
theorem X8_expand_met (hlev : 3 ≤ lev) {x1 : Int32} {u : mS} {post : Int32 → mS → Prop} (hw : wp_X8_expand x1 u post) : mKi l yX8_expand wsX8_expand lev (eA a) (dC, dI) vwCl [(cA, .int)] (wA cA a) [.ref (a 0), .int x1] u post := by
  refine mKi_of (cc := cX8_expand) (maxL := 3) (by decide) rfl rfl (Nat.le_of_ble_eq_true rfl) rfl ?_
  intro p e s m args below meth c A C hs
  unfold wp_X8_expand at hw
  refine mv_iload_n C dX8_expand_0 rfl 1 rfl ?_
  refine mv_if_lt (tgt := 10) C dX8_expand_1 (by decide) (fun h1 => ?_) (fun h1 => ?_)
  · have hw := hw.1 h1
    refine mv_sub [] rfl ?_
    exact wj_X8_expand_10_ok C hs hlev hw
  · have hw := hw.2 h1
    refine mv_iload_n C dX8_expand_4 rfl 1 rfl ?_
    refine mv_bipush (v := (8 : Int32)) C dX8_expand_5 (by decide) ?_
    refine mv_icmp_le (tgt := 14) C dX8_expand_7 (by decide) (fun h2 => ?_) (fun h2 => ?_)
    · have hw := hw.1 h2
      refine mv_aload_n C dX8_expand_14 rfl 0 rfl ?_
      refine mv_callVi (f := wA cA a) (As := []) (rest := []) C (eA_ok a) hs 0 rfl rfl (X8_takeTyped_met (l := l) (lev := lev - 1) (by omega) hw) (cwV 0 C.2.2.2.2.1 gX8_expand_X8_takeTyped rfl rfl rfl (by decide +kernel) (mRm_le (by omega) (by decide))) rfl rfl (Nat.le_of_ble_eq_true rfl) dX8_expand_15 ⟨Nat.le_refl 0, Nat.le_refl 0⟩ (fun r3 u4 hw => ?_)
      refine mv_istore_n (lv1 := [(2, .int r3), (0, .ref (a 0)), (1, .int x1)]) C dX8_expand_18 rfl (by decide) rfl ?_
      refine mv_aload_n C dX8_expand_19 rfl 1 rfl ?_
      refine mv_get (v := .ref (a 14)) C iw_X8_expand_X8 0 rfl rfl 6 (by decide) lk_X8_expand_46 rfl rfl dX8_expand_20 ?_
      refine mv_callVv (f := wA cA a) (As := []) (rest := []) C (eA_ok a) hs 14 rfl rfl (X2_clear_met (l := l) (lev := lev - 1) (by omega) hw) (cwV 0 C.2.2.2.2.1 gX8_expand_X2_clear rfl rfl rfl (by decide +kernel) (mRm_le (by omega) (by decide))) rfl rfl (Nat.le_of_ble_eq_true rfl) dX8_expand_23 ⟨Nat.le_refl 0, Nat.le_refl 0⟩ (fun u6 hw => ?_)
      refine mv_aload_n C dX8_expand_26 rfl 1 rfl ?_
      refine mv_get (v := .ref (a 16)) C iw_X8_expand_X8 0 rfl rfl 7 (by decide) lk_X8_expand_55 rfl rfl dX8_expand_27 ?_
      refine mv_iload_n C dX8_expand_30 rfl 0 rfl ?_
      refine mv_if_lt (tgt := 38) C dX8_expand_31 (by decide) (fun h7 => ?_) (fun h7 => ?_)
      · have hw := hw.1 h7
        refine mv_iload_n C dX8_expand_38 rfl 2 rfl ?_
        refine mv_sub [1, 0] rfl ?_
        exact wj_X8_expand_39_ok C hs hlev hw
      · have hw := hw.2 h7
        refine mv_iconst (v := (0 : Int32)) C dX8_expand_34 (by decide) ?_
        refine mv_goto (tgt := 39) C dX8_expand_35 (by decide) ?_
        refine mv_sub [1, 0] rfl ?_
        exact wj_X8_expand_39_ok C hs hlev hw
    · have hw := hw.2 h2
      refine mv_sub [] rfl ?_
      exact wj_X8_expand_10_ok C hs hlev hw
set_option maxHeartbeats 4000000 in
set_option maxRecDepth 100000 in
theorem X2_charAt_met (hlev : 0 ≤ lev) {x1 : Int32} {u : mS} {post : Int32 → mS → Prop} (hw : wp_X2_charAt x1 u post) : mKi l yX2_charAt wsX2_charAt lev (eA a) (dC, dI) vwCl [(cA, .int)] (wA cA a) [.ref (a 14), .int x1] u post := by
  refine mKi_of (cc := cX2_charAt) (maxL := 2) (by decide) rfl rfl (Nat.le_of_ble_eq_true rfl) rfl ?_
  intro p e s m args below meth c A C hs
  unfold wp_X2_charAt at hw
  refine mv_iload_n C dX2_charAt_0 rfl 1 rfl ?_
  refine mv_if_lt (tgt := 28) C dX2_charAt_1 (by decide) (fun h1 => ?_) (fun h1 => ?_)
  · have hw := hw.1 h1
    refine mv_iconst (v := (-1 : Int32)) C dX2_charAt_28 (by decide) ?_
    exact mv_iret C dX2_charAt_29 hw
  · have hw := hw.2 h1
    refine mv_iload_n C dX2_charAt_4 rfl 1 rfl ?_
    refine mv_aload_n C dX2_charAt_5 rfl 0 rfl ?_
    refine mv_get (v := .int (u.1 6)) C iw_X2_charAt_X2 14 rfl rfl 1 (by decide) lk_X2_charAt_15 rfl rfl dX2_charAt_6 ?_
    refine mv_topi (fun y2 ey2 => ?_)
    have hw := hw y2 ey2
    refine mv_icmp_ge (tgt := 28) C dX2_charAt_9 (by decide) (fun h3 => ?_) (fun h3 => ?_)
    · have hw := hw.1 h3
      refine mv_iconst (v := (-1 : Int32)) C dX2_charAt_28 (by decide) ?_
      exact mv_iret C dX2_charAt_29 hw
    · have hw := hw.2 h3
      refine mv_iload_n C dX2_charAt_12 rfl 1 rfl ?_
      refine mv_sipush (v := (200 : Int32)) C dX2_charAt_13 (by decide) ?_
      refine mv_icmp_ge (tgt := 28) C dX2_charAt_16 (by decide) (fun h4 => ?_) (fun h4 => ?_)
      · have hw := hw.1 h4
        refine mv_iconst (v := (-1 : Int32)) C dX2_charAt_28 (by decide) ?_
        exact mv_iret C dX2_charAt_29 hw
      · have hw := hw.2 h4
        refine mv_aload_n C dX2_charAt_19 rfl 0 rfl ?_
        refine mv_get (v := .ref (a 15)) C iw_X2_charAt_X2 14 rfl rfl 0 (by decide) lk_X2_charAt_9 rfl rfl dX2_charAt_20 ?_
        refine mv_iload_n C dX2_charAt_23 rfl 1 rfl ?_
        refine mv_iald (f := u.2 9) C 15 0 rfl rfl hw.1 dX2_charAt_24 ?_
        refine mv_topi (fun y5 ey5 => ?_)
        have hw := hw.2 y5 ey5
        refine mv_goto (tgt := 29) C dX2_charAt_25 (by decide) ?_
        exact mv_iret C dX2_charAt_29 hw
set_option maxHeartbeats 4000000 in
set_option maxRecDepth 100000 in
theorem X8_at_met (hlev : 1 ≤ lev) {x1 : Int32} {u : mS} {post : Int32 → mS → Prop} (hw : wp_X8_at x1 u post) : mKi l yX8_at wsX8_at lev (eA a) (dC, dI) vwCl [(cA, .int)] (wA cA a) [.ref (a 0), .int x1] u post := by
  refine mKi_of (cc := cX8_at) (maxL := 2) (by decide) rfl rfl (Nat.le_of_ble_eq_true rfl) rfl ?_
  intro p e s m args below meth c A C hs
  unfold wp_X8_at at hw
  refine mv_aload_n C dX8_at_0 rfl 0 rfl ?_
  refine mv_get (v := .ref (a 14)) C iw_X8_at_X8 0 rfl rfl 6 (by decide) lk_X8_at_46 rfl rfl dX8_at_1 ?_
  refine mv_iload_n C dX8_at_4 rfl 1 rfl ?_
  refine mv_callVi (f := wA cA a) (As := [.int x1]) (rest := []) C (eA_ok a) hs 14 rfl rfl (X2_charAt_met (l := l) (lev := lev - 1) (by omega) hw) (cwV 1 C.2.2.2.2.1 gX8_at_X2_charAt rfl rfl rfl (by decide +kernel) (mRm_le (by omega) (by decide))) rfl rfl (Nat.le_of_ble_eq_true rfl) dX8_at_5 ⟨Nat.le_refl 0, Nat.le_refl 0⟩ (fun r1 u2 hw => ?_)
  exact mv_iret C dX8_at_8 hw
set_option maxHeartbeats 4000000 in
set_option maxRecDepth 100000 in
theorem X8_count_met (hlev : 0 ≤ lev) {x1 : Int32} {u : mS} {post : Int32 → mS → Prop} (hw : wp_X8_count x1 u post) : mKi l yX8_count wsX8_count lev (eA a) (dC, dI) vwCl [(cA, .int)] (wA cA a) [.ref (a 0), .int x1] u post := by
  refine mKi_of (cc := cX8_count) (maxL := 2) (by decide) rfl rfl (Nat.le_of_ble_eq_true rfl) rfl ?_
  intro p e s m args below meth c A C hs
  unfold wp_X8_count at hw
  refine mv_iload_n C dX8_count_0 rfl 1 rfl ?_
  by_cases hc1_0 : x1 = (0 : Int32)
  · have hw := hw.1 hc1_0
    refine mv_tableIn (tgt := 32) C dX8_count_1 (by rw [hc1_0]; decide) (by rw [hc1_0]; decide) (by rw [hc1_0]; rfl) (by decide) ?_
    refine mv_aload_n C dX8_count_32 rfl 0 rfl ?_
    refine mv_get (v := .ref (a 16)) C iw_X8_count_X8 0 rfl rfl 7 (by decide) lk_X8_count_55 rfl rfl dX8_count_33 ?_
    refine mv_getN (v := .int (u.1 8)) C iw_X8_count_X0 16 rfl rfl 5 (by decide) (hs.1 _ nw_8) rfl rfl dX8_count_36 ?_
    refine mv_topi (fun y1 ey1 => ?_)
    have hw := hw y1 ey1
    exact mv_iret C dX8_count_39 hw
  by_cases hc1_1 : x1 = (1 : Int32)
  · have hw := hw.2.1 hc1_1
    refine mv_tableIn (tgt := 40) C dX8_count_1 (by rw [hc1_1]; decide) (by rw [hc1_1]; decide) (by rw [hc1_1]; rfl) (by decide) ?_
    refine mv_aload_n C dX8_count_40 rfl 0 rfl ?_
    refine mv_get (v := .ref (a 16)) C iw_X8_count_X8 0 rfl rfl 7 (by decide) lk_X8_count_55 rfl rfl dX8_count_41 ?_
    refine mv_getN (v := .int (u.1 9)) C iw_X8_count_X0 16 rfl rfl 6 (by decide) (hs.1 _ nw_9) rfl rfl dX8_count_44 ?_
    refine mv_topi (fun y2 ey2 => ?_)
    have hw := hw y2 ey2
    exact mv_iret C dX8_count_47 hw
  by_cases hc1_2 : x1 = (2 : Int32)
  · have hw := hw.2.2.1 hc1_2
    refine mv_tableIn (tgt := 48) C dX8_count_1 (by rw [hc1_2]; decide) (by rw [hc1_2]; decide) (by rw [hc1_2]; rfl) (by decide) ?_
    refine mv_aload_n C dX8_count_48 rfl 0 rfl ?_
    refine mv_get (v := .ref (a 16)) C iw_X8_count_X8 0 rfl rfl 7 (by decide) lk_X8_count_55 rfl rfl dX8_count_49 ?_
    refine mv_getN (v := .int (u.1 10)) C iw_X8_count_X0 16 rfl rfl 7 (by decide) (hs.1 _ nw_10) rfl rfl dX8_count_52 ?_
    refine mv_topi (fun y3 ey3 => ?_)
    have hw := hw y3 ey3
    exact mv_iret C dX8_count_55 hw
  by_cases hc1_3 : x1 = (3 : Int32)
  · have hw := hw.2.2.2.1 hc1_3
    refine mv_tableIn (tgt := 56) C dX8_count_1 (by rw [hc1_3]; decide) (by rw [hc1_3]; decide) (by rw [hc1_3]; rfl) (by decide) ?_
    refine mv_aload_n C dX8_count_56 rfl 0 rfl ?_
    refine mv_get (v := .ref (a 16)) C iw_X8_count_X8 0 rfl rfl 7 (by decide) lk_X8_count_55 rfl rfl dX8_count_57 ?_
    refine mv_getN (v := .int (u.1 11)) C iw_X8_count_X0 16 rfl rfl 8 (by decide) (hs.1 _ nw_11) rfl rfl dX8_count_60 ?_
    refine mv_topi (fun y4 ey4 => ?_)
    have hw := hw y4 ey4
    exact mv_iret C dX8_count_63 hw
  have hw := hw.2.2.2.2 hc1_0 hc1_1 hc1_2 hc1_3
  refine mv_tableOut (tgt := 64) C dX8_count_1 (by have q0 : ¬ x1.toInt = 0 := mne hc1_0; have q1 : ¬ x1.toInt = 1 := mne hc1_1; have q2 : ¬ x1.toInt = 2 := mne hc1_2; have q3 : ¬ x1.toInt = 3 := mne hc1_3; omega) (by decide) ?_
  refine mv_iconst (v := (-1 : Int32)) C dX8_count_64 (by decide) ?_
  exact mv_iret C dX8_count_65 hw
end
