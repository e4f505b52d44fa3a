set_option maxRecDepth 20000 in
theorem ggX9_count_X9_kind : GoodIn wsX9_count wsX9_kind := goodIn_r _ [4, 5] (by decide +kernel) (by decide +kernel)
set_option maxRecDepth 20000 in
theorem gX9_count_X9_kind : GoodIn wsX9_count (va_wsS RX9 107 yX9_kind wsX9_kind) := goodIn_app (goodIn_of _ (by decide +kernel)) ggX9_count_X9_kind
set_option maxRecDepth 20000 in
theorem ggX9_count_X9_end : GoodIn wsX9_count wsX9_end := goodIn_r _ [8, 1, 2, 3, 4, 5] (by decide +kernel) (by decide +kernel)
set_option maxRecDepth 20000 in
theorem gX9_count_X9_end : GoodIn wsX9_count (va_wsS RX9 111 yX9_end wsX9_end) := goodIn_app (goodIn_of _ (by decide +kernel)) ggX9_count_X9_end
theorem dX9_count_0 : decode cX9_count 0 = .ok (.iconst 0, 1) := by decide +kernel
theorem dX9_count_1 : decode cX9_count 1 = .ok (.istore_n 2, 1) := by decide +kernel
theorem dX9_count_2 : decode cX9_count 2 = .ok (.iload_n 1, 1) := by decide +kernel
theorem dX9_count_3 : decode cX9_count 3 = .ok (.iconst 1, 1) := by decide +kernel
theorem dX9_count_4 : decode cX9_count 4 = .ok (.iadd, 1) := by decide +kernel
theorem dX9_count_5 : decode cX9_count 5 = .ok (.istore_n 3, 1) := by decide +kernel
theorem dX9_count_6 : decode cX9_count 6 = .ok (.aload_n 0, 1) := by decide +kernel
theorem dX9_count_7 : decode cX9_count 7 = .ok (.iload_n 3, 1) := by decide +kernel
theorem dX9_count_8 : decode cX9_count 8 = .ok (.invokestatic 107, 3) := by decide +kernel
theorem dX9_count_11 : decode cX9_count 11 = .ok (.iconst 2, 1) := by decide +kernel
theorem dX9_count_12 : decode cX9_count 12 = .ok (.if_icmp .eq 53, 3) := by decide +kernel
theorem dX9_count_15 : decode cX9_count 15 = .ok (.aload_n 0, 1) := by decide +kernel
theorem dX9_count_16 : decode cX9_count 16 = .ok (.iload_n 3, 1) := by decide +kernel
theorem dX9_count_17 : decode cX9_count 17 = .ok (.invokestatic 107, 3) := by decide +kernel
theorem dX9_count_20 : decode cX9_count 20 = .ok (.bipush 6, 2) := by decide +kernel
theorem dX9_count_22 : decode cX9_count 22 = .ok (.if_icmp .ne 7, 3) := by decide +kernel
theorem dX9_count_25 : decode cX9_count 25 = .ok (.iconst 1, 1) := by decide +kernel
theorem dX9_count_26 : decode cX9_count 26 = .ok (.goto 4, 3) := by decide +kernel
theorem dX9_count_29 : decode cX9_count 29 = .ok (.iconst 0, 1) := by decide +kernel
theorem dX9_count_30 : decode cX9_count 30 = .ok (.istore 4, 2) := by decide +kernel
theorem dX9_count_32 : decode cX9_count 32 = .ok (.iload 4, 2) := by decide +kernel
theorem dX9_count_34 : decode cX9_count 34 = .ok (.ifCond .eq 7, 3) := by decide +kernel
theorem dX9_count_37 : decode cX9_count 37 = .ok (.iload_n 2, 1) := by decide +kernel
theorem dX9_count_38 : decode cX9_count 38 = .ok (.goto 6, 3) := by decide +kernel
theorem dX9_count_41 : decode cX9_count 41 = .ok (.iload_n 2, 1) := by decide +kernel
theorem dX9_count_42 : decode cX9_count 42 = .ok (.iconst 1, 1) := by decide +kernel
theorem dX9_count_43 : decode cX9_count 43 = .ok (.iadd, 1) := by decide +kernel
theorem dX9_count_44 : decode cX9_count 44 = .ok (.istore_n 2, 1) := by decide +kernel
theorem dX9_count_45 : decode cX9_count 45 = .ok (.iload 4, 2) := by decide +kernel
theorem dX9_count_47 : decode cX9_count 47 = .ok (.ifCond .eq 9, 3) := by decide +kernel
theorem dX9_count_50 : decode cX9_count 50 = .ok (.iload_n 3, 1) := by decide +kernel
theorem dX9_count_51 : decode cX9_count 51 = .ok (.iconst 1, 1) := by decide +kernel
theorem dX9_count_52 : decode cX9_count 52 = .ok (.iadd, 1) := by decide +kernel
theorem dX9_count_53 : decode cX9_count 53 = .ok (.goto 8, 3) := by decide +kernel
theorem dX9_count_56 : decode cX9_count 56 = .ok (.aload_n 0, 1) := by decide +kernel
theorem dX9_count_57 : decode cX9_count 57 = .ok (.iload_n 3, 1) := by decide +kernel
theorem dX9_count_58 : decode cX9_count 58 = .ok (.invokestatic 111, 3) := by decide +kernel
theorem dX9_count_61 : decode cX9_count 61 = .ok (.istore_n 3, 1) := by decide +kernel
theorem dX9_count_62 : decode cX9_count 62 = .ok (.goto (-56), 3) := by decide +kernel
theorem dX9_count_65 : decode cX9_count 65 = .ok (.iload_n 2, 1) := by decide +kernel
theorem dX9_count_66 : decode cX9_count 66 = .ok (.ireturn, 1) := by decide +kernel
set_option maxRecDepth 20000 in
theorem ggX9_isPlain_X9_kind : GoodIn wsX9_isPlain wsX9_kind := goodIn_r _ [4, 5] (by decide +kernel) (by decide +kernel)
set_option maxRecDepth 20000 in
theorem gX9_isPlain_X9_kind : GoodIn wsX9_isPlain (va_wsS RX9 107 yX9_kind wsX9_kind) := goodIn_app (goodIn_of _ (by decide +kernel)) ggX9_isPlain_X9_kind
set_option maxRecDepth 20000 in
theorem ggX9_isPlain_X9_count : GoodIn wsX9_isPlain wsX9_count := goodIn_r _ [8, 1, 2, 3, 4, 5, 9, 10, 11] (by decide +kernel) (by decide +kernel)
set_option maxRecDepth 20000 in
theorem gX9_isPlain_X9_count : GoodIn wsX9_isPlain (va_wsS RX9 114 yX9_count wsX9_count) := goodIn_app (goodIn_of _ (by decide +kernel)) ggX9_isPlain_X9_count
set_option maxRecDepth 20000 in
theorem ggX9_isPlain_X9_dots : GoodIn wsX9_isPlain wsX9_dots := goodIn_r _ [14, 1, 2, 3, 4, 5, 9, 10, 11] (by decide +kernel) (by decide +kernel)
set_option maxRecDepth 20000 in
theorem gX9_isPlain_X9_dots : GoodIn wsX9_isPlain (va_wsS RX9 117 yX9_dots wsX9_dots) := goodIn_app (goodIn_of _ (by decide +kernel)) ggX9_isPlain_X9_dots
theorem dX9_isPlain_0 : decode cX9_isPlain 0 = .ok (.aload_n 0, 1) := by decide +kernel
theorem dX9_isPlain_1 : decode cX9_isPlain 1 = .ok (.iload_n 1, 1) := by decide +kernel
theorem dX9_isPlain_2 : decode cX9_isPlain 2 = .ok (.invokestatic 107, 3) := by decide +kernel
theorem dX9_isPlain_5 : decode cX9_isPlain 5 = .ok (.iconst 1, 1) := by decide +kernel
theorem dX9_isPlain_6 : decode cX9_isPlain 6 = .ok (.if_icmp .ne 24, 3) := by decide +kernel
theorem dX9_isPlain_9 : decode cX9_isPlain 9 = .ok (.aload_n 0, 1) := by decide +kernel
theorem dX9_isPlain_10 : decode cX9_isPlain 10 = .ok (.iload_n 1, 1) := by decide +kernel
theorem dX9_isPlain_11 : decode cX9_isPlain 11 = .ok (.invokestatic 114, 3) := by decide +kernel
theorem dX9_isPlain_14 : decode cX9_isPlain 14 = .ok (.iload_n 2, 1) := by decide +kernel
theorem dX9_isPlain_15 : decode cX9_isPlain 15 = .ok (.if_icmp .ne 15, 3) := by decide +kernel
theorem dX9_isPlain_18 : decode cX9_isPlain 18 = .ok (.aload_n 0, 1) := by decide +kernel
theorem dX9_isPlain_19 : decode cX9_isPlain 19 = .ok (.iload_n 1, 1) := by decide +kernel
theorem dX9_isPlain_20 : decode cX9_isPlain 20 = .ok (.invokestatic 117, 3) := by decide +kernel
theorem dX9_isPlain_23 : decode cX9_isPlain 23 = .ok (.ifCond .ne 7, 3) := by decide +kernel
theorem dX9_isPlain_26 : decode cX9_isPlain 26 = .ok (.iconst 1, 1) := by decide +kernel
theorem dX9_isPlain_27 : decode cX9_isPlain 27 = .ok (.goto 4, 3) := by decide +kernel
theorem dX9_isPlain_30 : decode cX9_isPlain 30 = .ok (.iconst 0, 1) := by decide +kernel
theorem dX9_isPlain_31 : decode cX9_isPlain 31 = .ok (.ireturn, 1) := by decide +kernel
set_option maxRecDepth 20000 in
theorem ggX9_heldBy_X9_kind : GoodIn wsX9_heldBy wsX9_kind := goodIn_r _ [5, 6] (by decide +kernel) (by decide +kernel)
set_option maxRecDepth 20000 in
theorem gX9_heldBy_X9_kind : GoodIn wsX9_heldBy (va_wsS RX9 107 yX9_kind wsX9_kind) := goodIn_app (goodIn_of _ (by decide +kernel)) ggX9_heldBy_X9_kind
set_option maxRecDepth 20000 in
theorem ggX9_heldBy_X9_end : GoodIn wsX9_heldBy wsX9_end := goodIn_r _ [9, 2, 3, 4, 5, 6] (by decide +kernel) (by decide +kernel)
set_option maxRecDepth 20000 in
theorem gX9_heldBy_X9_end : GoodIn wsX9_heldBy (va_wsS RX9 111 yX9_end wsX9_end) := goodIn_app (goodIn_of _ (by decide +kernel)) ggX9_heldBy_X9_end
theorem dX9_heldBy_0 : decode cX9_heldBy 0 = .ok (.iconst 0, 1) := by decide +kernel
theorem dX9_heldBy_1 : decode cX9_heldBy 1 = .ok (.istore 4, 2) := by decide +kernel
theorem dX9_heldBy_3 : decode cX9_heldBy 3 = .ok (.iload_n 1, 1) := by decide +kernel
theorem dX9_heldBy_4 : decode cX9_heldBy 4 = .ok (.istore 5, 2) := by decide +kernel
theorem dX9_heldBy_6 : decode cX9_heldBy 6 = .ok (.iload 5, 2) := by decide +kernel
theorem dX9_heldBy_8 : decode cX9_heldBy 8 = .ok (.iload_n 3, 1) := by decide +kernel
theorem dX9_heldBy_9 : decode cX9_heldBy 9 = .ok (.if_icmp .gt 100, 3) := by decide +kernel
theorem dX9_heldBy_12 : decode cX9_heldBy 12 = .ok (.aload_n 0, 1) := by decide +kernel
theorem dX9_heldBy_13 : decode cX9_heldBy 13 = .ok (.getfield 19, 3) := by decide +kernel
theorem dX9_heldBy_16 : decode cX9_heldBy 16 = .ok (.iload 5, 2) := by decide +kernel
theorem dX9_heldBy_18 : decode cX9_heldBy 18 = .ok (.invokestatic 107, 3) := by decide +kernel
theorem dX9_heldBy_21 : decode cX9_heldBy 21 = .ok (.iconst 2, 1) := by decide +kernel
theorem dX9_heldBy_22 : decode cX9_heldBy 22 = .ok (.if_icmp .eq 21, 3) := by decide +kernel
theorem dX9_heldBy_25 : decode cX9_heldBy 25 = .ok (.aload_n 0, 1) := by decide +kernel
theorem dX9_heldBy_26 : decode cX9_heldBy 26 = .ok (.getfield 19, 3) := by decide +kernel
theorem dX9_heldBy_29 : decode cX9_heldBy 29 = .ok (.iload 5, 2) := by decide +kernel
theorem dX9_heldBy_31 : decode cX9_heldBy 31 = .ok (.invokestatic 107, 3) := by decide +kernel
theorem dX9_heldBy_34 : decode cX9_heldBy 34 = .ok (.bipush 6, 2) := by decide +kernel
theorem dX9_heldBy_36 : decode cX9_heldBy 36 = .ok (.if_icmp .eq 7, 3) := by decide +kernel
theorem dX9_heldBy_39 : decode cX9_heldBy 39 = .ok (.iconst 1, 1) := by decide +kernel
theorem dX9_heldBy_40 : decode cX9_heldBy 40 = .ok (.goto 4, 3) := by decide +kernel
theorem dX9_heldBy_43 : decode cX9_heldBy 43 = .ok (.iconst 0, 1) := by decide +kernel
theorem dX9_heldBy_44 : decode cX9_heldBy 44 = .ok (.istore 6, 2) := by decide +kernel
theorem dX9_heldBy_46 : decode cX9_heldBy 46 = .ok (.iload 6, 2) := by decide +kernel
theorem dX9_heldBy_48 : decode cX9_heldBy 48 = .ok (.ifCond .eq 15, 3) := by decide +kernel
theorem dX9_heldBy_51 : decode cX9_heldBy 51 = .ok (.aload_n 0, 1) := by decide +kernel
theorem dX9_heldBy_52 : decode cX9_heldBy 52 = .ok (.getfield 19, 3) := by decide +kernel
theorem dX9_heldBy_55 : decode cX9_heldBy 55 = .ok (.iload 5, 2) := by decide +kernel
theorem dX9_heldBy_57 : decode cX9_heldBy 57 = .ok (.invokestatic 111, 3) := by decide +kernel
theorem dX9_heldBy_60 : decode cX9_heldBy 60 = .ok (.goto 4, 3) := by decide +kernel
theorem dX9_heldBy_63 : decode cX9_heldBy 63 = .ok (.iload_n 2, 1) := by decide +kernel
theorem dX9_heldBy_64 : decode cX9_heldBy 64 = .ok (.istore 7, 2) := by decide +kernel
theorem dX9_heldBy_66 : decode cX9_heldBy 66 = .ok (.iload 7, 2) := by decide +kernel
theorem dX9_heldBy_68 : decode cX9_heldBy 68 = .ok (.iload_n 2, 1) := by decide +kernel
theorem dX9_heldBy_69 : decode cX9_heldBy 69 = .ok (.if_icmp .ge 30, 3) := by decide +kernel
theorem dX9_heldBy_72 : decode cX9_heldBy 72 = .ok (.iload 7, 2) := by decide +kernel
theorem dX9_heldBy_74 : decode cX9_heldBy 74 = .ok (.iload_n 3, 1) := by decide +kernel
theorem dX9_heldBy_75 : decode cX9_heldBy 75 = .ok (.if_icmp .le 24, 3) := by decide +kernel
theorem dX9_heldBy_78 : decode cX9_heldBy 78 = .ok (.aload_n 0, 1) := by decide +kernel
theorem dX9_heldBy_79 : decode cX9_heldBy 79 = .ok (.getfield 19, 3) := by decide +kernel
theorem dX9_heldBy_82 : decode cX9_heldBy 82 = .ok (.iload 7, 2) := by decide +kernel
theorem dX9_heldBy_84 : decode cX9_heldBy 84 = .ok (.invokestatic 107, 3) := by decide +kernel
theorem dX9_heldBy_87 : decode cX9_heldBy 87 = .ok (.bipush 6, 2) := by decide +kernel
theorem dX9_heldBy_89 : decode cX9_heldBy 89 = .ok (.if_icmp .ne 10, 3) := by decide +kernel
theorem dX9_heldBy_92 : decode cX9_heldBy 92 = .ok (.iload 4, 2) := by decide +kernel
theorem dX9_heldBy_94 : decode cX9_heldBy 94 = .ok (.iconst 1, 1) := by decide +kernel
theorem dX9_heldBy_95 : decode cX9_heldBy 95 = .ok (.iadd, 1) := by decide +kernel
theorem dX9_heldBy_96 : decode cX9_heldBy 96 = .ok (.goto 5, 3) := by decide +kernel
theorem dX9_heldBy_99 : decode cX9_heldBy 99 = .ok (.iload 4, 2) := by decide +kernel
theorem dX9_heldBy_101 : decode cX9_heldBy 101 = .ok (.istore 4, 2) := by decide +kernel
theorem dX9_heldBy_103 : decode cX9_heldBy 103 = .ok (.iinc 5 1, 3) := by decide +kernel
theorem dX9_heldBy_106 : decode cX9_heldBy 106 = .ok (.goto (-100), 3) := by decide +kernel
theorem dX9_heldBy_109 : decode cX9_heldBy 109 = .ok (.iload 4, 2) := by decide +kernel
theorem dX9_heldBy_111 : decode cX9_heldBy 111 = .ok (.ireturn, 1) := by decide +kernel
set_option maxRecDepth 20000 in
theorem ggX9_variable_X9_end : GoodIn wsX9_variable wsX9_end := goodIn_r _ [6, 7, 8, 5, 9, 10] (by decide +kernel) (by decide +kernel)
set_option maxRecDepth 20000 in
theorem gX9_variable_X9_end : GoodIn wsX9_variable (va_wsS RX9 111 yX9_end wsX9_end) := goodIn_app (goodIn_of _ (by decide +kernel)) ggX9_variable_X9_end
theorem dX9_variable_0 : decode cX9_variable 0 = .ok (.aload_n 0, 1) := by decide +kernel
theorem dX9_variable_1 : decode cX9_variable 1 = .ok (.getfield 19, 3) := by decide +kernel
theorem dX9_variable_4 : decode cX9_variable 4 = .ok (.iload_n 1, 1) := by decide +kernel
theorem dX9_variable_5 : decode cX9_variable 5 = .ok (.invokestatic 111, 3) := by decide +kernel
theorem dX9_variable_8 : decode cX9_variable 8 = .ok (.iconst 1, 1) := by decide +kernel
theorem dX9_variable_9 : decode cX9_variable 9 = .ok (.isub, 1) := by decide +kernel
theorem dX9_variable_10 : decode cX9_variable 10 = .ok (.istore 4, 2) := by decide +kernel
theorem dX9_variable_12 : decode cX9_variable 12 = .ok (.aload_n 0, 1) := by decide +kernel
theorem dX9_variable_13 : decode cX9_variable 13 = .ok (.getfield 19, 3) := by decide +kernel
theorem dX9_variable_16 : decode cX9_variable 16 = .ok (.iload_n 1, 1) := by decide +kernel
theorem dX9_variable_17 : decode cX9_variable 17 = .ok (.iconst 1, 1) := by decide +kernel
theorem dX9_variable_18 : decode cX9_variable 18 = .ok (.iadd, 1) := by decide +kernel
theorem dX9_variable_19 : decode cX9_variable 19 = .ok (.invokestatic 111, 3) := by decide +kernel
theorem dX9_variable_22 : decode cX9_variable 22 = .ok (.istore 5, 2) := by decide +kernel
theorem dX9_variable_24 : decode cX9_variable 24 = .ok (.iload 5, 2) := by decide +kernel
theorem dX9_variable_26 : decode cX9_variable 26 = .ok (.iload 4, 2) := by decide +kernel
theorem dX9_variable_28 : decode cX9_variable 28 = .ok (.if_icmp .ge 34, 3) := by decide +kernel
theorem dX9_variable_31 : decode cX9_variable 31 = .ok (.aload_n 0, 1) := by decide +kernel
theorem dX9_variable_32 : decode cX9_variable 32 = .ok (.getfield 19, 3) := by decide +kernel
theorem dX9_variable_35 : decode cX9_variable 35 = .ok (.iload 5, 2) := by decide +kernel
theorem dX9_variable_37 : decode cX9_variable 37 = .ok (.iaload, 1) := by decide +kernel
theorem dX9_variable_38 : decode cX9_variable 38 = .ok (.iload_n 2, 1) := by decide +kernel
theorem dX9_variable_39 : decode cX9_variable 39 = .ok (.if_icmp .ne 17, 3) := by decide +kernel
theorem dX9_variable_42 : decode cX9_variable 42 = .ok (.aload_n 0, 1) := by decide +kernel
theorem dX9_variable_43 : decode cX9_variable 43 = .ok (.getfield 22, 3) := by decide +kernel
theorem dX9_variable_46 : decode cX9_variable 46 = .ok (.iload 5, 2) := by decide +kernel
theorem dX9_variable_48 : decode cX9_variable 48 = .ok (.iaload, 1) := by decide +kernel
theorem dX9_variable_49 : decode cX9_variable 49 = .ok (.iload_n 3, 1) := by decide +kernel
theorem dX9_variable_50 : decode cX9_variable 50 = .ok (.if_icmp .ne 6, 3) := by decide +kernel
theorem dX9_variable_53 : decode cX9_variable 53 = .ok (.iload 5, 2) := by decide +kernel
theorem dX9_variable_55 : decode cX9_variable 55 = .ok (.ireturn, 1) := by decide +kernel
theorem dX9_variable_56 : decode cX9_variable 56 = .ok (.iinc 5 1, 3) := by decide +kernel
theorem dX9_variable_59 : decode cX9_variable 59 = .ok (.goto (-35), 3) := by decide +kernel
theorem dX9_variable_62 : decode cX9_variable 62 = .ok (.iconst (-1), 1) := by decide +kernel
theorem dX9_variable_63 : decode cX9_variable 63 = .ok (.ireturn, 1) := by decide +kernel
set_option maxRecDepth 20000 in
theorem ggX9_isPattern_X9_kind : GoodIn wsX9_isPattern wsX9_kind := goodIn_r _ [6, 7] (by decide +kernel) (by decide +kernel)
set_option maxRecDepth 20000 in
theorem gX9_isPattern_X9_kind : GoodIn wsX9_isPattern (va_wsS RX9 107 yX9_kind wsX9_kind) := goodIn_app (goodIn_of _ (by decide +kernel)) ggX9_isPattern_X9_kind
set_option maxRecDepth 20000 in
theorem ggX9_isPattern_X9_count : GoodIn wsX9_isPattern wsX9_count := goodIn_r _ [10, 3, 4, 5, 6, 7, 11, 12, 13] (by decide +kernel) (by decide +kernel)
set_option maxRecDepth 20000 in
theorem gX9_isPattern_X9_count : GoodIn wsX9_isPattern (va_wsS RX9 114 yX9_count wsX9_count) := goodIn_app (goodIn_of _ (by decide +kernel)) ggX9_isPattern_X9_count
set_option maxRecDepth 20000 in
theorem ggX9_isPattern_X9_end : GoodIn wsX9_isPattern wsX9_end := goodIn_r _ [13, 3, 4, 5, 6, 7] (by decide +kernel) (by decide +kernel)
set_option maxRecDepth 20000 in
theorem gX9_isPattern_X9_end : GoodIn wsX9_isPattern (va_wsS RX9 111 yX9_end wsX9_end) := goodIn_app (goodIn_of _ (by decide +kernel)) ggX9_isPattern_X9_end
set_option maxRecDepth 20000 in
theorem ggX9_isPattern_X9_heldBy : GoodIn wsX9_isPattern wsX9_heldBy := goodIn_r _ [17, 1, 3, 4, 5, 6, 7, 11, 12, 13, 22, 23, 24, 25, 26, 27, 28, 29, 30, 31, 32, 33, 34, 35, 36, 37, 38, 39, 40, 41, 42, 43, 44, 45, 46, 47, 48, 49, 50, 51, 52, 53, 54, 55, 56, 57] (by decide +kernel) (by decide +kernel)
set_option maxRecDepth 20000 in
theorem gX9_isPattern_X9_heldBy : GoodIn wsX9_isPattern (wsV RX9 120 RX9 yX9_heldBy wsX9_heldBy) := goodIn_app (goodIn_of _ (by decide +kernel)) ggX9_isPattern_X9_heldBy
set_option maxRecDepth 20000 in
theorem ggX9_isPattern_X9_variable : GoodIn wsX9_isPattern wsX9_variable := goodIn_r _ [21, 1, 2, 11, 12, 5, 13, 3, 4, 6, 7, 22, 23, 24, 25, 26, 27, 28, 29, 30, 31, 32, 33, 34, 35, 36, 37, 38, 39, 40, 41, 42, 43, 44, 45, 46, 47, 48, 49, 50, 51, 52, 53, 54, 55, 56, 57] (by decide +kernel) (by decide +kernel)
set_option maxRecDepth 20000 in
theorem gX9_isPattern_X9_variable : GoodIn wsX9_isPattern (wsV RX9 124 RX9 yX9_variable wsX9_variable) := goodIn_app (goodIn_of _ (by decide +kernel)) ggX9_isPattern_X9_variable
theorem dX9_isPattern_0 : decode cX9_isPattern 0 = .ok (.aload_n 0, 1) := by decide +kernel
theorem dX9_isPattern_1 : decode cX9_isPattern 1 = .ok (.getfield 19, 3) := by decide +kernel
theorem dX9_isPattern_4 : decode cX9_isPattern 4 = .ok (.iload_n 1, 1) := by decide +kernel
theorem dX9_isPattern_5 : decode cX9_isPattern 5 = .ok (.invokestatic 107, 3) := by decide +kernel
theorem dX9_isPattern_8 : decode cX9_isPattern 8 = .ok (.iconst 1, 1) := by decide +kernel
theorem dX9_isPattern_9 : decode cX9_isPattern 9 = .ok (.if_icmp .ne 14, 3) := by decide +kernel
theorem dX9_isPattern_12 : decode cX9_isPattern 12 = .ok (.aload_n 0, 1) := by decide +kernel
theorem dX9_isPattern_13 : decode cX9_isPattern 13 = .ok (.getfield 19, 3) := by decide +kernel
theorem dX9_isPattern_16 : decode cX9_isPattern 16 = .ok (.iload_n 1, 1) := by decide +kernel
theorem dX9_isPattern_17 : decode cX9_isPattern 17 = .ok (.invokestatic 114, 3) := by decide +kernel
theorem dX9_isPattern_20 : decode cX9_isPattern 20 = .ok (.ifCond .ne 5, 3) := by decide +kernel
theorem dX9_isPattern_23 : decode cX9_isPattern 23 = .ok (.iconst 0, 1) := by decide +kernel
theorem dX9_isPattern_24 : decode cX9_isPattern 24 = .ok (.ireturn, 1) := by decide +kernel
theorem dX9_isPattern_25 : decode cX9_isPattern 25 = .ok (.aload_n 0, 1) := by decide +kernel
theorem dX9_isPattern_26 : decode cX9_isPattern 26 = .ok (.getfield 19, 3) := by decide +kernel
theorem dX9_isPattern_29 : decode cX9_isPattern 29 = .ok (.iload_n 1, 1) := by decide +kernel
theorem dX9_isPattern_30 : decode cX9_isPattern 30 = .ok (.invokestatic 111, 3) := by decide +kernel
theorem dX9_isPattern_33 : decode cX9_isPattern 33 = .ok (.iconst 1, 1) := by decide +kernel
theorem dX9_isPattern_34 : decode cX9_isPattern 34 = .ok (.isub, 1) := by decide +kernel
theorem dX9_isPattern_35 : decode cX9_isPattern 35 = .ok (.istore_n 2, 1) := by decide +kernel
theorem dX9_isPattern_36 : decode cX9_isPattern 36 = .ok (.aload_n 0, 1) := by decide +kernel
theorem dX9_isPattern_37 : decode cX9_isPattern 37 = .ok (.getfield 19, 3) := by decide +kernel
theorem dX9_isPattern_40 : decode cX9_isPattern 40 = .ok (.iload_n 1, 1) := by decide +kernel
theorem dX9_isPattern_41 : decode cX9_isPattern 41 = .ok (.iconst 1, 1) := by decide +kernel
theorem dX9_isPattern_42 : decode cX9_isPattern 42 = .ok (.iadd, 1) := by decide +kernel
theorem dX9_isPattern_43 : decode cX9_isPattern 43 = .ok (.invokestatic 111, 3) := by decide +kernel
theorem dX9_isPattern_46 : decode cX9_isPattern 46 = .ok (.istore_n 3, 1) := by decide +kernel
theorem dX9_isPattern_47 : decode cX9_isPattern 47 = .ok (.aload_n 0, 1) := by decide +kernel
theorem dX9_isPattern_48 : decode cX9_isPattern 48 = .ok (.getfield 19, 3) := by decide +kernel
theorem dX9_isPattern_51 : decode cX9_isPattern 51 = .ok (.iload_n 3, 1) := by decide +kernel
theorem dX9_isPattern_52 : decode cX9_isPattern 52 = .ok (.invokestatic 107, 3) := by decide +kernel
theorem dX9_isPattern_55 : decode cX9_isPattern 55 = .ok (.bipush 6, 2) := by decide +kernel
theorem dX9_isPattern_57 : decode cX9_isPattern 57 = .ok (.if_icmp .ne 5, 3) := by decide +kernel
theorem dX9_isPattern_60 : decode cX9_isPattern 60 = .ok (.iconst 0, 1) := by decide +kernel
theorem dX9_isPattern_61 : decode cX9_isPattern 61 = .ok (.ireturn, 1) := by decide +kernel
theorem dX9_isPattern_62 : decode cX9_isPattern 62 = .ok (.iload_n 3, 1) := by decide +kernel
theorem dX9_isPattern_63 : decode cX9_isPattern 63 = .ok (.istore 4, 2) := by decide +kernel
theorem dX9_isPattern_65 : decode cX9_isPattern 65 = .ok (.iload 4, 2) := by decide +kernel
theorem dX9_isPattern_67 : decode cX9_isPattern 67 = .ok (.iload_n 2, 1) := by decide +kernel
theorem dX9_isPattern_68 : decode cX9_isPattern 68 = .ok (.if_icmp .ge 103, 3) := by decide +kernel
theorem dX9_isPattern_71 : decode cX9_isPattern 71 = .ok (.aload_n 0, 1) := by decide +kernel
theorem dX9_isPattern_72 : decode cX9_isPattern 72 = .ok (.getfield 19, 3) := by decide +kernel
theorem dX9_isPattern_75 : decode cX9_isPattern 75 = .ok (.iload 4, 2) := by decide +kernel
theorem dX9_isPattern_77 : decode cX9_isPattern 77 = .ok (.invokestatic 107, 3) := by decide +kernel
theorem dX9_isPattern_80 : decode cX9_isPattern 80 = .ok (.istore 5, 2) := by decide +kernel
theorem dX9_isPattern_82 : decode cX9_isPattern 82 = .ok (.iload 5, 2) := by decide +kernel
theorem dX9_isPattern_84 : decode cX9_isPattern 84 = .ok (.bipush 6, 2) := by decide +kernel
theorem dX9_isPattern_86 : decode cX9_isPattern 86 = .ok (.if_icmp .ne 20, 3) := by decide +kernel
theorem dX9_isPattern_89 : decode cX9_isPattern 89 = .ok (.aload_n 0, 1) := by decide +kernel
theorem dX9_isPattern_90 : decode cX9_isPattern 90 = .ok (.getfield 19, 3) := by decide +kernel
theorem dX9_isPattern_93 : decode cX9_isPattern 93 = .ok (.iload 4, 2) := by decide +kernel
theorem dX9_isPattern_95 : decode cX9_isPattern 95 = .ok (.iconst 1, 1) := by decide +kernel
theorem dX9_isPattern_96 : decode cX9_isPattern 96 = .ok (.iadd, 1) := by decide +kernel
theorem dX9_isPattern_97 : decode cX9_isPattern 97 = .ok (.invokestatic 107, 3) := by decide +kernel
theorem dX9_isPattern_100 : decode cX9_isPattern 100 = .ok (.iconst 2, 1) := by decide +kernel
theorem dX9_isPattern_101 : decode cX9_isPattern 101 = .ok (.if_icmp .eq 5, 3) := by decide +kernel
theorem dX9_isPattern_104 : decode cX9_isPattern 104 = .ok (.iconst 0, 1) := by decide +kernel
theorem dX9_isPattern_105 : decode cX9_isPattern 105 = .ok (.ireturn, 1) := by decide +kernel
theorem dX9_isPattern_106 : decode cX9_isPattern 106 = .ok (.iload 5, 2) := by decide +kernel
theorem dX9_isPattern_108 : decode cX9_isPattern 108 = .ok (.iconst 2, 1) := by decide +kernel
theorem dX9_isPattern_109 : decode cX9_isPattern 109 = .ok (.if_icmp .eq 24, 3) := by decide +kernel
theorem dX9_isPattern_112 : decode cX9_isPattern 112 = .ok (.iload 5, 2) := by decide +kernel
theorem dX9_isPattern_114 : decode cX9_isPattern 114 = .ok (.bipush 6, 2) := by decide +kernel
theorem dX9_isPattern_116 : decode cX9_isPattern 116 = .ok (.if_icmp .eq 17, 3) := by decide +kernel
theorem dX9_isPattern_119 : decode cX9_isPattern 119 = .ok (.aload_n 0, 1) := by decide +kernel
theorem dX9_isPattern_120 : decode cX9_isPattern 120 = .ok (.iload_n 1, 1) := by decide +kernel
theorem dX9_isPattern_121 : decode cX9_isPattern 121 = .ok (.iconst 1, 1) := by decide +kernel
theorem dX9_isPattern_122 : decode cX9_isPattern 122 = .ok (.iadd, 1) := by decide +kernel
theorem dX9_isPattern_123 : decode cX9_isPattern 123 = .ok (.iload_n 2, 1) := by decide +kernel
theorem dX9_isPattern_124 : decode cX9_isPattern 124 = .ok (.iload 4, 2) := by decide +kernel
theorem dX9_isPattern_126 : decode cX9_isPattern 126 = .ok (.invokevirtual 120, 3) := by decide +kernel
theorem dX9_isPattern_129 : decode cX9_isPattern 129 = .ok (.iconst 2, 1) := by decide +kernel
theorem dX9_isPattern_130 : decode cX9_isPattern 130 = .ok (.if_icmp .gt 33, 3) := by decide +kernel
theorem dX9_isPattern_133 : decode cX9_isPattern 133 = .ok (.iload 5, 2) := by decide +kernel
theorem dX9_isPattern_135 : decode cX9_isPattern 135 = .ok (.iconst 3, 1) := by decide +kernel
theorem dX9_isPattern_136 : decode cX9_isPattern 136 = .ok (.if_icmp .ne 29, 3) := by decide +kernel
theorem dX9_isPattern_139 : decode cX9_isPattern 139 = .ok (.aload_n 0, 1) := by decide +kernel
theorem dX9_isPattern_140 : decode cX9_isPattern 140 = .ok (.iload_n 1, 1) := by decide +kernel
theorem dX9_isPattern_141 : decode cX9_isPattern 141 = .ok (.aload_n 0, 1) := by decide +kernel
theorem dX9_isPattern_142 : decode cX9_isPattern 142 = .ok (.getfield 19, 3) := by decide +kernel
theorem dX9_isPattern_145 : decode cX9_isPattern 145 = .ok (.iload 4, 2) := by decide +kernel
theorem dX9_isPattern_147 : decode cX9_isPattern 147 = .ok (.iaload, 1) := by decide +kernel
theorem dX9_isPattern_148 : decode cX9_isPattern 148 = .ok (.aload_n 0, 1) := by decide +kernel
theorem dX9_isPattern_149 : decode cX9_isPattern 149 = .ok (.getfield 22, 3) := by decide +kernel
theorem dX9_isPattern_152 : decode cX9_isPattern 152 = .ok (.iload 4, 2) := by decide +kernel
theorem dX9_isPattern_154 : decode cX9_isPattern 154 = .ok (.iaload, 1) := by decide +kernel
theorem dX9_isPattern_155 : decode cX9_isPattern 155 = .ok (.invokevirtual 124, 3) := by decide +kernel
theorem dX9_isPattern_158 : decode cX9_isPattern 158 = .ok (.iload 4, 2) := by decide +kernel
theorem dX9_isPattern_160 : decode cX9_isPattern 160 = .ok (.if_icmp .eq 5, 3) := by decide +kernel
theorem dX9_isPattern_163 : decode cX9_isPattern 163 = .ok (.iconst 0, 1) := by decide +kernel
theorem dX9_isPattern_164 : decode cX9_isPattern 164 = .ok (.ireturn, 1) := by decide +kernel
theorem dX9_isPattern_165 : decode cX9_isPattern 165 = .ok (.iinc 4 1, 3) := by decide +kernel
theorem dX9_isPattern_168 : decode cX9_isPattern 168 = .ok (.goto (-103), 3) := by decide +kernel
theorem dX9_isPattern_171 : decode cX9_isPattern 171 = .ok (.iconst 1, 1) := by decide +kernel
theorem dX9_isPattern_172 : decode cX9_isPattern 172 = .ok (.ireturn, 1) := by decide +kernel
theorem iw_X9_isPattern_X9 : ∀ w ∈ wsX90, w ∈ wsX9_isPattern := by decide +kernel
theorem lk_X9_isPattern_19 : Cond.fieldLink RX9 19 "MarkedNamesModel" "kept" "[I" ∈ wsX9_isPattern := by decide +kernel
theorem iw_X9_heldBy_X9 : ∀ w ∈ wsX90, w ∈ wsX9_heldBy := by decide +kernel
theorem lk_X9_heldBy_19 : Cond.fieldLink RX9 19 "MarkedNamesModel" "kept" "[I" ∈ wsX9_heldBy := by decide +kernel
theorem lk_X9_isPattern_22 : Cond.fieldLink RX9 22 "MarkedNamesModel" "keptSet" "[I" ∈ wsX9_isPattern := by decide +kernel
theorem iw_X9_variable_X9 : ∀ w ∈ wsX90, w ∈ wsX9_variable := by decide +kernel
theorem lk_X9_variable_19 : Cond.fieldLink RX9 19 "MarkedNamesModel" "kept" "[I" ∈ wsX9_variable := by decide +kernel
theorem lk_X9_variable_22 : Cond.fieldLink RX9 22 "MarkedNamesModel" "keptSet" "[I" ∈ wsX9_variable := by decide +kernel
section
variable {l : Launch} {p : Program} {e : Env} {s : State} {m : MethodId} {args : Array Value} {below : List Frame} {meth : Method} {c : Code} {A : Nat → Prop} {dC : Nat → ClassId} {dI : Nat → Nat → Nat} {cA : ClassId} {a b : Nat → Nat} {lev : Nat}
set_option maxHeartbeats 4000000 in
set_option maxRecDepth 100000 in
theorem wj_X9_count_4_61_ok (C : mC p s m args meth c cX9_count 5 wsX9_count RX9 (some .int) (dC, dI) vwCl [(cA, .int)] A) (hs : eM A s) (hlev : 2 ≤ lev) {post : Int32 → mS → Prop} {K6 : Int32 → Int32 → mS → Prop} (hK6 : ∀ (x2 x3 : Int32) (u : mS), K6 x2 x3 u → mV p l e (mRm lev) s m args below meth c 5 (dC, dI) vwCl A 0 0 (mQi below args s (dC, dI) vwCl [(cA, .int)] (wM cA b) A post) (wM cA b u) 6 [(0, .ref (b 4)), (2, .int x2), (3, .int x3)] []) {x2 z0 : Int32} {u : mS} (hw : wj_X9_count_4_61 K6 post x2 z0 u) : mV p l e (mRm lev) s m args below meth c 5 (dC, dI) vwCl A 0 0 (mQi below args s (dC, dI) vwCl [(cA, .int)] (wM cA b) A post) (wM cA b u) 61 [(0, .ref (b 4)), (2, .int x2)] [.int z0] := by
  unfold wj_X9_count_4_61 at hw
  refine mv_istore_n (lv1 := [(3, .int z0), (0, .ref (b 4)), (2, .int x2)]) C dX9_count_61 rfl (by decide) rfl ?_
  refine mv_goto (tgt := 6) C dX9_count_62 (by decide) ?_
  refine mv_sub [1, 2, 0] rfl ?_
  exact hK6 x2 z0 u hw
set_option maxHeartbeats 4000000 in
set_option maxRecDepth 100000 in
theorem wj_X9_count_4_44_ok (C : mC p s m args meth c cX9_count 5 wsX9_count RX9 (some .int) (dC, dI) vwCl [(cA, .int)] A) (hs : eM A s) (hlev : 2 ≤ lev) {post : Int32 → mS → Prop} {K6 : Int32 → Int32 → mS → Prop} (hK6 : ∀ (x2 x3 : Int32) (u : mS), K6 x2 x3 u → mV p l e (mRm lev) s m args below meth c 5 (dC, dI) vwCl A 0 0 (mQi below args s (dC, dI) vwCl [(cA, .int)] (wM cA b) A post) (wM cA b u) 6 [(0, .ref (b 4)), (2, .int x2), (3, .int x3)] []) {x3 x4 z0 : Int32} {u : mS} (hw : wj_X9_count_4_44 K6 post x3 x4 z0 u) : mV p l e (mRm lev) s m args below meth c 5 (dC, dI) vwCl A 0 0 (mQi below args s (dC, dI) vwCl [(cA, .int)] (wM cA b) A post) (wM cA b u) 44 [(0, .ref (b 4)), (3, .int x3), (4, .int x4)] [.int z0] := by
  unfold wj_X9_count_4_44 at hw
  refine mv_istore_n (lv1 := [(2, .int z0), (0, .ref (b 4)), (3, .int x3), (4, .int x4)]) C dX9_count_44 rfl (by decide) rfl ?_
  refine mv_iload C dX9_count_45 3 rfl ?_
  refine mv_if_eq (tgt := 56) C dX9_count_47 (by decide) (fun h10 => ?_) (fun h10 => ?_)
  · have hw := hw.1 h10
    refine mv_aload_n C dX9_count_56 rfl 1 rfl ?_
    refine mv_iload_n C dX9_count_57 rfl 2 rfl ?_
    refine mv_callSi (f := wM cA b) (As := [.ref (b 4), .int x3]) (rest := []) C eM_ok hs (X9_end_4_met (l := l) (lev := lev - 1) (by omega) hw) (va_cwS 2 C.2.2.2.2.1 gX9_count_X9_end rfl rfl rfl (by decide +kernel) (mRm_le (by omega) (by decide))) rfl rfl (Nat.le_of_ble_eq_true rfl) dX9_count_58 ⟨Nat.le_refl 0, Nat.le_refl 0⟩ (fun r11 u12 hw => ?_)
    refine mv_sub [1, 0] rfl ?_
    exact wj_X9_count_4_61_ok C hs hlev hK6 hw
  · have hw := hw.2 h10
    refine mv_iload_n C dX9_count_50 rfl 2 rfl ?_
    refine mv_iconst (v := (1 : Int32)) C dX9_count_51 (by decide) ?_
    refine mv_iadd C dX9_count_52 ?_
    refine mv_topi (fun y13 ey13 => ?_)
    have hw := hw y13 ey13
    refine mv_goto (tgt := 61) C dX9_count_53 (by decide) ?_
    refine mv_sub [1, 0] rfl ?_
    exact wj_X9_count_4_61_ok C hs hlev hK6 hw
set_option maxHeartbeats 4000000 in
set_option maxRecDepth 100000 in
theorem wj_X9_count_4_30_ok (C : mC p s m args meth c cX9_count 5 wsX9_count RX9 (some .int) (dC, dI) vwCl [(cA, .int)] A) (hs : eM A s) (hlev : 2 ≤ lev) {post : Int32 → mS → Prop} {K6 : Int32 → Int32 → mS → Prop} (hK6 : ∀ (x2 x3 : Int32) (u : mS), K6 x2 x3 u → mV p l e (mRm lev) s m args below meth c 5 (dC, dI) vwCl A 0 0 (mQi below args s (dC, dI) vwCl [(cA, .int)] (wM cA b) A post) (wM cA b u) 6 [(0, .ref (b 4)), (2, .int x2), (3, .int x3)] []) {x2 x3 z0 : Int32} {u : mS} (hw : wj_X9_count_4_30 K6 post x2 x3 z0 u) : mV p l e (mRm lev) s m args below meth c 5 (dC, dI) vwCl A 0 0 (mQi below args s (dC, dI) vwCl [(cA, .int)] (wM cA b) A post) (wM cA b u) 30 [(0, .ref (b 4)), (2, .int x2), (3, .int x3)] [.int z0] := by
  unfold wj_X9_count_4_30 at hw
  refine mv_istore (lv1 := [(4, .int z0), (0, .ref (b 4)), (2, .int x2), (3, .int x3)]) C dX9_count_30 (by decide) rfl ?_
  refine mv_iload C dX9_count_32 0 rfl ?_
  refine mv_if_eq (tgt := 41) C dX9_count_34 (by decide) (fun h8 => ?_) (fun h8 => ?_)
  · have hw := hw.1 h8
    refine mv_iload_n C dX9_count_41 rfl 2 rfl ?_
    refine mv_iconst (v := (1 : Int32)) C dX9_count_42 (by decide) ?_
    refine mv_iadd C dX9_count_43 ?_
    refine mv_topi (fun y9 ey9 => ?_)
    have hw := hw y9 ey9
    refine mv_sub [1, 3, 0] rfl ?_
    exact wj_X9_count_4_44_ok C hs hlev hK6 hw
  · have hw := hw.2 h8
    refine mv_iload_n C dX9_count_37 rfl 2 rfl ?_
    refine mv_goto (tgt := 44) C dX9_count_38 (by decide) ?_
    refine mv_sub [1, 3, 0] rfl ?_
    exact wj_X9_count_4_44_ok C hs hlev hK6 hw
set_option maxHeartbeats 4000000 in
set_option maxRecDepth 100000 in
theorem wj_X9_count_4_6_ok (C : mC p s m args meth c cX9_count 5 wsX9_count RX9 (some .int) (dC, dI) vwCl [(cA, .int)] A) (hs : eM A s) (hlev : 2 ≤ lev) {post : Int32 → mS → Prop} {K6 : Int32 → Int32 → mS → Prop} (hK6 : ∀ (x2 x3 : Int32) (u : mS), K6 x2 x3 u → mV p l e (mRm lev) s m args below meth c 5 (dC, dI) vwCl A 0 0 (mQi below args s (dC, dI) vwCl [(cA, .int)] (wM cA b) A post) (wM cA b u) 6 [(0, .ref (b 4)), (2, .int x2), (3, .int x3)] []) {x2 x3 : Int32} {u : mS} (hw : wj_X9_count_4_6 K6 post x2 x3 u) : mV p l e (mRm lev) s m args below meth c 5 (dC, dI) vwCl A 0 0 (mQi below args s (dC, dI) vwCl [(cA, .int)] (wM cA b) A post) (wM cA b u) 6 [(0, .ref (b 4)), (2, .int x2), (3, .int x3)] [] := by
  unfold wj_X9_count_4_6 at hw
  refine mv_aload_n C dX9_count_6 rfl 0 rfl ?_
  refine mv_iload_n C dX9_count_7 rfl 2 rfl ?_
  refine mv_callSi (f := wM cA b) (As := [.ref (b 4), .int x3]) (rest := []) C eM_ok hs (X9_kind_4_met (l := l) (lev := lev - 1) (by omega) hw) (va_cwS 2 C.2.2.2.2.1 gX9_count_X9_kind rfl rfl rfl (by decide +kernel) (mRm_le (by omega) (by decide))) rfl rfl (Nat.le_of_ble_eq_true rfl) dX9_count_8 ⟨Nat.le_refl 0, Nat.le_refl 0⟩ (fun r2 u3 hw => ?_)
  refine mv_iconst (v := (2 : Int32)) C dX9_count_11 (by decide) ?_
  refine mv_icmp_eq (tgt := 65) C dX9_count_12 (by decide) (fun h4 => ?_) (fun h4 => ?_)
  · have hw := hw.1 h4
    refine mv_iload_n C dX9_count_65 rfl 1 rfl ?_
    exact mv_iret C dX9_count_66 hw
  · have hw := hw.2 h4
    refine mv_aload_n C dX9_count_15 rfl 0 rfl ?_
    refine mv_iload_n C dX9_count_16 rfl 2 rfl ?_
    refine mv_callSi (f := wM cA b) (As := [.ref (b 4), .int x3]) (rest := []) C eM_ok hs (X9_kind_4_met (l := l) (lev := lev - 1) (by omega) hw) (va_cwS 2 C.2.2.2.2.1 gX9_count_X9_kind rfl rfl rfl (by decide +kernel) (mRm_le (by omega) (by decide))) rfl rfl (Nat.le_of_ble_eq_true rfl) dX9_count_17 ⟨Nat.le_refl 0, Nat.le_refl 0⟩ (fun r5 u6 hw => ?_)
    refine mv_bipush (v := (6 : Int32)) C dX9_count_20 (by decide) ?_
    refine mv_icmp_ne (tgt := 29) C dX9_count_22 (by decide) (fun h7 => ?_) (fun h7 => ?_)
    · have hw := hw.1 h7
      refine mv_iconst (v := (0 : Int32)) C dX9_count_29 (by decide) ?_
      exact wj_X9_count_4_30_ok C hs hlev hK6 hw
    · have hw := hw.2 h7
      refine mv_iconst (v := (1 : Int32)) C dX9_count_25 (by decide) ?_
      refine mv_goto (tgt := 30) C dX9_count_26 (by decide) ?_
      exact wj_X9_count_4_30_ok C hs hlev hK6 hw
set_option maxHeartbeats 4000000 in
set_option maxRecDepth 100000 in
theorem X9_count_4_met (hlev : 2 ≤ lev) {x1 : Int32} {u : mS} {post : Int32 → mS → Prop} (hw : wp_X9_count_4 x1 u post) : mKi l yX9_count wsX9_count lev (eM) (dC, dI) vwCl [(cA, .int)] (wM cA b) [.ref (b 4), .int x1] u post := by
  refine mKi_of (cc := cX9_count) (maxL := 5) (by decide) rfl rfl (Nat.le_of_ble_eq_true rfl) rfl ?_
  intro p e s m args below meth c A C hs
  unfold wp_X9_count_4 at hw
  refine mv_iconst (v := (0 : Int32)) C dX9_count_0 (by decide) ?_
  refine mv_istore_n (lv1 := [(2, .int (0 : Int32)), (0, .ref (b 4)), (1, .int x1)]) C dX9_count_1 rfl (by decide) rfl ?_
  refine mv_iload_n C dX9_count_2 rfl 2 rfl ?_
  refine mv_iconst (v := (1 : Int32)) C dX9_count_3 (by decide) ?_
  refine mv_iadd C dX9_count_4 ?_
  refine mv_topi (fun y1 ey1 => ?_)
  have hw := hw y1 ey1
  refine mv_istore_n (lv1 := [(3, .int y1), (2, .int (0 : Int32)), (0, .ref (b 4)), (1, .int x1)]) C dX9_count_5 rfl (by decide) rfl ?_
  refine mv_sub [2, 1, 0] rfl ?_
  obtain ⟨n, hw⟩ := hw
  exact mL3_of (fun K hK b0 b1 b2 hw => wj_X9_count_4_6_ok C hs hlev hK hw) n (0 : Int32) y1 u hw
set_option maxHeartbeats 4000000 in
set_option maxRecDepth 100000 in
theorem wj_X9_dots_4_61_ok (C : mC p s m args meth c cX9_dots 5 wsX9_dots RX9 (some .int) (dC, dI) vwCl [(cA, .int)] A) (hs : eM A s) (hlev : 2 ≤ lev) {post : Int32 → mS → Prop} {K6 : Int32 → Int32 → mS → Prop} (hK6 : ∀ (x2 x3 : Int32) (u : mS), K6 x2 x3 u → mV p l e (mRm lev) s m args below meth c 5 (dC, dI) vwCl A 0 0 (mQi below args s (dC, dI) vwCl [(cA, .int)] (wM cA b) A post) (wM cA b u) 6 [(0, .ref (b 4)), (2, .int x2), (3, .int x3)] []) {x2 z0 : Int32} {u : mS} (hw : wj_X9_dots_4_61 K6 post x2 z0 u) : mV p l e (mRm lev) s m args below meth c 5 (dC, dI) vwCl A 0 0 (mQi below args s (dC, dI) vwCl [(cA, .int)] (wM cA b) A post) (wM cA b u) 61 [(0, .ref (b 4)), (2, .int x2)] [.int z0] := by
  unfold wj_X9_dots_4_61 at hw
  refine mv_istore_n (lv1 := [(3, .int z0), (0, .ref (b 4)), (2, .int x2)]) C dX9_dots_61 rfl (by decide) rfl ?_
  refine mv_goto (tgt := 6) C dX9_dots_62 (by decide) ?_
  refine mv_sub [1, 2, 0] rfl ?_
  exact hK6 x2 z0 u hw
set_option maxHeartbeats 4000000 in
set_option maxRecDepth 100000 in
theorem wj_X9_dots_4_44_ok (C : mC p s m args meth c cX9_dots 5 wsX9_dots RX9 (some .int) (dC, dI) vwCl [(cA, .int)] A) (hs : eM A s) (hlev : 2 ≤ lev) {post : Int32 → mS → Prop} {K6 : Int32 → Int32 → mS → Prop} (hK6 : ∀ (x2 x3 : Int32) (u : mS), K6 x2 x3 u → mV p l e (mRm lev) s m args below meth c 5 (dC, dI) vwCl A 0 0 (mQi below args s (dC, dI) vwCl [(cA, .int)] (wM cA b) A post) (wM cA b u) 6 [(0, .ref (b 4)), (2, .int x2), (3, .int x3)] []) {x3 x4 z0 : Int32} {u : mS} (hw : wj_X9_dots_4_44 K6 post x3 x4 z0 u) : mV p l e (mRm lev) s m args below meth c 5 (dC, dI) vwCl A 0 0 (mQi below args s (dC, dI) vwCl [(cA, .int)] (wM cA b) A post) (wM cA b u) 44 [(0, .ref (b 4)), (3, .int x3), (4, .int x4)] [.int z0] := by
  unfold wj_X9_dots_4_44 at hw
  refine mv_istore_n (lv1 := [(2, .int z0), (0, .ref (b 4)), (3, .int x3), (4, .int x4)]) C dX9_dots_44 rfl (by decide) rfl ?_
  refine mv_iload C dX9_dots_45 3 rfl ?_
  refine mv_if_eq (tgt := 56) C dX9_dots_47 (by decide) (fun h10 => ?_) (fun h10 => ?_)
  · have hw := hw.1 h10
    refine mv_aload_n C dX9_dots_56 rfl 1 rfl ?_
    refine mv_iload_n C dX9_dots_57 rfl 2 rfl ?_
    refine mv_callSi (f := wM cA b) (As := [.ref (b 4), .int x3]) (rest := []) C eM_ok hs (X9_end_4_met (l := l) (lev := lev - 1) (by omega) hw) (va_cwS 2 C.2.2.2.2.1 gX9_dots_X9_end rfl rfl rfl (by decide +kernel) (mRm_le (by omega) (by decide))) rfl rfl (Nat.le_of_ble_eq_true rfl) dX9_dots_58 ⟨Nat.le_refl 0, Nat.le_refl 0⟩ (fun r11 u12 hw => ?_)
    refine mv_sub [1, 0] rfl ?_
    exact wj_X9_dots_4_61_ok C hs hlev hK6 hw
  · have hw := hw.2 h10
    refine mv_iload_n C dX9_dots_50 rfl 2 rfl ?_
    refine mv_iconst (v := (1 : Int32)) C dX9_dots_51 (by decide) ?_
    refine mv_iadd C dX9_dots_52 ?_
    refine mv_topi (fun y13 ey13 => ?_)
    have hw := hw y13 ey13
    refine mv_goto (tgt := 61) C dX9_dots_53 (by decide) ?_
    refine mv_sub [1, 0] rfl ?_
    exact wj_X9_dots_4_61_ok C hs hlev hK6 hw
set_option maxHeartbeats 4000000 in
set_option maxRecDepth 100000 in
theorem wj_X9_dots_4_30_ok (C : mC p s m args meth c cX9_dots 5 wsX9_dots RX9 (some .int) (dC, dI) vwCl [(cA, .int)] A) (hs : eM A s) (hlev : 2 ≤ lev) {post : Int32 → mS → Prop} {K6 : Int32 → Int32 → mS → Prop} (hK6 : ∀ (x2 x3 : Int32) (u : mS), K6 x2 x3 u → mV p l e (mRm lev) s m args below meth c 5 (dC, dI) vwCl A 0 0 (mQi below args s (dC, dI) vwCl [(cA, .int)] (wM cA b) A post) (wM cA b u) 6 [(0, .ref (b 4)), (2, .int x2), (3, .int x3)] []) {x2 x3 z0 : Int32} {u : mS} (hw : wj_X9_dots_4_30 K6 post x2 x3 z0 u) : mV p l e (mRm lev) s m args below meth c 5 (dC, dI) vwCl A 0 0 (mQi below args s (dC, dI) vwCl [(cA, .int)] (wM cA b) A post) (wM cA b u) 30 [(0, .ref (b 4)), (2, .int x2), (3, .int x3)] [.int z0] := by
  unfold wj_X9_dots_4_30 at hw
  refine mv_istore (lv1 := [(4, .int z0), (0, .ref (b 4)), (2, .int x2), (3, .int x3)]) C dX9_dots_30 (by decide) rfl ?_
  refine mv_iload C dX9_dots_32 0 rfl ?_
  refine mv_if_eq (tgt := 43) C dX9_dots_34 (by decide) (fun h8 => ?_) (fun h8 => ?_)
  · have hw := hw.1 h8
    refine mv_iload_n C dX9_dots_43 rfl 2 rfl ?_
    refine mv_sub [1, 3, 0] rfl ?_
    exact wj_X9_dots_4_44_ok C hs hlev hK6 hw
  · have hw := hw.2 h8
    refine mv_iload_n C dX9_dots_37 rfl 2 rfl ?_
    refine mv_iconst (v := (1 : Int32)) C dX9_dots_38 (by decide) ?_
    refine mv_iadd C dX9_dots_39 ?_
    refine mv_topi (fun y9 ey9 => ?_)
    have hw := hw y9 ey9
    refine mv_goto (tgt := 44) C dX9_dots_40 (by decide) ?_
    refine mv_sub [1, 3, 0] rfl ?_
    exact wj_X9_dots_4_44_ok C hs hlev hK6 hw
set_option maxHeartbeats 4000000 in
set_option maxRecDepth 100000 in
theorem wj_X9_dots_4_6_ok (C : mC p s m args meth c cX9_dots 5 wsX9_dots RX9 (some .int) (dC, dI) vwCl [(cA, .int)] A) (hs : eM A s) (hlev : 2 ≤ lev) {post : Int32 → mS → Prop} {K6 : Int32 → Int32 → mS → Prop} (hK6 : ∀ (x2 x3 : Int32) (u : mS), K6 x2 x3 u → mV p l e (mRm lev) s m args below meth c 5 (dC, dI) vwCl A 0 0 (mQi below args s (dC, dI) vwCl [(cA, .int)] (wM cA b) A post) (wM cA b u) 6 [(0, .ref (b 4)), (2, .int x2), (3, .int x3)] []) {x2 x3 : Int32} {u : mS} (hw : wj_X9_dots_4_6 K6 post x2 x3 u) : mV p l e (mRm lev) s m args below meth c 5 (dC, dI) vwCl A 0 0 (mQi below args s (dC, dI) vwCl [(cA, .int)] (wM cA b) A post) (wM cA b u) 6 [(0, .ref (b 4)), (2, .int x2), (3, .int x3)] [] := by
  unfold wj_X9_dots_4_6 at hw
  refine mv_aload_n C dX9_dots_6 rfl 0 rfl ?_
  refine mv_iload_n C dX9_dots_7 rfl 2 rfl ?_
  refine mv_callSi (f := wM cA b) (As := [.ref (b 4), .int x3]) (rest := []) C eM_ok hs (X9_kind_4_met (l := l) (lev := lev - 1) (by omega) hw) (va_cwS 2 C.2.2.2.2.1 gX9_dots_X9_kind rfl rfl rfl (by decide +kernel) (mRm_le (by omega) (by decide))) rfl rfl (Nat.le_of_ble_eq_true rfl) dX9_dots_8 ⟨Nat.le_refl 0, Nat.le_refl 0⟩ (fun r2 u3 hw => ?_)
  refine mv_iconst (v := (2 : Int32)) C dX9_dots_11 (by decide) ?_
  refine mv_icmp_eq (tgt := 65) C dX9_dots_12 (by decide) (fun h4 => ?_) (fun h4 => ?_)
  · have hw := hw.1 h4
    refine mv_iload_n C dX9_dots_65 rfl 1 rfl ?_
    exact mv_iret C dX9_dots_66 hw
  · have hw := hw.2 h4
    refine mv_aload_n C dX9_dots_15 rfl 0 rfl ?_
    refine mv_iload_n C dX9_dots_16 rfl 2 rfl ?_
    refine mv_callSi (f := wM cA b) (As := [.ref (b 4), .int x3]) (rest := []) C eM_ok hs (X9_kind_4_met (l := l) (lev := lev - 1) (by omega) hw) (va_cwS 2 C.2.2.2.2.1 gX9_dots_X9_kind rfl rfl rfl (by decide +kernel) (mRm_le (by omega) (by decide))) rfl rfl (Nat.le_of_ble_eq_true rfl) dX9_dots_17 ⟨Nat.le_refl 0, Nat.le_refl 0⟩ (fun r5 u6 hw => ?_)
    refine mv_bipush (v := (6 : Int32)) C dX9_dots_20 (by decide) ?_
    refine mv_icmp_ne (tgt := 29) C dX9_dots_22 (by decide) (fun h7 => ?_) (fun h7 => ?_)
    · have hw := hw.1 h7
      refine mv_iconst (v := (0 : Int32)) C dX9_dots_29 (by decide) ?_
      exact wj_X9_dots_4_30_ok C hs hlev hK6 hw
    · have hw := hw.2 h7
      refine mv_iconst (v := (1 : Int32)) C dX9_dots_25 (by decide) ?_
      refine mv_goto (tgt := 30) C dX9_dots_26 (by decide) ?_
      exact wj_X9_dots_4_30_ok C hs hlev hK6 hw
set_option maxHeartbeats 4000000 in
set_option maxRecDepth 100000 in
theorem X9_dots_4_met (hlev : 2 ≤ lev) {x1 : Int32} {u : mS} {post : Int32 → mS → Prop} (hw : wp_X9_dots_4 x1 u post) : mKi l yX9_dots wsX9_dots lev (eM) (dC, dI) vwCl [(cA, .int)] (wM cA b) [.ref (b 4), .int x1] u post := by
  refine mKi_of (cc := cX9_dots) (maxL := 5) (by decide) rfl rfl (Nat.le_of_ble_eq_true rfl) rfl ?_
  intro p e s m args below meth c A C hs
  unfold wp_X9_dots_4 at hw
  refine mv_iconst (v := (0 : Int32)) C dX9_dots_0 (by decide) ?_
  refine mv_istore_n (lv1 := [(2, .int (0 : Int32)), (0, .ref (b 4)), (1, .int x1)]) C dX9_dots_1 rfl (by decide) rfl ?_
  refine mv_iload_n C dX9_dots_2 rfl 2 rfl ?_
  refine mv_iconst (v := (1 : Int32)) C dX9_dots_3 (by decide) ?_
  refine mv_iadd C dX9_dots_4 ?_
  refine mv_topi (fun y1 ey1 => ?_)
  have hw := hw y1 ey1
  refine mv_istore_n (lv1 := [(3, .int y1), (2, .int (0 : Int32)), (0, .ref (b 4)), (1, .int x1)]) C dX9_dots_5 rfl (by decide) rfl ?_
  refine mv_sub [2, 1, 0] rfl ?_
  obtain ⟨n, hw⟩ := hw
  exact mL3_of (fun K hK b0 b1 b2 hw => wj_X9_dots_4_6_ok C hs hlev hK hw) n (0 : Int32) y1 u hw
set_option maxHeartbeats 4000000 in
set_option maxRecDepth 100000 in
theorem X9_isPlain_4_met (hlev : 3 ≤ lev) {x1 x2 : Int32} {u : mS} {post : Int32 → mS → Prop} (hw : wp_X9_isPlain_4 x1 x2 u post) : mKi l yX9_isPlain wsX9_isPlain lev (eM) (dC, dI) vwCl [(cA, .int)] (wM cA b) [.ref (b 4), .int x1, .int x2] u (fun r w => (r = 0 ∨ r = 1) ∧ post r w) := by
  refine mKz_of (cc := cX9_isPlain) (maxL := 3) (by decide) rfl rfl (Nat.le_of_ble_eq_true rfl) rfl ?_
  intro p e s m args below meth c A C hs
  unfold wp_X9_isPlain_4 at hw
  refine mv_aload_n C dX9_isPlain_0 rfl 0 rfl ?_
  refine mv_iload_n C dX9_isPlain_1 rfl 1 rfl ?_
  refine mv_callSi (f := wM cA b) (As := [.ref (b 4), .int x1]) (rest := []) C eM_ok hs (X9_kind_4_met (l := l) (lev := lev - 1) (by omega) hw) (va_cwS 2 C.2.2.2.2.1 gX9_isPlain_X9_kind rfl rfl rfl (by decide +kernel) (mRm_le (by omega) (by decide))) rfl rfl (Nat.le_of_ble_eq_true rfl) dX9_isPlain_2 ⟨Nat.le_refl 0, Nat.le_refl 0⟩ (fun r1 u2 hw => ?_)
  refine mv_iconst (v := (1 : Int32)) C dX9_isPlain_5 (by decide) ?_
  refine mv_icmp_ne (tgt := 30) C dX9_isPlain_6 (by decide) (fun h3 => ?_) (fun h3 => ?_)
  · have hw := hw.1 h3
    refine mv_iconst (v := (0 : Int32)) C dX9_isPlain_30 (by decide) ?_
    exact mv_zret C dX9_isPlain_31 (Or.inl rfl) hw
  · have hw := hw.2 h3
    refine mv_aload_n C dX9_isPlain_9 rfl 0 rfl ?_
    refine mv_iload_n C dX9_isPlain_10 rfl 1 rfl ?_
    refine mv_callSi (f := wM cA b) (As := [.ref (b 4), .int x1]) (rest := []) C eM_ok hs (X9_count_4_met (l := l) (lev := lev - 1) (by omega) hw) (va_cwS 2 C.2.2.2.2.1 gX9_isPlain_X9_count rfl rfl rfl (by decide +kernel) (mRm_le (by omega) (by decide))) rfl rfl (Nat.le_of_ble_eq_true rfl) dX9_isPlain_11 ⟨Nat.le_refl 0, Nat.le_refl 0⟩ (fun r4 u5 hw => ?_)
    refine mv_iload_n C dX9_isPlain_14 rfl 2 rfl ?_
    refine mv_icmp_ne (tgt := 30) C dX9_isPlain_15 (by decide) (fun h6 => ?_) (fun h6 => ?_)
    · have hw := hw.1 h6
      refine mv_iconst (v := (0 : Int32)) C dX9_isPlain_30 (by decide) ?_
      exact mv_zret C dX9_isPlain_31 (Or.inl rfl) hw
    · have hw := hw.2 h6
      refine mv_aload_n C dX9_isPlain_18 rfl 0 rfl ?_
      refine mv_iload_n C dX9_isPlain_19 rfl 1 rfl ?_
      refine mv_callSi (f := wM cA b) (As := [.ref (b 4), .int x1]) (rest := []) C eM_ok hs (X9_dots_4_met (l := l) (lev := lev - 1) (by omega) hw) (va_cwS 2 C.2.2.2.2.1 gX9_isPlain_X9_dots rfl rfl rfl (by decide +kernel) (mRm_le (by omega) (by decide))) rfl rfl (Nat.le_of_ble_eq_true rfl) dX9_isPlain_20 ⟨Nat.le_refl 0, Nat.le_refl 0⟩ (fun r7 u8 hw => ?_)
      refine mv_if_ne (tgt := 30) C dX9_isPlain_23 (by decide) (fun h9 => ?_) (fun h9 => ?_)
      · have hw := hw.1 h9
        refine mv_iconst (v := (0 : Int32)) C dX9_isPlain_30 (by decide) ?_
        exact mv_zret C dX9_isPlain_31 (Or.inl rfl) hw
      · have hw := hw.2 h9
        refine mv_iconst (v := (1 : Int32)) C dX9_isPlain_26 (by decide) ?_
        refine mv_goto (tgt := 31) C dX9_isPlain_27 (by decide) ?_
        exact mv_zret C dX9_isPlain_31 (Or.inr rfl) hw
set_option maxHeartbeats 4000000 in
set_option maxRecDepth 100000 in
theorem wj_X9_heldBy_101_ok (C : mC p s m args meth c cX9_heldBy 8 wsX9_heldBy RX9 (some .int) (dC, dI) vwCl [(cA, .int)] A) (hs : eM A s) (hlev : 2 ≤ lev) {post : Int32 → mS → Prop} {K6 : Int32 → Int32 → Int32 → Int32 → mS → Prop} (hK6 : ∀ (x2 x3 x4 x5 : Int32) (u : mS), K6 x2 x3 x4 x5 u → mV p l e (mRm lev) s m args below meth c 8 (dC, dI) vwCl A 0 0 (mQi below args s (dC, dI) vwCl [(cA, .int)] (wM cA b) A post) (wM cA b u) 6 [(0, .ref (b 0)), (2, .int x2), (3, .int x3), (4, .int x4), (5, .int x5)] []) {x2 x3 x5 z0 : Int32} {u : mS} (hw : wj_X9_heldBy_101 K6 post x2 x3 x5 z0 u) : mV p l e (mRm lev) s m args below meth c 8 (dC, dI) vwCl A 0 0 (mQi below args s (dC, dI) vwCl [(cA, .int)] (wM cA b) A post) (wM cA b u) 101 [(0, .ref (b 0)), (2, .int x2), (3, .int x3), (5, .int x5)] [.int z0] := by
  unfold wj_X9_heldBy_101 at hw
  refine mv_istore (lv1 := [(4, .int z0), (0, .ref (b 0)), (2, .int x2), (3, .int x3), (5, .int x5)]) C dX9_heldBy_101 (by decide) rfl ?_
  obtain ⟨y17, ey17⟩ : ∃ z : Int32, z = x5 + (1 : Int32) := ⟨_, rfl⟩
  have hw := hw y17 ey17
  refine mv_iinc (v := y17) (lv1 := [(5, .int y17), (4, .int z0), (0, .ref (b 0)), (2, .int x2), (3, .int x3)]) C dX9_heldBy_103 4 rfl (by rw [ey17]; rfl) (by decide) rfl ?_
  refine mv_goto (tgt := 6) C dX9_heldBy_106 (by decide) ?_
  refine mv_sub [2, 3, 4, 1, 0] rfl ?_
  exact hK6 x2 x3 z0 y17 u hw
set_option maxHeartbeats 4000000 in
set_option maxRecDepth 100000 in
theorem wj_X9_heldBy_99_ok (C : mC p s m args meth c cX9_heldBy 8 wsX9_heldBy RX9 (some .int) (dC, dI) vwCl [(cA, .int)] A) (hs : eM A s) (hlev : 2 ≤ lev) {post : Int32 → mS → Prop} {K6 : Int32 → Int32 → Int32 → Int32 → mS → Prop} (hK6 : ∀ (x2 x3 x4 x5 : Int32) (u : mS), K6 x2 x3 x4 x5 u → mV p l e (mRm lev) s m args below meth c 8 (dC, dI) vwCl A 0 0 (mQi below args s (dC, dI) vwCl [(cA, .int)] (wM cA b) A post) (wM cA b u) 6 [(0, .ref (b 0)), (2, .int x2), (3, .int x3), (4, .int x4), (5, .int x5)] []) {x2 x3 x4 x5 : Int32} {u : mS} (hw : wj_X9_heldBy_99 K6 post x2 x3 x4 x5 u) : mV p l e (mRm lev) s m args below meth c 8 (dC, dI) vwCl A 0 0 (mQi below args s (dC, dI) vwCl [(cA, .int)] (wM cA b) A post) (wM cA b u) 99 [(0, .ref (b 0)), (2, .int x2), (3, .int x3), (4, .int x4), (5, .int x5)] [] := by
  unfold wj_X9_heldBy_99 at hw
  refine mv_iload C dX9_heldBy_99 3 rfl ?_
  refine mv_sub [0, 1, 2, 4] rfl ?_
  exact wj_X9_heldBy_101_ok C hs hlev hK6 hw
set_option maxHeartbeats 4000000 in
set_option maxRecDepth 100000 in
theorem wj_X9_heldBy_64_ok (C : mC p s m args meth c cX9_heldBy 8 wsX9_heldBy RX9 (some .int) (dC, dI) vwCl [(cA, .int)] A) (hs : eM A s) (hlev : 2 ≤ lev) {post : Int32 → mS → Prop} {K6 : Int32 → Int32 → Int32 → Int32 → mS → Prop} (hK6 : ∀ (x2 x3 x4 x5 : Int32) (u : mS), K6 x2 x3 x4 x5 u → mV p l e (mRm lev) s m args below meth c 8 (dC, dI) vwCl A 0 0 (mQi below args s (dC, dI) vwCl [(cA, .int)] (wM cA b) A post) (wM cA b u) 6 [(0, .ref (b 0)), (2, .int x2), (3, .int x3), (4, .int x4), (5, .int x5)] []) {x2 x3 x4 x5 z0 : Int32} {u : mS} (hw : wj_X9_heldBy_64 K6 post x2 x3 x4 x5 z0 u) : mV p l e (mRm lev) s m args below meth c 8 (dC, dI) vwCl A 0 0 (mQi below args s (dC, dI) vwCl [(cA, .int)] (wM cA b) A post) (wM cA b u) 64 [(0, .ref (b 0)), (2, .int x2), (3, .int x3), (4, .int x4), (5, .int x5)] [.int z0] := by
  unfold wj_X9_heldBy_64 at hw
  refine mv_istore (lv1 := [(7, .int z0), (0, .ref (b 0)), (2, .int x2), (3, .int x3), (4, .int x4), (5, .int x5)]) C dX9_heldBy_64 (by decide) rfl ?_
  refine mv_iload C dX9_heldBy_66 0 rfl ?_
  refine mv_iload_n C dX9_heldBy_68 rfl 2 rfl ?_
  refine mv_icmp_ge (tgt := 99) C dX9_heldBy_69 (by decide) (fun h11 => ?_) (fun h11 => ?_)
  · have hw := hw.1 h11
    refine mv_sub [1, 2, 3, 4, 5] rfl ?_
    exact wj_X9_heldBy_99_ok C hs hlev hK6 hw
  · have hw := hw.2 h11
    refine mv_iload C dX9_heldBy_72 0 rfl ?_
    refine mv_iload_n C dX9_heldBy_74 rfl 3 rfl ?_
    refine mv_icmp_le (tgt := 99) C dX9_heldBy_75 (by decide) (fun h12 => ?_) (fun h12 => ?_)
    · have hw := hw.1 h12
      refine mv_sub [1, 2, 3, 4, 5] rfl ?_
      exact wj_X9_heldBy_99_ok C hs hlev hK6 hw
    · have hw := hw.2 h12
      refine mv_aload_n C dX9_heldBy_78 rfl 1 rfl ?_
      refine mv_get (v := .ref (b 4)) C iw_X9_heldBy_X9 0 rfl rfl 5 (by decide) lk_X9_heldBy_19 rfl rfl dX9_heldBy_79 ?_
      refine mv_iload C dX9_heldBy_82 0 rfl ?_
      refine mv_callSi (f := wM cA b) (As := [.ref (b 4), .int z0]) (rest := []) C eM_ok hs (X9_kind_4_met (l := l) (lev := lev - 1) (by omega) hw) (va_cwS 2 C.2.2.2.2.1 gX9_heldBy_X9_kind rfl rfl rfl (by decide +kernel) (mRm_le (by omega) (by decide))) rfl rfl (Nat.le_of_ble_eq_true rfl) dX9_heldBy_84 ⟨Nat.le_refl 0, Nat.le_refl 0⟩ (fun r13 u14 hw => ?_)
      refine mv_bipush (v := (6 : Int32)) C dX9_heldBy_87 (by decide) ?_
      refine mv_icmp_ne (tgt := 99) C dX9_heldBy_89 (by decide) (fun h15 => ?_) (fun h15 => ?_)
      · have hw := hw.1 h15
        refine mv_sub [1, 2, 3, 4, 5] rfl ?_
        exact wj_X9_heldBy_99_ok C hs hlev hK6 hw
      · have hw := hw.2 h15
        refine mv_iload C dX9_heldBy_92 4 rfl ?_
        refine mv_iconst (v := (1 : Int32)) C dX9_heldBy_94 (by decide) ?_
        refine mv_iadd C dX9_heldBy_95 ?_
        refine mv_topi (fun y16 ey16 => ?_)
        have hw := hw y16 ey16
        refine mv_goto (tgt := 101) C dX9_heldBy_96 (by decide) ?_
        refine mv_sub [1, 2, 3, 5] rfl ?_
        exact wj_X9_heldBy_101_ok C hs hlev hK6 hw
set_option maxHeartbeats 4000000 in
set_option maxRecDepth 100000 in
theorem wj_X9_heldBy_44_ok (C : mC p s m args meth c cX9_heldBy 8 wsX9_heldBy RX9 (some .int) (dC, dI) vwCl [(cA, .int)] A) (hs : eM A s) (hlev : 2 ≤ lev) {post : Int32 → mS → Prop} {K6 : Int32 → Int32 → Int32 → Int32 → mS → Prop} (hK6 : ∀ (x2 x3 x4 x5 : Int32) (u : mS), K6 x2 x3 x4 x5 u → mV p l e (mRm lev) s m args below meth c 8 (dC, dI) vwCl A 0 0 (mQi below args s (dC, dI) vwCl [(cA, .int)] (wM cA b) A post) (wM cA b u) 6 [(0, .ref (b 0)), (2, .int x2), (3, .int x3), (4, .int x4), (5, .int x5)] []) {x2 x3 x4 x5 z0 : Int32} {u : mS} (hw : wj_X9_heldBy_44 K6 post x2 x3 x4 x5 z0 u) : mV p l e (mRm lev) s m args below meth c 8 (dC, dI) vwCl A 0 0 (mQi below args s (dC, dI) vwCl [(cA, .int)] (wM cA b) A post) (wM cA b u) 44 [(0, .ref (b 0)), (2, .int x2), (3, .int x3), (4, .int x4), (5, .int x5)] [.int z0] := by
  unfold wj_X9_heldBy_44 at hw
  refine mv_istore (lv1 := [(6, .int z0), (0, .ref (b 0)), (2, .int x2), (3, .int x3), (4, .int x4), (5, .int x5)]) C dX9_heldBy_44 (by decide) rfl ?_
  refine mv_iload C dX9_heldBy_46 0 rfl ?_
  refine mv_if_eq (tgt := 63) C dX9_heldBy_48 (by decide) (fun h8 => ?_) (fun h8 => ?_)
  · have hw := hw.1 h8
    refine mv_iload_n C dX9_heldBy_63 rfl 2 rfl ?_
    refine mv_sub [1, 2, 3, 4, 5] rfl ?_
    exact wj_X9_heldBy_64_ok C hs hlev hK6 hw
  · have hw := hw.2 h8
    refine mv_aload_n C dX9_heldBy_51 rfl 1 rfl ?_
    refine mv_get (v := .ref (b 4)) C iw_X9_heldBy_X9 0 rfl rfl 5 (by decide) lk_X9_heldBy_19 rfl rfl dX9_heldBy_52 ?_
    refine mv_iload C dX9_heldBy_55 5 rfl ?_
    refine mv_callSi (f := wM cA b) (As := [.ref (b 4), .int x5]) (rest := []) C eM_ok hs (X9_end_4_met (l := l) (lev := lev - 1) (by omega) hw) (va_cwS 2 C.2.2.2.2.1 gX9_heldBy_X9_end rfl rfl rfl (by decide +kernel) (mRm_le (by omega) (by decide))) rfl rfl (Nat.le_of_ble_eq_true rfl) dX9_heldBy_57 ⟨Nat.le_refl 0, Nat.le_refl 0⟩ (fun r9 u10 hw => ?_)
    refine mv_goto (tgt := 64) C dX9_heldBy_60 (by decide) ?_
    refine mv_sub [1, 2, 3, 4, 5] rfl ?_
    exact wj_X9_heldBy_64_ok C hs hlev hK6 hw
set_option maxHeartbeats 4000000 in
set_option maxRecDepth 100000 in
theorem wj_X9_heldBy_43_ok (C : mC p s m args meth c cX9_heldBy 8 wsX9_heldBy RX9 (some .int) (dC, dI) vwCl [(cA, .int)] A) (hs : eM A s) (hlev : 2 ≤ lev) {post : Int32 → mS → Prop} {K6 : Int32 → Int32 → Int32 → Int32 → mS → Prop} (hK6 : ∀ (x2 x3 x4 x5 : Int32) (u : mS), K6 x2 x3 x4 x5 u → mV p l e (mRm lev) s m args below meth c 8 (dC, dI) vwCl A 0 0 (mQi below args s (dC, dI) vwCl [(cA, .int)] (wM cA b) A post) (wM cA b u) 6 [(0, .ref (b 0)), (2, .int x2), (3, .int x3), (4, .int x4), (5, .int x5)] []) {x2 x3 x4 x5 : Int32} {u : mS} (hw : wj_X9_heldBy_43 K6 post x2 x3 x4 x5 u) : mV p l e (mRm lev) s m args below meth c 8 (dC, dI) vwCl A 0 0 (mQi below args s (dC, dI) vwCl [(cA, .int)] (wM cA b) A post) (wM cA b u) 43 [(0, .ref (b 0)), (2, .int x2), (3, .int x3), (4, .int x4), (5, .int x5)] [] := by
  unfold wj_X9_heldBy_43 at hw
  refine mv_iconst (v := (0 : Int32)) C dX9_heldBy_43 (by decide) ?_
  exact wj_X9_heldBy_44_ok C hs hlev hK6 hw
set_option maxHeartbeats 4000000 in
set_option maxRecDepth 100000 in
theorem wj_X9_heldBy_6_ok (C : mC p s m args meth c cX9_heldBy 8 wsX9_heldBy RX9 (some .int) (dC, dI) vwCl [(cA, .int)] A) (hs : eM A s) (hlev : 2 ≤ lev) {post : Int32 → mS → Prop} {K6 : Int32 → Int32 → Int32 → Int32 → mS → Prop} (hK6 : ∀ (x2 x3 x4 x5 : Int32) (u : mS), K6 x2 x3 x4 x5 u → mV p l e (mRm lev) s m args below meth c 8 (dC, dI) vwCl A 0 0 (mQi below args s (dC, dI) vwCl [(cA, .int)] (wM cA b) A post) (wM cA b u) 6 [(0, .ref (b 0)), (2, .int x2), (3, .int x3), (4, .int x4), (5, .int x5)] []) {x2 x3 x4 x5 : Int32} {u : mS} (hw : wj_X9_heldBy_6 K6 post x2 x3 x4 x5 u) : mV p l e (mRm lev) s m args below meth c 8 (dC, dI) vwCl A 0 0 (mQi below args s (dC, dI) vwCl [(cA, .int)] (wM cA b) A post) (wM cA b u) 6 [(0, .ref (b 0)), (2, .int x2), (3, .int x3), (4, .int x4), (5, .int x5)] [] := by
  unfold wj_X9_heldBy_6 at hw
  refine mv_iload C dX9_heldBy_6 4 rfl ?_
  refine mv_iload_n C dX9_heldBy_8 rfl 2 rfl ?_
  refine mv_icmp_gt (tgt := 109) C dX9_heldBy_9 (by decide) (fun h1 => ?_) (fun h1 => ?_)
  · have hw := hw.1 h1
    refine mv_iload C dX9_heldBy_109 3 rfl ?_
    exact mv_iret C dX9_heldBy_111 hw
  · have hw := hw.2 h1
    refine mv_aload_n C dX9_heldBy_12 rfl 0 rfl ?_
    refine mv_get (v := .ref (b 4)) C iw_X9_heldBy_X9 0 rfl rfl 5 (by decide) lk_X9_heldBy_19 rfl rfl dX9_heldBy_13 ?_
    refine mv_iload C dX9_heldBy_16 4 rfl ?_
    refine mv_callSi (f := wM cA b) (As := [.ref (b 4), .int x5]) (rest := []) C eM_ok hs (X9_kind_4_met (l := l) (lev := lev - 1) (by omega) hw) (va_cwS 2 C.2.2.2.2.1 gX9_heldBy_X9_kind rfl rfl rfl (by decide +kernel) (mRm_le (by omega) (by decide))) rfl rfl (Nat.le_of_ble_eq_true rfl) dX9_heldBy_18 ⟨Nat.le_refl 0, Nat.le_refl 0⟩ (fun r2 u3 hw => ?_)
    refine mv_iconst (v := (2 : Int32)) C dX9_heldBy_21 (by decide) ?_
    refine mv_icmp_eq (tgt := 43) C dX9_heldBy_22 (by decide) (fun h4 => ?_) (fun h4 => ?_)
    · have hw := hw.1 h4
      exact wj_X9_heldBy_43_ok C hs hlev hK6 hw
    · have hw := hw.2 h4
      refine mv_aload_n C dX9_heldBy_25 rfl 0 rfl ?_
      refine mv_get (v := .ref (b 4)) C iw_X9_heldBy_X9 0 rfl rfl 5 (by decide) lk_X9_heldBy_19 rfl rfl dX9_heldBy_26 ?_
      refine mv_iload C dX9_heldBy_29 4 rfl ?_
      refine mv_callSi (f := wM cA b) (As := [.ref (b 4), .int x5]) (rest := []) C eM_ok hs (X9_kind_4_met (l := l) (lev := lev - 1) (by omega) hw) (va_cwS 2 C.2.2.2.2.1 gX9_heldBy_X9_kind rfl rfl rfl (by decide +kernel) (mRm_le (by omega) (by decide))) rfl rfl (Nat.le_of_ble_eq_true rfl) dX9_heldBy_31 ⟨Nat.le_refl 0, Nat.le_refl 0⟩ (fun r5 u6 hw => ?_)
      refine mv_bipush (v := (6 : Int32)) C dX9_heldBy_34 (by decide) ?_
      refine mv_icmp_eq (tgt := 43) C dX9_heldBy_36 (by decide) (fun h7 => ?_) (fun h7 => ?_)
      · have hw := hw.1 h7
        exact wj_X9_heldBy_43_ok C hs hlev hK6 hw
      · have hw := hw.2 h7
        refine mv_iconst (v := (1 : Int32)) C dX9_heldBy_39 (by decide) ?_
        refine mv_goto (tgt := 44) C dX9_heldBy_40 (by decide) ?_
        exact wj_X9_heldBy_44_ok C hs hlev hK6 hw
set_option maxHeartbeats 4000000 in
set_option maxRecDepth 100000 in
theorem X9_heldBy_met (hlev : 2 ≤ lev) {x1 x2 x3 : Int32} {u : mS} {post : Int32 → mS → Prop} (hw : wp_X9_heldBy x1 x2 x3 u post) : mKi l yX9_heldBy wsX9_heldBy lev (eM) (dC, dI) vwCl [(cA, .int)] (wM cA b) [.ref (b 0), .int x1, .int x2, .int x3] u post := by
  refine mKi_of (cc := cX9_heldBy) (maxL := 8) (by decide) rfl rfl (Nat.le_of_ble_eq_true rfl) rfl ?_
  intro p e s m args below meth c A C hs
  unfold wp_X9_heldBy at hw
  refine mv_iconst (v := (0 : Int32)) C dX9_heldBy_0 (by decide) ?_
  refine mv_istore (lv1 := [(4, .int (0 : Int32)), (0, .ref (b 0)), (1, .int x1), (2, .int x2), (3, .int x3)]) C dX9_heldBy_1 (by decide) rfl ?_
  refine mv_iload_n C dX9_heldBy_3 rfl 2 rfl ?_
  refine mv_istore (lv1 := [(5, .int x1), (4, .int (0 : Int32)), (0, .ref (b 0)), (1, .int x1), (2, .int x2), (3, .int x3)]) C dX9_heldBy_4 (by decide) rfl ?_
  refine mv_sub [2, 4, 5, 1, 0] rfl ?_
  obtain ⟨n, hw⟩ := hw
  exact mL5_of (fun K hK b0 b1 b2 b3 b4 hw => wj_X9_heldBy_6_ok C hs hlev hK hw) n x2 x3 (0 : Int32) x1 u hw
set_option maxHeartbeats 4000000 in
set_option maxRecDepth 100000 in
theorem wj_X9_variable_56_ok (C : mC p s m args meth c cX9_variable 6 wsX9_variable RX9 (some .int) (dC, dI) vwCl [(cA, .int)] A) (hs : eM A s) (hlev : 2 ≤ lev) {post : Int32 → mS → Prop} {K24 : Int32 → Int32 → Int32 → Int32 → mS → Prop} (hK24 : ∀ (x2 x3 x4 x5 : Int32) (u : mS), K24 x2 x3 x4 x5 u → mV p l e (mRm lev) s m args below meth c 6 (dC, dI) vwCl A 0 0 (mQi below args s (dC, dI) vwCl [(cA, .int)] (wM cA b) A post) (wM cA b u) 24 [(0, .ref (b 0)), (2, .int x2), (3, .int x3), (4, .int x4), (5, .int x5)] []) {x2 x3 x4 x5 : Int32} {u : mS} (hw : wj_X9_variable_56 K24 post x2 x3 x4 x5 u) : mV p l e (mRm lev) s m args below meth c 6 (dC, dI) vwCl A 0 0 (mQi below args s (dC, dI) vwCl [(cA, .int)] (wM cA b) A post) (wM cA b u) 56 [(0, .ref (b 0)), (2, .int x2), (3, .int x3), (4, .int x4), (5, .int x5)] [] := by
  unfold wj_X9_variable_56 at hw
  obtain ⟨y12, ey12⟩ : ∃ z : Int32, z = x5 + (1 : Int32) := ⟨_, rfl⟩
  have hw := hw y12 ey12
  refine mv_iinc (v := y12) (lv1 := [(5, .int y12), (0, .ref (b 0)), (2, .int x2), (3, .int x3), (4, .int x4)]) C dX9_variable_56 4 rfl (by rw [ey12]; rfl) (by decide) rfl ?_
  refine mv_goto (tgt := 24) C dX9_variable_59 (by decide) ?_
  refine mv_sub [1, 2, 3, 4, 0] rfl ?_
  exact hK24 x2 x3 x4 y12 u hw
set_option maxHeartbeats 4000000 in
set_option maxRecDepth 100000 in
theorem wj_X9_variable_24_ok (C : mC p s m args meth c cX9_variable 6 wsX9_variable RX9 (some .int) (dC, dI) vwCl [(cA, .int)] A) (hs : eM A s) (hlev : 2 ≤ lev) {post : Int32 → mS → Prop} {K24 : Int32 → Int32 → Int32 → Int32 → mS → Prop} (hK24 : ∀ (x2 x3 x4 x5 : Int32) (u : mS), K24 x2 x3 x4 x5 u → mV p l e (mRm lev) s m args below meth c 6 (dC, dI) vwCl A 0 0 (mQi below args s (dC, dI) vwCl [(cA, .int)] (wM cA b) A post) (wM cA b u) 24 [(0, .ref (b 0)), (2, .int x2), (3, .int x3), (4, .int x4), (5, .int x5)] []) {x2 x3 x4 x5 : Int32} {u : mS} (hw : wj_X9_variable_24 K24 post x2 x3 x4 x5 u) : mV p l e (mRm lev) s m args below meth c 6 (dC, dI) vwCl A 0 0 (mQi below args s (dC, dI) vwCl [(cA, .int)] (wM cA b) A post) (wM cA b u) 24 [(0, .ref (b 0)), (2, .int x2), (3, .int x3), (4, .int x4), (5, .int x5)] [] := by
  unfold wj_X9_variable_24 at hw
  refine mv_iload C dX9_variable_24 4 rfl ?_
  refine mv_iload C dX9_variable_26 3 rfl ?_
  refine mv_icmp_ge (tgt := 62) C dX9_variable_28 (by decide) (fun h7 => ?_) (fun h7 => ?_)
  · have hw := hw.1 h7
    refine mv_iconst (v := (-1 : Int32)) C dX9_variable_62 (by decide) ?_
    exact mv_iret C dX9_variable_63 hw
  · have hw := hw.2 h7
    refine mv_aload_n C dX9_variable_31 rfl 0 rfl ?_
    refine mv_get (v := .ref (b 4)) C iw_X9_variable_X9 0 rfl rfl 5 (by decide) lk_X9_variable_19 rfl rfl dX9_variable_32 ?_
    refine mv_iload C dX9_variable_35 4 rfl ?_
    refine mv_iald (f := u.2 3) C 4 0 rfl rfl hw.1 dX9_variable_37 ?_
    refine mv_topi (fun y8 ey8 => ?_)
    have hw := hw.2 y8 ey8
    refine mv_iload_n C dX9_variable_38 rfl 1 rfl ?_
    refine mv_icmp_ne (tgt := 56) C dX9_variable_39 (by decide) (fun h9 => ?_) (fun h9 => ?_)
    · have hw := hw.1 h9
      exact wj_X9_variable_56_ok C hs hlev hK24 hw
    · have hw := hw.2 h9
      refine mv_aload_n C dX9_variable_42 rfl 0 rfl ?_
      refine mv_get (v := .ref (b 5)) C iw_X9_variable_X9 0 rfl rfl 6 (by decide) lk_X9_variable_22 rfl rfl dX9_variable_43 ?_
      refine mv_iload C dX9_variable_46 4 rfl ?_
      refine mv_iald (f := u.2 4) C 5 0 rfl rfl hw.1 dX9_variable_48 ?_
      refine mv_topi (fun y10 ey10 => ?_)
      have hw := hw.2 y10 ey10
      refine mv_iload_n C dX9_variable_49 rfl 2 rfl ?_
      refine mv_icmp_ne (tgt := 56) C dX9_variable_50 (by decide) (fun h11 => ?_) (fun h11 => ?_)
      · have hw := hw.1 h11
        exact wj_X9_variable_56_ok C hs hlev hK24 hw
      · have hw := hw.2 h11
        refine mv_iload C dX9_variable_53 4 rfl ?_
        exact mv_iret C dX9_variable_55 hw
set_option maxHeartbeats 4000000 in
set_option maxRecDepth 100000 in
theorem X9_variable_met (hlev : 2 ≤ lev) {x1 x2 x3 : Int32} {u : mS} {post : Int32 → mS → Prop} (hw : wp_X9_variable x1 x2 x3 u post) : mKi l yX9_variable wsX9_variable lev (eM) (dC, dI) vwCl [(cA, .int)] (wM cA b) [.ref (b 0), .int x1, .int x2, .int x3] u post := by
  refine mKi_of (cc := cX9_variable) (maxL := 6) (by decide) rfl rfl (Nat.le_of_ble_eq_true rfl) rfl ?_
  intro p e s m args below meth c A C hs
  unfold wp_X9_variable at hw
  refine mv_aload_n C dX9_variable_0 rfl 0 rfl ?_
  refine mv_get (v := .ref (b 4)) C iw_X9_variable_X9 0 rfl rfl 5 (by decide) lk_X9_variable_19 rfl rfl dX9_variable_1 ?_
  refine mv_iload_n C dX9_variable_4 rfl 1 rfl ?_
  refine mv_callSi (f := wM cA b) (As := [.ref (b 4), .int x1]) (rest := []) C eM_ok hs (X9_end_4_met (l := l) (lev := lev - 1) (by omega) hw) (va_cwS 2 C.2.2.2.2.1 gX9_variable_X9_end rfl rfl rfl (by decide +kernel) (mRm_le (by omega) (by decide))) rfl rfl (Nat.le_of_ble_eq_true rfl) dX9_variable_5 ⟨Nat.le_refl 0, Nat.le_refl 0⟩ (fun r1 u2 hw => ?_)
  refine mv_iconst (v := (1 : Int32)) C dX9_variable_8 (by decide) ?_
  refine mv_isub C dX9_variable_9 ?_
  refine mv_topi (fun y3 ey3 => ?_)
  have hw := hw y3 ey3
  refine mv_istore (lv1 := [(4, .int y3), (0, .ref (b 0)), (1, .int x1), (2, .int x2), (3, .int x3)]) C dX9_variable_10 (by decide) rfl ?_
  refine mv_aload_n C dX9_variable_12 rfl 1 rfl ?_
  refine mv_get (v := .ref (b 4)) C iw_X9_variable_X9 0 rfl rfl 5 (by decide) lk_X9_variable_19 rfl rfl dX9_variable_13 ?_
  refine mv_iload_n C dX9_variable_16 rfl 2 rfl ?_
  refine mv_iconst (v := (1 : Int32)) C dX9_variable_17 (by decide) ?_
  refine mv_iadd C dX9_variable_18 ?_
  refine mv_topi (fun y4 ey4 => ?_)
  have hw := hw y4 ey4
  refine mv_callSi (f := wM cA b) (As := [.ref (b 4), .int y4]) (rest := []) C eM_ok hs (X9_end_4_met (l := l) (lev := lev - 1) (by omega) hw) (va_cwS 2 C.2.2.2.2.1 gX9_variable_X9_end rfl rfl rfl (by decide +kernel) (mRm_le (by omega) (by decide))) rfl rfl (Nat.le_of_ble_eq_true rfl) dX9_variable_19 ⟨Nat.le_refl 0, Nat.le_refl 0⟩ (fun r5 u6 hw => ?_)
  refine mv_istore (lv1 := [(5, .int r5), (4, .int y3), (0, .ref (b 0)), (1, .int x1), (2, .int x2), (3, .int x3)]) C dX9_variable_22 (by decide) rfl ?_
  refine mv_sub [2, 4, 5, 1, 0] rfl ?_
  obtain ⟨n, hw⟩ := hw
  exact mL5_of (fun K hK b0 b1 b2 b3 b4 hw => wj_X9_variable_24_ok C hs hlev hK hw) n x2 x3 y3 r5 u6 hw
set_option maxHeartbeats 4000000 in
set_option maxRecDepth 100000 in
theorem wj_X9_isPattern_165_ok (C : mC p s m args meth c cX9_isPattern 6 wsX9_isPattern RX9 (some .boolean) (dC, dI) vwCl [(cA, .int)] A) (hs : eM A s) (hlev : 3 ≤ lev) {post : Int32 → mS → Prop} {K65 : Int32 → Int32 → Int32 → mS → Prop} (hK65 : ∀ (x1 x2 x4 : Int32) (u : mS), K65 x1 x2 x4 u → mV p l e (mRm lev) s m args below meth c 6 (dC, dI) vwCl A 0 0 (mQi below args s (dC, dI) vwCl [(cA, .int)] (wM cA b) A (fun r w => (r = 0 ∨ r = 1) ∧ post r w)) (wM cA b u) 65 [(0, .ref (b 0)), (1, .int x1), (2, .int x2), (4, .int x4)] []) {x1 x2 x4 : Int32} {u : mS} (hw : wj_X9_isPattern_165 K65 post x1 x2 x4 u) : mV p l e (mRm lev) s m args below meth c 6 (dC, dI) vwCl A 0 0 (mQi below args s (dC, dI) vwCl [(cA, .int)] (wM cA b) A (fun r w => (r = 0 ∨ r = 1) ∧ post r w)) (wM cA b u) 165 [(0, .ref (b 0)), (1, .int x1), (2, .int x2), (4, .int x4)] [] := by
  unfold wj_X9_isPattern_165 at hw
  obtain ⟨y36, ey36⟩ : ∃ z : Int32, z = x4 + (1 : Int32) := ⟨_, rfl⟩
  have hw := hw y36 ey36
  refine mv_iinc (v := y36) (lv1 := [(4, .int y36), (0, .ref (b 0)), (1, .int x1), (2, .int x2)]) C dX9_isPattern_165 3 rfl (by rw [ey36]; rfl) (by decide) rfl ?_
  refine mv_goto (tgt := 65) C dX9_isPattern_168 (by decide) ?_
  refine mv_sub [1, 2, 3, 0] rfl ?_
  exact hK65 x1 x2 y36 u hw
set_option maxHeartbeats 4000000 in
set_option maxRecDepth 100000 in
theorem wj_X9_isPattern_133_ok (C : mC p s m args meth c cX9_isPattern 6 wsX9_isPattern RX9 (some .boolean) (dC, dI) vwCl [(cA, .int)] A) (hs : eM A s) (hlev : 3 ≤ lev) {post : Int32 → mS → Prop} {K65 : Int32 → Int32 → Int32 → mS → Prop} (hK65 : ∀ (x1 x2 x4 : Int32) (u : mS), K65 x1 x2 x4 u → mV p l e (mRm lev) s m args below meth c 6 (dC, dI) vwCl A 0 0 (mQi below args s (dC, dI) vwCl [(cA, .int)] (wM cA b) A (fun r w => (r = 0 ∨ r = 1) ∧ post r w)) (wM cA b u) 65 [(0, .ref (b 0)), (1, .int x1), (2, .int x2), (4, .int x4)] []) {x1 x2 x4 x5 : Int32} {u : mS} (hw : wj_X9_isPattern_133 K65 post x1 x2 x4 x5 u) : mV p l e (mRm lev) s m args below meth c 6 (dC, dI) vwCl A 0 0 (mQi below args s (dC, dI) vwCl [(cA, .int)] (wM cA b) A (fun r w => (r = 0 ∨ r = 1) ∧ post r w)) (wM cA b u) 133 [(0, .ref (b 0)), (1, .int x1), (2, .int x2), (4, .int x4), (5, .int x5)] [] := by
  unfold wj_X9_isPattern_133 at hw
  refine mv_iload C dX9_isPattern_133 4 rfl ?_
  refine mv_iconst (v := (3 : Int32)) C dX9_isPattern_135 (by decide) ?_
  refine mv_icmp_ne (tgt := 165) C dX9_isPattern_136 (by decide) (fun h30 => ?_) (fun h30 => ?_)
  · have hw := hw.1 h30
    refine mv_sub [0, 1, 2, 3] rfl ?_
    exact wj_X9_isPattern_165_ok C hs hlev hK65 hw
  · have hw := hw.2 h30
    refine mv_aload_n C dX9_isPattern_139 rfl 0 rfl ?_
    refine mv_iload_n C dX9_isPattern_140 rfl 1 rfl ?_
    refine mv_aload_n C dX9_isPattern_141 rfl 0 rfl ?_
    refine mv_get (v := .ref (b 4)) C iw_X9_isPattern_X9 0 rfl rfl 5 (by decide) lk_X9_isPattern_19 rfl rfl dX9_isPattern_142 ?_
    refine mv_iload C dX9_isPattern_145 3 rfl ?_
    refine mv_iald (f := u.2 3) C 4 0 rfl rfl hw.1 dX9_isPattern_147 ?_
    refine mv_topi (fun y31 ey31 => ?_)
    have hw := hw.2 y31 ey31
    refine mv_aload_n C dX9_isPattern_148 rfl 0 rfl ?_
    refine mv_get (v := .ref (b 5)) C iw_X9_isPattern_X9 0 rfl rfl 6 (by decide) lk_X9_isPattern_22 rfl rfl dX9_isPattern_149 ?_
    refine mv_iload C dX9_isPattern_152 3 rfl ?_
    refine mv_iald (f := u.2 4) C 5 0 rfl rfl hw.1 dX9_isPattern_154 ?_
    refine mv_topi (fun y32 ey32 => ?_)
    have hw := hw.2 y32 ey32
    refine mv_callVi (f := wM cA b) (As := [.int x1, .int y31, .int y32]) (rest := []) C eM_ok hs 0 rfl rfl (X9_variable_met (l := l) (lev := lev - 1) (by omega) hw) (cwV 3 C.2.2.2.2.1 gX9_isPattern_X9_variable rfl rfl rfl (by decide +kernel) (mRm_le (by omega) (by decide))) rfl rfl (Nat.le_of_ble_eq_true rfl) dX9_isPattern_155 ⟨Nat.le_refl 0, Nat.le_refl 0⟩ (fun r33 u34 hw => ?_)
    refine mv_iload C dX9_isPattern_158 3 rfl ?_
    refine mv_icmp_eq (tgt := 165) C dX9_isPattern_160 (by decide) (fun h35 => ?_) (fun h35 => ?_)
    · have hw := hw.1 h35
      refine mv_sub [0, 1, 2, 3] rfl ?_
      exact wj_X9_isPattern_165_ok C hs hlev hK65 hw
    · have hw := hw.2 h35
      refine mv_iconst (v := (0 : Int32)) C dX9_isPattern_163 (by decide) ?_
      exact mv_zret C dX9_isPattern_164 (Or.inl rfl) hw
set_option maxHeartbeats 4000000 in
set_option maxRecDepth 100000 in
theorem wj_X9_isPattern_106_ok (C : mC p s m args meth c cX9_isPattern 6 wsX9_isPattern RX9 (some .boolean) (dC, dI) vwCl [(cA, .int)] A) (hs : eM A s) (hlev : 3 ≤ lev) {post : Int32 → mS → Prop} {K65 : Int32 → Int32 → Int32 → mS → Prop} (hK65 : ∀ (x1 x2 x4 : Int32) (u : mS), K65 x1 x2 x4 u → mV p l e (mRm lev) s m args below meth c 6 (dC, dI) vwCl A 0 0 (mQi below args s (dC, dI) vwCl [(cA, .int)] (wM cA b) A (fun r w => (r = 0 ∨ r = 1) ∧ post r w)) (wM cA b u) 65 [(0, .ref (b 0)), (1, .int x1), (2, .int x2), (4, .int x4)] []) {x1 x2 x4 x5 : Int32} {u : mS} (hw : wj_X9_isPattern_106 K65 post x1 x2 x4 x5 u) : mV p l e (mRm lev) s m args below meth c 6 (dC, dI) vwCl A 0 0 (mQi below args s (dC, dI) vwCl [(cA, .int)] (wM cA b) A (fun r w => (r = 0 ∨ r = 1) ∧ post r w)) (wM cA b u) 106 [(0, .ref (b 0)), (1, .int x1), (2, .int x2), (4, .int x4), (5, .int x5)] [] := by
  unfold wj_X9_isPattern_106 at hw
  refine mv_iload C dX9_isPattern_106 4 rfl ?_
  refine mv_iconst (v := (2 : Int32)) C dX9_isPattern_108 (by decide) ?_
  refine mv_icmp_eq (tgt := 133) C dX9_isPattern_109 (by decide) (fun h24 => ?_) (fun h24 => ?_)
  · have hw := hw.1 h24
    exact wj_X9_isPattern_133_ok C hs hlev hK65 hw
  · have hw := hw.2 h24
    refine mv_iload C dX9_isPattern_112 4 rfl ?_
    refine mv_bipush (v := (6 : Int32)) C dX9_isPattern_114 (by decide) ?_
    refine mv_icmp_eq (tgt := 133) C dX9_isPattern_116 (by decide) (fun h25 => ?_) (fun h25 => ?_)
    · have hw := hw.1 h25
      exact wj_X9_isPattern_133_ok C hs hlev hK65 hw
    · have hw := hw.2 h25
      refine mv_aload_n C dX9_isPattern_119 rfl 0 rfl ?_
      refine mv_iload_n C dX9_isPattern_120 rfl 1 rfl ?_
      refine mv_iconst (v := (1 : Int32)) C dX9_isPattern_121 (by decide) ?_
      refine mv_iadd C dX9_isPattern_122 ?_
      refine mv_topi (fun y26 ey26 => ?_)
      have hw := hw y26 ey26
      refine mv_iload_n C dX9_isPattern_123 rfl 2 rfl ?_
      refine mv_iload C dX9_isPattern_124 3 rfl ?_
      refine mv_callVi (f := wM cA b) (As := [.int y26, .int x2, .int x4]) (rest := []) C eM_ok hs 0 rfl rfl (X9_heldBy_met (l := l) (lev := lev - 1) (by omega) hw) (cwV 3 C.2.2.2.2.1 gX9_isPattern_X9_heldBy rfl rfl rfl (by decide +kernel) (mRm_le (by omega) (by decide))) rfl rfl (Nat.le_of_ble_eq_true rfl) dX9_isPattern_126 ⟨Nat.le_refl 0, Nat.le_refl 0⟩ (fun r27 u28 hw => ?_)
      refine mv_iconst (v := (2 : Int32)) C dX9_isPattern_129 (by decide) ?_
      refine mv_icmp_gt (tgt := 163) C dX9_isPattern_130 (by decide) (fun h29 => ?_) (fun h29 => ?_)
      · have hw := hw.1 h29
        refine mv_iconst (v := (0 : Int32)) C dX9_isPattern_163 (by decide) ?_
        exact mv_zret C dX9_isPattern_164 (Or.inl rfl) hw
      · have hw := hw.2 h29
        exact wj_X9_isPattern_133_ok C hs hlev hK65 hw
set_option maxHeartbeats 4000000 in
set_option maxRecDepth 100000 in
theorem wj_X9_isPattern_65_ok (C : mC p s m args meth c cX9_isPattern 6 wsX9_isPattern RX9 (some .boolean) (dC, dI) vwCl [(cA, .int)] A) (hs : eM A s) (hlev : 3 ≤ lev) {post : Int32 → mS → Prop} {K65 : Int32 → Int32 → Int32 → mS → Prop} (hK65 : ∀ (x1 x2 x4 : Int32) (u : mS), K65 x1 x2 x4 u → mV p l e (mRm lev) s m args below meth c 6 (dC, dI) vwCl A 0 0 (mQi below args s (dC, dI) vwCl [(cA, .int)] (wM cA b) A (fun r w => (r = 0 ∨ r = 1) ∧ post r w)) (wM cA b u) 65 [(0, .ref (b 0)), (1, .int x1), (2, .int x2), (4, .int x4)] []) {x1 x2 x4 : Int32} {u : mS} (hw : wj_X9_isPattern_65 K65 post x1 x2 x4 u) : mV p l e (mRm lev) s m args below meth c 6 (dC, dI) vwCl A 0 0 (mQi below args s (dC, dI) vwCl [(cA, .int)] (wM cA b) A (fun r w => (r = 0 ∨ r = 1) ∧ post r w)) (wM cA b u) 65 [(0, .ref (b 0)), (1, .int x1), (2, .int x2), (4, .int x4)] [] := by
  unfold wj_X9_isPattern_65 at hw
  refine mv_iload C dX9_isPattern_65 3 rfl ?_
  refine mv_iload_n C dX9_isPattern_67 rfl 2 rfl ?_
  refine mv_icmp_ge (tgt := 171) C dX9_isPattern_68 (by decide) (fun h16 => ?_) (fun h16 => ?_)
  · have hw := hw.1 h16
    refine mv_iconst (v := (1 : Int32)) C dX9_isPattern_171 (by decide) ?_
    exact mv_zret C dX9_isPattern_172 (Or.inr rfl) hw
  · have hw := hw.2 h16
    refine mv_aload_n C dX9_isPattern_71 rfl 0 rfl ?_
    refine mv_get (v := .ref (b 4)) C iw_X9_isPattern_X9 0 rfl rfl 5 (by decide) lk_X9_isPattern_19 rfl rfl dX9_isPattern_72 ?_
    refine mv_iload C dX9_isPattern_75 3 rfl ?_
    refine mv_callSi (f := wM cA b) (As := [.ref (b 4), .int x4]) (rest := []) C eM_ok hs (X9_kind_4_met (l := l) (lev := lev - 1) (by omega) hw) (va_cwS 2 C.2.2.2.2.1 gX9_isPattern_X9_kind rfl rfl rfl (by decide +kernel) (mRm_le (by omega) (by decide))) rfl rfl (Nat.le_of_ble_eq_true rfl) dX9_isPattern_77 ⟨Nat.le_refl 0, Nat.le_refl 0⟩ (fun r17 u18 hw => ?_)
    refine mv_istore (lv1 := [(5, .int r17), (0, .ref (b 0)), (1, .int x1), (2, .int x2), (4, .int x4)]) C dX9_isPattern_80 (by decide) rfl ?_
    refine mv_iload C dX9_isPattern_82 0 rfl ?_
    refine mv_bipush (v := (6 : Int32)) C dX9_isPattern_84 (by decide) ?_
    refine mv_icmp_ne (tgt := 106) C dX9_isPattern_86 (by decide) (fun h19 => ?_) (fun h19 => ?_)
    · have hw := hw.1 h19
      refine mv_sub [1, 2, 3, 4, 0] rfl ?_
      exact wj_X9_isPattern_106_ok C hs hlev hK65 hw
    · have hw := hw.2 h19
      refine mv_aload_n C dX9_isPattern_89 rfl 1 rfl ?_
      refine mv_get (v := .ref (b 4)) C iw_X9_isPattern_X9 0 rfl rfl 5 (by decide) lk_X9_isPattern_19 rfl rfl dX9_isPattern_90 ?_
      refine mv_iload C dX9_isPattern_93 4 rfl ?_
      refine mv_iconst (v := (1 : Int32)) C dX9_isPattern_95 (by decide) ?_
      refine mv_iadd C dX9_isPattern_96 ?_
      refine mv_topi (fun y20 ey20 => ?_)
      have hw := hw y20 ey20
      refine mv_callSi (f := wM cA b) (As := [.ref (b 4), .int y20]) (rest := []) C eM_ok hs (X9_kind_4_met (l := l) (lev := lev - 1) (by omega) hw) (va_cwS 2 C.2.2.2.2.1 gX9_isPattern_X9_kind rfl rfl rfl (by decide +kernel) (mRm_le (by omega) (by decide))) rfl rfl (Nat.le_of_ble_eq_true rfl) dX9_isPattern_97 ⟨Nat.le_refl 0, Nat.le_refl 0⟩ (fun r21 u22 hw => ?_)
      refine mv_iconst (v := (2 : Int32)) C dX9_isPattern_100 (by decide) ?_
      refine mv_icmp_eq (tgt := 106) C dX9_isPattern_101 (by decide) (fun h23 => ?_) (fun h23 => ?_)
      · have hw := hw.1 h23
        refine mv_sub [1, 2, 3, 4, 0] rfl ?_
        exact wj_X9_isPattern_106_ok C hs hlev hK65 hw
      · have hw := hw.2 h23
        refine mv_iconst (v := (0 : Int32)) C dX9_isPattern_104 (by decide) ?_
        exact mv_zret C dX9_isPattern_105 (Or.inl rfl) hw
set_option maxHeartbeats 4000000 in
set_option maxRecDepth 100000 in
theorem X9_isPattern_met (hlev : 3 ≤ lev) {x1 : Int32} {u : mS} {post : Int32 → mS → Prop} (hw : wp_X9_isPattern x1 u post) : mKi l yX9_isPattern wsX9_isPattern lev (eM) (dC, dI) vwCl [(cA, .int)] (wM cA b) [.ref (b 0), .int x1] u (fun r w => (r = 0 ∨ r = 1) ∧ post r w) := by
  refine mKz_of (cc := cX9_isPattern) (maxL := 6) (by decide) rfl rfl (Nat.le_of_ble_eq_true rfl) rfl ?_
  intro p e s m args below meth c A C hs
  unfold wp_X9_isPattern at hw
  refine mv_aload_n C dX9_isPattern_0 rfl 0 rfl ?_
  refine mv_get (v := .ref (b 4)) C iw_X9_isPattern_X9 0 rfl rfl 5 (by decide) lk_X9_isPattern_19 rfl rfl dX9_isPattern_1 ?_
  refine mv_iload_n C dX9_isPattern_4 rfl 1 rfl ?_
  refine mv_callSi (f := wM cA b) (As := [.ref (b 4), .int x1]) (rest := []) C eM_ok hs (X9_kind_4_met (l := l) (lev := lev - 1) (by omega) hw) (va_cwS 2 C.2.2.2.2.1 gX9_isPattern_X9_kind rfl rfl rfl (by decide +kernel) (mRm_le (by omega) (by decide))) rfl rfl (Nat.le_of_ble_eq_true rfl) dX9_isPattern_5 ⟨Nat.le_refl 0, Nat.le_refl 0⟩ (fun r1 u2 hw => ?_)
  refine mv_iconst (v := (1 : Int32)) C dX9_isPattern_8 (by decide) ?_
  refine mv_icmp_ne (tgt := 23) C dX9_isPattern_9 (by decide) (fun h3 => ?_) (fun h3 => ?_)
  · have hw := hw.1 h3
    refine mv_iconst (v := (0 : Int32)) C dX9_isPattern_23 (by decide) ?_
    exact mv_zret C dX9_isPattern_24 (Or.inl rfl) hw
  · have hw := hw.2 h3
    refine mv_aload_n C dX9_isPattern_12 rfl 0 rfl ?_
    refine mv_get (v := .ref (b 4)) C iw_X9_isPattern_X9 0 rfl rfl 5 (by decide) lk_X9_isPattern_19 rfl rfl dX9_isPattern_13 ?_
    refine mv_iload_n C dX9_isPattern_16 rfl 1 rfl ?_
    refine mv_callSi (f := wM cA b) (As := [.ref (b 4), .int x1]) (rest := []) C eM_ok hs (X9_count_4_met (l := l) (lev := lev - 1) (by omega) hw) (va_cwS 2 C.2.2.2.2.1 gX9_isPattern_X9_count rfl rfl rfl (by decide +kernel) (mRm_le (by omega) (by decide))) rfl rfl (Nat.le_of_ble_eq_true rfl) dX9_isPattern_17 ⟨Nat.le_refl 0, Nat.le_refl 0⟩ (fun r4 u5 hw => ?_)
    refine mv_if_ne (tgt := 25) C dX9_isPattern_20 (by decide) (fun h6 => ?_) (fun h6 => ?_)
    · have hw := hw.1 h6
      refine mv_aload_n C dX9_isPattern_25 rfl 0 rfl ?_
      refine mv_get (v := .ref (b 4)) C iw_X9_isPattern_X9 0 rfl rfl 5 (by decide) lk_X9_isPattern_19 rfl rfl dX9_isPattern_26 ?_
      refine mv_iload_n C dX9_isPattern_29 rfl 1 rfl ?_
      refine mv_callSi (f := wM cA b) (As := [.ref (b 4), .int x1]) (rest := []) C eM_ok hs (X9_end_4_met (l := l) (lev := lev - 1) (by omega) hw) (va_cwS 2 C.2.2.2.2.1 gX9_isPattern_X9_end rfl rfl rfl (by decide +kernel) (mRm_le (by omega) (by decide))) rfl rfl (Nat.le_of_ble_eq_true rfl) dX9_isPattern_30 ⟨Nat.le_refl 0, Nat.le_refl 0⟩ (fun r7 u8 hw => ?_)
      refine mv_iconst (v := (1 : Int32)) C dX9_isPattern_33 (by decide) ?_
      refine mv_isub C dX9_isPattern_34 ?_
      refine mv_topi (fun y9 ey9 => ?_)
      have hw := hw y9 ey9
      refine mv_istore_n (lv1 := [(2, .int y9), (0, .ref (b 0)), (1, .int x1)]) C dX9_isPattern_35 rfl (by decide) rfl ?_
      refine mv_aload_n C dX9_isPattern_36 rfl 1 rfl ?_
      refine mv_get (v := .ref (b 4)) C iw_X9_isPattern_X9 0 rfl rfl 5 (by decide) lk_X9_isPattern_19 rfl rfl dX9_isPattern_37 ?_
      refine mv_iload_n C dX9_isPattern_40 rfl 2 rfl ?_
      refine mv_iconst (v := (1 : Int32)) C dX9_isPattern_41 (by decide) ?_
      refine mv_iadd C dX9_isPattern_42 ?_
      refine mv_topi (fun y10 ey10 => ?_)
      have hw := hw y10 ey10
      refine mv_callSi (f := wM cA b) (As := [.ref (b 4), .int y10]) (rest := []) C eM_ok hs (X9_end_4_met (l := l) (lev := lev - 1) (by omega) hw) (va_cwS 2 C.2.2.2.2.1 gX9_isPattern_X9_end rfl rfl rfl (by decide +kernel) (mRm_le (by omega) (by decide))) rfl rfl (Nat.le_of_ble_eq_true rfl) dX9_isPattern_43 ⟨Nat.le_refl 0, Nat.le_refl 0⟩ (fun r11 u12 hw => ?_)
      refine mv_istore_n (lv1 := [(3, .int r11), (2, .int y9), (0, .ref (b 0)), (1, .int x1)]) C dX9_isPattern_46 rfl (by decide) rfl ?_
      refine mv_aload_n C dX9_isPattern_47 rfl 2 rfl ?_
      refine mv_get (v := .ref (b 4)) C iw_X9_isPattern_X9 0 rfl rfl 5 (by decide) lk_X9_isPattern_19 rfl rfl dX9_isPattern_48 ?_
      refine mv_iload_n C dX9_isPattern_51 rfl 0 rfl ?_
      refine mv_callSi (f := wM cA b) (As := [.ref (b 4), .int r11]) (rest := []) C eM_ok hs (X9_kind_4_met (l := l) (lev := lev - 1) (by omega) hw) (va_cwS 2 C.2.2.2.2.1 gX9_isPattern_X9_kind rfl rfl rfl (by decide +kernel) (mRm_le (by omega) (by decide))) rfl rfl (Nat.le_of_ble_eq_true rfl) dX9_isPattern_52 ⟨Nat.le_refl 0, Nat.le_refl 0⟩ (fun r13 u14 hw => ?_)
      refine mv_bipush (v := (6 : Int32)) C dX9_isPattern_55 (by decide) ?_
      refine mv_icmp_ne (tgt := 62) C dX9_isPattern_57 (by decide) (fun h15 => ?_) (fun h15 => ?_)
      · have hw := hw.1 h15
        refine mv_iload_n C dX9_isPattern_62 rfl 0 rfl ?_
        refine mv_istore (lv1 := [(4, .int r11), (3, .int r11), (2, .int y9), (0, .ref (b 0)), (1, .int x1)]) C dX9_isPattern_63 (by decide) rfl ?_
        refine mv_sub [3, 4, 2, 0] rfl ?_
        obtain ⟨n, hw⟩ := hw
        exact mL4_of (fun K hK b0 b1 b2 b3 hw => wj_X9_isPattern_65_ok C hs hlev hK hw) n x1 y9 r11 u14 hw
      · have hw := hw.2 h15
        refine mv_iconst (v := (0 : Int32)) C dX9_isPattern_60 (by decide) ?_
        exact mv_zret C dX9_isPattern_61 (Or.inl rfl) hw
    · have hw := hw.2 h6
      refine mv_iconst (v := (0 : Int32)) C dX9_isPattern_23 (by decide) ?_
      exact mv_zret C dX9_isPattern_24 (Or.inl rfl) hw
end
