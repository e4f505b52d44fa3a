set_option maxRecDepth 100000 in
theorem gpX9_matches_X9_pairs_0 : GoodIn wsX9_matches ([.fieldLink RX9 13 "MarkedNamesModel" "row" "[I", .fieldLink RX9 19 "MarkedNamesModel" "kept" "[I", .fieldLink RX9 52 "MarkedNamesModel" "left" "[I", .fieldLink RX9 55 "MarkedNamesModel" "right" "[I", .methodLink RX9 107 yX9_kind, .static yX9_kind, .initialized RX9, .code yX9_kind cX9_kind 2 (some .int), .constant RX9 88 (65536), .methodLink RX9 117 yX9_dots, .static yX9_dots, .code yX9_dots cX9_dots 5 (some .int), .methodLink RX9 111 yX9_end, .static yX9_end, .code yX9_end cX9_end 5 (some .int), .methodLink RX9 114 yX9_count, .static yX9_count, .code yX9_count cX9_count 5 (some .int)] : List Cond) := goodIn_r _ [4, 3, 1, 2, 10, 11, 8, 12, 13, 14, 15, 16, 17, 18, 19, 20, 21, 22] (by decide +kernel) (by decide +kernel)
set_option maxRecDepth 100000 in
theorem gpX9_matches_X9_pairs_1 : GoodIn wsX9_matches wsX90 := goodIn_r _ [23, 24, 25, 26, 27, 28, 29, 30, 31, 32, 33, 34, 35, 36, 37, 38, 39, 40, 41, 42, 43, 44, 45, 46, 47, 48, 49, 50, 51, 52, 53, 54, 55, 56, 57, 58] (by decide +kernel) (by decide +kernel)
set_option maxRecDepth 100000 in
theorem gpX9_matches_X9_pairs_c : GoodIn wsX9_matches [Cond.code yX9_pairs cX9_pairs 12 (some .int)] := goodIn_r _ [9] (by decide +kernel) (by decide +kernel)
theorem ggX9_matches_X9_pairs : GoodIn wsX9_matches wsX9_pairs := goodIn_cons2 gpX9_matches_X9_pairs_c (goodIn_app gpX9_matches_X9_pairs_0 gpX9_matches_X9_pairs_1)
set_option maxRecDepth 20000 in
theorem gX9_matches_X9_pairs : GoodIn wsX9_matches (wsV RX9 209 RX9 yX9_pairs wsX9_pairs) := goodIn_app (goodIn_of _ (by decide +kernel)) ggX9_matches_X9_pairs
set_option maxRecDepth 20000 in
theorem ggX9_matches_X9_kind : GoodIn wsX9_matches wsX9_kind := goodIn_r _ [12, 13] (by decide +kernel) (by decide +kernel)
set_option maxRecDepth 20000 in
theorem gX9_matches_X9_kind : GoodIn wsX9_matches (va_wsS RX9 107 yX9_kind wsX9_kind) := goodIn_app (goodIn_of _ (by decide +kernel)) ggX9_matches_X9_kind
theorem dX9_matches_0 : decode cX9_matches 0 = .ok (.aload_n 0, 1) := by decide +kernel
theorem dX9_matches_1 : decode cX9_matches 1 = .ok (.iconst 0, 1) := by decide +kernel
theorem dX9_matches_2 : decode cX9_matches 2 = .ok (.iload_n 1, 1) := by decide +kernel
theorem dX9_matches_3 : decode cX9_matches 3 = .ok (.iload_n 2, 1) := by decide +kernel
theorem dX9_matches_4 : decode cX9_matches 4 = .ok (.iconst 1, 1) := by decide +kernel
theorem dX9_matches_5 : decode cX9_matches 5 = .ok (.invokevirtual 209, 3) := by decide +kernel
theorem dX9_matches_8 : decode cX9_matches 8 = .ok (.istore_n 3, 1) := by decide +kernel
theorem dX9_matches_9 : decode cX9_matches 9 = .ok (.iload_n 3, 1) := by decide +kernel
theorem dX9_matches_10 : decode cX9_matches 10 = .ok (.ifCond .le 82, 3) := by decide +kernel
theorem dX9_matches_13 : decode cX9_matches 13 = .ok (.aload_n 0, 1) := by decide +kernel
theorem dX9_matches_14 : decode cX9_matches 14 = .ok (.getfield 52, 3) := by decide +kernel
theorem dX9_matches_17 : decode cX9_matches 17 = .ok (.iload_n 3, 1) := by decide +kernel
theorem dX9_matches_18 : decode cX9_matches 18 = .ok (.iconst 1, 1) := by decide +kernel
theorem dX9_matches_19 : decode cX9_matches 19 = .ok (.isub, 1) := by decide +kernel
theorem dX9_matches_20 : decode cX9_matches 20 = .ok (.iaload, 1) := by decide +kernel
theorem dX9_matches_21 : decode cX9_matches 21 = .ok (.istore 4, 2) := by decide +kernel
theorem dX9_matches_23 : decode cX9_matches 23 = .ok (.aload_n 0, 1) := by decide +kernel
theorem dX9_matches_24 : decode cX9_matches 24 = .ok (.getfield 55, 3) := by decide +kernel
theorem dX9_matches_27 : decode cX9_matches 27 = .ok (.iload_n 3, 1) := by decide +kernel
theorem dX9_matches_28 : decode cX9_matches 28 = .ok (.iconst 1, 1) := by decide +kernel
theorem dX9_matches_29 : decode cX9_matches 29 = .ok (.isub, 1) := by decide +kernel
theorem dX9_matches_30 : decode cX9_matches 30 = .ok (.iaload, 1) := by decide +kernel
theorem dX9_matches_31 : decode cX9_matches 31 = .ok (.istore 5, 2) := by decide +kernel
theorem dX9_matches_33 : decode cX9_matches 33 = .ok (.iinc 3 (-1), 3) := by decide +kernel
theorem dX9_matches_36 : decode cX9_matches 36 = .ok (.aload_n 0, 1) := by decide +kernel
theorem dX9_matches_37 : decode cX9_matches 37 = .ok (.getfield 19, 3) := by decide +kernel
theorem dX9_matches_40 : decode cX9_matches 40 = .ok (.iload 4, 2) := by decide +kernel
theorem dX9_matches_42 : decode cX9_matches 42 = .ok (.invokestatic 107, 3) := by decide +kernel
theorem dX9_matches_45 : decode cX9_matches 45 = .ok (.istore 6, 2) := by decide +kernel
theorem dX9_matches_47 : decode cX9_matches 47 = .ok (.iload 6, 2) := by decide +kernel
theorem dX9_matches_49 : decode cX9_matches 49 = .ok (.iconst 4, 1) := by decide +kernel
theorem dX9_matches_50 : decode cX9_matches 50 = .ok (.if_icmp .ne 22, 3) := by decide +kernel
theorem dX9_matches_53 : decode cX9_matches 53 = .ok (.aload_n 0, 1) := by decide +kernel
theorem dX9_matches_54 : decode cX9_matches 54 = .ok (.getfield 19, 3) := by decide +kernel
theorem dX9_matches_57 : decode cX9_matches 57 = .ok (.iload 4, 2) := by decide +kernel
theorem dX9_matches_59 : decode cX9_matches 59 = .ok (.iaload, 1) := by decide +kernel
theorem dX9_matches_60 : decode cX9_matches 60 = .ok (.aload_n 0, 1) := by decide +kernel
theorem dX9_matches_61 : decode cX9_matches 61 = .ok (.getfield 13, 3) := by decide +kernel
theorem dX9_matches_64 : decode cX9_matches 64 = .ok (.iload 5, 2) := by decide +kernel
theorem dX9_matches_66 : decode cX9_matches 66 = .ok (.iaload, 1) := by decide +kernel
theorem dX9_matches_67 : decode cX9_matches 67 = .ok (.if_icmp .eq 5, 3) := by decide +kernel
theorem dX9_matches_70 : decode cX9_matches 70 = .ok (.iconst 0, 1) := by decide +kernel
theorem dX9_matches_71 : decode cX9_matches 71 = .ok (.ireturn, 1) := by decide +kernel
theorem dX9_matches_72 : decode cX9_matches 72 = .ok (.iload 6, 2) := by decide +kernel
theorem dX9_matches_74 : decode cX9_matches 74 = .ok (.iconst 1, 1) := by decide +kernel
theorem dX9_matches_75 : decode cX9_matches 75 = .ok (.if_icmp .ne 14, 3) := by decide +kernel
theorem dX9_matches_78 : decode cX9_matches 78 = .ok (.aload_n 0, 1) := by decide +kernel
theorem dX9_matches_79 : decode cX9_matches 79 = .ok (.iload_n 3, 1) := by decide +kernel
theorem dX9_matches_80 : decode cX9_matches 80 = .ok (.iload 4, 2) := by decide +kernel
theorem dX9_matches_82 : decode cX9_matches 82 = .ok (.iload 5, 2) := by decide +kernel
theorem dX9_matches_84 : decode cX9_matches 84 = .ok (.iconst 0, 1) := by decide +kernel
theorem dX9_matches_85 : decode cX9_matches 85 = .ok (.invokevirtual 209, 3) := by decide +kernel
theorem dX9_matches_88 : decode cX9_matches 88 = .ok (.istore_n 3, 1) := by decide +kernel
theorem dX9_matches_89 : decode cX9_matches 89 = .ok (.goto (-80), 3) := by decide +kernel
theorem dX9_matches_92 : decode cX9_matches 92 = .ok (.iload_n 3, 1) := by decide +kernel
theorem dX9_matches_93 : decode cX9_matches 93 = .ok (.ifCond .ne 7, 3) := by decide +kernel
theorem dX9_matches_96 : decode cX9_matches 96 = .ok (.iconst 1, 1) := by decide +kernel
theorem dX9_matches_97 : decode cX9_matches 97 = .ok (.goto 4, 3) := by decide +kernel
theorem dX9_matches_100 : decode cX9_matches 100 = .ok (.iconst 0, 1) := by decide +kernel
theorem dX9_matches_101 : decode cX9_matches 101 = .ok (.ireturn, 1) := by decide +kernel
set_option maxRecDepth 20000 in
theorem ggX9_pairs_X9_kind : GoodIn wsX9_pairs wsX9_kind := goodIn_r _ [8, 9] (by decide +kernel) (by decide +kernel)
set_option maxRecDepth 20000 in
theorem gX9_pairs_X9_kind : GoodIn wsX9_pairs (va_wsS RX9 107 yX9_kind wsX9_kind) := goodIn_app (goodIn_of _ (by decide +kernel)) ggX9_pairs_X9_kind
set_option maxRecDepth 20000 in
theorem ggX9_pairs_X9_dots : GoodIn wsX9_pairs wsX9_dots := goodIn_r _ [12, 5, 6, 7, 8, 9, 13, 14, 15] (by decide +kernel) (by decide +kernel)
set_option maxRecDepth 20000 in
theorem gX9_pairs_X9_dots : GoodIn wsX9_pairs (va_wsS RX9 117 yX9_dots wsX9_dots) := goodIn_app (goodIn_of _ (by decide +kernel)) ggX9_pairs_X9_dots
set_option maxRecDepth 20000 in
theorem ggX9_pairs_X9_count : GoodIn wsX9_pairs wsX9_count := goodIn_r _ [18, 5, 6, 7, 8, 9, 13, 14, 15] (by decide +kernel) (by decide +kernel)
set_option maxRecDepth 20000 in
theorem gX9_pairs_X9_count : GoodIn wsX9_pairs (va_wsS RX9 114 yX9_count wsX9_count) := goodIn_app (goodIn_of _ (by decide +kernel)) ggX9_pairs_X9_count
set_option maxRecDepth 20000 in
theorem ggX9_pairs_X9_end : GoodIn wsX9_pairs wsX9_end := goodIn_r _ [15, 5, 6, 7, 8, 9] (by decide +kernel) (by decide +kernel)
set_option maxRecDepth 20000 in
theorem gX9_pairs_X9_end : GoodIn wsX9_pairs (va_wsS RX9 111 yX9_end wsX9_end) := goodIn_app (goodIn_of _ (by decide +kernel)) ggX9_pairs_X9_end
theorem dX9_pairs_0 : decode cX9_pairs 0 = .ok (.aload_n 0, 1) := by decide +kernel
theorem dX9_pairs_1 : decode cX9_pairs 1 = .ok (.getfield 13, 3) := by decide +kernel
theorem dX9_pairs_4 : decode cX9_pairs 4 = .ok (.iload_n 3, 1) := by decide +kernel
theorem dX9_pairs_5 : decode cX9_pairs 5 = .ok (.invokestatic 107, 3) := by decide +kernel
theorem dX9_pairs_8 : decode cX9_pairs 8 = .ok (.iconst 1, 1) := by decide +kernel
theorem dX9_pairs_9 : decode cX9_pairs 9 = .ok (.if_icmp .ne 14, 3) := by decide +kernel
theorem dX9_pairs_12 : decode cX9_pairs 12 = .ok (.aload_n 0, 1) := by decide +kernel
theorem dX9_pairs_13 : decode cX9_pairs 13 = .ok (.getfield 13, 3) := by decide +kernel
theorem dX9_pairs_16 : decode cX9_pairs 16 = .ok (.iload_n 3, 1) := by decide +kernel
theorem dX9_pairs_17 : decode cX9_pairs 17 = .ok (.invokestatic 117, 3) := by decide +kernel
theorem dX9_pairs_20 : decode cX9_pairs 20 = .ok (.ifCond .le 5, 3) := by decide +kernel
theorem dX9_pairs_23 : decode cX9_pairs 23 = .ok (.iconst (-1), 1) := by decide +kernel
theorem dX9_pairs_24 : decode cX9_pairs 24 = .ok (.ireturn, 1) := by decide +kernel
theorem dX9_pairs_25 : decode cX9_pairs 25 = .ok (.aload_n 0, 1) := by decide +kernel
theorem dX9_pairs_26 : decode cX9_pairs 26 = .ok (.getfield 19, 3) := by decide +kernel
theorem dX9_pairs_29 : decode cX9_pairs 29 = .ok (.iload_n 2, 1) := by decide +kernel
theorem dX9_pairs_30 : decode cX9_pairs 30 = .ok (.invokestatic 114, 3) := by decide +kernel
theorem dX9_pairs_33 : decode cX9_pairs 33 = .ok (.istore 5, 2) := by decide +kernel
theorem dX9_pairs_35 : decode cX9_pairs 35 = .ok (.aload_n 0, 1) := by decide +kernel
theorem dX9_pairs_36 : decode cX9_pairs 36 = .ok (.getfield 19, 3) := by decide +kernel
theorem dX9_pairs_39 : decode cX9_pairs 39 = .ok (.iload_n 2, 1) := by decide +kernel
theorem dX9_pairs_40 : decode cX9_pairs 40 = .ok (.invokestatic 117, 3) := by decide +kernel
theorem dX9_pairs_43 : decode cX9_pairs 43 = .ok (.ifCond .le 7, 3) := by decide +kernel
theorem dX9_pairs_46 : decode cX9_pairs 46 = .ok (.iconst 1, 1) := by decide +kernel
theorem dX9_pairs_47 : decode cX9_pairs 47 = .ok (.goto 4, 3) := by decide +kernel
theorem dX9_pairs_50 : decode cX9_pairs 50 = .ok (.iconst 0, 1) := by decide +kernel
theorem dX9_pairs_51 : decode cX9_pairs 51 = .ok (.istore 6, 2) := by decide +kernel
theorem dX9_pairs_53 : decode cX9_pairs 53 = .ok (.aload_n 0, 1) := by decide +kernel
theorem dX9_pairs_54 : decode cX9_pairs 54 = .ok (.getfield 13, 3) := by decide +kernel
theorem dX9_pairs_57 : decode cX9_pairs 57 = .ok (.iload_n 3, 1) := by decide +kernel
theorem dX9_pairs_58 : decode cX9_pairs 58 = .ok (.invokestatic 114, 3) := by decide +kernel
theorem dX9_pairs_61 : decode cX9_pairs 61 = .ok (.istore 7, 2) := by decide +kernel
theorem dX9_pairs_63 : decode cX9_pairs 63 = .ok (.iload 6, 2) := by decide +kernel
theorem dX9_pairs_65 : decode cX9_pairs 65 = .ok (.ifCond .eq 15, 3) := by decide +kernel
theorem dX9_pairs_68 : decode cX9_pairs 68 = .ok (.iload 7, 2) := by decide +kernel
theorem dX9_pairs_70 : decode cX9_pairs 70 = .ok (.iload 5, 2) := by decide +kernel
theorem dX9_pairs_72 : decode cX9_pairs 72 = .ok (.iconst 1, 1) := by decide +kernel
theorem dX9_pairs_73 : decode cX9_pairs 73 = .ok (.isub, 1) := by decide +kernel
theorem dX9_pairs_74 : decode cX9_pairs 74 = .ok (.if_icmp .ge 15, 3) := by decide +kernel
theorem dX9_pairs_77 : decode cX9_pairs 77 = .ok (.goto 10, 3) := by decide +kernel
theorem dX9_pairs_80 : decode cX9_pairs 80 = .ok (.iload 7, 2) := by decide +kernel
theorem dX9_pairs_82 : decode cX9_pairs 82 = .ok (.iload 5, 2) := by decide +kernel
theorem dX9_pairs_84 : decode cX9_pairs 84 = .ok (.if_icmp .eq 5, 3) := by decide +kernel
theorem dX9_pairs_87 : decode cX9_pairs 87 = .ok (.iconst (-1), 1) := by decide +kernel
theorem dX9_pairs_88 : decode cX9_pairs 88 = .ok (.ireturn, 1) := by decide +kernel
theorem dX9_pairs_89 : decode cX9_pairs 89 = .ok (.iload_n 1, 1) := by decide +kernel
theorem dX9_pairs_90 : decode cX9_pairs 90 = .ok (.istore 8, 2) := by decide +kernel
theorem dX9_pairs_92 : decode cX9_pairs 92 = .ok (.iload_n 2, 1) := by decide +kernel
theorem dX9_pairs_93 : decode cX9_pairs 93 = .ok (.iconst 1, 1) := by decide +kernel
theorem dX9_pairs_94 : decode cX9_pairs 94 = .ok (.iadd, 1) := by decide +kernel
theorem dX9_pairs_95 : decode cX9_pairs 95 = .ok (.istore 9, 2) := by decide +kernel
theorem dX9_pairs_97 : decode cX9_pairs 97 = .ok (.iload_n 3, 1) := by decide +kernel
theorem dX9_pairs_98 : decode cX9_pairs 98 = .ok (.iconst 1, 1) := by decide +kernel
theorem dX9_pairs_99 : decode cX9_pairs 99 = .ok (.iadd, 1) := by decide +kernel
theorem dX9_pairs_100 : decode cX9_pairs 100 = .ok (.istore 10, 2) := by decide +kernel
theorem dX9_pairs_102 : decode cX9_pairs 102 = .ok (.iconst 0, 1) := by decide +kernel
theorem dX9_pairs_103 : decode cX9_pairs 103 = .ok (.istore 11, 2) := by decide +kernel
theorem dX9_pairs_105 : decode cX9_pairs 105 = .ok (.iload 11, 2) := by decide +kernel
theorem dX9_pairs_107 : decode cX9_pairs 107 = .ok (.iload 7, 2) := by decide +kernel
theorem dX9_pairs_109 : decode cX9_pairs 109 = .ok (.if_icmp .ge 76, 3) := by decide +kernel
theorem dX9_pairs_112 : decode cX9_pairs 112 = .ok (.iload 11, 2) := by decide +kernel
theorem dX9_pairs_114 : decode cX9_pairs 114 = .ok (.ifCond .gt 8, 3) := by decide +kernel
theorem dX9_pairs_117 : decode cX9_pairs 117 = .ok (.iload 4, 2) := by decide +kernel
theorem dX9_pairs_119 : decode cX9_pairs 119 = .ok (.ifCond .ne 24, 3) := by decide +kernel
theorem dX9_pairs_122 : decode cX9_pairs 122 = .ok (.aload_n 0, 1) := by decide +kernel
theorem dX9_pairs_123 : decode cX9_pairs 123 = .ok (.getfield 52, 3) := by decide +kernel
theorem dX9_pairs_126 : decode cX9_pairs 126 = .ok (.iload 8, 2) := by decide +kernel
theorem dX9_pairs_128 : decode cX9_pairs 128 = .ok (.iload 9, 2) := by decide +kernel
theorem dX9_pairs_130 : decode cX9_pairs 130 = .ok (.iastore, 1) := by decide +kernel
theorem dX9_pairs_131 : decode cX9_pairs 131 = .ok (.aload_n 0, 1) := by decide +kernel
theorem dX9_pairs_132 : decode cX9_pairs 132 = .ok (.getfield 55, 3) := by decide +kernel
theorem dX9_pairs_135 : decode cX9_pairs 135 = .ok (.iload 8, 2) := by decide +kernel
theorem dX9_pairs_137 : decode cX9_pairs 137 = .ok (.iload 10, 2) := by decide +kernel
theorem dX9_pairs_139 : decode cX9_pairs 139 = .ok (.iastore, 1) := by decide +kernel
theorem dX9_pairs_140 : decode cX9_pairs 140 = .ok (.iinc 8 1, 3) := by decide +kernel
theorem dX9_pairs_143 : decode cX9_pairs 143 = .ok (.aload_n 0, 1) := by decide +kernel
theorem dX9_pairs_144 : decode cX9_pairs 144 = .ok (.getfield 13, 3) := by decide +kernel
theorem dX9_pairs_147 : decode cX9_pairs 147 = .ok (.iload 10, 2) := by decide +kernel
theorem dX9_pairs_149 : decode cX9_pairs 149 = .ok (.invokestatic 111, 3) := by decide +kernel
theorem dX9_pairs_152 : decode cX9_pairs 152 = .ok (.istore 10, 2) := by decide +kernel
theorem dX9_pairs_154 : decode cX9_pairs 154 = .ok (.iload 11, 2) := by decide +kernel
theorem dX9_pairs_156 : decode cX9_pairs 156 = .ok (.iconst 1, 1) := by decide +kernel
theorem dX9_pairs_157 : decode cX9_pairs 157 = .ok (.iadd, 1) := by decide +kernel
theorem dX9_pairs_158 : decode cX9_pairs 158 = .ok (.iload 5, 2) := by decide +kernel
theorem dX9_pairs_160 : decode cX9_pairs 160 = .ok (.if_icmp .ge 15, 3) := by decide +kernel
theorem dX9_pairs_163 : decode cX9_pairs 163 = .ok (.aload_n 0, 1) := by decide +kernel
theorem dX9_pairs_164 : decode cX9_pairs 164 = .ok (.getfield 19, 3) := by decide +kernel
theorem dX9_pairs_167 : decode cX9_pairs 167 = .ok (.iload 9, 2) := by decide +kernel
theorem dX9_pairs_169 : decode cX9_pairs 169 = .ok (.invokestatic 111, 3) := by decide +kernel
theorem dX9_pairs_172 : decode cX9_pairs 172 = .ok (.goto 5, 3) := by decide +kernel
theorem dX9_pairs_175 : decode cX9_pairs 175 = .ok (.iload 9, 2) := by decide +kernel
theorem dX9_pairs_177 : decode cX9_pairs 177 = .ok (.istore 9, 2) := by decide +kernel
theorem dX9_pairs_179 : decode cX9_pairs 179 = .ok (.iinc 11 1, 3) := by decide +kernel
theorem dX9_pairs_182 : decode cX9_pairs 182 = .ok (.goto (-77), 3) := by decide +kernel
theorem dX9_pairs_185 : decode cX9_pairs 185 = .ok (.iload 8, 2) := by decide +kernel
theorem dX9_pairs_187 : decode cX9_pairs 187 = .ok (.ireturn, 1) := by decide +kernel
set_option maxRecDepth 20000 in
theorem ggX9_turn_X9_kind : GoodIn wsX9_turn wsX9_kind := goodIn_r _ [4, 5] (by decide +kernel) (by decide +kernel)
set_option maxRecDepth 20000 in
theorem gX9_turn_X9_kind : GoodIn wsX9_turn (va_wsS RX9 107 yX9_kind wsX9_kind) := goodIn_app (goodIn_of _ (by decide +kernel)) ggX9_turn_X9_kind
theorem dX9_turn_0 : decode cX9_turn 0 = .ok (.iload_n 3, 1) := by decide +kernel
theorem dX9_turn_1 : decode cX9_turn 1 = .ok (.istore 6, 2) := by decide +kernel
theorem dX9_turn_3 : decode cX9_turn 3 = .ok (.iload 6, 2) := by decide +kernel
theorem dX9_turn_5 : decode cX9_turn 5 = .ok (.iload 4, 2) := by decide +kernel
theorem dX9_turn_7 : decode cX9_turn 7 = .ok (.if_icmp .ge 37, 3) := by decide +kernel
theorem dX9_turn_10 : decode cX9_turn 10 = .ok (.aload_n 2, 1) := by decide +kernel
theorem dX9_turn_11 : decode cX9_turn 11 = .ok (.iload 6, 2) := by decide +kernel
theorem dX9_turn_13 : decode cX9_turn 13 = .ok (.aload_n 1, 1) := by decide +kernel
theorem dX9_turn_14 : decode cX9_turn 14 = .ok (.iload 6, 2) := by decide +kernel
theorem dX9_turn_16 : decode cX9_turn 16 = .ok (.invokestatic 107, 3) := by decide +kernel
theorem dX9_turn_19 : decode cX9_turn 19 = .ok (.iconst 3, 1) := by decide +kernel
theorem dX9_turn_20 : decode cX9_turn 20 = .ok (.if_icmp .ne 13, 3) := by decide +kernel
theorem dX9_turn_23 : decode cX9_turn 23 = .ok (.aload_n 2, 1) := by decide +kernel
theorem dX9_turn_24 : decode cX9_turn 24 = .ok (.iload 6, 2) := by decide +kernel
theorem dX9_turn_26 : decode cX9_turn 26 = .ok (.iaload, 1) := by decide +kernel
theorem dX9_turn_27 : decode cX9_turn 27 = .ok (.iload 5, 2) := by decide +kernel
theorem dX9_turn_29 : decode cX9_turn 29 = .ok (.ixor, 1) := by decide +kernel
theorem dX9_turn_30 : decode cX9_turn 30 = .ok (.goto 7, 3) := by decide +kernel
theorem dX9_turn_33 : decode cX9_turn 33 = .ok (.aload_n 2, 1) := by decide +kernel
theorem dX9_turn_34 : decode cX9_turn 34 = .ok (.iload 6, 2) := by decide +kernel
theorem dX9_turn_36 : decode cX9_turn 36 = .ok (.iaload, 1) := by decide +kernel
theorem dX9_turn_37 : decode cX9_turn 37 = .ok (.iastore, 1) := by decide +kernel
theorem dX9_turn_38 : decode cX9_turn 38 = .ok (.iinc 6 1, 3) := by decide +kernel
theorem dX9_turn_41 : decode cX9_turn 41 = .ok (.goto (-38), 3) := by decide +kernel
theorem dX9_turn_44 : decode cX9_turn 44 = .ok (.return_, 1) := by decide +kernel
set_option maxRecDepth 100000 in
theorem gpX9_form_X9_function_0 : GoodIn wsX9_form wsX9_function_r1 := goodIn_r _ [1, 2, 4, 10, 11, 3, 12, 13, 8, 14, 15, 16, 17, 18, 19, 20, 21, 22, 23, 24, 25, 26, 27, 28] (by decide +kernel) (by decide +kernel)
set_option maxRecDepth 100000 in
theorem gpX9_form_X9_function_1 : GoodIn wsX9_form wsX9_function_r2 := goodIn_r _ [29, 30, 31, 32, 33, 34, 35, 36, 37, 38, 39, 40, 41, 42, 43, 44, 45, 46, 47, 48, 49, 50, 51, 52] (by decide +kernel) (by decide +kernel)
set_option maxRecDepth 100000 in
theorem gpX9_form_X9_function_2 : GoodIn wsX9_form wsX9_function_r3 := goodIn_r _ [53, 54, 55, 56, 57, 58, 59, 60, 61, 62, 63, 64, 65, 66, 67, 68, 69, 70, 71, 72, 73, 74, 75, 76] (by decide +kernel) (by decide +kernel)
set_option maxRecDepth 100000 in
theorem gpX9_form_X9_function_3 : GoodIn wsX9_form wsX9_function_r4 := goodIn_r _ [77, 78, 79, 80, 81, 82, 83, 84, 85] (by decide +kernel) (by decide +kernel)
set_option maxRecDepth 100000 in
theorem gpX9_form_X9_function_4 : GoodIn wsX9_form wsX90 := goodIn_r _ [126, 127, 128, 129, 130, 131, 132, 133, 134, 135, 136, 137, 138, 139, 140, 141, 142, 143, 144, 145, 146, 147, 148, 149, 150, 151, 152, 153, 154, 155, 156, 157, 158, 159, 160, 161] (by decide +kernel) (by decide +kernel)
set_option maxRecDepth 100000 in
theorem gpX9_form_X9_function_c : GoodIn wsX9_form [Cond.code yX9_function cX9_function 9 none] := goodIn_r _ [9] (by decide +kernel) (by decide +kernel)
theorem ggX9_form_X9_function : GoodIn wsX9_form wsX9_function := goodIn_cons2 gpX9_form_X9_function_c (goodIn_app (goodIn_app gpX9_form_X9_function_0 (goodIn_app gpX9_form_X9_function_1 (goodIn_app gpX9_form_X9_function_2 gpX9_form_X9_function_3))) gpX9_form_X9_function_4)
set_option maxRecDepth 20000 in
theorem gX9_form_X9_function : GoodIn wsX9_form (wsV RX9 278 RX9 yX9_function wsX9_function) := goodIn_app (goodIn_of _ (by decide +kernel)) ggX9_form_X9_function
set_option maxRecDepth 100000 in
theorem gpX9_form_X9_local_0 : GoodIn wsX9_form wsX9_local_r1 := goodIn_r _ [1, 2, 90, 4, 11, 91, 3, 12, 13, 8, 14, 15, 16, 17, 18, 19, 20, 21, 22, 23, 24, 25, 26, 27] (by decide +kernel) (by decide +kernel)
set_option maxRecDepth 100000 in
theorem gpX9_form_X9_local_1 : GoodIn wsX9_form wsX9_local_r2 := goodIn_r _ [92, 93, 94, 95, 96, 97, 98, 99, 100, 101, 102, 103, 104, 105, 106, 107, 108, 109, 110, 111, 112, 113, 114, 115] (by decide +kernel) (by decide +kernel)
set_option maxRecDepth 100000 in
theorem gpX9_form_X9_local_2 : GoodIn wsX9_form wsX9_local_r3 := goodIn_r _ [116, 117, 118, 119, 120, 121, 28, 29, 30, 31, 32, 33, 34, 35, 36, 37, 38, 39, 40, 41, 42, 43, 44, 45] (by decide +kernel) (by decide +kernel)
set_option maxRecDepth 100000 in
theorem gpX9_form_X9_local_3 : GoodIn wsX9_form wsX9_local_r4 := goodIn_r _ [46, 47, 48, 49, 50, 51, 52, 53] (by decide +kernel) (by decide +kernel)
set_option maxRecDepth 100000 in
theorem gpX9_form_X9_local_4 : GoodIn wsX9_form wsX90 := goodIn_r _ [126, 127, 128, 129, 130, 131, 132, 133, 134, 135, 136, 137, 138, 139, 140, 141, 142, 143, 144, 145, 146, 147, 148, 149, 150, 151, 152, 153, 154, 155, 156, 157, 158, 159, 160, 161] (by decide +kernel) (by decide +kernel)
set_option maxRecDepth 100000 in
theorem gpX9_form_X9_local_c : GoodIn wsX9_form [Cond.code yX9_local cX9_local 8 none] := goodIn_r _ [89] (by decide +kernel) (by decide +kernel)
theorem ggX9_form_X9_local : GoodIn wsX9_form wsX9_local := goodIn_cons2 gpX9_form_X9_local_c (goodIn_app (goodIn_app gpX9_form_X9_local_0 (goodIn_app gpX9_form_X9_local_1 (goodIn_app gpX9_form_X9_local_2 gpX9_form_X9_local_3))) gpX9_form_X9_local_4)
set_option maxRecDepth 20000 in
theorem gX9_form_X9_local : GoodIn wsX9_form (wsV RX9 281 RX9 yX9_local wsX9_local) := goodIn_app (goodIn_of _ (by decide +kernel)) ggX9_form_X9_local
set_option maxRecDepth 20000 in
theorem ggX9_form_X9_isPlain : GoodIn wsX9_form wsX9_isPlain := goodIn_r _ [21, 15, 16, 8, 17, 18, 22, 23, 24, 12, 13, 14, 25, 26, 27] (by decide +kernel) (by decide +kernel)
set_option maxRecDepth 20000 in
theorem gX9_form_X9_isPlain : GoodIn wsX9_form (va_wsS RX9 130 yX9_isPlain wsX9_isPlain) := goodIn_app (goodIn_of _ (by decide +kernel)) ggX9_form_X9_isPlain
set_option maxRecDepth 20000 in
theorem ggX9_form_X9_fails : GoodIn wsX9_form wsX9_fails := goodIn_r _ [31, 4, 126, 127, 128, 129, 130, 131, 132, 133, 134, 135, 136, 137, 138, 139, 140, 141, 142, 143, 144, 145, 146, 147, 148, 149, 150, 151, 152, 153, 154, 155, 156, 157, 158, 159, 160, 161] (by decide +kernel) (by decide +kernel)
set_option maxRecDepth 20000 in
theorem gX9_form_X9_fails : GoodIn wsX9_form (wsV RX9 163 RX9 yX9_fails wsX9_fails) := goodIn_app (goodIn_of _ (by decide +kernel)) ggX9_form_X9_fails
set_option maxRecDepth 100000 in
theorem gpX9_form_X9_putOpen_0 : GoodIn wsX9_form ([.fieldLink RX9 187 "MarkedNamesModel" "gap" "Z", .methodLink RX9 194 yX9_space, .instanceMethod yX9_space, .selects RX9 yX9_space yX9_space, .initialized RX9, .code yX9_space cX9_space 1 none, .methodLink RX9 191 yX9_put, .instanceMethod yX9_put, .selects RX9 yX9_put yX9_put, .code yX9_put cX9_put 2 none, .fieldLink RX9 178 "MarkedNamesModel" "error" "I", .fieldLink RX9 184 "MarkedNamesModel" "size" "I", .fieldLink RX9 67 "MarkedNamesModel" "text" "[I", .methodLink RX9 163 yX9_fails, .instanceMethod yX9_fails, .selects RX9 yX9_fails yX9_fails, .code yX9_fails cX9_fails 2 none] : List Cond) := goodIn_r _ [58, 59, 60, 61, 8, 62, 63, 64, 65, 66, 4, 67, 68, 28, 29, 30, 31] (by decide +kernel) (by decide +kernel)
set_option maxRecDepth 100000 in
theorem gpX9_form_X9_putOpen_1 : GoodIn wsX9_form wsX90 := goodIn_r _ [126, 127, 128, 129, 130, 131, 132, 133, 134, 135, 136, 137, 138, 139, 140, 141, 142, 143, 144, 145, 146, 147, 148, 149, 150, 151, 152, 153, 154, 155, 156, 157, 158, 159, 160, 161] (by decide +kernel) (by decide +kernel)
set_option maxRecDepth 100000 in
theorem gpX9_form_X9_putOpen_c : GoodIn wsX9_form [Cond.code yX9_putOpen cX9_putOpen 1 none] := goodIn_r _ [57] (by decide +kernel) (by decide +kernel)
theorem ggX9_form_X9_putOpen : GoodIn wsX9_form wsX9_putOpen := goodIn_cons2 gpX9_form_X9_putOpen_c (goodIn_app gpX9_form_X9_putOpen_0 gpX9_form_X9_putOpen_1)
set_option maxRecDepth 20000 in
theorem gX9_form_X9_putOpen : GoodIn wsX9_form (wsV RX9 200 RX9 yX9_putOpen wsX9_putOpen) := goodIn_app (goodIn_of _ (by decide +kernel)) ggX9_form_X9_putOpen
set_option maxRecDepth 100000 in
theorem gpX9_form_X9_space_0 : GoodIn wsX9_form ([.fieldLink RX9 187 "MarkedNamesModel" "gap" "Z", .methodLink RX9 191 yX9_put, .instanceMethod yX9_put, .selects RX9 yX9_put yX9_put, .initialized RX9, .code yX9_put cX9_put 2 none, .fieldLink RX9 178 "MarkedNamesModel" "error" "I", .fieldLink RX9 184 "MarkedNamesModel" "size" "I", .fieldLink RX9 67 "MarkedNamesModel" "text" "[I", .methodLink RX9 163 yX9_fails, .instanceMethod yX9_fails, .selects RX9 yX9_fails yX9_fails, .code yX9_fails cX9_fails 2 none] : List Cond) := goodIn_r _ [58, 63, 64, 65, 8, 66, 4, 67, 68, 28, 29, 30, 31] (by decide +kernel) (by decide +kernel)
set_option maxRecDepth 100000 in
theorem gpX9_form_X9_space_1 : GoodIn wsX9_form wsX90 := goodIn_r _ [126, 127, 128, 129, 130, 131, 132, 133, 134, 135, 136, 137, 138, 139, 140, 141, 142, 143, 144, 145, 146, 147, 148, 149, 150, 151, 152, 153, 154, 155, 156, 157, 158, 159, 160, 161] (by decide +kernel) (by decide +kernel)
set_option maxRecDepth 100000 in
theorem gpX9_form_X9_space_c : GoodIn wsX9_form [Cond.code yX9_space cX9_space 1 none] := goodIn_r _ [62] (by decide +kernel) (by decide +kernel)
theorem ggX9_form_X9_space : GoodIn wsX9_form wsX9_space := goodIn_cons2 gpX9_form_X9_space_c (goodIn_app gpX9_form_X9_space_0 gpX9_form_X9_space_1)
set_option maxRecDepth 20000 in
theorem gX9_form_X9_space : GoodIn wsX9_form (wsV RX9 194 RX9 yX9_space wsX9_space) := goodIn_app (goodIn_of _ (by decide +kernel)) ggX9_form_X9_space
set_option maxRecDepth 20000 in
theorem ggX9_form_X9_what : GoodIn wsX9_form wsX9_what := goodIn_r _ [43, 18] (by decide +kernel) (by decide +kernel)
set_option maxRecDepth 20000 in
theorem gX9_form_X9_what : GoodIn wsX9_form (va_wsS RX9 151 yX9_what wsX9_what) := goodIn_app (goodIn_of _ (by decide +kernel)) ggX9_form_X9_what
set_option maxRecDepth 100000 in
theorem gpX9_form_X9_putName_0 : GoodIn wsX9_form ([.constant RX9 92 (40000), .methodLink RX9 191 yX9_put, .instanceMethod yX9_put, .selects RX9 yX9_put yX9_put, .initialized RX9, .code yX9_put cX9_put 2 none, .fieldLink RX9 178 "MarkedNamesModel" "error" "I", .fieldLink RX9 184 "MarkedNamesModel" "size" "I", .fieldLink RX9 67 "MarkedNamesModel" "text" "[I", .methodLink RX9 163 yX9_fails, .instanceMethod yX9_fails, .selects RX9 yX9_fails yX9_fails, .code yX9_fails cX9_fails 2 none] : List Cond) := goodIn_r _ [73, 63, 64, 65, 8, 66, 4, 67, 68, 28, 29, 30, 31] (by decide +kernel) (by decide +kernel)
set_option maxRecDepth 100000 in
theorem gpX9_form_X9_putName_1 : GoodIn wsX9_form wsX90 := goodIn_r _ [126, 127, 128, 129, 130, 131, 132, 133, 134, 135, 136, 137, 138, 139, 140, 141, 142, 143, 144, 145, 146, 147, 148, 149, 150, 151, 152, 153, 154, 155, 156, 157, 158, 159, 160, 161] (by decide +kernel) (by decide +kernel)
set_option maxRecDepth 100000 in
theorem gpX9_form_X9_putName_c : GoodIn wsX9_form [Cond.code yX9_putName cX9_putName 2 none] := goodIn_r _ [72] (by decide +kernel) (by decide +kernel)
theorem ggX9_form_X9_putName : GoodIn wsX9_form wsX9_putName := goodIn_cons2 gpX9_form_X9_putName_c (goodIn_app gpX9_form_X9_putName_0 gpX9_form_X9_putName_1)
set_option maxRecDepth 20000 in
theorem gX9_form_X9_putName : GoodIn wsX9_form (wsV RX9 206 RX9 yX9_putName wsX9_putName) := goodIn_app (goodIn_of _ (by decide +kernel)) ggX9_form_X9_putName
set_option maxRecDepth 20000 in
theorem ggX9_form_X9_end : GoodIn wsX9_form wsX9_end := goodIn_r _ [14, 15, 16, 8, 17, 18] (by decide +kernel) (by decide +kernel)
set_option maxRecDepth 20000 in
theorem gX9_form_X9_end : GoodIn wsX9_form (va_wsS RX9 111 yX9_end wsX9_end) := goodIn_app (goodIn_of _ (by decide +kernel)) ggX9_form_X9_end
set_option maxRecDepth 100000 in
theorem gpX9_form_X9_putToken_0 : GoodIn wsX9_form wsX9_putToken_r1 := goodIn_r _ [1, 15, 16, 8, 17, 18, 54, 55, 56, 57, 58, 59, 60, 61, 62, 63, 64, 65, 66, 4, 67, 68, 28, 29] (by decide +kernel) (by decide +kernel)
set_option maxRecDepth 100000 in
theorem gpX9_form_X9_putToken_1 : GoodIn wsX9_form wsX9_putToken_r2 := goodIn_r _ [30, 31, 82, 83, 84, 85, 41, 42, 43, 69, 70, 71, 72, 73, 78, 79, 80, 81] (by decide +kernel) (by decide +kernel)
set_option maxRecDepth 100000 in
theorem gpX9_form_X9_putToken_2 : GoodIn wsX9_form wsX90 := goodIn_r _ [126, 127, 128, 129, 130, 131, 132, 133, 134, 135, 136, 137, 138, 139, 140, 141, 142, 143, 144, 145, 146, 147, 148, 149, 150, 151, 152, 153, 154, 155, 156, 157, 158, 159, 160, 161] (by decide +kernel) (by decide +kernel)
set_option maxRecDepth 100000 in
theorem gpX9_form_X9_putToken_c : GoodIn wsX9_form [Cond.code yX9_putToken cX9_putToken 3 none] := goodIn_r _ [125] (by decide +kernel) (by decide +kernel)
theorem ggX9_form_X9_putToken : GoodIn wsX9_form wsX9_putToken := goodIn_cons2 gpX9_form_X9_putToken_c (goodIn_app (goodIn_app gpX9_form_X9_putToken_0 gpX9_form_X9_putToken_1) gpX9_form_X9_putToken_2)
set_option maxRecDepth 20000 in
theorem gX9_form_X9_putToken : GoodIn wsX9_form (wsV RX9 284 RX9 yX9_putToken wsX9_putToken) := goodIn_app (goodIn_of _ (by decide +kernel)) ggX9_form_X9_putToken
theorem dX9_form_0 : decode cX9_form 0 = .ok (.iload_n 1, 1) := by decide +kernel
theorem dX9_form_1 : decode cX9_form 1 = .ok (.ifCond .ne 10, 3) := by decide +kernel
theorem dX9_form_4 : decode cX9_form 4 = .ok (.aload_n 0, 1) := by decide +kernel
theorem dX9_form_5 : decode cX9_form 5 = .ok (.invokevirtual 278, 3) := by decide +kernel
theorem dX9_form_8 : decode cX9_form 8 = .ok (.goto 145, 3) := by decide +kernel
theorem dX9_form_11 : decode cX9_form 11 = .ok (.iload_n 1, 1) := by decide +kernel
theorem dX9_form_12 : decode cX9_form 12 = .ok (.iconst 3, 1) := by decide +kernel
theorem dX9_form_13 : decode cX9_form 13 = .ok (.if_icmp .ne 10, 3) := by decide +kernel
theorem dX9_form_16 : decode cX9_form 16 = .ok (.aload_n 0, 1) := by decide +kernel
theorem dX9_form_17 : decode cX9_form 17 = .ok (.invokevirtual 281, 3) := by decide +kernel
theorem dX9_form_20 : decode cX9_form 20 = .ok (.goto 133, 3) := by decide +kernel
theorem dX9_form_23 : decode cX9_form 23 = .ok (.aload_n 0, 1) := by decide +kernel
theorem dX9_form_24 : decode cX9_form 24 = .ok (.getfield 13, 3) := by decide +kernel
theorem dX9_form_27 : decode cX9_form 27 = .ok (.aload_n 0, 1) := by decide +kernel
theorem dX9_form_28 : decode cX9_form 28 = .ok (.getfield 104, 3) := by decide +kernel
theorem dX9_form_31 : decode cX9_form 31 = .ok (.iload_n 1, 1) := by decide +kernel
theorem dX9_form_32 : decode cX9_form 32 = .ok (.iconst 1, 1) := by decide +kernel
theorem dX9_form_33 : decode cX9_form 33 = .ok (.if_icmp .ne 7, 3) := by decide +kernel
theorem dX9_form_36 : decode cX9_form 36 = .ok (.iconst 4, 1) := by decide +kernel
theorem dX9_form_37 : decode cX9_form 37 = .ok (.goto 4, 3) := by decide +kernel
theorem dX9_form_40 : decode cX9_form 40 = .ok (.iconst 2, 1) := by decide +kernel
theorem dX9_form_41 : decode cX9_form 41 = .ok (.invokestatic 130, 3) := by decide +kernel
theorem dX9_form_44 : decode cX9_form 44 = .ok (.ifCond .ne 11, 3) := by decide +kernel
theorem dX9_form_47 : decode cX9_form 47 = .ok (.aload_n 0, 1) := by decide +kernel
theorem dX9_form_48 : decode cX9_form 48 = .ok (.iconst 3, 1) := by decide +kernel
theorem dX9_form_49 : decode cX9_form 49 = .ok (.invokevirtual 163, 3) := by decide +kernel
theorem dX9_form_52 : decode cX9_form 52 = .ok (.goto 101, 3) := by decide +kernel
theorem dX9_form_55 : decode cX9_form 55 = .ok (.iload_n 1, 1) := by decide +kernel
theorem dX9_form_56 : decode cX9_form 56 = .ok (.iconst 1, 1) := by decide +kernel
theorem dX9_form_57 : decode cX9_form 57 = .ok (.if_icmp .ne 51, 3) := by decide +kernel
theorem dX9_form_60 : decode cX9_form 60 = .ok (.aload_n 0, 1) := by decide +kernel
theorem dX9_form_61 : decode cX9_form 61 = .ok (.invokevirtual 200, 3) := by decide +kernel
theorem dX9_form_64 : decode cX9_form 64 = .ok (.aload_n 0, 1) := by decide +kernel
theorem dX9_form_65 : decode cX9_form 65 = .ok (.invokevirtual 194, 3) := by decide +kernel
theorem dX9_form_68 : decode cX9_form 68 = .ok (.aload_n 0, 1) := by decide +kernel
theorem dX9_form_69 : decode cX9_form 69 = .ok (.aload_n 0, 1) := by decide +kernel
theorem dX9_form_70 : decode cX9_form 70 = .ok (.getfield 13, 3) := by decide +kernel
theorem dX9_form_73 : decode cX9_form 73 = .ok (.aload_n 0, 1) := by decide +kernel
theorem dX9_form_74 : decode cX9_form 74 = .ok (.getfield 104, 3) := by decide +kernel
theorem dX9_form_77 : decode cX9_form 77 = .ok (.iconst 1, 1) := by decide +kernel
theorem dX9_form_78 : decode cX9_form 78 = .ok (.iadd, 1) := by decide +kernel
theorem dX9_form_79 : decode cX9_form 79 = .ok (.invokestatic 151, 3) := by decide +kernel
theorem dX9_form_82 : decode cX9_form 82 = .ok (.invokevirtual 206, 3) := by decide +kernel
theorem dX9_form_85 : decode cX9_form 85 = .ok (.aload_n 0, 1) := by decide +kernel
theorem dX9_form_86 : decode cX9_form 86 = .ok (.dup, 1) := by decide +kernel
theorem dX9_form_87 : decode cX9_form 87 = .ok (.getfield 271, 3) := by decide +kernel
theorem dX9_form_90 : decode cX9_form 90 = .ok (.iconst 1, 1) := by decide +kernel
theorem dX9_form_91 : decode cX9_form 91 = .ok (.iadd, 1) := by decide +kernel
theorem dX9_form_92 : decode cX9_form 92 = .ok (.putfield 271, 3) := by decide +kernel
theorem dX9_form_95 : decode cX9_form 95 = .ok (.aload_n 0, 1) := by decide +kernel
theorem dX9_form_96 : decode cX9_form 96 = .ok (.aload_n 0, 1) := by decide +kernel
theorem dX9_form_97 : decode cX9_form 97 = .ok (.getfield 104, 3) := by decide +kernel
theorem dX9_form_100 : decode cX9_form 100 = .ok (.iconst 2, 1) := by decide +kernel
theorem dX9_form_101 : decode cX9_form 101 = .ok (.iadd, 1) := by decide +kernel
theorem dX9_form_102 : decode cX9_form 102 = .ok (.putfield 104, 3) := by decide +kernel
theorem dX9_form_105 : decode cX9_form 105 = .ok (.goto 48, 3) := by decide +kernel
theorem dX9_form_108 : decode cX9_form 108 = .ok (.aload_n 0, 1) := by decide +kernel
theorem dX9_form_109 : decode cX9_form 109 = .ok (.getfield 13, 3) := by decide +kernel
theorem dX9_form_112 : decode cX9_form 112 = .ok (.aload_n 0, 1) := by decide +kernel
theorem dX9_form_113 : decode cX9_form 113 = .ok (.getfield 104, 3) := by decide +kernel
theorem dX9_form_116 : decode cX9_form 116 = .ok (.invokestatic 111, 3) := by decide +kernel
theorem dX9_form_119 : decode cX9_form 119 = .ok (.istore_n 2, 1) := by decide +kernel
theorem dX9_form_120 : decode cX9_form 120 = .ok (.aload_n 0, 1) := by decide +kernel
theorem dX9_form_121 : decode cX9_form 121 = .ok (.getfield 104, 3) := by decide +kernel
theorem dX9_form_124 : decode cX9_form 124 = .ok (.istore_n 3, 1) := by decide +kernel
theorem dX9_form_125 : decode cX9_form 125 = .ok (.iload_n 3, 1) := by decide +kernel
theorem dX9_form_126 : decode cX9_form 126 = .ok (.iload_n 2, 1) := by decide +kernel
theorem dX9_form_127 : decode cX9_form 127 = .ok (.if_icmp .ge 21, 3) := by decide +kernel
theorem dX9_form_130 : decode cX9_form 130 = .ok (.aload_n 0, 1) := by decide +kernel
theorem dX9_form_131 : decode cX9_form 131 = .ok (.getfield 178, 3) := by decide +kernel
theorem dX9_form_134 : decode cX9_form 134 = .ok (.ifCond .ne 14, 3) := by decide +kernel
theorem dX9_form_137 : decode cX9_form 137 = .ok (.aload_n 0, 1) := by decide +kernel
theorem dX9_form_138 : decode cX9_form 138 = .ok (.iload_n 3, 1) := by decide +kernel
theorem dX9_form_139 : decode cX9_form 139 = .ok (.invokevirtual 284, 3) := by decide +kernel
theorem dX9_form_142 : decode cX9_form 142 = .ok (.iinc 3 1, 3) := by decide +kernel
theorem dX9_form_145 : decode cX9_form 145 = .ok (.goto (-20), 3) := by decide +kernel
theorem dX9_form_148 : decode cX9_form 148 = .ok (.aload_n 0, 1) := by decide +kernel
theorem dX9_form_149 : decode cX9_form 149 = .ok (.iload_n 2, 1) := by decide +kernel
theorem dX9_form_150 : decode cX9_form 150 = .ok (.putfield 104, 3) := by decide +kernel
theorem dX9_form_153 : decode cX9_form 153 = .ok (.return_, 1) := by decide +kernel
theorem iw_X9_form_X9 : ∀ w ∈ wsX90, w ∈ wsX9_form := by decide +kernel
theorem lk_X9_form_13 : Cond.fieldLink RX9 13 "MarkedNamesModel" "row" "[I" ∈ wsX9_form := by decide +kernel
theorem lk_X9_form_104 : Cond.fieldLink RX9 104 "MarkedNamesModel" "head" "I" ∈ wsX9_form := by decide +kernel
theorem lk_X9_form_271 : Cond.fieldLink RX9 271 "MarkedNamesModel" "deep" "I" ∈ wsX9_form := by decide +kernel
theorem lk_X9_form_178 : Cond.fieldLink RX9 178 "MarkedNamesModel" "error" "I" ∈ wsX9_form := by decide +kernel
theorem iw_X9_pairs_X9 : ∀ w ∈ wsX90, w ∈ wsX9_pairs := by decide +kernel
theorem lk_X9_pairs_13 : Cond.fieldLink RX9 13 "MarkedNamesModel" "row" "[I" ∈ wsX9_pairs := by decide +kernel
theorem lk_X9_pairs_19 : Cond.fieldLink RX9 19 "MarkedNamesModel" "kept" "[I" ∈ wsX9_pairs := by decide +kernel
theorem lk_X9_pairs_52 : Cond.fieldLink RX9 52 "MarkedNamesModel" "left" "[I" ∈ wsX9_pairs := by decide +kernel
theorem lk_X9_pairs_55 : Cond.fieldLink RX9 55 "MarkedNamesModel" "right" "[I" ∈ wsX9_pairs := by decide +kernel
theorem iw_X9_matches_X9 : ∀ w ∈ wsX90, w ∈ wsX9_matches := by decide +kernel
theorem lk_X9_matches_52 : Cond.fieldLink RX9 52 "MarkedNamesModel" "left" "[I" ∈ wsX9_matches := by decide +kernel
theorem lk_X9_matches_55 : Cond.fieldLink RX9 55 "MarkedNamesModel" "right" "[I" ∈ wsX9_matches := by decide +kernel
theorem lk_X9_matches_19 : Cond.fieldLink RX9 19 "MarkedNamesModel" "kept" "[I" ∈ wsX9_matches := by decide +kernel
theorem lk_X9_matches_13 : Cond.fieldLink RX9 13 "MarkedNamesModel" "row" "[I" ∈ wsX9_matches := by decide +kernel
section
variable {l : Launch} {p : Program} {e : Env} {s : State} {m : MethodId} {args : Array Value} {below : List Frame} {meth : Method} {c : Code} {A : Nat → Prop} {dC : Nat → ClassId} {dI : Nat → Nat → Nat} {cA : ClassId} {a b : Nat → Nat} {lev : Nat}
set_option maxHeartbeats 4000000 in
set_option maxRecDepth 100000 in
theorem wj_X9_form_148_ok (C : mC p s m args meth c cX9_form 4 wsX9_form RX9 none (dC, dI) vwCl [(cA, .int)] A) (hs : eM A s) (hlev : 7 ≤ lev) {post : mS → Prop} {x2 : Int32} {u : mS} (hw : wj_X9_form_148 post x2 u) : mV p l e (mRm lev) s m args below meth c 4 (dC, dI) vwCl A 0 0 (mQv below args s (dC, dI) vwCl [(cA, .int)] (wM cA b) A post) (wM cA b u) 148 [(0, .ref (b 0)), (2, .int x2)] [] := by
  unfold wj_X9_form_148 at hw
  refine mv_aload_n C dX9_form_148 rfl 0 rfl ?_
  refine mv_iload_n C dX9_form_149 rfl 1 rfl ?_
  refine mv_put (ty := .int) (ws1 := wM cA b (mSet u 1 x2)) C iw_X9_form_X9 tyX9 tyX9_ok nmX9 0 rfl rfl 4 (by decide) lk_X9_form_104 rfl rfl rfl rfl rfl (Nat.le_of_ble_eq_true rfl) rfl dX9_form_150 ?_
  refine mv_nm (f := wM cA b) (fun u41 eu41 => ?_)
  have hw := hw u41 eu41
  exact mv_vret C dX9_form_153 hw
set_option maxHeartbeats 4000000 in
set_option maxRecDepth 100000 in
theorem wj_X9_form_125_ok (C : mC p s m args meth c cX9_form 4 wsX9_form RX9 none (dC, dI) vwCl [(cA, .int)] A) (hs : eM A s) (hlev : 7 ≤ lev) {post : mS → Prop} {K125 : Int32 → Int32 → mS → Prop} (hK125 : ∀ (x2 x3 : Int32) (u : mS), K125 x2 x3 u → mV p l e (mRm lev) s m args below meth c 4 (dC, dI) vwCl A 0 0 (mQv below args s (dC, dI) vwCl [(cA, .int)] (wM cA b) A post) (wM cA b u) 125 [(0, .ref (b 0)), (2, .int x2), (3, .int x3)] []) {x2 x3 : Int32} {u : mS} (hw : wj_X9_form_125 K125 post x2 x3 u) : mV p l e (mRm lev) s m args below meth c 4 (dC, dI) vwCl A 0 0 (mQv below args s (dC, dI) vwCl [(cA, .int)] (wM cA b) A post) (wM cA b u) 125 [(0, .ref (b 0)), (2, .int x2), (3, .int x3)] [] := by
  unfold wj_X9_form_125 at hw
  refine mv_iload_n C dX9_form_125 rfl 2 rfl ?_
  refine mv_iload_n C dX9_form_126 rfl 1 rfl ?_
  refine mv_icmp_ge (tgt := 148) C dX9_form_127 (by decide) (fun h35 => ?_) (fun h35 => ?_)
  · have hw := hw.1 h35
    refine mv_sub [0, 1] rfl ?_
    exact wj_X9_form_148_ok C hs hlev hw
  · have hw := hw.2 h35
    refine mv_aload_n C dX9_form_130 rfl 0 rfl ?_
    refine mv_get (v := .int (u.1 12)) C iw_X9_form_X9 0 rfl rfl 32 (by decide) lk_X9_form_178 rfl rfl dX9_form_131 ?_
    refine mv_topi (fun y36 ey36 => ?_)
    have hw := hw y36 ey36
    refine mv_if_ne (tgt := 148) C dX9_form_134 (by decide) (fun h37 => ?_) (fun h37 => ?_)
    · have hw := hw.1 h37
      refine mv_sub [0, 1] rfl ?_
      exact wj_X9_form_148_ok C hs hlev hw
    · have hw := hw.2 h37
      refine mv_aload_n C dX9_form_137 rfl 0 rfl ?_
      refine mv_iload_n C dX9_form_138 rfl 2 rfl ?_
      refine mv_callVv (f := wM cA b) (As := [.int x3]) (rest := []) C eM_ok hs 0 rfl rfl (X9_putToken_met (l := l) (lev := lev - 1) (by omega) hw) (cwV 1 C.2.2.2.2.1 gX9_form_X9_putToken rfl rfl rfl (by decide +kernel) (mRm_le (by omega) (by decide))) rfl rfl (Nat.le_of_ble_eq_true rfl) dX9_form_139 ⟨Nat.le_refl 0, Nat.le_refl 0⟩ (fun u39 hw => ?_)
      obtain ⟨y40, ey40⟩ : ∃ z : Int32, z = x3 + (1 : Int32) := ⟨_, rfl⟩
      have hw := hw y40 ey40
      refine mv_iinc (v := y40) (lv1 := [(3, .int y40), (0, .ref (b 0)), (2, .int x2)]) C dX9_form_142 2 rfl (by rw [ey40]; rfl) (by decide) rfl ?_
      refine mv_goto (tgt := 125) C dX9_form_145 (by decide) ?_
      refine mv_sub [1, 2, 0] rfl ?_
      exact hK125 x2 y40 u39 hw
set_option maxHeartbeats 4000000 in
set_option maxRecDepth 100000 in
theorem wj_X9_form_41_ok (C : mC p s m args meth c cX9_form 4 wsX9_form RX9 none (dC, dI) vwCl [(cA, .int)] A) (hs : eM A s) (hlev : 7 ≤ lev) {post : mS → Prop} {x1 z0 z1 : Int32} {u : mS} (hw : wj_X9_form_41 post x1 z0 z1 u) : mV p l e (mRm lev) s m args below meth c 4 (dC, dI) vwCl A 0 0 (mQv below args s (dC, dI) vwCl [(cA, .int)] (wM cA b) A post) (wM cA b u) 41 [(0, .ref (b 0)), (1, .int x1)] [.int z0, .int z1, .ref (b 2)] := by
  unfold wj_X9_form_41 at hw
  refine mv_callSi (f := wM cA b) (As := [.ref (b 2), .int z1, .int z0]) (rest := []) C eM_ok hs (X9_isPlain_2_met (l := l) (lev := lev - 1) (by omega) hw) (va_cwS 3 C.2.2.2.2.1 gX9_form_X9_isPlain rfl rfl rfl (by decide +kernel) (mRm_le (by omega) (by decide))) rfl rfl (Nat.le_of_ble_eq_true rfl) dX9_form_41 ⟨Nat.le_refl 0, Nat.le_refl 0⟩ (fun r9 u10 hw => ?_)
  obtain ⟨gr9, hw⟩ := hw
  refine mv_if_ne (tgt := 55) C dX9_form_44 (by decide) (fun h11 => ?_) (fun h11 => ?_)
  · have hw := hw.1 h11
    refine mv_iload_n C dX9_form_55 rfl 1 rfl ?_
    refine mv_iconst (v := (1 : Int32)) C dX9_form_56 (by decide) ?_
    refine mv_icmp_ne (tgt := 108) C dX9_form_57 (by decide) (fun h12 => ?_) (fun h12 => ?_)
    · have hw := hw.1 h12
      refine mv_aload_n C dX9_form_108 rfl 0 rfl ?_
      refine mv_get (v := .ref (b 2)) C iw_X9_form_X9 0 rfl rfl 2 (by decide) lk_X9_form_13 rfl rfl dX9_form_109 ?_
      refine mv_aload_n C dX9_form_112 rfl 0 rfl ?_
      refine mv_get (v := .int (u10.1 1)) C iw_X9_form_X9 0 rfl rfl 4 (by decide) lk_X9_form_104 rfl rfl dX9_form_113 ?_
      refine mv_topi (fun y13 ey13 => ?_)
      have hw := hw y13 ey13
      refine mv_callSi (f := wM cA b) (As := [.ref (b 2), .int y13]) (rest := []) C eM_ok hs (X9_end_2_met (l := l) (lev := lev - 1) (by omega) hw) (va_cwS 2 C.2.2.2.2.1 gX9_form_X9_end rfl rfl rfl (by decide +kernel) (mRm_le (by omega) (by decide))) rfl rfl (Nat.le_of_ble_eq_true rfl) dX9_form_116 ⟨Nat.le_refl 0, Nat.le_refl 0⟩ (fun r14 u15 hw => ?_)
      refine mv_istore_n (lv1 := [(2, .int r14), (0, .ref (b 0)), (1, .int x1)]) C dX9_form_119 rfl (by decide) rfl ?_
      refine mv_aload_n C dX9_form_120 rfl 1 rfl ?_
      refine mv_get (v := .int (u15.1 1)) C iw_X9_form_X9 0 rfl rfl 4 (by decide) lk_X9_form_104 rfl rfl dX9_form_121 ?_
      refine mv_topi (fun y16 ey16 => ?_)
      have hw := hw y16 ey16
      refine mv_istore_n (lv1 := [(3, .int y16), (2, .int r14), (0, .ref (b 0)), (1, .int x1)]) C dX9_form_124 rfl (by decide) rfl ?_
      refine mv_sub [2, 1, 0] rfl ?_
      obtain ⟨n, hw⟩ := hw
      exact mL3_of (fun K hK b0 b1 b2 hw => wj_X9_form_125_ok C hs hlev hK hw) n r14 y16 u15 hw
    · have hw := hw.2 h12
      refine mv_aload_n C dX9_form_60 rfl 0 rfl ?_
      refine mv_callVv (f := wM cA b) (As := []) (rest := []) C eM_ok hs 0 rfl rfl (X9_putOpen_met (l := l) (lev := lev - 1) (by omega) hw) (cwV 0 C.2.2.2.2.1 gX9_form_X9_putOpen rfl rfl rfl (by decide +kernel) (mRm_le (by omega) (by decide))) rfl rfl (Nat.le_of_ble_eq_true rfl) dX9_form_61 ⟨Nat.le_refl 0, Nat.le_refl 0⟩ (fun u18 hw => ?_)
      refine mv_aload_n C dX9_form_64 rfl 0 rfl ?_
      refine mv_callVv (f := wM cA b) (As := []) (rest := []) C eM_ok hs 0 rfl rfl (X9_space_met (l := l) (lev := lev - 1) (by omega) hw) (cwV 0 C.2.2.2.2.1 gX9_form_X9_space rfl rfl rfl (by decide +kernel) (mRm_le (by omega) (by decide))) rfl rfl (Nat.le_of_ble_eq_true rfl) dX9_form_65 ⟨Nat.le_refl 0, Nat.le_refl 0⟩ (fun u20 hw => ?_)
      refine mv_aload_n C dX9_form_68 rfl 0 rfl ?_
      refine mv_aload_n C dX9_form_69 rfl 0 rfl ?_
      refine mv_get (v := .ref (b 2)) C iw_X9_form_X9 0 rfl rfl 2 (by decide) lk_X9_form_13 rfl rfl dX9_form_70 ?_
      refine mv_aload_n C dX9_form_73 rfl 0 rfl ?_
      refine mv_get (v := .int (u20.1 1)) C iw_X9_form_X9 0 rfl rfl 4 (by decide) lk_X9_form_104 rfl rfl dX9_form_74 ?_
      refine mv_topi (fun y21 ey21 => ?_)
      have hw := hw y21 ey21
      refine mv_iconst (v := (1 : Int32)) C dX9_form_77 (by decide) ?_
      refine mv_iadd C dX9_form_78 ?_
      refine mv_topi (fun y22 ey22 => ?_)
      have hw := hw y22 ey22
      refine mv_callSi (f := wM cA b) (As := [.ref (b 2), .int y22]) (rest := [.ref (b 0)]) C eM_ok hs (X9_what_2_met (l := l) (lev := lev - 1) (by omega) hw) (va_cwS 2 C.2.2.2.2.1 gX9_form_X9_what rfl rfl rfl (by decide +kernel) (mRm_le (by omega) (by decide))) rfl rfl (Nat.le_of_ble_eq_true rfl) dX9_form_79 ⟨Nat.le_refl 0, Nat.le_refl 0⟩ (fun r23 u24 hw => ?_)
      refine mv_callVv (f := wM cA b) (As := [.int r23]) (rest := []) C eM_ok hs 0 rfl rfl (X9_putName_met (l := l) (lev := lev - 1) (by omega) hw) (cwV 1 C.2.2.2.2.1 gX9_form_X9_putName rfl rfl rfl (by decide +kernel) (mRm_le (by omega) (by decide))) rfl rfl (Nat.le_of_ble_eq_true rfl) dX9_form_82 ⟨Nat.le_refl 0, Nat.le_refl 0⟩ (fun u26 hw => ?_)
      refine mv_aload_n C dX9_form_85 rfl 0 rfl ?_
      refine mv_dup C dX9_form_86 rfl ?_
      refine mv_get (v := .int (u26.1 11)) C iw_X9_form_X9 0 rfl rfl 31 (by decide) lk_X9_form_271 rfl rfl dX9_form_87 ?_
      refine mv_topi (fun y27 ey27 => ?_)
      have hw := hw y27 ey27
      refine mv_iconst (v := (1 : Int32)) C dX9_form_90 (by decide) ?_
      refine mv_iadd C dX9_form_91 ?_
      refine mv_topi (fun y28 ey28 => ?_)
      have hw := hw y28 ey28
      refine mv_put (ty := .int) (ws1 := wM cA b (mSet u26 11 y28)) C iw_X9_form_X9 tyX9 tyX9_ok nmX9 0 rfl rfl 31 (by decide) lk_X9_form_271 rfl rfl rfl rfl rfl (Nat.le_of_ble_eq_true rfl) rfl dX9_form_92 ?_
      refine mv_nm (f := wM cA b) (fun u29 eu29 => ?_)
      have hw := hw u29 eu29
      refine mv_aload_n C dX9_form_95 rfl 0 rfl ?_
      refine mv_aload_n C dX9_form_96 rfl 0 rfl ?_
      refine mv_get (v := .int (u29.1 1)) C iw_X9_form_X9 0 rfl rfl 4 (by decide) lk_X9_form_104 rfl rfl dX9_form_97 ?_
      refine mv_topi (fun y30 ey30 => ?_)
      have hw := hw y30 ey30
      refine mv_iconst (v := (2 : Int32)) C dX9_form_100 (by decide) ?_
      refine mv_iadd C dX9_form_101 ?_
      refine mv_topi (fun y31 ey31 => ?_)
      have hw := hw y31 ey31
      refine mv_put (ty := .int) (ws1 := wM cA b (mSet u29 1 y31)) C iw_X9_form_X9 tyX9 tyX9_ok nmX9 0 rfl rfl 4 (by decide) lk_X9_form_104 rfl rfl rfl rfl rfl (Nat.le_of_ble_eq_true rfl) rfl dX9_form_102 ?_
      refine mv_nm (f := wM cA b) (fun u32 eu32 => ?_)
      have hw := hw u32 eu32
      refine mv_goto (tgt := 153) C dX9_form_105 (by decide) ?_
      exact mv_vret C dX9_form_153 hw
  · have hw := hw.2 h11
    refine mv_aload_n C dX9_form_47 rfl 0 rfl ?_
    refine mv_iconst (v := (3 : Int32)) C dX9_form_48 (by decide) ?_
    refine mv_callVv (f := wM cA b) (As := [.int (3 : Int32)]) (rest := []) C eM_ok hs 0 rfl rfl (X9_fails_met (l := l) (lev := lev - 1) (by omega) hw) (cwV 1 C.2.2.2.2.1 gX9_form_X9_fails rfl rfl rfl (by decide +kernel) (mRm_le (by omega) (by decide))) rfl rfl (Nat.le_of_ble_eq_true rfl) dX9_form_49 ⟨Nat.le_refl 0, Nat.le_refl 0⟩ (fun u34 hw => ?_)
    refine mv_goto (tgt := 153) C dX9_form_52 (by decide) ?_
    exact mv_vret C dX9_form_153 hw
set_option maxHeartbeats 4000000 in
set_option maxRecDepth 100000 in
theorem X9_form_met (hlev : 7 ≤ lev) {x1 : Int32} {u : mS} {post : mS → Prop} (hw : wp_X9_form x1 u post) : mKv l yX9_form wsX9_form lev (eM) (dC, dI) vwCl [(cA, .int)] (wM cA b) [.ref (b 0), .int x1] u post := by
  refine mKv_of (cc := cX9_form) (maxL := 4) (by decide) rfl rfl (Nat.le_of_ble_eq_true rfl) rfl ?_
  intro p e s m args below meth c A C hs
  unfold wp_X9_form at hw
  refine mv_iload_n C dX9_form_0 rfl 1 rfl ?_
  refine mv_if_ne (tgt := 11) C dX9_form_1 (by decide) (fun h1 => ?_) (fun h1 => ?_)
  · have hw := hw.1 h1
    refine mv_iload_n C dX9_form_11 rfl 1 rfl ?_
    refine mv_iconst (v := (3 : Int32)) C dX9_form_12 (by decide) ?_
    refine mv_icmp_ne (tgt := 23) C dX9_form_13 (by decide) (fun h2 => ?_) (fun h2 => ?_)
    · have hw := hw.1 h2
      refine mv_aload_n C dX9_form_23 rfl 0 rfl ?_
      refine mv_get (v := .ref (b 2)) C iw_X9_form_X9 0 rfl rfl 2 (by decide) lk_X9_form_13 rfl rfl dX9_form_24 ?_
      refine mv_aload_n C dX9_form_27 rfl 0 rfl ?_
      refine mv_get (v := .int (u.1 1)) C iw_X9_form_X9 0 rfl rfl 4 (by decide) lk_X9_form_104 rfl rfl dX9_form_28 ?_
      refine mv_topi (fun y3 ey3 => ?_)
      have hw := hw y3 ey3
      refine mv_iload_n C dX9_form_31 rfl 1 rfl ?_
      refine mv_iconst (v := (1 : Int32)) C dX9_form_32 (by decide) ?_
      refine mv_icmp_ne (tgt := 40) C dX9_form_33 (by decide) (fun h4 => ?_) (fun h4 => ?_)
      · have hw := hw.1 h4
        refine mv_iconst (v := (2 : Int32)) C dX9_form_40 (by decide) ?_
        exact wj_X9_form_41_ok C hs hlev hw
      · have hw := hw.2 h4
        refine mv_iconst (v := (4 : Int32)) C dX9_form_36 (by decide) ?_
        refine mv_goto (tgt := 41) C dX9_form_37 (by decide) ?_
        exact wj_X9_form_41_ok C hs hlev hw
    · have hw := hw.2 h2
      refine mv_aload_n C dX9_form_16 rfl 0 rfl ?_
      refine mv_callVv (f := wM cA b) (As := []) (rest := []) C eM_ok hs 0 rfl rfl (X9_local_met (l := l) (lev := lev - 1) (by omega) hw) (cwV 0 C.2.2.2.2.1 gX9_form_X9_local rfl rfl rfl (by decide +kernel) (mRm_le (by omega) (by decide))) rfl rfl (Nat.le_of_ble_eq_true rfl) dX9_form_17 ⟨Nat.le_refl 0, Nat.le_refl 0⟩ (fun u6 hw => ?_)
      refine mv_goto (tgt := 153) C dX9_form_20 (by decide) ?_
      exact mv_vret C dX9_form_153 hw
  · have hw := hw.2 h1
    refine mv_aload_n C dX9_form_4 rfl 0 rfl ?_
    refine mv_callVv (f := wM cA b) (As := []) (rest := []) C eM_ok hs 0 rfl rfl (X9_function_met (l := l) (lev := lev - 1) (by omega) hw) (cwV 0 C.2.2.2.2.1 gX9_form_X9_function rfl rfl rfl (by decide +kernel) (mRm_le (by omega) (by decide))) rfl rfl (Nat.le_of_ble_eq_true rfl) dX9_form_5 ⟨Nat.le_refl 0, Nat.le_refl 0⟩ (fun u8 hw => ?_)
    refine mv_goto (tgt := 153) C dX9_form_8 (by decide) ?_
    exact mv_vret C dX9_form_153 hw
set_option maxHeartbeats 4000000 in
set_option maxRecDepth 100000 in
theorem wj_X9_turn_2_3_37_ok (C : mC p s m args meth c cX9_turn 7 wsX9_turn RX9 none (dC, dI) vwCl [(cA, .int)] A) (hs : eM A s) (hlev : 1 ≤ lev) {post : mS → Prop} {K3 : Int32 → Int32 → Int32 → mS → Prop} (hK3 : ∀ (x4 x5 x6 : Int32) (u : mS), K3 x4 x5 x6 u → mV p l e (mRm lev) s m args below meth c 7 (dC, dI) vwCl A 0 0 (mQv below args s (dC, dI) vwCl [(cA, .int)] (wM cA b) A post) (wM cA b u) 3 [(1, .ref (b 2)), (2, .ref (b 3)), (4, .int x4), (5, .int x5), (6, .int x6)] []) {x4 x5 x6 z0 z1 : Int32} {u : mS} (hw : wj_X9_turn_2_3_37 K3 post x4 x5 x6 z0 z1 u) : mV p l e (mRm lev) s m args below meth c 7 (dC, dI) vwCl A 0 0 (mQv below args s (dC, dI) vwCl [(cA, .int)] (wM cA b) A post) (wM cA b u) 37 [(1, .ref (b 2)), (2, .ref (b 3)), (4, .int x4), (5, .int x5), (6, .int x6)] [.int z0, .int z1, .ref (b 3)] := by
  unfold wj_X9_turn_2_3_37 at hw
  refine mv_iast (f := u.2 2) (ws1 := wM cA b (mPut u 2 z1.toNatClampNeg z0)) C 3 0 rfl rfl hw.1 rfl dX9_turn_37 ?_
  refine mv_nm (f := wM cA b) (fun u8 eu8 => ?_)
  have hw := hw.2 u8 eu8
  obtain ⟨y9, ey9⟩ : ∃ z : Int32, z = x6 + (1 : Int32) := ⟨_, rfl⟩
  have hw := hw y9 ey9
  refine mv_iinc (v := y9) (lv1 := [(6, .int y9), (1, .ref (b 2)), (2, .ref (b 3)), (4, .int x4), (5, .int x5)]) C dX9_turn_38 4 rfl (by rw [ey9]; rfl) (by decide) rfl ?_
  refine mv_goto (tgt := 3) C dX9_turn_41 (by decide) ?_
  refine mv_sub [1, 2, 3, 4, 0] rfl ?_
  exact hK3 x4 x5 y9 u8 hw
set_option maxHeartbeats 4000000 in
set_option maxRecDepth 100000 in
theorem wj_X9_turn_2_3_3_ok (C : mC p s m args meth c cX9_turn 7 wsX9_turn RX9 none (dC, dI) vwCl [(cA, .int)] A) (hs : eM A s) (hlev : 1 ≤ lev) {post : mS → Prop} {K3 : Int32 → Int32 → Int32 → mS → Prop} (hK3 : ∀ (x4 x5 x6 : Int32) (u : mS), K3 x4 x5 x6 u → mV p l e (mRm lev) s m args below meth c 7 (dC, dI) vwCl A 0 0 (mQv below args s (dC, dI) vwCl [(cA, .int)] (wM cA b) A post) (wM cA b u) 3 [(1, .ref (b 2)), (2, .ref (b 3)), (4, .int x4), (5, .int x5), (6, .int x6)] []) {x4 x5 x6 : Int32} {u : mS} (hw : wj_X9_turn_2_3_3 K3 post x4 x5 x6 u) : mV p l e (mRm lev) s m args below meth c 7 (dC, dI) vwCl A 0 0 (mQv below args s (dC, dI) vwCl [(cA, .int)] (wM cA b) A post) (wM cA b u) 3 [(1, .ref (b 2)), (2, .ref (b 3)), (4, .int x4), (5, .int x5), (6, .int x6)] [] := by
  unfold wj_X9_turn_2_3_3 at hw
  refine mv_iload C dX9_turn_3 4 rfl ?_
  refine mv_iload C dX9_turn_5 2 rfl ?_
  refine mv_icmp_ge (tgt := 44) C dX9_turn_7 (by decide) (fun h1 => ?_) (fun h1 => ?_)
  · have hw := hw.1 h1
    exact mv_vret C dX9_turn_44 hw
  · have hw := hw.2 h1
    refine mv_aload_n C dX9_turn_10 rfl 1 rfl ?_
    refine mv_iload C dX9_turn_11 4 rfl ?_
    refine mv_aload_n C dX9_turn_13 rfl 0 rfl ?_
    refine mv_iload C dX9_turn_14 4 rfl ?_
    refine mv_callSi (f := wM cA b) (As := [.ref (b 2), .int x6]) (rest := [.int x6, .ref (b 3)]) C eM_ok hs (X9_kind_2_met (l := l) (lev := lev - 1) (by omega) hw) (va_cwS 2 C.2.2.2.2.1 gX9_turn_X9_kind rfl rfl rfl (by decide +kernel) (mRm_le (by omega) (by decide))) rfl rfl (Nat.le_of_ble_eq_true rfl) dX9_turn_16 ⟨Nat.le_refl 0, Nat.le_refl 0⟩ (fun r2 u3 hw => ?_)
    refine mv_iconst (v := (3 : Int32)) C dX9_turn_19 (by decide) ?_
    refine mv_icmp_ne (tgt := 33) C dX9_turn_20 (by decide) (fun h4 => ?_) (fun h4 => ?_)
    · have hw := hw.1 h4
      refine mv_aload_n C dX9_turn_33 rfl 1 rfl ?_
      refine mv_iload C dX9_turn_34 4 rfl ?_
      refine mv_iald (f := u3.2 2) C 3 0 rfl rfl hw.1 dX9_turn_36 ?_
      refine mv_topi (fun y5 ey5 => ?_)
      have hw := hw.2 y5 ey5
      exact wj_X9_turn_2_3_37_ok C hs hlev hK3 hw
    · have hw := hw.2 h4
      refine mv_aload_n C dX9_turn_23 rfl 1 rfl ?_
      refine mv_iload C dX9_turn_24 4 rfl ?_
      refine mv_iald (f := u3.2 2) C 3 0 rfl rfl hw.1 dX9_turn_26 ?_
      refine mv_topi (fun y6 ey6 => ?_)
      have hw := hw.2 y6 ey6
      refine mv_iload C dX9_turn_27 3 rfl ?_
      refine mv_ixor C dX9_turn_29 ?_
      refine mv_topi (fun y7 ey7 => ?_)
      have hw := hw y7 ey7
      refine mv_goto (tgt := 37) C dX9_turn_30 (by decide) ?_
      exact wj_X9_turn_2_3_37_ok C hs hlev hK3 hw
set_option maxHeartbeats 4000000 in
set_option maxRecDepth 100000 in
theorem X9_turn_2_3_met (hlev : 1 ≤ lev) {x3 x4 x5 : Int32} {u : mS} {post : mS → Prop} (hw : wp_X9_turn_2_3 x3 x4 x5 u post) : mKv l yX9_turn wsX9_turn lev (eM) (dC, dI) vwCl [(cA, .int)] (wM cA b) [.ref (b 0), .ref (b 2), .ref (b 3), .int x3, .int x4, .int x5] u post := by
  refine mKv_of (cc := cX9_turn) (maxL := 7) (by decide) rfl rfl (Nat.le_of_ble_eq_true rfl) rfl ?_
  intro p e s m args below meth c A C hs
  unfold wp_X9_turn_2_3 at hw
  refine mv_iload_n C dX9_turn_0 rfl 3 rfl ?_
  refine mv_istore (lv1 := [(6, .int x3), (0, .ref (b 0)), (1, .ref (b 2)), (2, .ref (b 3)), (3, .int x3), (4, .int x4), (5, .int x5)]) C dX9_turn_1 (by decide) rfl ?_
  refine mv_sub [2, 3, 5, 6, 0] rfl ?_
  obtain ⟨n, hw⟩ := hw
  exact mL4_of (fun K hK b0 b1 b2 b3 hw => wj_X9_turn_2_3_3_ok C hs hlev hK hw) n x4 x5 x3 u hw
set_option maxHeartbeats 4000000 in
set_option maxRecDepth 100000 in
theorem wj_X9_pairs_177_ok (C : mC p s m args meth c cX9_pairs 12 wsX9_pairs RX9 (some .int) (dC, dI) vwCl [(cA, .int)] A) (hs : eM A s) (hlev : 3 ≤ lev) {post : Int32 → mS → Prop} {K105 : Int32 → Int32 → Int32 → Int32 → Int32 → Int32 → Int32 → mS → Prop} (hK105 : ∀ (x4 x5 x7 x8 x9 x10 x11 : Int32) (u : mS), K105 x4 x5 x7 x8 x9 x10 x11 u → mV p l e (mRm lev) s m args below meth c 12 (dC, dI) vwCl A 0 0 (mQi below args s (dC, dI) vwCl [(cA, .int)] (wM cA b) A post) (wM cA b u) 105 [(0, .ref (b 0)), (4, .int x4), (5, .int x5), (7, .int x7), (8, .int x8), (9, .int x9), (10, .int x10), (11, .int x11)] []) {x4 x5 x7 x8 x10 x11 z0 : Int32} {u : mS} (hw : wj_X9_pairs_177 K105 post x4 x5 x7 x8 x10 x11 z0 u) : mV p l e (mRm lev) s m args below meth c 12 (dC, dI) vwCl A 0 0 (mQi below args s (dC, dI) vwCl [(cA, .int)] (wM cA b) A post) (wM cA b u) 177 [(0, .ref (b 0)), (4, .int x4), (5, .int x5), (7, .int x7), (8, .int x8), (10, .int x10), (11, .int x11)] [.int z0] := by
  unfold wj_X9_pairs_177 at hw
  refine mv_istore (lv1 := [(9, .int z0), (0, .ref (b 0)), (4, .int x4), (5, .int x5), (7, .int x7), (8, .int x8), (10, .int x10), (11, .int x11)]) C dX9_pairs_177 (by decide) rfl ?_
  obtain ⟨y29, ey29⟩ : ∃ z : Int32, z = x11 + (1 : Int32) := ⟨_, rfl⟩
  have hw := hw y29 ey29
  refine mv_iinc (v := y29) (lv1 := [(11, .int y29), (9, .int z0), (0, .ref (b 0)), (4, .int x4), (5, .int x5), (7, .int x7), (8, .int x8), (10, .int x10)]) C dX9_pairs_179 7 rfl (by rw [ey29]; rfl) (by decide) rfl ?_
  refine mv_goto (tgt := 105) C dX9_pairs_182 (by decide) ?_
  refine mv_sub [2, 3, 4, 5, 6, 1, 7, 0] rfl ?_
  exact hK105 x4 x5 x7 x8 z0 x10 y29 u hw
set_option maxHeartbeats 4000000 in
set_option maxRecDepth 100000 in
theorem wj_X9_pairs_143_ok (C : mC p s m args meth c cX9_pairs 12 wsX9_pairs RX9 (some .int) (dC, dI) vwCl [(cA, .int)] A) (hs : eM A s) (hlev : 3 ≤ lev) {post : Int32 → mS → Prop} {K105 : Int32 → Int32 → Int32 → Int32 → Int32 → Int32 → Int32 → mS → Prop} (hK105 : ∀ (x4 x5 x7 x8 x9 x10 x11 : Int32) (u : mS), K105 x4 x5 x7 x8 x9 x10 x11 u → mV p l e (mRm lev) s m args below meth c 12 (dC, dI) vwCl A 0 0 (mQi below args s (dC, dI) vwCl [(cA, .int)] (wM cA b) A post) (wM cA b u) 105 [(0, .ref (b 0)), (4, .int x4), (5, .int x5), (7, .int x7), (8, .int x8), (9, .int x9), (10, .int x10), (11, .int x11)] []) {x4 x5 x7 x8 x9 x10 x11 : Int32} {u : mS} (hw : wj_X9_pairs_143 K105 post x4 x5 x7 x8 x9 x10 x11 u) : mV p l e (mRm lev) s m args below meth c 12 (dC, dI) vwCl A 0 0 (mQi below args s (dC, dI) vwCl [(cA, .int)] (wM cA b) A post) (wM cA b u) 143 [(0, .ref (b 0)), (4, .int x4), (5, .int x5), (7, .int x7), (8, .int x8), (9, .int x9), (10, .int x10), (11, .int x11)] [] := by
  unfold wj_X9_pairs_143 at hw
  refine mv_aload_n C dX9_pairs_143 rfl 0 rfl ?_
  refine mv_get (v := .ref (b 2)) C iw_X9_pairs_X9 0 rfl rfl 2 (by decide) lk_X9_pairs_13 rfl rfl dX9_pairs_144 ?_
  refine mv_iload C dX9_pairs_147 6 rfl ?_
  refine mv_callSi (f := wM cA b) (As := [.ref (b 2), .int x10]) (rest := []) C eM_ok hs (X9_end_2_met (l := l) (lev := lev - 1) (by omega) hw) (va_cwS 2 C.2.2.2.2.1 gX9_pairs_X9_end rfl rfl rfl (by decide +kernel) (mRm_le (by omega) (by decide))) rfl rfl (Nat.le_of_ble_eq_true rfl) dX9_pairs_149 ⟨Nat.le_refl 0, Nat.le_refl 0⟩ (fun r23 u24 hw => ?_)
  refine mv_istore (lv1 := [(10, .int r23), (0, .ref (b 0)), (4, .int x4), (5, .int x5), (7, .int x7), (8, .int x8), (9, .int x9), (11, .int x11)]) C dX9_pairs_152 (by decide) rfl ?_
  refine mv_iload C dX9_pairs_154 7 rfl ?_
  refine mv_iconst (v := (1 : Int32)) C dX9_pairs_156 (by decide) ?_
  refine mv_iadd C dX9_pairs_157 ?_
  refine mv_topi (fun y25 ey25 => ?_)
  have hw := hw y25 ey25
  refine mv_iload C dX9_pairs_158 3 rfl ?_
  refine mv_icmp_ge (tgt := 175) C dX9_pairs_160 (by decide) (fun h26 => ?_) (fun h26 => ?_)
  · have hw := hw.1 h26
    refine mv_iload C dX9_pairs_175 6 rfl ?_
    refine mv_sub [1, 2, 3, 4, 5, 0, 7] rfl ?_
    exact wj_X9_pairs_177_ok C hs hlev hK105 hw
  · have hw := hw.2 h26
    refine mv_aload_n C dX9_pairs_163 rfl 1 rfl ?_
    refine mv_get (v := .ref (b 4)) C iw_X9_pairs_X9 0 rfl rfl 5 (by decide) lk_X9_pairs_19 rfl rfl dX9_pairs_164 ?_
    refine mv_iload C dX9_pairs_167 6 rfl ?_
    refine mv_callSi (f := wM cA b) (As := [.ref (b 4), .int x9]) (rest := []) C eM_ok hs (X9_end_4_met (l := l) (lev := lev - 1) (by omega) hw) (va_cwS 2 C.2.2.2.2.1 gX9_pairs_X9_end rfl rfl rfl (by decide +kernel) (mRm_le (by omega) (by decide))) rfl rfl (Nat.le_of_ble_eq_true rfl) dX9_pairs_169 ⟨Nat.le_refl 0, Nat.le_refl 0⟩ (fun r27 u28 hw => ?_)
    refine mv_goto (tgt := 177) C dX9_pairs_172 (by decide) ?_
    refine mv_sub [1, 2, 3, 4, 5, 0, 7] rfl ?_
    exact wj_X9_pairs_177_ok C hs hlev hK105 hw
set_option maxHeartbeats 4000000 in
set_option maxRecDepth 100000 in
theorem wj_X9_pairs_122_ok (C : mC p s m args meth c cX9_pairs 12 wsX9_pairs RX9 (some .int) (dC, dI) vwCl [(cA, .int)] A) (hs : eM A s) (hlev : 3 ≤ lev) {post : Int32 → mS → Prop} {K105 : Int32 → Int32 → Int32 → Int32 → Int32 → Int32 → Int32 → mS → Prop} (hK105 : ∀ (x4 x5 x7 x8 x9 x10 x11 : Int32) (u : mS), K105 x4 x5 x7 x8 x9 x10 x11 u → mV p l e (mRm lev) s m args below meth c 12 (dC, dI) vwCl A 0 0 (mQi below args s (dC, dI) vwCl [(cA, .int)] (wM cA b) A post) (wM cA b u) 105 [(0, .ref (b 0)), (4, .int x4), (5, .int x5), (7, .int x7), (8, .int x8), (9, .int x9), (10, .int x10), (11, .int x11)] []) {x4 x5 x7 x8 x9 x10 x11 : Int32} {u : mS} (hw : wj_X9_pairs_122 K105 post x4 x5 x7 x8 x9 x10 x11 u) : mV p l e (mRm lev) s m args below meth c 12 (dC, dI) vwCl A 0 0 (mQi below args s (dC, dI) vwCl [(cA, .int)] (wM cA b) A post) (wM cA b u) 122 [(0, .ref (b 0)), (4, .int x4), (5, .int x5), (7, .int x7), (8, .int x8), (9, .int x9), (10, .int x10), (11, .int x11)] [] := by
  unfold wj_X9_pairs_122 at hw
  refine mv_aload_n C dX9_pairs_122 rfl 0 rfl ?_
  refine mv_get (v := .ref (b 15)) C iw_X9_pairs_X9 0 rfl rfl 22 (by decide) lk_X9_pairs_52 rfl rfl dX9_pairs_123 ?_
  refine mv_iload C dX9_pairs_126 4 rfl ?_
  refine mv_iload C dX9_pairs_128 5 rfl ?_
  refine mv_iast (f := u.2 14) (ws1 := wM cA b (mPut u 14 x8.toNatClampNeg x9)) C 15 0 rfl rfl hw.1 rfl dX9_pairs_130 ?_
  refine mv_nm (f := wM cA b) (fun u30 eu30 => ?_)
  have hw := hw.2 u30 eu30
  refine mv_aload_n C dX9_pairs_131 rfl 0 rfl ?_
  refine mv_get (v := .ref (b 16)) C iw_X9_pairs_X9 0 rfl rfl 23 (by decide) lk_X9_pairs_55 rfl rfl dX9_pairs_132 ?_
  refine mv_iload C dX9_pairs_135 4 rfl ?_
  refine mv_iload C dX9_pairs_137 6 rfl ?_
  refine mv_iast (f := u30.2 15) (ws1 := wM cA b (mPut u30 15 x8.toNatClampNeg x10)) C 16 0 rfl rfl hw.1 rfl dX9_pairs_139 ?_
  refine mv_nm (f := wM cA b) (fun u31 eu31 => ?_)
  have hw := hw.2 u31 eu31
  obtain ⟨y32, ey32⟩ : ∃ z : Int32, z = x8 + (1 : Int32) := ⟨_, rfl⟩
  have hw := hw y32 ey32
  refine mv_iinc (v := y32) (lv1 := [(8, .int y32), (0, .ref (b 0)), (4, .int x4), (5, .int x5), (7, .int x7), (9, .int x9), (10, .int x10), (11, .int x11)]) C dX9_pairs_140 4 rfl (by rw [ey32]; rfl) (by decide) rfl ?_
  refine mv_sub [1, 2, 3, 4, 0, 5, 6, 7] rfl ?_
  exact wj_X9_pairs_143_ok C hs hlev hK105 hw
set_option maxHeartbeats 4000000 in
set_option maxRecDepth 100000 in
theorem wj_X9_pairs_105_ok (C : mC p s m args meth c cX9_pairs 12 wsX9_pairs RX9 (some .int) (dC, dI) vwCl [(cA, .int)] A) (hs : eM A s) (hlev : 3 ≤ lev) {post : Int32 → mS → Prop} {K105 : Int32 → Int32 → Int32 → Int32 → Int32 → Int32 → Int32 → mS → Prop} (hK105 : ∀ (x4 x5 x7 x8 x9 x10 x11 : Int32) (u : mS), K105 x4 x5 x7 x8 x9 x10 x11 u → mV p l e (mRm lev) s m args below meth c 12 (dC, dI) vwCl A 0 0 (mQi below args s (dC, dI) vwCl [(cA, .int)] (wM cA b) A post) (wM cA b u) 105 [(0, .ref (b 0)), (4, .int x4), (5, .int x5), (7, .int x7), (8, .int x8), (9, .int x9), (10, .int x10), (11, .int x11)] []) {x4 x5 x7 x8 x9 x10 x11 : Int32} {u : mS} (hw : wj_X9_pairs_105 K105 post x4 x5 x7 x8 x9 x10 x11 u) : mV p l e (mRm lev) s m args below meth c 12 (dC, dI) vwCl A 0 0 (mQi below args s (dC, dI) vwCl [(cA, .int)] (wM cA b) A post) (wM cA b u) 105 [(0, .ref (b 0)), (4, .int x4), (5, .int x5), (7, .int x7), (8, .int x8), (9, .int x9), (10, .int x10), (11, .int x11)] [] := by
  unfold wj_X9_pairs_105 at hw
  refine mv_iload C dX9_pairs_105 7 rfl ?_
  refine mv_iload C dX9_pairs_107 3 rfl ?_
  refine mv_icmp_ge (tgt := 185) C dX9_pairs_109 (by decide) (fun h20 => ?_) (fun h20 => ?_)
  · have hw := hw.1 h20
    refine mv_iload C dX9_pairs_185 4 rfl ?_
    exact mv_iret C dX9_pairs_187 hw
  · have hw := hw.2 h20
    refine mv_iload C dX9_pairs_112 7 rfl ?_
    refine mv_if_gt (tgt := 122) C dX9_pairs_114 (by decide) (fun h21 => ?_) (fun h21 => ?_)
    · have hw := hw.1 h21
      exact wj_X9_pairs_122_ok C hs hlev hK105 hw
    · have hw := hw.2 h21
      refine mv_iload C dX9_pairs_117 1 rfl ?_
      refine mv_if_ne (tgt := 143) C dX9_pairs_119 (by decide) (fun h22 => ?_) (fun h22 => ?_)
      · have hw := hw.1 h22
        exact wj_X9_pairs_143_ok C hs hlev hK105 hw
      · have hw := hw.2 h22
        exact wj_X9_pairs_122_ok C hs hlev hK105 hw
set_option maxHeartbeats 4000000 in
set_option maxRecDepth 100000 in
theorem wj_X9_pairs_89_ok (C : mC p s m args meth c cX9_pairs 12 wsX9_pairs RX9 (some .int) (dC, dI) vwCl [(cA, .int)] A) (hs : eM A s) (hlev : 3 ≤ lev) {post : Int32 → mS → Prop} {x1 x2 x3 x4 x5 x7 : Int32} {u : mS} (hw : wj_X9_pairs_89 post x1 x2 x3 x4 x5 x7 u) : mV p l e (mRm lev) s m args below meth c 12 (dC, dI) vwCl A 0 0 (mQi below args s (dC, dI) vwCl [(cA, .int)] (wM cA b) A post) (wM cA b u) 89 [(0, .ref (b 0)), (1, .int x1), (2, .int x2), (3, .int x3), (4, .int x4), (5, .int x5), (7, .int x7)] [] := by
  unfold wj_X9_pairs_89 at hw
  refine mv_iload_n C dX9_pairs_89 rfl 1 rfl ?_
  refine mv_istore (lv1 := [(8, .int x1), (0, .ref (b 0)), (1, .int x1), (2, .int x2), (3, .int x3), (4, .int x4), (5, .int x5), (7, .int x7)]) C dX9_pairs_90 (by decide) rfl ?_
  refine mv_iload_n C dX9_pairs_92 rfl 3 rfl ?_
  refine mv_iconst (v := (1 : Int32)) C dX9_pairs_93 (by decide) ?_
  refine mv_iadd C dX9_pairs_94 ?_
  refine mv_topi (fun y18 ey18 => ?_)
  have hw := hw y18 ey18
  refine mv_istore (lv1 := [(9, .int y18), (8, .int x1), (0, .ref (b 0)), (1, .int x1), (2, .int x2), (3, .int x3), (4, .int x4), (5, .int x5), (7, .int x7)]) C dX9_pairs_95 (by decide) rfl ?_
  refine mv_iload_n C dX9_pairs_97 rfl 5 rfl ?_
  refine mv_iconst (v := (1 : Int32)) C dX9_pairs_98 (by decide) ?_
  refine mv_iadd C dX9_pairs_99 ?_
  refine mv_topi (fun y19 ey19 => ?_)
  have hw := hw y19 ey19
  refine mv_istore (lv1 := [(10, .int y19), (9, .int y18), (8, .int x1), (0, .ref (b 0)), (1, .int x1), (2, .int x2), (3, .int x3), (4, .int x4), (5, .int x5), (7, .int x7)]) C dX9_pairs_100 (by decide) rfl ?_
  refine mv_iconst (v := (0 : Int32)) C dX9_pairs_102 (by decide) ?_
  refine mv_istore (lv1 := [(11, .int (0 : Int32)), (10, .int y19), (9, .int y18), (8, .int x1), (0, .ref (b 0)), (1, .int x1), (2, .int x2), (3, .int x3), (4, .int x4), (5, .int x5), (7, .int x7)]) C dX9_pairs_103 (by decide) rfl ?_
  refine mv_sub [4, 8, 9, 10, 3, 2, 1, 0] rfl ?_
  obtain ⟨n, hw⟩ := hw
  exact mL8_of (fun K hK b0 b1 b2 b3 b4 b5 b6 b7 hw => wj_X9_pairs_105_ok C hs hlev hK hw) n x4 x5 x7 x1 y18 y19 (0 : Int32) u hw
set_option maxHeartbeats 4000000 in
set_option maxRecDepth 100000 in
theorem wj_X9_pairs_51_ok (C : mC p s m args meth c cX9_pairs 12 wsX9_pairs RX9 (some .int) (dC, dI) vwCl [(cA, .int)] A) (hs : eM A s) (hlev : 3 ≤ lev) {post : Int32 → mS → Prop} {x1 x2 x3 x4 x5 z0 : Int32} {u : mS} (hw : wj_X9_pairs_51 post x1 x2 x3 x4 x5 z0 u) : mV p l e (mRm lev) s m args below meth c 12 (dC, dI) vwCl A 0 0 (mQi below args s (dC, dI) vwCl [(cA, .int)] (wM cA b) A post) (wM cA b u) 51 [(0, .ref (b 0)), (1, .int x1), (2, .int x2), (3, .int x3), (4, .int x4), (5, .int x5)] [.int z0] := by
  unfold wj_X9_pairs_51 at hw
  refine mv_istore (lv1 := [(6, .int z0), (0, .ref (b 0)), (1, .int x1), (2, .int x2), (3, .int x3), (4, .int x4), (5, .int x5)]) C dX9_pairs_51 (by decide) rfl ?_
  refine mv_aload_n C dX9_pairs_53 rfl 1 rfl ?_
  refine mv_get (v := .ref (b 2)) C iw_X9_pairs_X9 0 rfl rfl 2 (by decide) lk_X9_pairs_13 rfl rfl dX9_pairs_54 ?_
  refine mv_iload_n C dX9_pairs_57 rfl 4 rfl ?_
  refine mv_callSi (f := wM cA b) (As := [.ref (b 2), .int x3]) (rest := []) C eM_ok hs (X9_count_2_met (l := l) (lev := lev - 1) (by omega) hw) (va_cwS 2 C.2.2.2.2.1 gX9_pairs_X9_count rfl rfl rfl (by decide +kernel) (mRm_le (by omega) (by decide))) rfl rfl (Nat.le_of_ble_eq_true rfl) dX9_pairs_58 ⟨Nat.le_refl 0, Nat.le_refl 0⟩ (fun r12 u13 hw => ?_)
  refine mv_istore (lv1 := [(7, .int r12), (6, .int z0), (0, .ref (b 0)), (1, .int x1), (2, .int x2), (3, .int x3), (4, .int x4), (5, .int x5)]) C dX9_pairs_61 (by decide) rfl ?_
  refine mv_iload C dX9_pairs_63 1 rfl ?_
  refine mv_if_eq (tgt := 80) C dX9_pairs_65 (by decide) (fun h14 => ?_) (fun h14 => ?_)
  · have hw := hw.1 h14
    refine mv_iload C dX9_pairs_80 0 rfl ?_
    refine mv_iload C dX9_pairs_82 7 rfl ?_
    refine mv_icmp_eq (tgt := 89) C dX9_pairs_84 (by decide) (fun h15 => ?_) (fun h15 => ?_)
    · have hw := hw.1 h15
      refine mv_sub [2, 3, 4, 5, 6, 7, 0] rfl ?_
      exact wj_X9_pairs_89_ok C hs hlev hw
    · have hw := hw.2 h15
      refine mv_iconst (v := (-1 : Int32)) C dX9_pairs_87 (by decide) ?_
      exact mv_iret C dX9_pairs_88 hw
  · have hw := hw.2 h14
    refine mv_iload C dX9_pairs_68 0 rfl ?_
    refine mv_iload C dX9_pairs_70 7 rfl ?_
    refine mv_iconst (v := (1 : Int32)) C dX9_pairs_72 (by decide) ?_
    refine mv_isub C dX9_pairs_73 ?_
    refine mv_topi (fun y16 ey16 => ?_)
    have hw := hw y16 ey16
    refine mv_icmp_ge (tgt := 89) C dX9_pairs_74 (by decide) (fun h17 => ?_) (fun h17 => ?_)
    · have hw := hw.1 h17
      refine mv_sub [2, 3, 4, 5, 6, 7, 0] rfl ?_
      exact wj_X9_pairs_89_ok C hs hlev hw
    · have hw := hw.2 h17
      refine mv_goto (tgt := 87) C dX9_pairs_77 (by decide) ?_
      refine mv_iconst (v := (-1 : Int32)) C dX9_pairs_87 (by decide) ?_
      exact mv_iret C dX9_pairs_88 hw
set_option maxHeartbeats 4000000 in
set_option maxRecDepth 100000 in
theorem X9_pairs_met (hlev : 3 ≤ lev) {x1 x2 x3 x4 : Int32} {u : mS} {post : Int32 → mS → Prop} (hw : wp_X9_pairs x1 x2 x3 x4 u post) : mKi l yX9_pairs wsX9_pairs lev (eM) (dC, dI) vwCl [(cA, .int)] (wM cA b) [.ref (b 0), .int x1, .int x2, .int x3, .int x4] u post := by
  refine mKi_of (cc := cX9_pairs) (maxL := 12) (by decide) rfl rfl (Nat.le_of_ble_eq_true rfl) rfl ?_
  intro p e s m args below meth c A C hs
  unfold wp_X9_pairs at hw
  refine mv_aload_n C dX9_pairs_0 rfl 0 rfl ?_
  refine mv_get (v := .ref (b 2)) C iw_X9_pairs_X9 0 rfl rfl 2 (by decide) lk_X9_pairs_13 rfl rfl dX9_pairs_1 ?_
  refine mv_iload_n C dX9_pairs_4 rfl 3 rfl ?_
  refine mv_callSi (f := wM cA b) (As := [.ref (b 2), .int x3]) (rest := []) C eM_ok hs (X9_kind_2_met (l := l) (lev := lev - 1) (by omega) hw) (va_cwS 2 C.2.2.2.2.1 gX9_pairs_X9_kind rfl rfl rfl (by decide +kernel) (mRm_le (by omega) (by decide))) rfl rfl (Nat.le_of_ble_eq_true rfl) dX9_pairs_5 ⟨Nat.le_refl 0, Nat.le_refl 0⟩ (fun r1 u2 hw => ?_)
  refine mv_iconst (v := (1 : Int32)) C dX9_pairs_8 (by decide) ?_
  refine mv_icmp_ne (tgt := 23) C dX9_pairs_9 (by decide) (fun h3 => ?_) (fun h3 => ?_)
  · have hw := hw.1 h3
    refine mv_iconst (v := (-1 : Int32)) C dX9_pairs_23 (by decide) ?_
    exact mv_iret C dX9_pairs_24 hw
  · have hw := hw.2 h3
    refine mv_aload_n C dX9_pairs_12 rfl 0 rfl ?_
    refine mv_get (v := .ref (b 2)) C iw_X9_pairs_X9 0 rfl rfl 2 (by decide) lk_X9_pairs_13 rfl rfl dX9_pairs_13 ?_
    refine mv_iload_n C dX9_pairs_16 rfl 3 rfl ?_
    refine mv_callSi (f := wM cA b) (As := [.ref (b 2), .int x3]) (rest := []) C eM_ok hs (X9_dots_2_met (l := l) (lev := lev - 1) (by omega) hw) (va_cwS 2 C.2.2.2.2.1 gX9_pairs_X9_dots rfl rfl rfl (by decide +kernel) (mRm_le (by omega) (by decide))) rfl rfl (Nat.le_of_ble_eq_true rfl) dX9_pairs_17 ⟨Nat.le_refl 0, Nat.le_refl 0⟩ (fun r4 u5 hw => ?_)
    refine mv_if_le (tgt := 25) C dX9_pairs_20 (by decide) (fun h6 => ?_) (fun h6 => ?_)
    · have hw := hw.1 h6
      refine mv_aload_n C dX9_pairs_25 rfl 0 rfl ?_
      refine mv_get (v := .ref (b 4)) C iw_X9_pairs_X9 0 rfl rfl 5 (by decide) lk_X9_pairs_19 rfl rfl dX9_pairs_26 ?_
      refine mv_iload_n C dX9_pairs_29 rfl 2 rfl ?_
      refine mv_callSi (f := wM cA b) (As := [.ref (b 4), .int x2]) (rest := []) C eM_ok hs (X9_count_4_met (l := l) (lev := lev - 1) (by omega) hw) (va_cwS 2 C.2.2.2.2.1 gX9_pairs_X9_count rfl rfl rfl (by decide +kernel) (mRm_le (by omega) (by decide))) rfl rfl (Nat.le_of_ble_eq_true rfl) dX9_pairs_30 ⟨Nat.le_refl 0, Nat.le_refl 0⟩ (fun r7 u8 hw => ?_)
      refine mv_istore (lv1 := [(5, .int r7), (0, .ref (b 0)), (1, .int x1), (2, .int x2), (3, .int x3), (4, .int x4)]) C dX9_pairs_33 (by decide) rfl ?_
      refine mv_aload_n C dX9_pairs_35 rfl 1 rfl ?_
      refine mv_get (v := .ref (b 4)) C iw_X9_pairs_X9 0 rfl rfl 5 (by decide) lk_X9_pairs_19 rfl rfl dX9_pairs_36 ?_
      refine mv_iload_n C dX9_pairs_39 rfl 3 rfl ?_
      refine mv_callSi (f := wM cA b) (As := [.ref (b 4), .int x2]) (rest := []) C eM_ok hs (X9_dots_4_met (l := l) (lev := lev - 1) (by omega) hw) (va_cwS 2 C.2.2.2.2.1 gX9_pairs_X9_dots rfl rfl rfl (by decide +kernel) (mRm_le (by omega) (by decide))) rfl rfl (Nat.le_of_ble_eq_true rfl) dX9_pairs_40 ⟨Nat.le_refl 0, Nat.le_refl 0⟩ (fun r9 u10 hw => ?_)
      refine mv_if_le (tgt := 50) C dX9_pairs_43 (by decide) (fun h11 => ?_) (fun h11 => ?_)
      · have hw := hw.1 h11
        refine mv_iconst (v := (0 : Int32)) C dX9_pairs_50 (by decide) ?_
        refine mv_sub [1, 2, 3, 4, 5, 0] rfl ?_
        exact wj_X9_pairs_51_ok C hs hlev hw
      · have hw := hw.2 h11
        refine mv_iconst (v := (1 : Int32)) C dX9_pairs_46 (by decide) ?_
        refine mv_goto (tgt := 51) C dX9_pairs_47 (by decide) ?_
        refine mv_sub [1, 2, 3, 4, 5, 0] rfl ?_
        exact wj_X9_pairs_51_ok C hs hlev hw
    · have hw := hw.2 h6
      refine mv_iconst (v := (-1 : Int32)) C dX9_pairs_23 (by decide) ?_
      exact mv_iret C dX9_pairs_24 hw
set_option maxHeartbeats 4000000 in
set_option maxRecDepth 100000 in
theorem wj_X9_matches_89_ok (C : mC p s m args meth c cX9_matches 7 wsX9_matches RX9 (some .boolean) (dC, dI) vwCl [(cA, .int)] A) (hs : eM A s) (hlev : 4 ≤ lev) {post : Int32 → mS → Prop} {K9 : Int32 → mS → Prop} (hK9 : ∀ (x3 : Int32) (u : mS), K9 x3 u → mV p l e (mRm lev) s m args below meth c 7 (dC, dI) vwCl A 0 0 (mQi below args s (dC, dI) vwCl [(cA, .int)] (wM cA b) A (fun r w => (r = 0 ∨ r = 1) ∧ post r w)) (wM cA b u) 9 [(0, .ref (b 0)), (3, .int x3)] []) {x3 : Int32} {u : mS} (hw : wj_X9_matches_89 K9 post x3 u) : mV p l e (mRm lev) s m args below meth c 7 (dC, dI) vwCl A 0 0 (mQi below args s (dC, dI) vwCl [(cA, .int)] (wM cA b) A (fun r w => (r = 0 ∨ r = 1) ∧ post r w)) (wM cA b u) 89 [(0, .ref (b 0)), (3, .int x3)] [] := by
  unfold wj_X9_matches_89 at hw
  refine mv_goto (tgt := 9) C dX9_matches_89 (by decide) ?_
  exact hK9 x3 u hw
set_option maxHeartbeats 4000000 in
set_option maxRecDepth 100000 in
theorem wj_X9_matches_72_ok (C : mC p s m args meth c cX9_matches 7 wsX9_matches RX9 (some .boolean) (dC, dI) vwCl [(cA, .int)] A) (hs : eM A s) (hlev : 4 ≤ lev) {post : Int32 → mS → Prop} {K9 : Int32 → mS → Prop} (hK9 : ∀ (x3 : Int32) (u : mS), K9 x3 u → mV p l e (mRm lev) s m args below meth c 7 (dC, dI) vwCl A 0 0 (mQi below args s (dC, dI) vwCl [(cA, .int)] (wM cA b) A (fun r w => (r = 0 ∨ r = 1) ∧ post r w)) (wM cA b u) 9 [(0, .ref (b 0)), (3, .int x3)] []) {x3 x4 x5 x6 : Int32} {u : mS} (hw : wj_X9_matches_72 K9 post x3 x4 x5 x6 u) : mV p l e (mRm lev) s m args below meth c 7 (dC, dI) vwCl A 0 0 (mQi below args s (dC, dI) vwCl [(cA, .int)] (wM cA b) A (fun r w => (r = 0 ∨ r = 1) ∧ post r w)) (wM cA b u) 72 [(0, .ref (b 0)), (3, .int x3), (4, .int x4), (5, .int x5), (6, .int x6)] [] := by
  unfold wj_X9_matches_72 at hw
  refine mv_iload C dX9_matches_72 4 rfl ?_
  refine mv_iconst (v := (1 : Int32)) C dX9_matches_74 (by decide) ?_
  refine mv_icmp_ne (tgt := 89) C dX9_matches_75 (by decide) (fun h16 => ?_) (fun h16 => ?_)
  · have hw := hw.1 h16
    refine mv_sub [0, 1] rfl ?_
    exact wj_X9_matches_89_ok C hs hlev hK9 hw
  · have hw := hw.2 h16
    refine mv_aload_n C dX9_matches_78 rfl 0 rfl ?_
    refine mv_iload_n C dX9_matches_79 rfl 1 rfl ?_
    refine mv_iload C dX9_matches_80 2 rfl ?_
    refine mv_iload C dX9_matches_82 3 rfl ?_
    refine mv_iconst (v := (0 : Int32)) C dX9_matches_84 (by decide) ?_
    refine mv_callVi (f := wM cA b) (As := [.int x3, .int x4, .int x5, .int (0 : Int32)]) (rest := []) C eM_ok hs 0 rfl rfl (X9_pairs_met (l := l) (lev := lev - 1) (by omega) hw) (cwV 4 C.2.2.2.2.1 gX9_matches_X9_pairs rfl rfl rfl (by decide +kernel) (mRm_le (by omega) (by decide))) rfl rfl (Nat.le_of_ble_eq_true rfl) dX9_matches_85 ⟨Nat.le_refl 0, Nat.le_refl 0⟩ (fun r17 u18 hw => ?_)
    refine mv_istore_n (lv1 := [(3, .int r17), (0, .ref (b 0)), (4, .int x4), (5, .int x5), (6, .int x6)]) C dX9_matches_88 rfl (by decide) rfl ?_
    refine mv_sub [1, 0] rfl ?_
    exact wj_X9_matches_89_ok C hs hlev hK9 hw
set_option maxHeartbeats 4000000 in
set_option maxRecDepth 100000 in
theorem wj_X9_matches_9_ok (C : mC p s m args meth c cX9_matches 7 wsX9_matches RX9 (some .boolean) (dC, dI) vwCl [(cA, .int)] A) (hs : eM A s) (hlev : 4 ≤ lev) {post : Int32 → mS → Prop} {K9 : Int32 → mS → Prop} (hK9 : ∀ (x3 : Int32) (u : mS), K9 x3 u → mV p l e (mRm lev) s m args below meth c 7 (dC, dI) vwCl A 0 0 (mQi below args s (dC, dI) vwCl [(cA, .int)] (wM cA b) A (fun r w => (r = 0 ∨ r = 1) ∧ post r w)) (wM cA b u) 9 [(0, .ref (b 0)), (3, .int x3)] []) {x3 : Int32} {u : mS} (hw : wj_X9_matches_9 K9 post x3 u) : mV p l e (mRm lev) s m args below meth c 7 (dC, dI) vwCl A 0 0 (mQi below args s (dC, dI) vwCl [(cA, .int)] (wM cA b) A (fun r w => (r = 0 ∨ r = 1) ∧ post r w)) (wM cA b u) 9 [(0, .ref (b 0)), (3, .int x3)] [] := by
  unfold wj_X9_matches_9 at hw
  refine mv_iload_n C dX9_matches_9 rfl 1 rfl ?_
  refine mv_if_le (tgt := 92) C dX9_matches_10 (by decide) (fun h3 => ?_) (fun h3 => ?_)
  · have hw := hw.1 h3
    refine mv_iload_n C dX9_matches_92 rfl 1 rfl ?_
    refine mv_if_ne (tgt := 100) C dX9_matches_93 (by decide) (fun h4 => ?_) (fun h4 => ?_)
    · have hw := hw.1 h4
      refine mv_iconst (v := (0 : Int32)) C dX9_matches_100 (by decide) ?_
      exact mv_zret C dX9_matches_101 (Or.inl rfl) hw
    · have hw := hw.2 h4
      refine mv_iconst (v := (1 : Int32)) C dX9_matches_96 (by decide) ?_
      refine mv_goto (tgt := 101) C dX9_matches_97 (by decide) ?_
      exact mv_zret C dX9_matches_101 (Or.inr rfl) hw
  · have hw := hw.2 h3
    refine mv_aload_n C dX9_matches_13 rfl 0 rfl ?_
    refine mv_get (v := .ref (b 15)) C iw_X9_matches_X9 0 rfl rfl 22 (by decide) lk_X9_matches_52 rfl rfl dX9_matches_14 ?_
    refine mv_iload_n C dX9_matches_17 rfl 1 rfl ?_
    refine mv_iconst (v := (1 : Int32)) C dX9_matches_18 (by decide) ?_
    refine mv_isub C dX9_matches_19 ?_
    refine mv_topi (fun y5 ey5 => ?_)
    have hw := hw y5 ey5
    refine mv_iald (f := u.2 14) C 15 0 rfl rfl hw.1 dX9_matches_20 ?_
    refine mv_topi (fun y6 ey6 => ?_)
    have hw := hw.2 y6 ey6
    refine mv_istore (lv1 := [(4, .int y6), (0, .ref (b 0)), (3, .int x3)]) C dX9_matches_21 (by decide) rfl ?_
    refine mv_aload_n C dX9_matches_23 rfl 1 rfl ?_
    refine mv_get (v := .ref (b 16)) C iw_X9_matches_X9 0 rfl rfl 23 (by decide) lk_X9_matches_55 rfl rfl dX9_matches_24 ?_
    refine mv_iload_n C dX9_matches_27 rfl 2 rfl ?_
    refine mv_iconst (v := (1 : Int32)) C dX9_matches_28 (by decide) ?_
    refine mv_isub C dX9_matches_29 ?_
    refine mv_topi (fun y7 ey7 => ?_)
    have hw := hw y7 ey7
    refine mv_iald (f := u.2 15) C 16 0 rfl rfl hw.1 dX9_matches_30 ?_
    refine mv_topi (fun y8 ey8 => ?_)
    have hw := hw.2 y8 ey8
    refine mv_istore (lv1 := [(5, .int y8), (4, .int y6), (0, .ref (b 0)), (3, .int x3)]) C dX9_matches_31 (by decide) rfl ?_
    obtain ⟨y9, ey9⟩ : ∃ z : Int32, z = x3 + (-1 : Int32) := ⟨_, rfl⟩
    have hw := hw y9 ey9
    refine mv_iinc (v := y9) (lv1 := [(3, .int y9), (5, .int y8), (4, .int y6), (0, .ref (b 0))]) C dX9_matches_33 3 rfl (by rw [ey9]; rfl) (by decide) rfl ?_
    refine mv_aload_n C dX9_matches_36 rfl 3 rfl ?_
    refine mv_get (v := .ref (b 4)) C iw_X9_matches_X9 0 rfl rfl 5 (by decide) lk_X9_matches_19 rfl rfl dX9_matches_37 ?_
    refine mv_iload C dX9_matches_40 2 rfl ?_
    refine mv_callSi (f := wM cA b) (As := [.ref (b 4), .int y6]) (rest := []) C eM_ok hs (X9_kind_4_met (l := l) (lev := lev - 1) (by omega) hw) (va_cwS 2 C.2.2.2.2.1 gX9_matches_X9_kind rfl rfl rfl (by decide +kernel) (mRm_le (by omega) (by decide))) rfl rfl (Nat.le_of_ble_eq_true rfl) dX9_matches_42 ⟨Nat.le_refl 0, Nat.le_refl 0⟩ (fun r10 u11 hw => ?_)
    refine mv_istore (lv1 := [(6, .int r10), (3, .int y9), (5, .int y8), (4, .int y6), (0, .ref (b 0))]) C dX9_matches_45 (by decide) rfl ?_
    refine mv_iload C dX9_matches_47 0 rfl ?_
    refine mv_iconst (v := (4 : Int32)) C dX9_matches_49 (by decide) ?_
    refine mv_icmp_ne (tgt := 72) C dX9_matches_50 (by decide) (fun h12 => ?_) (fun h12 => ?_)
    · have hw := hw.1 h12
      refine mv_sub [4, 1, 3, 2, 0] rfl ?_
      exact wj_X9_matches_72_ok C hs hlev hK9 hw
    · have hw := hw.2 h12
      refine mv_aload_n C dX9_matches_53 rfl 4 rfl ?_
      refine mv_get (v := .ref (b 4)) C iw_X9_matches_X9 0 rfl rfl 5 (by decide) lk_X9_matches_19 rfl rfl dX9_matches_54 ?_
      refine mv_iload C dX9_matches_57 3 rfl ?_
      refine mv_iald (f := u11.2 3) C 4 0 rfl rfl hw.1 dX9_matches_59 ?_
      refine mv_topi (fun y13 ey13 => ?_)
      have hw := hw.2 y13 ey13
      refine mv_aload_n C dX9_matches_60 rfl 4 rfl ?_
      refine mv_get (v := .ref (b 2)) C iw_X9_matches_X9 0 rfl rfl 2 (by decide) lk_X9_matches_13 rfl rfl dX9_matches_61 ?_
      refine mv_iload C dX9_matches_64 2 rfl ?_
      refine mv_iald (f := u11.2 1) C 2 0 rfl rfl hw.1 dX9_matches_66 ?_
      refine mv_topi (fun y14 ey14 => ?_)
      have hw := hw.2 y14 ey14
      refine mv_icmp_eq (tgt := 72) C dX9_matches_67 (by decide) (fun h15 => ?_) (fun h15 => ?_)
      · have hw := hw.1 h15
        refine mv_sub [4, 1, 3, 2, 0] rfl ?_
        exact wj_X9_matches_72_ok C hs hlev hK9 hw
      · have hw := hw.2 h15
        refine mv_iconst (v := (0 : Int32)) C dX9_matches_70 (by decide) ?_
        exact mv_zret C dX9_matches_71 (Or.inl rfl) hw
set_option maxHeartbeats 4000000 in
set_option maxRecDepth 100000 in
theorem X9_matches_met (hlev : 4 ≤ lev) {x1 x2 : Int32} {u : mS} {post : Int32 → mS → Prop} (hw : wp_X9_matches x1 x2 u post) : mKi l yX9_matches wsX9_matches lev (eM) (dC, dI) vwCl [(cA, .int)] (wM cA b) [.ref (b 0), .int x1, .int x2] u (fun r w => (r = 0 ∨ r = 1) ∧ post r w) := by
  refine mKz_of (cc := cX9_matches) (maxL := 7) (by decide) rfl rfl (Nat.le_of_ble_eq_true rfl) rfl ?_
  intro p e s m args below meth c A C hs
  unfold wp_X9_matches at hw
  refine mv_aload_n C dX9_matches_0 rfl 0 rfl ?_
  refine mv_iconst (v := (0 : Int32)) C dX9_matches_1 (by decide) ?_
  refine mv_iload_n C dX9_matches_2 rfl 1 rfl ?_
  refine mv_iload_n C dX9_matches_3 rfl 2 rfl ?_
  refine mv_iconst (v := (1 : Int32)) C dX9_matches_4 (by decide) ?_
  refine mv_callVi (f := wM cA b) (As := [.int (0 : Int32), .int x1, .int x2, .int (1 : Int32)]) (rest := []) C eM_ok hs 0 rfl rfl (X9_pairs_met (l := l) (lev := lev - 1) (by omega) hw) (cwV 4 C.2.2.2.2.1 gX9_matches_X9_pairs rfl rfl rfl (by decide +kernel) (mRm_le (by omega) (by decide))) rfl rfl (Nat.le_of_ble_eq_true rfl) dX9_matches_5 ⟨Nat.le_refl 0, Nat.le_refl 0⟩ (fun r1 u2 hw => ?_)
  refine mv_istore_n (lv1 := [(3, .int r1), (0, .ref (b 0)), (1, .int x1), (2, .int x2)]) C dX9_matches_8 rfl (by decide) rfl ?_
  refine mv_sub [1, 0] rfl ?_
  obtain ⟨n, hw⟩ := hw
  exact mL2_of (fun K hK b0 b1 hw => wj_X9_matches_9_ok C hs hlev hK hw) n r1 u2 hw
end
