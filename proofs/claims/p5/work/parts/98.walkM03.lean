theorem dX9_what_0 : decode cX9_what 0 = .ok (.aload_n 0, 1) := by decide +kernel
theorem dX9_what_1 : decode cX9_what 1 = .ok (.iload_n 1, 1) := by decide +kernel
theorem dX9_what_2 : decode cX9_what 2 = .ok (.iaload, 1) := by decide +kernel
theorem dX9_what_3 : decode cX9_what 3 = .ok (.ldc 88, 2) := by decide +kernel
theorem dX9_what_5 : decode cX9_what 5 = .ok (.irem, 1) := by decide +kernel
theorem dX9_what_6 : decode cX9_what 6 = .ok (.ireturn, 1) := by decide +kernel
set_option maxRecDepth 20000 in
theorem ggX9_isTemplate_X9_end : GoodIn wsX9_isTemplate wsX9_end := goodIn_r _ [6, 7, 8, 5, 9, 10] (by decide +kernel) (by decide +kernel)
set_option maxRecDepth 20000 in
theorem gX9_isTemplate_X9_end : GoodIn wsX9_isTemplate (va_wsS RX9 111 yX9_end wsX9_end) := goodIn_app (goodIn_of _ (by decide +kernel)) ggX9_isTemplate_X9_end
set_option maxRecDepth 20000 in
theorem ggX9_isTemplate_X9_kind : GoodIn wsX9_isTemplate wsX9_kind := goodIn_r _ [9, 10] (by decide +kernel) (by decide +kernel)
set_option maxRecDepth 20000 in
theorem gX9_isTemplate_X9_kind : GoodIn wsX9_isTemplate (va_wsS RX9 107 yX9_kind wsX9_kind) := goodIn_app (goodIn_of _ (by decide +kernel)) ggX9_isTemplate_X9_kind
set_option maxRecDepth 20000 in
theorem ggX9_isTemplate_X9_variable : GoodIn wsX9_isTemplate wsX9_variable := goodIn_r _ [14, 1, 2, 3, 4, 5, 6, 7, 8, 9, 10, 23, 24, 25, 26, 27, 28, 29, 30, 31, 32, 33, 34, 35, 36, 37, 38, 39, 40, 41, 42, 43, 44, 45, 46, 47, 48, 49, 50, 51, 52, 53, 54, 55, 56, 57, 58] (by decide +kernel) (by decide +kernel)
set_option maxRecDepth 20000 in
theorem gX9_isTemplate_X9_variable : GoodIn wsX9_isTemplate (wsV RX9 124 RX9 yX9_variable wsX9_variable) := goodIn_app (goodIn_of _ (by decide +kernel)) ggX9_isTemplate_X9_variable
set_option maxRecDepth 20000 in
theorem ggX9_isTemplate_X9_heldBy : GoodIn wsX9_isTemplate wsX9_heldBy := goodIn_r _ [18, 1, 7, 8, 5, 9, 10, 3, 4, 6, 23, 24, 25, 26, 27, 28, 29, 30, 31, 32, 33, 34, 35, 36, 37, 38, 39, 40, 41, 42, 43, 44, 45, 46, 47, 48, 49, 50, 51, 52, 53, 54, 55, 56, 57, 58] (by decide +kernel) (by decide +kernel)
set_option maxRecDepth 20000 in
theorem gX9_isTemplate_X9_heldBy : GoodIn wsX9_isTemplate (wsV RX9 120 RX9 yX9_heldBy wsX9_heldBy) := goodIn_app (goodIn_of _ (by decide +kernel)) ggX9_isTemplate_X9_heldBy
set_option maxRecDepth 100000 in
theorem gpX9_isTemplate_X9_uses_0 : GoodIn wsX9_isTemplate ([.fieldLink RX9 19 "MarkedNamesModel" "kept" "[I", .fieldLink RX9 22 "MarkedNamesModel" "keptSet" "[I", .methodLink RX9 107 yX9_kind, .static yX9_kind, .initialized RX9, .code yX9_kind cX9_kind 2 (some .int), .constant RX9 88 (65536), .methodLink RX9 124 yX9_variable, .instanceMethod yX9_variable, .selects RX9 yX9_variable yX9_variable, .code yX9_variable cX9_variable 6 (some .int), .methodLink RX9 111 yX9_end, .static yX9_end, .code yX9_end cX9_end 5 (some .int)] : List Cond) := goodIn_r _ [1, 2, 7, 8, 5, 9, 10, 11, 12, 13, 14, 3, 4, 6] (by decide +kernel) (by decide +kernel)
set_option maxRecDepth 100000 in
theorem gpX9_isTemplate_X9_uses_1 : GoodIn wsX9_isTemplate wsX90 := goodIn_r _ [23, 24, 25, 26, 27, 28, 29, 30, 31, 32, 33, 34, 35, 36, 37, 38, 39, 40, 41, 42, 43, 44, 45, 46, 47, 48, 49, 50, 51, 52, 53, 54, 55, 56, 57, 58] (by decide +kernel) (by decide +kernel)
set_option maxRecDepth 100000 in
theorem gpX9_isTemplate_X9_uses_c : GoodIn wsX9_isTemplate [Cond.code yX9_uses cX9_uses 6 (some .int)] := goodIn_r _ [22] (by decide +kernel) (by decide +kernel)
theorem ggX9_isTemplate_X9_uses : GoodIn wsX9_isTemplate wsX9_uses := goodIn_cons2 gpX9_isTemplate_X9_uses_c (goodIn_app gpX9_isTemplate_X9_uses_0 gpX9_isTemplate_X9_uses_1)
set_option maxRecDepth 20000 in
theorem gX9_isTemplate_X9_uses : GoodIn wsX9_isTemplate (wsV RX9 127 RX9 yX9_uses wsX9_uses) := goodIn_app (goodIn_of _ (by decide +kernel)) ggX9_isTemplate_X9_uses
theorem dX9_isTemplate_0 : decode cX9_isTemplate 0 = .ok (.aload_n 0, 1) := by decide +kernel
theorem dX9_isTemplate_1 : decode cX9_isTemplate 1 = .ok (.getfield 19, 3) := by decide +kernel
theorem dX9_isTemplate_4 : decode cX9_isTemplate 4 = .ok (.iload_n 2, 1) := by decide +kernel
theorem dX9_isTemplate_5 : decode cX9_isTemplate 5 = .ok (.invokestatic 111, 3) := by decide +kernel
theorem dX9_isTemplate_8 : decode cX9_isTemplate 8 = .ok (.istore_n 3, 1) := by decide +kernel
theorem dX9_isTemplate_9 : decode cX9_isTemplate 9 = .ok (.aload_n 0, 1) := by decide +kernel
theorem dX9_isTemplate_10 : decode cX9_isTemplate 10 = .ok (.getfield 19, 3) := by decide +kernel
theorem dX9_isTemplate_13 : decode cX9_isTemplate 13 = .ok (.iload_n 1, 1) := by decide +kernel
theorem dX9_isTemplate_14 : decode cX9_isTemplate 14 = .ok (.invokestatic 111, 3) := by decide +kernel
theorem dX9_isTemplate_17 : decode cX9_isTemplate 17 = .ok (.iconst 1, 1) := by decide +kernel
theorem dX9_isTemplate_18 : decode cX9_isTemplate 18 = .ok (.isub, 1) := by decide +kernel
theorem dX9_isTemplate_19 : decode cX9_isTemplate 19 = .ok (.istore 4, 2) := by decide +kernel
theorem dX9_isTemplate_21 : decode cX9_isTemplate 21 = .ok (.iload_n 2, 1) := by decide +kernel
theorem dX9_isTemplate_22 : decode cX9_isTemplate 22 = .ok (.istore 5, 2) := by decide +kernel
theorem dX9_isTemplate_24 : decode cX9_isTemplate 24 = .ok (.iload 5, 2) := by decide +kernel
theorem dX9_isTemplate_26 : decode cX9_isTemplate 26 = .ok (.iload_n 3, 1) := by decide +kernel
theorem dX9_isTemplate_27 : decode cX9_isTemplate 27 = .ok (.if_icmp .ge 76, 3) := by decide +kernel
theorem dX9_isTemplate_30 : decode cX9_isTemplate 30 = .ok (.aload_n 0, 1) := by decide +kernel
theorem dX9_isTemplate_31 : decode cX9_isTemplate 31 = .ok (.getfield 19, 3) := by decide +kernel
theorem dX9_isTemplate_34 : decode cX9_isTemplate 34 = .ok (.iload 5, 2) := by decide +kernel
theorem dX9_isTemplate_36 : decode cX9_isTemplate 36 = .ok (.invokestatic 107, 3) := by decide +kernel
theorem dX9_isTemplate_39 : decode cX9_isTemplate 39 = .ok (.iconst 3, 1) := by decide +kernel
theorem dX9_isTemplate_40 : decode cX9_isTemplate 40 = .ok (.if_icmp .ne 25, 3) := by decide +kernel
theorem dX9_isTemplate_43 : decode cX9_isTemplate 43 = .ok (.aload_n 0, 1) := by decide +kernel
theorem dX9_isTemplate_44 : decode cX9_isTemplate 44 = .ok (.iload_n 1, 1) := by decide +kernel
theorem dX9_isTemplate_45 : decode cX9_isTemplate 45 = .ok (.aload_n 0, 1) := by decide +kernel
theorem dX9_isTemplate_46 : decode cX9_isTemplate 46 = .ok (.getfield 19, 3) := by decide +kernel
theorem dX9_isTemplate_49 : decode cX9_isTemplate 49 = .ok (.iload 5, 2) := by decide +kernel
theorem dX9_isTemplate_51 : decode cX9_isTemplate 51 = .ok (.iaload, 1) := by decide +kernel
theorem dX9_isTemplate_52 : decode cX9_isTemplate 52 = .ok (.aload_n 0, 1) := by decide +kernel
theorem dX9_isTemplate_53 : decode cX9_isTemplate 53 = .ok (.getfield 22, 3) := by decide +kernel
theorem dX9_isTemplate_56 : decode cX9_isTemplate 56 = .ok (.iload 5, 2) := by decide +kernel
theorem dX9_isTemplate_58 : decode cX9_isTemplate 58 = .ok (.iaload, 1) := by decide +kernel
theorem dX9_isTemplate_59 : decode cX9_isTemplate 59 = .ok (.invokevirtual 124, 3) := by decide +kernel
theorem dX9_isTemplate_62 : decode cX9_isTemplate 62 = .ok (.goto 4, 3) := by decide +kernel
theorem dX9_isTemplate_65 : decode cX9_isTemplate 65 = .ok (.iconst (-1), 1) := by decide +kernel
theorem dX9_isTemplate_66 : decode cX9_isTemplate 66 = .ok (.istore 6, 2) := by decide +kernel
theorem dX9_isTemplate_68 : decode cX9_isTemplate 68 = .ok (.iload 6, 2) := by decide +kernel
theorem dX9_isTemplate_70 : decode cX9_isTemplate 70 = .ok (.ifCond .lt 27, 3) := by decide +kernel
theorem dX9_isTemplate_73 : decode cX9_isTemplate 73 = .ok (.aload_n 0, 1) := by decide +kernel
theorem dX9_isTemplate_74 : decode cX9_isTemplate 74 = .ok (.iload_n 2, 1) := by decide +kernel
theorem dX9_isTemplate_75 : decode cX9_isTemplate 75 = .ok (.iload_n 3, 1) := by decide +kernel
theorem dX9_isTemplate_76 : decode cX9_isTemplate 76 = .ok (.iload 5, 2) := by decide +kernel
theorem dX9_isTemplate_78 : decode cX9_isTemplate 78 = .ok (.invokevirtual 120, 3) := by decide +kernel
theorem dX9_isTemplate_81 : decode cX9_isTemplate 81 = .ok (.aload_n 0, 1) := by decide +kernel
theorem dX9_isTemplate_82 : decode cX9_isTemplate 82 = .ok (.iload_n 1, 1) := by decide +kernel
theorem dX9_isTemplate_83 : decode cX9_isTemplate 83 = .ok (.iconst 1, 1) := by decide +kernel
theorem dX9_isTemplate_84 : decode cX9_isTemplate 84 = .ok (.iadd, 1) := by decide +kernel
theorem dX9_isTemplate_85 : decode cX9_isTemplate 85 = .ok (.iload 4, 2) := by decide +kernel
theorem dX9_isTemplate_87 : decode cX9_isTemplate 87 = .ok (.iload 6, 2) := by decide +kernel
theorem dX9_isTemplate_89 : decode cX9_isTemplate 89 = .ok (.invokevirtual 120, 3) := by decide +kernel
theorem dX9_isTemplate_92 : decode cX9_isTemplate 92 = .ok (.if_icmp .eq 5, 3) := by decide +kernel
theorem dX9_isTemplate_95 : decode cX9_isTemplate 95 = .ok (.iconst 0, 1) := by decide +kernel
theorem dX9_isTemplate_96 : decode cX9_isTemplate 96 = .ok (.ireturn, 1) := by decide +kernel
theorem dX9_isTemplate_97 : decode cX9_isTemplate 97 = .ok (.iinc 5 1, 3) := by decide +kernel
theorem dX9_isTemplate_100 : decode cX9_isTemplate 100 = .ok (.goto (-76), 3) := by decide +kernel
theorem dX9_isTemplate_103 : decode cX9_isTemplate 103 = .ok (.iload_n 2, 1) := by decide +kernel
theorem dX9_isTemplate_104 : decode cX9_isTemplate 104 = .ok (.istore 5, 2) := by decide +kernel
theorem dX9_isTemplate_106 : decode cX9_isTemplate 106 = .ok (.iload 5, 2) := by decide +kernel
theorem dX9_isTemplate_108 : decode cX9_isTemplate 108 = .ok (.iload_n 3, 1) := by decide +kernel
theorem dX9_isTemplate_109 : decode cX9_isTemplate 109 = .ok (.if_icmp .ge 82, 3) := by decide +kernel
theorem dX9_isTemplate_112 : decode cX9_isTemplate 112 = .ok (.aload_n 0, 1) := by decide +kernel
theorem dX9_isTemplate_113 : decode cX9_isTemplate 113 = .ok (.getfield 19, 3) := by decide +kernel
theorem dX9_isTemplate_116 : decode cX9_isTemplate 116 = .ok (.iload 5, 2) := by decide +kernel
theorem dX9_isTemplate_118 : decode cX9_isTemplate 118 = .ok (.invokestatic 107, 3) := by decide +kernel
theorem dX9_isTemplate_121 : decode cX9_isTemplate 121 = .ok (.istore 6, 2) := by decide +kernel
theorem dX9_isTemplate_123 : decode cX9_isTemplate 123 = .ok (.iload 6, 2) := by decide +kernel
theorem dX9_isTemplate_125 : decode cX9_isTemplate 125 = .ok (.iconst 2, 1) := by decide +kernel
theorem dX9_isTemplate_126 : decode cX9_isTemplate 126 = .ok (.if_icmp .eq 10, 3) := by decide +kernel
theorem dX9_isTemplate_129 : decode cX9_isTemplate 129 = .ok (.iload 6, 2) := by decide +kernel
theorem dX9_isTemplate_131 : decode cX9_isTemplate 131 = .ok (.bipush 6, 2) := by decide +kernel
theorem dX9_isTemplate_133 : decode cX9_isTemplate 133 = .ok (.if_icmp .ne 7, 3) := by decide +kernel
theorem dX9_isTemplate_136 : decode cX9_isTemplate 136 = .ok (.iload_n 3, 1) := by decide +kernel
theorem dX9_isTemplate_137 : decode cX9_isTemplate 137 = .ok (.goto 12, 3) := by decide +kernel
theorem dX9_isTemplate_140 : decode cX9_isTemplate 140 = .ok (.aload_n 0, 1) := by decide +kernel
theorem dX9_isTemplate_141 : decode cX9_isTemplate 141 = .ok (.getfield 19, 3) := by decide +kernel
theorem dX9_isTemplate_144 : decode cX9_isTemplate 144 = .ok (.iload 5, 2) := by decide +kernel
theorem dX9_isTemplate_146 : decode cX9_isTemplate 146 = .ok (.invokestatic 111, 3) := by decide +kernel
theorem dX9_isTemplate_149 : decode cX9_isTemplate 149 = .ok (.istore 7, 2) := by decide +kernel
theorem dX9_isTemplate_151 : decode cX9_isTemplate 151 = .ok (.iload 7, 2) := by decide +kernel
theorem dX9_isTemplate_153 : decode cX9_isTemplate 153 = .ok (.iload_n 3, 1) := by decide +kernel
theorem dX9_isTemplate_154 : decode cX9_isTemplate 154 = .ok (.if_icmp .ge 31, 3) := by decide +kernel
theorem dX9_isTemplate_157 : decode cX9_isTemplate 157 = .ok (.aload_n 0, 1) := by decide +kernel
theorem dX9_isTemplate_158 : decode cX9_isTemplate 158 = .ok (.getfield 19, 3) := by decide +kernel
theorem dX9_isTemplate_161 : decode cX9_isTemplate 161 = .ok (.iload 7, 2) := by decide +kernel
theorem dX9_isTemplate_163 : decode cX9_isTemplate 163 = .ok (.invokestatic 107, 3) := by decide +kernel
theorem dX9_isTemplate_166 : decode cX9_isTemplate 166 = .ok (.bipush 6, 2) := by decide +kernel
theorem dX9_isTemplate_168 : decode cX9_isTemplate 168 = .ok (.if_icmp .ne 17, 3) := by decide +kernel
theorem dX9_isTemplate_171 : decode cX9_isTemplate 171 = .ok (.aload_n 0, 1) := by decide +kernel
theorem dX9_isTemplate_172 : decode cX9_isTemplate 172 = .ok (.iload_n 1, 1) := by decide +kernel
theorem dX9_isTemplate_173 : decode cX9_isTemplate 173 = .ok (.iload 5, 2) := by decide +kernel
theorem dX9_isTemplate_175 : decode cX9_isTemplate 175 = .ok (.iload 7, 2) := by decide +kernel
theorem dX9_isTemplate_177 : decode cX9_isTemplate 177 = .ok (.invokevirtual 127, 3) := by decide +kernel
theorem dX9_isTemplate_180 : decode cX9_isTemplate 180 = .ok (.ifCond .ne 5, 3) := by decide +kernel
theorem dX9_isTemplate_183 : decode cX9_isTemplate 183 = .ok (.iconst 0, 1) := by decide +kernel
theorem dX9_isTemplate_184 : decode cX9_isTemplate 184 = .ok (.ireturn, 1) := by decide +kernel
theorem dX9_isTemplate_185 : decode cX9_isTemplate 185 = .ok (.iinc 5 1, 3) := by decide +kernel
theorem dX9_isTemplate_188 : decode cX9_isTemplate 188 = .ok (.goto (-82), 3) := by decide +kernel
theorem dX9_isTemplate_191 : decode cX9_isTemplate 191 = .ok (.iconst 1, 1) := by decide +kernel
theorem dX9_isTemplate_192 : decode cX9_isTemplate 192 = .ok (.ireturn, 1) := by decide +kernel
set_option maxRecDepth 20000 in
theorem ggX9_uses_X9_kind : GoodIn wsX9_uses wsX9_kind := goodIn_r _ [6, 7] (by decide +kernel) (by decide +kernel)
set_option maxRecDepth 20000 in
theorem gX9_uses_X9_kind : GoodIn wsX9_uses (va_wsS RX9 107 yX9_kind wsX9_kind) := goodIn_app (goodIn_of _ (by decide +kernel)) ggX9_uses_X9_kind
set_option maxRecDepth 20000 in
theorem ggX9_uses_X9_variable : GoodIn wsX9_uses wsX9_variable := goodIn_r _ [11, 1, 2, 12, 13, 5, 14, 3, 4, 6, 7, 15, 16, 17, 18, 19, 20, 21, 22, 23, 24, 25, 26, 27, 28, 29, 30, 31, 32, 33, 34, 35, 36, 37, 38, 39, 40, 41, 42, 43, 44, 45, 46, 47, 48, 49, 50] (by decide +kernel) (by decide +kernel)
set_option maxRecDepth 20000 in
theorem gX9_uses_X9_variable : GoodIn wsX9_uses (wsV RX9 124 RX9 yX9_variable wsX9_variable) := goodIn_app (goodIn_of _ (by decide +kernel)) ggX9_uses_X9_variable
theorem dX9_uses_0 : decode cX9_uses 0 = .ok (.iconst 0, 1) := by decide +kernel
theorem dX9_uses_1 : decode cX9_uses 1 = .ok (.istore 4, 2) := by decide +kernel
theorem dX9_uses_3 : decode cX9_uses 3 = .ok (.iload_n 2, 1) := by decide +kernel
theorem dX9_uses_4 : decode cX9_uses 4 = .ok (.istore 5, 2) := by decide +kernel
theorem dX9_uses_6 : decode cX9_uses 6 = .ok (.iload 5, 2) := by decide +kernel
theorem dX9_uses_8 : decode cX9_uses 8 = .ok (.iload_n 3, 1) := by decide +kernel
theorem dX9_uses_9 : decode cX9_uses 9 = .ok (.if_icmp .ge 55, 3) := by decide +kernel
theorem dX9_uses_12 : decode cX9_uses 12 = .ok (.aload_n 0, 1) := by decide +kernel
theorem dX9_uses_13 : decode cX9_uses 13 = .ok (.getfield 19, 3) := by decide +kernel
theorem dX9_uses_16 : decode cX9_uses 16 = .ok (.iload 5, 2) := by decide +kernel
theorem dX9_uses_18 : decode cX9_uses 18 = .ok (.invokestatic 107, 3) := by decide +kernel
theorem dX9_uses_21 : decode cX9_uses 21 = .ok (.iconst 3, 1) := by decide +kernel
theorem dX9_uses_22 : decode cX9_uses 22 = .ok (.if_icmp .ne 32, 3) := by decide +kernel
theorem dX9_uses_25 : decode cX9_uses 25 = .ok (.aload_n 0, 1) := by decide +kernel
theorem dX9_uses_26 : decode cX9_uses 26 = .ok (.iload_n 1, 1) := by decide +kernel
theorem dX9_uses_27 : decode cX9_uses 27 = .ok (.aload_n 0, 1) := by decide +kernel
theorem dX9_uses_28 : decode cX9_uses 28 = .ok (.getfield 19, 3) := by decide +kernel
theorem dX9_uses_31 : decode cX9_uses 31 = .ok (.iload 5, 2) := by decide +kernel
theorem dX9_uses_33 : decode cX9_uses 33 = .ok (.iaload, 1) := by decide +kernel
theorem dX9_uses_34 : decode cX9_uses 34 = .ok (.aload_n 0, 1) := by decide +kernel
theorem dX9_uses_35 : decode cX9_uses 35 = .ok (.getfield 22, 3) := by decide +kernel
theorem dX9_uses_38 : decode cX9_uses 38 = .ok (.iload 5, 2) := by decide +kernel
theorem dX9_uses_40 : decode cX9_uses 40 = .ok (.iaload, 1) := by decide +kernel
theorem dX9_uses_41 : decode cX9_uses 41 = .ok (.invokevirtual 124, 3) := by decide +kernel
theorem dX9_uses_44 : decode cX9_uses 44 = .ok (.ifCond .lt 10, 3) := by decide +kernel
theorem dX9_uses_47 : decode cX9_uses 47 = .ok (.iload 4, 2) := by decide +kernel
theorem dX9_uses_49 : decode cX9_uses 49 = .ok (.iconst 1, 1) := by decide +kernel
theorem dX9_uses_50 : decode cX9_uses 50 = .ok (.iadd, 1) := by decide +kernel
theorem dX9_uses_51 : decode cX9_uses 51 = .ok (.goto 5, 3) := by decide +kernel
theorem dX9_uses_54 : decode cX9_uses 54 = .ok (.iload 4, 2) := by decide +kernel
theorem dX9_uses_56 : decode cX9_uses 56 = .ok (.istore 4, 2) := by decide +kernel
theorem dX9_uses_58 : decode cX9_uses 58 = .ok (.iinc 5 1, 3) := by decide +kernel
theorem dX9_uses_61 : decode cX9_uses 61 = .ok (.goto (-55), 3) := by decide +kernel
theorem dX9_uses_64 : decode cX9_uses 64 = .ok (.iload 4, 2) := by decide +kernel
theorem dX9_uses_66 : decode cX9_uses 66 = .ok (.ireturn, 1) := by decide +kernel
set_option maxRecDepth 20000 in
theorem ggX9_areRules_X9_kind : GoodIn wsX9_areRules wsX9_kind := goodIn_r _ [5, 6] (by decide +kernel) (by decide +kernel)
set_option maxRecDepth 20000 in
theorem gX9_areRules_X9_kind : GoodIn wsX9_areRules (va_wsS RX9 107 yX9_kind wsX9_kind) := goodIn_app (goodIn_of _ (by decide +kernel)) ggX9_areRules_X9_kind
set_option maxRecDepth 20000 in
theorem ggX9_areRules_X9_isPlain : GoodIn wsX9_areRules wsX9_isPlain := goodIn_r _ [9, 2, 3, 4, 5, 6, 10, 11, 12, 13, 14, 15, 16, 17, 18] (by decide +kernel) (by decide +kernel)
set_option maxRecDepth 20000 in
theorem gX9_areRules_X9_isPlain : GoodIn wsX9_areRules (va_wsS RX9 130 yX9_isPlain wsX9_isPlain) := goodIn_app (goodIn_of _ (by decide +kernel)) ggX9_areRules_X9_isPlain
set_option maxRecDepth 100000 in
theorem gpX9_areRules_X9_isPattern_0 : GoodIn wsX9_areRules ([.fieldLink RX9 19 "MarkedNamesModel" "kept" "[I", .fieldLink RX9 22 "MarkedNamesModel" "keptSet" "[I", .methodLink RX9 107 yX9_kind, .static yX9_kind, .initialized RX9, .code yX9_kind cX9_kind 2 (some .int), .constant RX9 88 (65536), .methodLink RX9 114 yX9_count, .static yX9_count, .code yX9_count cX9_count 5 (some .int), .methodLink RX9 111 yX9_end, .static yX9_end, .code yX9_end cX9_end 5 (some .int), .methodLink RX9 120 yX9_heldBy, .instanceMethod yX9_heldBy, .selects RX9 yX9_heldBy yX9_heldBy, .code yX9_heldBy cX9_heldBy 8 (some .int), .methodLink RX9 124 yX9_variable, .instanceMethod yX9_variable, .selects RX9 yX9_variable yX9_variable, .code yX9_variable cX9_variable 6 (some .int)] : List Cond) := goodIn_r _ [1, 23, 2, 3, 4, 5, 6, 10, 11, 12, 13, 14, 15, 24, 25, 26, 27, 28, 29, 30, 31] (by decide +kernel) (by decide +kernel)
set_option maxRecDepth 100000 in
theorem gpX9_areRules_X9_isPattern_1 : GoodIn wsX9_areRules wsX90 := goodIn_r _ [40, 41, 42, 43, 44, 45, 46, 47, 48, 49, 50, 51, 52, 53, 54, 55, 56, 57, 58, 59, 60, 61, 62, 63, 64, 65, 66, 67, 68, 69, 70, 71, 72, 73, 74, 75] (by decide +kernel) (by decide +kernel)
set_option maxRecDepth 100000 in
theorem gpX9_areRules_X9_isPattern_c : GoodIn wsX9_areRules [Cond.code yX9_isPattern cX9_isPattern 6 (some .boolean)] := goodIn_r _ [22] (by decide +kernel) (by decide +kernel)
theorem ggX9_areRules_X9_isPattern : GoodIn wsX9_areRules wsX9_isPattern := goodIn_cons2 gpX9_areRules_X9_isPattern_c (goodIn_app gpX9_areRules_X9_isPattern_0 gpX9_areRules_X9_isPattern_1)
set_option maxRecDepth 20000 in
theorem gX9_areRules_X9_isPattern : GoodIn wsX9_areRules (wsV RX9 134 RX9 yX9_isPattern wsX9_isPattern) := goodIn_app (goodIn_of _ (by decide +kernel)) ggX9_areRules_X9_isPattern
set_option maxRecDepth 20000 in
theorem ggX9_areRules_X9_end : GoodIn wsX9_areRules wsX9_end := goodIn_r _ [15, 2, 3, 4, 5, 6] (by decide +kernel) (by decide +kernel)
set_option maxRecDepth 20000 in
theorem gX9_areRules_X9_end : GoodIn wsX9_areRules (va_wsS RX9 111 yX9_end wsX9_end) := goodIn_app (goodIn_of _ (by decide +kernel)) ggX9_areRules_X9_end
set_option maxRecDepth 100000 in
theorem gpX9_areRules_X9_isTemplate_0 : GoodIn wsX9_areRules ([.fieldLink RX9 19 "MarkedNamesModel" "kept" "[I", .fieldLink RX9 22 "MarkedNamesModel" "keptSet" "[I", .methodLink RX9 111 yX9_end, .static yX9_end, .initialized RX9, .code yX9_end cX9_end 5 (some .int), .methodLink RX9 107 yX9_kind, .static yX9_kind, .code yX9_kind cX9_kind 2 (some .int), .constant RX9 88 (65536), .methodLink RX9 124 yX9_variable, .instanceMethod yX9_variable, .selects RX9 yX9_variable yX9_variable, .code yX9_variable cX9_variable 6 (some .int), .methodLink RX9 120 yX9_heldBy, .instanceMethod yX9_heldBy, .selects RX9 yX9_heldBy yX9_heldBy, .code yX9_heldBy cX9_heldBy 8 (some .int), .methodLink RX9 127 yX9_uses, .instanceMethod yX9_uses, .selects RX9 yX9_uses yX9_uses, .code yX9_uses cX9_uses 6 (some .int)] : List Cond) := goodIn_r _ [1, 23, 13, 14, 4, 15, 2, 3, 5, 6, 28, 29, 30, 31, 24, 25, 26, 27, 36, 37, 38, 39] (by decide +kernel) (by decide +kernel)
set_option maxRecDepth 100000 in
theorem gpX9_areRules_X9_isTemplate_1 : GoodIn wsX9_areRules wsX90 := goodIn_r _ [40, 41, 42, 43, 44, 45, 46, 47, 48, 49, 50, 51, 52, 53, 54, 55, 56, 57, 58, 59, 60, 61, 62, 63, 64, 65, 66, 67, 68, 69, 70, 71, 72, 73, 74, 75] (by decide +kernel) (by decide +kernel)
set_option maxRecDepth 100000 in
theorem gpX9_areRules_X9_isTemplate_c : GoodIn wsX9_areRules [Cond.code yX9_isTemplate cX9_isTemplate 8 (some .boolean)] := goodIn_r _ [35] (by decide +kernel) (by decide +kernel)
theorem ggX9_areRules_X9_isTemplate : GoodIn wsX9_areRules wsX9_isTemplate := goodIn_cons2 gpX9_areRules_X9_isTemplate_c (goodIn_app gpX9_areRules_X9_isTemplate_0 gpX9_areRules_X9_isTemplate_1)
set_option maxRecDepth 20000 in
theorem gX9_areRules_X9_isTemplate : GoodIn wsX9_areRules (wsV RX9 137 RX9 yX9_isTemplate wsX9_isTemplate) := goodIn_app (goodIn_of _ (by decide +kernel)) ggX9_areRules_X9_isTemplate
theorem dX9_areRules_0 : decode cX9_areRules 0 = .ok (.iload_n 1, 1) := by decide +kernel
theorem dX9_areRules_1 : decode cX9_areRules 1 = .ok (.istore_n 3, 1) := by decide +kernel
theorem dX9_areRules_2 : decode cX9_areRules 2 = .ok (.iload_n 3, 1) := by decide +kernel
theorem dX9_areRules_3 : decode cX9_areRules 3 = .ok (.iload_n 2, 1) := by decide +kernel
theorem dX9_areRules_4 : decode cX9_areRules 4 = .ok (.if_icmp .ge 72, 3) := by decide +kernel
theorem dX9_areRules_7 : decode cX9_areRules 7 = .ok (.aload_n 0, 1) := by decide +kernel
theorem dX9_areRules_8 : decode cX9_areRules 8 = .ok (.getfield 19, 3) := by decide +kernel
theorem dX9_areRules_11 : decode cX9_areRules 11 = .ok (.iload_n 3, 1) := by decide +kernel
theorem dX9_areRules_12 : decode cX9_areRules 12 = .ok (.invokestatic 107, 3) := by decide +kernel
theorem dX9_areRules_15 : decode cX9_areRules 15 = .ok (.bipush 6, 2) := by decide +kernel
theorem dX9_areRules_17 : decode cX9_areRules 17 = .ok (.if_icmp .eq 45, 3) := by decide +kernel
theorem dX9_areRules_20 : decode cX9_areRules 20 = .ok (.aload_n 0, 1) := by decide +kernel
theorem dX9_areRules_21 : decode cX9_areRules 21 = .ok (.getfield 19, 3) := by decide +kernel
theorem dX9_areRules_24 : decode cX9_areRules 24 = .ok (.iload_n 3, 1) := by decide +kernel
theorem dX9_areRules_25 : decode cX9_areRules 25 = .ok (.iconst 2, 1) := by decide +kernel
theorem dX9_areRules_26 : decode cX9_areRules 26 = .ok (.invokestatic 130, 3) := by decide +kernel
theorem dX9_areRules_29 : decode cX9_areRules 29 = .ok (.ifCond .eq 33, 3) := by decide +kernel
theorem dX9_areRules_32 : decode cX9_areRules 32 = .ok (.aload_n 0, 1) := by decide +kernel
theorem dX9_areRules_33 : decode cX9_areRules 33 = .ok (.iload_n 3, 1) := by decide +kernel
theorem dX9_areRules_34 : decode cX9_areRules 34 = .ok (.iconst 1, 1) := by decide +kernel
theorem dX9_areRules_35 : decode cX9_areRules 35 = .ok (.iadd, 1) := by decide +kernel
theorem dX9_areRules_36 : decode cX9_areRules 36 = .ok (.invokevirtual 134, 3) := by decide +kernel
theorem dX9_areRules_39 : decode cX9_areRules 39 = .ok (.ifCond .eq 23, 3) := by decide +kernel
theorem dX9_areRules_42 : decode cX9_areRules 42 = .ok (.aload_n 0, 1) := by decide +kernel
theorem dX9_areRules_43 : decode cX9_areRules 43 = .ok (.iload_n 3, 1) := by decide +kernel
theorem dX9_areRules_44 : decode cX9_areRules 44 = .ok (.iconst 1, 1) := by decide +kernel
theorem dX9_areRules_45 : decode cX9_areRules 45 = .ok (.iadd, 1) := by decide +kernel
theorem dX9_areRules_46 : decode cX9_areRules 46 = .ok (.aload_n 0, 1) := by decide +kernel
theorem dX9_areRules_47 : decode cX9_areRules 47 = .ok (.getfield 19, 3) := by decide +kernel
theorem dX9_areRules_50 : decode cX9_areRules 50 = .ok (.iload_n 3, 1) := by decide +kernel
theorem dX9_areRules_51 : decode cX9_areRules 51 = .ok (.iconst 1, 1) := by decide +kernel
theorem dX9_areRules_52 : decode cX9_areRules 52 = .ok (.iadd, 1) := by decide +kernel
theorem dX9_areRules_53 : decode cX9_areRules 53 = .ok (.invokestatic 111, 3) := by decide +kernel
theorem dX9_areRules_56 : decode cX9_areRules 56 = .ok (.invokevirtual 137, 3) := by decide +kernel
theorem dX9_areRules_59 : decode cX9_areRules 59 = .ok (.ifCond .ne 5, 3) := by decide +kernel
theorem dX9_areRules_62 : decode cX9_areRules 62 = .ok (.iconst 0, 1) := by decide +kernel
theorem dX9_areRules_63 : decode cX9_areRules 63 = .ok (.ireturn, 1) := by decide +kernel
theorem dX9_areRules_64 : decode cX9_areRules 64 = .ok (.aload_n 0, 1) := by decide +kernel
theorem dX9_areRules_65 : decode cX9_areRules 65 = .ok (.getfield 19, 3) := by decide +kernel
theorem dX9_areRules_68 : decode cX9_areRules 68 = .ok (.iload_n 3, 1) := by decide +kernel
theorem dX9_areRules_69 : decode cX9_areRules 69 = .ok (.invokestatic 111, 3) := by decide +kernel
theorem dX9_areRules_72 : decode cX9_areRules 72 = .ok (.istore_n 3, 1) := by decide +kernel
theorem dX9_areRules_73 : decode cX9_areRules 73 = .ok (.goto (-71), 3) := by decide +kernel
theorem dX9_areRules_76 : decode cX9_areRules 76 = .ok (.iconst 1, 1) := by decide +kernel
theorem dX9_areRules_77 : decode cX9_areRules 77 = .ok (.ireturn, 1) := by decide +kernel
theorem dX9_core_0 : decode cX9_core 0 = .ok (.iload_n 0, 1) := by decide +kernel
theorem dX9_core_1 : decode cX9_core 1 = .ok (.sipush 206, 3) := by decide +kernel
theorem dX9_core_4 : decode cX9_core 4 = .ok (.if_icmp .ne 5, 3) := by decide +kernel
theorem dX9_core_7 : decode cX9_core 7 = .ok (.iconst 0, 1) := by decide +kernel
theorem dX9_core_8 : decode cX9_core 8 = .ok (.ireturn, 1) := by decide +kernel
theorem dX9_core_9 : decode cX9_core 9 = .ok (.iload_n 0, 1) := by decide +kernel
theorem dX9_core_10 : decode cX9_core 10 = .ok (.sipush 294, 3) := by decide +kernel
theorem dX9_core_13 : decode cX9_core 13 = .ok (.if_icmp .ne 5, 3) := by decide +kernel
theorem dX9_core_16 : decode cX9_core 16 = .ok (.iconst 1, 1) := by decide +kernel
theorem dX9_core_17 : decode cX9_core 17 = .ok (.ireturn, 1) := by decide +kernel
theorem dX9_core_18 : decode cX9_core 18 = .ok (.iload_n 0, 1) := by decide +kernel
theorem dX9_core_19 : decode cX9_core 19 = .ok (.bipush 17, 2) := by decide +kernel
theorem dX9_core_21 : decode cX9_core 21 = .ok (.if_icmp .ne 5, 3) := by decide +kernel
theorem dX9_core_24 : decode cX9_core 24 = .ok (.iconst 2, 1) := by decide +kernel
theorem dX9_core_25 : decode cX9_core 25 = .ok (.ireturn, 1) := by decide +kernel
theorem dX9_core_26 : decode cX9_core 26 = .ok (.iload_n 0, 1) := by decide +kernel
theorem dX9_core_27 : decode cX9_core 27 = .ok (.sipush 403, 3) := by decide +kernel
theorem dX9_core_30 : decode cX9_core 30 = .ok (.if_icmp .ne 7, 3) := by decide +kernel
theorem dX9_core_33 : decode cX9_core 33 = .ok (.iconst 3, 1) := by decide +kernel
theorem dX9_core_34 : decode cX9_core 34 = .ok (.goto 4, 3) := by decide +kernel
theorem dX9_core_37 : decode cX9_core 37 = .ok (.iconst (-1), 1) := by decide +kernel
theorem dX9_core_38 : decode cX9_core 38 = .ok (.ireturn, 1) := by decide +kernel
set_option maxRecDepth 100000 in
theorem gpX9_rules_X9_read_0 : GoodIn wsX9_rules wsX9_read_r1 := goodIn_r _ [1, 13, 2, 3, 14, 15, 16, 17, 11, 18, 19, 20, 21, 22, 23, 24, 25, 26, 27, 28, 29, 30, 31, 32] (by decide +kernel) (by decide +kernel)
set_option maxRecDepth 100000 in
theorem gpX9_rules_X9_read_1 : GoodIn wsX9_rules wsX9_read_r2 := goodIn_r _ [33, 34, 35, 36, 37, 38, 39, 40, 4, 41, 42, 43] (by decide +kernel) (by decide +kernel)
set_option maxRecDepth 100000 in
theorem gpX9_rules_X9_read_2 : GoodIn wsX9_rules wsX90 := goodIn_r _ [95, 96, 97, 98, 99, 100, 101, 102, 103, 104, 105, 106, 107, 108, 109, 110, 111, 112, 113, 114, 115, 116, 117, 118, 119, 120, 121, 122, 123, 124, 125, 126, 127, 128, 129, 130] (by decide +kernel) (by decide +kernel)
set_option maxRecDepth 100000 in
theorem gpX9_rules_X9_read_c : GoodIn wsX9_rules [Cond.code yX9_read cX9_read 8 (some .int)] := goodIn_r _ [12] (by decide +kernel) (by decide +kernel)
theorem ggX9_rules_X9_read : GoodIn wsX9_rules wsX9_read := goodIn_cons2 gpX9_rules_X9_read_c (goodIn_app (goodIn_app gpX9_rules_X9_read_0 gpX9_rules_X9_read_1) gpX9_rules_X9_read_2)
set_option maxRecDepth 20000 in
theorem gX9_rules_X9_read : GoodIn wsX9_rules (wsV RX9 141 RX9 yX9_read wsX9_read) := goodIn_app (goodIn_of _ (by decide +kernel)) ggX9_rules_X9_read
set_option maxRecDepth 20000 in
theorem ggX9_rules_X9_kind : GoodIn wsX9_rules wsX9_kind := goodIn_r _ [46, 13] (by decide +kernel) (by decide +kernel)
set_option maxRecDepth 20000 in
theorem gX9_rules_X9_kind : GoodIn wsX9_rules (va_wsS RX9 107 yX9_kind wsX9_kind) := goodIn_app (goodIn_of _ (by decide +kernel)) ggX9_rules_X9_kind
set_option maxRecDepth 20000 in
theorem ggX9_rules_X9_dots : GoodIn wsX9_rules wsX9_dots := goodIn_r _ [49, 44, 45, 11, 46, 13, 50, 51, 52] (by decide +kernel) (by decide +kernel)
set_option maxRecDepth 20000 in
theorem gX9_rules_X9_dots : GoodIn wsX9_rules (va_wsS RX9 117 yX9_dots wsX9_dots) := goodIn_app (goodIn_of _ (by decide +kernel)) ggX9_rules_X9_dots
set_option maxRecDepth 20000 in
theorem ggX9_rules_X9_keep : GoodIn wsX9_rules wsX9_keep := goodIn_r _ [56, 57, 2, 58, 14, 95, 96, 97, 98, 99, 100, 101, 102, 103, 104, 105, 106, 107, 108, 109, 110, 111, 112, 113, 114, 115, 116, 117, 118, 119, 120, 121, 122, 123, 124, 125, 126, 127, 128, 129, 130] (by decide +kernel) (by decide +kernel)
set_option maxRecDepth 20000 in
theorem gX9_rules_X9_keep : GoodIn wsX9_rules (wsV RX9 145 RX9 yX9_keep wsX9_keep) := goodIn_app (goodIn_of _ (by decide +kernel)) ggX9_rules_X9_keep
set_option maxRecDepth 100000 in
theorem gpX9_rules_X9_areRules_0 : GoodIn wsX9_rules wsX9_areRules_r1 := goodIn_r _ [57, 44, 45, 11, 46, 13, 63, 64, 65, 66, 67, 68, 50, 51, 52, 47, 48, 49, 69, 70, 71, 72, 58, 73] (by decide +kernel) (by decide +kernel)
set_option maxRecDepth 100000 in
theorem gpX9_rules_X9_areRules_1 : GoodIn wsX9_rules wsX9_areRules_r2 := goodIn_r _ [74, 75, 76, 77, 78, 79, 80, 81, 82, 83, 84, 85, 86, 87, 88] (by decide +kernel) (by decide +kernel)
set_option maxRecDepth 100000 in
theorem gpX9_rules_X9_areRules_2 : GoodIn wsX9_rules wsX90 := goodIn_r _ [95, 96, 97, 98, 99, 100, 101, 102, 103, 104, 105, 106, 107, 108, 109, 110, 111, 112, 113, 114, 115, 116, 117, 118, 119, 120, 121, 122, 123, 124, 125, 126, 127, 128, 129, 130] (by decide +kernel) (by decide +kernel)
set_option maxRecDepth 100000 in
theorem gpX9_rules_X9_areRules_c : GoodIn wsX9_rules [Cond.code yX9_areRules cX9_areRules 4 (some .boolean)] := goodIn_r _ [62] (by decide +kernel) (by decide +kernel)
theorem ggX9_rules_X9_areRules : GoodIn wsX9_rules wsX9_areRules := goodIn_cons2 gpX9_rules_X9_areRules_c (goodIn_app (goodIn_app gpX9_rules_X9_areRules_0 gpX9_rules_X9_areRules_1) gpX9_rules_X9_areRules_2)
set_option maxRecDepth 20000 in
theorem gX9_rules_X9_areRules : GoodIn wsX9_rules (wsV RX9 148 RX9 yX9_areRules wsX9_areRules) := goodIn_app (goodIn_of _ (by decide +kernel)) ggX9_rules_X9_areRules
set_option maxRecDepth 20000 in
theorem ggX9_rules_X9_what : GoodIn wsX9_rules wsX9_what := goodIn_r _ [91, 13] (by decide +kernel) (by decide +kernel)
set_option maxRecDepth 20000 in
theorem gX9_rules_X9_what : GoodIn wsX9_rules (va_wsS RX9 151 yX9_what wsX9_what) := goodIn_app (goodIn_of _ (by decide +kernel)) ggX9_rules_X9_what
set_option maxRecDepth 20000 in
theorem ggX9_rules_X9_core : GoodIn wsX9_rules wsX9_core := goodIn_r _ [94] (by decide +kernel) (by decide +kernel)
set_option maxRecDepth 20000 in
theorem gX9_rules_X9_core : GoodIn wsX9_rules (va_wsS RX9 154 yX9_core wsX9_core) := goodIn_app (goodIn_of _ (by decide +kernel)) ggX9_rules_X9_core
theorem dX9_rules_0 : decode cX9_rules 0 = .ok (.aload_n 0, 1) := by decide +kernel
theorem dX9_rules_1 : decode cX9_rules 1 = .ok (.invokevirtual 141, 3) := by decide +kernel
theorem dX9_rules_4 : decode cX9_rules 4 = .ok (.istore_n 1, 1) := by decide +kernel
theorem dX9_rules_5 : decode cX9_rules 5 = .ok (.aload_n 0, 1) := by decide +kernel
theorem dX9_rules_6 : decode cX9_rules 6 = .ok (.iconst 0, 1) := by decide +kernel
theorem dX9_rules_7 : decode cX9_rules 7 = .ok (.putfield 70, 3) := by decide +kernel
theorem dX9_rules_10 : decode cX9_rules 10 = .ok (.iload_n 1, 1) := by decide +kernel
theorem dX9_rules_11 : decode cX9_rules 11 = .ok (.ifCond .lt 7, 3) := by decide +kernel
theorem dX9_rules_14 : decode cX9_rules 14 = .ok (.iconst (-1), 1) := by decide +kernel
theorem dX9_rules_15 : decode cX9_rules 15 = .ok (.iload_n 1, 1) := by decide +kernel
theorem dX9_rules_16 : decode cX9_rules 16 = .ok (.isub, 1) := by decide +kernel
theorem dX9_rules_17 : decode cX9_rules 17 = .ok (.ireturn, 1) := by decide +kernel
theorem dX9_rules_18 : decode cX9_rules 18 = .ok (.aload_n 0, 1) := by decide +kernel
theorem dX9_rules_19 : decode cX9_rules 19 = .ok (.getfield 13, 3) := by decide +kernel
theorem dX9_rules_22 : decode cX9_rules 22 = .ok (.aload_n 0, 1) := by decide +kernel
theorem dX9_rules_23 : decode cX9_rules 23 = .ok (.getfield 104, 3) := by decide +kernel
theorem dX9_rules_26 : decode cX9_rules 26 = .ok (.invokestatic 107, 3) := by decide +kernel
theorem dX9_rules_29 : decode cX9_rules 29 = .ok (.iconst 1, 1) := by decide +kernel
theorem dX9_rules_30 : decode cX9_rules 30 = .ok (.if_icmp .ne 34, 3) := by decide +kernel
theorem dX9_rules_33 : decode cX9_rules 33 = .ok (.aload_n 0, 1) := by decide +kernel
theorem dX9_rules_34 : decode cX9_rules 34 = .ok (.getfield 13, 3) := by decide +kernel
theorem dX9_rules_37 : decode cX9_rules 37 = .ok (.aload_n 0, 1) := by decide +kernel
theorem dX9_rules_38 : decode cX9_rules 38 = .ok (.getfield 104, 3) := by decide +kernel
theorem dX9_rules_41 : decode cX9_rules 41 = .ok (.iconst 1, 1) := by decide +kernel
theorem dX9_rules_42 : decode cX9_rules 42 = .ok (.iadd, 1) := by decide +kernel
theorem dX9_rules_43 : decode cX9_rules 43 = .ok (.invokestatic 107, 3) := by decide +kernel
theorem dX9_rules_46 : decode cX9_rules 46 = .ok (.iconst 3, 1) := by decide +kernel
theorem dX9_rules_47 : decode cX9_rules 47 = .ok (.if_icmp .ne 17, 3) := by decide +kernel
theorem dX9_rules_50 : decode cX9_rules 50 = .ok (.aload_n 0, 1) := by decide +kernel
theorem dX9_rules_51 : decode cX9_rules 51 = .ok (.getfield 13, 3) := by decide +kernel
theorem dX9_rules_54 : decode cX9_rules 54 = .ok (.aload_n 0, 1) := by decide +kernel
theorem dX9_rules_55 : decode cX9_rules 55 = .ok (.getfield 104, 3) := by decide +kernel
theorem dX9_rules_58 : decode cX9_rules 58 = .ok (.invokestatic 117, 3) := by decide +kernel
theorem dX9_rules_61 : decode cX9_rules 61 = .ok (.ifCond .le 7, 3) := by decide +kernel
theorem dX9_rules_64 : decode cX9_rules 64 = .ok (.sipush (-1000), 3) := by decide +kernel
theorem dX9_rules_67 : decode cX9_rules 67 = .ok (.ireturn, 1) := by decide +kernel
theorem dX9_rules_68 : decode cX9_rules 68 = .ok (.aload_n 0, 1) := by decide +kernel
theorem dX9_rules_69 : decode cX9_rules 69 = .ok (.aload_n 0, 1) := by decide +kernel
theorem dX9_rules_70 : decode cX9_rules 70 = .ok (.getfield 104, 3) := by decide +kernel
theorem dX9_rules_73 : decode cX9_rules 73 = .ok (.iconst 2, 1) := by decide +kernel
theorem dX9_rules_74 : decode cX9_rules 74 = .ok (.iadd, 1) := by decide +kernel
theorem dX9_rules_75 : decode cX9_rules 75 = .ok (.sipush 2599, 3) := by decide +kernel
theorem dX9_rules_78 : decode cX9_rules 78 = .ok (.sipush 480, 3) := by decide +kernel
theorem dX9_rules_81 : decode cX9_rules 81 = .ok (.invokevirtual 145, 3) := by decide +kernel
theorem dX9_rules_84 : decode cX9_rules 84 = .ok (.istore_n 2, 1) := by decide +kernel
theorem dX9_rules_85 : decode cX9_rules 85 = .ok (.aload_n 0, 1) := by decide +kernel
theorem dX9_rules_86 : decode cX9_rules 86 = .ok (.sipush 480, 3) := by decide +kernel
theorem dX9_rules_89 : decode cX9_rules 89 = .ok (.iload_n 2, 1) := by decide +kernel
theorem dX9_rules_90 : decode cX9_rules 90 = .ok (.invokevirtual 148, 3) := by decide +kernel
theorem dX9_rules_93 : decode cX9_rules 93 = .ok (.ifCond .ne 7, 3) := by decide +kernel
theorem dX9_rules_96 : decode cX9_rules 96 = .ok (.sipush (-1000), 3) := by decide +kernel
theorem dX9_rules_99 : decode cX9_rules 99 = .ok (.ireturn, 1) := by decide +kernel
theorem dX9_rules_100 : decode cX9_rules 100 = .ok (.aload_n 0, 1) := by decide +kernel
theorem dX9_rules_101 : decode cX9_rules 101 = .ok (.getfield 13, 3) := by decide +kernel
theorem dX9_rules_104 : decode cX9_rules 104 = .ok (.aload_n 0, 1) := by decide +kernel
theorem dX9_rules_105 : decode cX9_rules 105 = .ok (.getfield 104, 3) := by decide +kernel
theorem dX9_rules_108 : decode cX9_rules 108 = .ok (.iconst 1, 1) := by decide +kernel
theorem dX9_rules_109 : decode cX9_rules 109 = .ok (.iadd, 1) := by decide +kernel
theorem dX9_rules_110 : decode cX9_rules 110 = .ok (.invokestatic 151, 3) := by decide +kernel
theorem dX9_rules_113 : decode cX9_rules 113 = .ok (.istore_n 3, 1) := by decide +kernel
theorem dX9_rules_114 : decode cX9_rules 114 = .ok (.iload_n 3, 1) := by decide +kernel
theorem dX9_rules_115 : decode cX9_rules 115 = .ok (.invokestatic 154, 3) := by decide +kernel
theorem dX9_rules_118 : decode cX9_rules 118 = .ok (.ifCond .ge 9, 3) := by decide +kernel
theorem dX9_rules_121 : decode cX9_rules 121 = .ok (.iload_n 3, 1) := by decide +kernel
theorem dX9_rules_122 : decode cX9_rules 122 = .ok (.ldc 92, 2) := by decide +kernel
theorem dX9_rules_124 : decode cX9_rules 124 = .ok (.if_icmp .lt 7, 3) := by decide +kernel
theorem dX9_rules_127 : decode cX9_rules 127 = .ok (.sipush (-1001), 3) := by decide +kernel
theorem dX9_rules_130 : decode cX9_rules 130 = .ok (.ireturn, 1) := by decide +kernel
theorem dX9_rules_131 : decode cX9_rules 131 = .ok (.iconst 0, 1) := by decide +kernel
theorem dX9_rules_132 : decode cX9_rules 132 = .ok (.istore 4, 2) := by decide +kernel
theorem dX9_rules_134 : decode cX9_rules 134 = .ok (.iload 4, 2) := by decide +kernel
theorem dX9_rules_136 : decode cX9_rules 136 = .ok (.aload_n 0, 1) := by decide +kernel
theorem dX9_rules_137 : decode cX9_rules 137 = .ok (.getfield 157, 3) := by decide +kernel
theorem dX9_rules_140 : decode cX9_rules 140 = .ok (.if_icmp .ge 20, 3) := by decide +kernel
theorem dX9_rules_143 : decode cX9_rules 143 = .ok (.aload_n 0, 1) := by decide +kernel
theorem dX9_rules_144 : decode cX9_rules 144 = .ok (.getfield 25, 3) := by decide +kernel
theorem dX9_rules_147 : decode cX9_rules 147 = .ok (.iload 4, 2) := by decide +kernel
theorem dX9_rules_149 : decode cX9_rules 149 = .ok (.iaload, 1) := by decide +kernel
theorem dX9_rules_150 : decode cX9_rules 150 = .ok (.iload_n 3, 1) := by decide +kernel
theorem dX9_rules_151 : decode cX9_rules 151 = .ok (.if_icmp .eq 9, 3) := by decide +kernel
theorem dX9_rules_154 : decode cX9_rules 154 = .ok (.iinc 4 1, 3) := by decide +kernel
theorem dX9_rules_157 : decode cX9_rules 157 = .ok (.goto (-23), 3) := by decide +kernel
theorem dX9_rules_160 : decode cX9_rules 160 = .ok (.iload 4, 2) := by decide +kernel
theorem dX9_rules_162 : decode cX9_rules 162 = .ok (.iconst 4, 1) := by decide +kernel
theorem dX9_rules_163 : decode cX9_rules 163 = .ok (.if_icmp .ne 7, 3) := by decide +kernel
theorem dX9_rules_166 : decode cX9_rules 166 = .ok (.sipush (-1001), 3) := by decide +kernel
theorem dX9_rules_169 : decode cX9_rules 169 = .ok (.ireturn, 1) := by decide +kernel
theorem dX9_rules_170 : decode cX9_rules 170 = .ok (.aload_n 0, 1) := by decide +kernel
theorem dX9_rules_171 : decode cX9_rules 171 = .ok (.iload 4, 2) := by decide +kernel
theorem dX9_rules_173 : decode cX9_rules 173 = .ok (.aload_n 0, 1) := by decide +kernel
theorem dX9_rules_174 : decode cX9_rules 174 = .ok (.getfield 157, 3) := by decide +kernel
theorem dX9_rules_177 : decode cX9_rules 177 = .ok (.if_icmp .ne 12, 3) := by decide +kernel
theorem dX9_rules_180 : decode cX9_rules 180 = .ok (.aload_n 0, 1) := by decide +kernel
theorem dX9_rules_181 : decode cX9_rules 181 = .ok (.getfield 157, 3) := by decide +kernel
theorem dX9_rules_184 : decode cX9_rules 184 = .ok (.iconst 1, 1) := by decide +kernel
theorem dX9_rules_185 : decode cX9_rules 185 = .ok (.iadd, 1) := by decide +kernel
theorem dX9_rules_186 : decode cX9_rules 186 = .ok (.goto 7, 3) := by decide +kernel
theorem dX9_rules_189 : decode cX9_rules 189 = .ok (.aload_n 0, 1) := by decide +kernel
theorem dX9_rules_190 : decode cX9_rules 190 = .ok (.getfield 157, 3) := by decide +kernel
theorem dX9_rules_193 : decode cX9_rules 193 = .ok (.putfield 157, 3) := by decide +kernel
theorem dX9_rules_196 : decode cX9_rules 196 = .ok (.aload_n 0, 1) := by decide +kernel
theorem dX9_rules_197 : decode cX9_rules 197 = .ok (.getfield 25, 3) := by decide +kernel
theorem dX9_rules_200 : decode cX9_rules 200 = .ok (.iload 4, 2) := by decide +kernel
theorem dX9_rules_202 : decode cX9_rules 202 = .ok (.iload_n 3, 1) := by decide +kernel
theorem dX9_rules_203 : decode cX9_rules 203 = .ok (.iastore, 1) := by decide +kernel
theorem dX9_rules_204 : decode cX9_rules 204 = .ok (.aload_n 0, 1) := by decide +kernel
theorem dX9_rules_205 : decode cX9_rules 205 = .ok (.getfield 28, 3) := by decide +kernel
theorem dX9_rules_208 : decode cX9_rules 208 = .ok (.iload 4, 2) := by decide +kernel
theorem dX9_rules_210 : decode cX9_rules 210 = .ok (.aload_n 0, 1) := by decide +kernel
theorem dX9_rules_211 : decode cX9_rules 211 = .ok (.aload_n 0, 1) := by decide +kernel
theorem dX9_rules_212 : decode cX9_rules 212 = .ok (.getfield 104, 3) := by decide +kernel
theorem dX9_rules_215 : decode cX9_rules 215 = .ok (.iconst 2, 1) := by decide +kernel
theorem dX9_rules_216 : decode cX9_rules 216 = .ok (.iadd, 1) := by decide +kernel
theorem dX9_rules_217 : decode cX9_rules 217 = .ok (.sipush 2599, 3) := by decide +kernel
theorem dX9_rules_220 : decode cX9_rules 220 = .ok (.bipush 120, 2) := by decide +kernel
theorem dX9_rules_222 : decode cX9_rules 222 = .ok (.iload 4, 2) := by decide +kernel
theorem dX9_rules_224 : decode cX9_rules 224 = .ok (.imul, 1) := by decide +kernel
theorem dX9_rules_225 : decode cX9_rules 225 = .ok (.invokevirtual 145, 3) := by decide +kernel
theorem dX9_rules_228 : decode cX9_rules 228 = .ok (.iastore, 1) := by decide +kernel
theorem dX9_rules_229 : decode cX9_rules 229 = .ok (.aload_n 0, 1) := by decide +kernel
theorem dX9_rules_230 : decode cX9_rules 230 = .ok (.getfield 157, 3) := by decide +kernel
theorem dX9_rules_233 : decode cX9_rules 233 = .ok (.ireturn, 1) := by decide +kernel
theorem iw_X9_rules_X9 : ∀ w ∈ wsX90, w ∈ wsX9_rules := by decide +kernel
theorem lk_X9_rules_70 : Cond.fieldLink RX9 70 "MarkedNamesModel" "length" "I" ∈ wsX9_rules := by decide +kernel
theorem lk_X9_rules_13 : Cond.fieldLink RX9 13 "MarkedNamesModel" "row" "[I" ∈ wsX9_rules := by decide +kernel
theorem lk_X9_rules_104 : Cond.fieldLink RX9 104 "MarkedNamesModel" "head" "I" ∈ wsX9_rules := by decide +kernel
theorem iw_X9_areRules_X9 : ∀ w ∈ wsX90, w ∈ wsX9_areRules := by decide +kernel
theorem lk_X9_areRules_19 : Cond.fieldLink RX9 19 "MarkedNamesModel" "kept" "[I" ∈ wsX9_areRules := by decide +kernel
theorem iw_X9_isTemplate_X9 : ∀ w ∈ wsX90, w ∈ wsX9_isTemplate := by decide +kernel
theorem lk_X9_isTemplate_19 : Cond.fieldLink RX9 19 "MarkedNamesModel" "kept" "[I" ∈ wsX9_isTemplate := by decide +kernel
theorem lk_X9_isTemplate_22 : Cond.fieldLink RX9 22 "MarkedNamesModel" "keptSet" "[I" ∈ wsX9_isTemplate := by decide +kernel
theorem iw_X9_uses_X9 : ∀ w ∈ wsX90, w ∈ wsX9_uses := by decide +kernel
theorem lk_X9_uses_19 : Cond.fieldLink RX9 19 "MarkedNamesModel" "kept" "[I" ∈ wsX9_uses := by decide +kernel
theorem lk_X9_uses_22 : Cond.fieldLink RX9 22 "MarkedNamesModel" "keptSet" "[I" ∈ wsX9_uses := by decide +kernel
theorem mw_X9_what__constant_RX9_88_65536_Int32_ : Cond.constant RX9 88 (65536 : Int32) ∈ wsX9_what := by decide +kernel
theorem mw_X9_rules__constant_RX9_92_40000_Int32_ : Cond.constant RX9 92 (40000 : Int32) ∈ wsX9_rules := by decide +kernel
theorem lk_X9_rules_157 : Cond.fieldLink RX9 157 "MarkedNamesModel" "own" "I" ∈ wsX9_rules := by decide +kernel
theorem lk_X9_rules_25 : Cond.fieldLink RX9 25 "MarkedNamesModel" "ownName" "[I" ∈ wsX9_rules := by decide +kernel
theorem lk_X9_rules_28 : Cond.fieldLink RX9 28 "MarkedNamesModel" "ownEnd" "[I" ∈ wsX9_rules := by decide +kernel
section
variable {l : Launch} {p : Program} {e : Env} {s : State} {m : MethodId} {args : Array Value} {below : List Frame} {meth : Method} {c : Code} {A : Nat → Prop} {dC : Nat → ClassId} {dI : Nat → Nat → Nat} {cA : ClassId} {a b : Nat → Nat} {lev : Nat}
set_option maxHeartbeats 4000000 in
set_option maxRecDepth 100000 in
theorem wj_X9_uses_56_ok (C : mC p s m args meth c cX9_uses 6 wsX9_uses RX9 (some .int) (dC, dI) vwCl [(cA, .int)] A) (hs : eM A s) (hlev : 3 ≤ lev) {post : Int32 → mS → Prop} {K6 : Int32 → Int32 → Int32 → Int32 → mS → Prop} (hK6 : ∀ (x1 x3 x4 x5 : Int32) (u : mS), K6 x1 x3 x4 x5 u → mV p l e (mRm lev) s m args below meth c 6 (dC, dI) vwCl A 0 0 (mQi below args s (dC, dI) vwCl [(cA, .int)] (wM cA b) A post) (wM cA b u) 6 [(0, .ref (b 0)), (1, .int x1), (3, .int x3), (4, .int x4), (5, .int x5)] []) {x1 x3 x5 z0 : Int32} {u : mS} (hw : wj_X9_uses_56 K6 post x1 x3 x5 z0 u) : mV p l e (mRm lev) s m args below meth c 6 (dC, dI) vwCl A 0 0 (mQi below args s (dC, dI) vwCl [(cA, .int)] (wM cA b) A post) (wM cA b u) 56 [(0, .ref (b 0)), (1, .int x1), (3, .int x3), (5, .int x5)] [.int z0] := by
  unfold wj_X9_uses_56 at hw
  refine mv_istore (lv1 := [(4, .int z0), (0, .ref (b 0)), (1, .int x1), (3, .int x3), (5, .int x5)]) C dX9_uses_56 (by decide) rfl ?_
  obtain ⟨y11, ey11⟩ : ∃ z : Int32, z = x5 + (1 : Int32) := ⟨_, rfl⟩
  have hw := hw y11 ey11
  refine mv_iinc (v := y11) (lv1 := [(5, .int y11), (4, .int z0), (0, .ref (b 0)), (1, .int x1), (3, .int x3)]) C dX9_uses_58 4 rfl (by rw [ey11]; rfl) (by decide) rfl ?_
  refine mv_goto (tgt := 6) C dX9_uses_61 (by decide) ?_
  refine mv_sub [2, 3, 4, 1, 0] rfl ?_
  exact hK6 x1 x3 z0 y11 u hw
set_option maxHeartbeats 4000000 in
set_option maxRecDepth 100000 in
theorem wj_X9_uses_54_ok (C : mC p s m args meth c cX9_uses 6 wsX9_uses RX9 (some .int) (dC, dI) vwCl [(cA, .int)] A) (hs : eM A s) (hlev : 3 ≤ lev) {post : Int32 → mS → Prop} {K6 : Int32 → Int32 → Int32 → Int32 → mS → Prop} (hK6 : ∀ (x1 x3 x4 x5 : Int32) (u : mS), K6 x1 x3 x4 x5 u → mV p l e (mRm lev) s m args below meth c 6 (dC, dI) vwCl A 0 0 (mQi below args s (dC, dI) vwCl [(cA, .int)] (wM cA b) A post) (wM cA b u) 6 [(0, .ref (b 0)), (1, .int x1), (3, .int x3), (4, .int x4), (5, .int x5)] []) {x1 x3 x4 x5 : Int32} {u : mS} (hw : wj_X9_uses_54 K6 post x1 x3 x4 x5 u) : mV p l e (mRm lev) s m args below meth c 6 (dC, dI) vwCl A 0 0 (mQi below args s (dC, dI) vwCl [(cA, .int)] (wM cA b) A post) (wM cA b u) 54 [(0, .ref (b 0)), (1, .int x1), (3, .int x3), (4, .int x4), (5, .int x5)] [] := by
  unfold wj_X9_uses_54 at hw
  refine mv_iload C dX9_uses_54 3 rfl ?_
  refine mv_sub [0, 1, 2, 4] rfl ?_
  exact wj_X9_uses_56_ok C hs hlev hK6 hw
set_option maxHeartbeats 4000000 in
set_option maxRecDepth 100000 in
theorem wj_X9_uses_6_ok (C : mC p s m args meth c cX9_uses 6 wsX9_uses RX9 (some .int) (dC, dI) vwCl [(cA, .int)] A) (hs : eM A s) (hlev : 3 ≤ lev) {post : Int32 → mS → Prop} {K6 : Int32 → Int32 → Int32 → Int32 → mS → Prop} (hK6 : ∀ (x1 x3 x4 x5 : Int32) (u : mS), K6 x1 x3 x4 x5 u → mV p l e (mRm lev) s m args below meth c 6 (dC, dI) vwCl A 0 0 (mQi below args s (dC, dI) vwCl [(cA, .int)] (wM cA b) A post) (wM cA b u) 6 [(0, .ref (b 0)), (1, .int x1), (3, .int x3), (4, .int x4), (5, .int x5)] []) {x1 x3 x4 x5 : Int32} {u : mS} (hw : wj_X9_uses_6 K6 post x1 x3 x4 x5 u) : mV p l e (mRm lev) s m args below meth c 6 (dC, dI) vwCl A 0 0 (mQi below args s (dC, dI) vwCl [(cA, .int)] (wM cA b) A post) (wM cA b u) 6 [(0, .ref (b 0)), (1, .int x1), (3, .int x3), (4, .int x4), (5, .int x5)] [] := by
  unfold wj_X9_uses_6 at hw
  refine mv_iload C dX9_uses_6 4 rfl ?_
  refine mv_iload_n C dX9_uses_8 rfl 2 rfl ?_
  refine mv_icmp_ge (tgt := 64) C dX9_uses_9 (by decide) (fun h1 => ?_) (fun h1 => ?_)
  · have hw := hw.1 h1
    refine mv_iload C dX9_uses_64 3 rfl ?_
    exact mv_iret C dX9_uses_66 hw
  · have hw := hw.2 h1
    refine mv_aload_n C dX9_uses_12 rfl 0 rfl ?_
    refine mv_get (v := .ref (b 4)) C iw_X9_uses_X9 0 rfl rfl 5 (by decide) lk_X9_uses_19 rfl rfl dX9_uses_13 ?_
    refine mv_iload C dX9_uses_16 4 rfl ?_
    refine mv_callSi (f := wM cA b) (As := [.ref (b 4), .int x5]) (rest := []) C eM_ok hs (X9_kind_4_met (l := l) (lev := lev - 1) (by omega) hw) (va_cwS 2 C.2.2.2.2.1 gX9_uses_X9_kind rfl rfl rfl (by decide +kernel) (mRm_le (by omega) (by decide))) rfl rfl (Nat.le_of_ble_eq_true rfl) dX9_uses_18 ⟨Nat.le_refl 0, Nat.le_refl 0⟩ (fun r2 u3 hw => ?_)
    refine mv_iconst (v := (3 : Int32)) C dX9_uses_21 (by decide) ?_
    refine mv_icmp_ne (tgt := 54) C dX9_uses_22 (by decide) (fun h4 => ?_) (fun h4 => ?_)
    · have hw := hw.1 h4
      exact wj_X9_uses_54_ok C hs hlev hK6 hw
    · have hw := hw.2 h4
      refine mv_aload_n C dX9_uses_25 rfl 0 rfl ?_
      refine mv_iload_n C dX9_uses_26 rfl 1 rfl ?_
      refine mv_aload_n C dX9_uses_27 rfl 0 rfl ?_
      refine mv_get (v := .ref (b 4)) C iw_X9_uses_X9 0 rfl rfl 5 (by decide) lk_X9_uses_19 rfl rfl dX9_uses_28 ?_
      refine mv_iload C dX9_uses_31 4 rfl ?_
      refine mv_iald (f := u3.2 3) C 4 0 rfl rfl hw.1 dX9_uses_33 ?_
      refine mv_topi (fun y5 ey5 => ?_)
      have hw := hw.2 y5 ey5
      refine mv_aload_n C dX9_uses_34 rfl 0 rfl ?_
      refine mv_get (v := .ref (b 5)) C iw_X9_uses_X9 0 rfl rfl 6 (by decide) lk_X9_uses_22 rfl rfl dX9_uses_35 ?_
      refine mv_iload C dX9_uses_38 4 rfl ?_
      refine mv_iald (f := u3.2 4) C 5 0 rfl rfl hw.1 dX9_uses_40 ?_
      refine mv_topi (fun y6 ey6 => ?_)
      have hw := hw.2 y6 ey6
      refine mv_callVi (f := wM cA b) (As := [.int x1, .int y5, .int y6]) (rest := []) C eM_ok hs 0 rfl rfl (X9_variable_met (l := l) (lev := lev - 1) (by omega) hw) (cwV 3 C.2.2.2.2.1 gX9_uses_X9_variable rfl rfl rfl (by decide +kernel) (mRm_le (by omega) (by decide))) rfl rfl (Nat.le_of_ble_eq_true rfl) dX9_uses_41 ⟨Nat.le_refl 0, Nat.le_refl 0⟩ (fun r7 u8 hw => ?_)
      refine mv_if_lt (tgt := 54) C dX9_uses_44 (by decide) (fun h9 => ?_) (fun h9 => ?_)
      · have hw := hw.1 h9
        exact wj_X9_uses_54_ok C hs hlev hK6 hw
      · have hw := hw.2 h9
        refine mv_iload C dX9_uses_47 3 rfl ?_
        refine mv_iconst (v := (1 : Int32)) C dX9_uses_49 (by decide) ?_
        refine mv_iadd C dX9_uses_50 ?_
        refine mv_topi (fun y10 ey10 => ?_)
        have hw := hw y10 ey10
        refine mv_goto (tgt := 56) C dX9_uses_51 (by decide) ?_
        refine mv_sub [0, 1, 2, 4] rfl ?_
        exact wj_X9_uses_56_ok C hs hlev hK6 hw
set_option maxHeartbeats 4000000 in
set_option maxRecDepth 100000 in
theorem X9_uses_met (hlev : 3 ≤ lev) {x1 x2 x3 : Int32} {u : mS} {post : Int32 → mS → Prop} (hw : wp_X9_uses x1 x2 x3 u post) : mKi l yX9_uses wsX9_uses lev (eM) (dC, dI) vwCl [(cA, .int)] (wM cA b) [.ref (b 0), .int x1, .int x2, .int x3] u post := by
  refine mKi_of (cc := cX9_uses) (maxL := 6) (by decide) rfl rfl (Nat.le_of_ble_eq_true rfl) rfl ?_
  intro p e s m args below meth c A C hs
  unfold wp_X9_uses at hw
  refine mv_iconst (v := (0 : Int32)) C dX9_uses_0 (by decide) ?_
  refine mv_istore (lv1 := [(4, .int (0 : Int32)), (0, .ref (b 0)), (1, .int x1), (2, .int x2), (3, .int x3)]) C dX9_uses_1 (by decide) rfl ?_
  refine mv_iload_n C dX9_uses_3 rfl 3 rfl ?_
  refine mv_istore (lv1 := [(5, .int x2), (4, .int (0 : Int32)), (0, .ref (b 0)), (1, .int x1), (2, .int x2), (3, .int x3)]) C dX9_uses_4 (by decide) rfl ?_
  refine mv_sub [2, 3, 5, 1, 0] rfl ?_
  obtain ⟨n, hw⟩ := hw
  exact mL5_of (fun K hK b0 b1 b2 b3 b4 hw => wj_X9_uses_6_ok C hs hlev hK hw) n x1 x3 (0 : Int32) x2 u hw
set_option maxHeartbeats 4000000 in
set_option maxRecDepth 100000 in
theorem wj_X9_isTemplate_97_ok (C : mC p s m args meth c cX9_isTemplate 8 wsX9_isTemplate RX9 (some .boolean) (dC, dI) vwCl [(cA, .int)] A) (hs : eM A s) (hlev : 4 ≤ lev) {post : Int32 → mS → Prop} {K24 : Int32 → Int32 → Int32 → Int32 → Int32 → mS → Prop} (hK24 : ∀ (x1 x2 x3 x4 x5 : Int32) (u : mS), K24 x1 x2 x3 x4 x5 u → mV p l e (mRm lev) s m args below meth c 8 (dC, dI) vwCl A 0 0 (mQi below args s (dC, dI) vwCl [(cA, .int)] (wM cA b) A (fun r w => (r = 0 ∨ r = 1) ∧ post r w)) (wM cA b u) 24 [(0, .ref (b 0)), (1, .int x1), (2, .int x2), (3, .int x3), (4, .int x4), (5, .int x5)] []) {x1 x2 x3 x4 x5 : Int32} {u : mS} (hw : wj_X9_isTemplate_97 K24 post x1 x2 x3 x4 x5 u) : mV p l e (mRm lev) s m args below meth c 8 (dC, dI) vwCl A 0 0 (mQi below args s (dC, dI) vwCl [(cA, .int)] (wM cA b) A (fun r w => (r = 0 ∨ r = 1) ∧ post r w)) (wM cA b u) 97 [(0, .ref (b 0)), (1, .int x1), (2, .int x2), (3, .int x3), (4, .int x4), (5, .int x5)] [] := by
  unfold wj_X9_isTemplate_97 at hw
  obtain ⟨y21, ey21⟩ : ∃ z : Int32, z = x5 + (1 : Int32) := ⟨_, rfl⟩
  have hw := hw y21 ey21
  refine mv_iinc (v := y21) (lv1 := [(5, .int y21), (0, .ref (b 0)), (1, .int x1), (2, .int x2), (3, .int x3), (4, .int x4)]) C dX9_isTemplate_97 5 rfl (by rw [ey21]; rfl) (by decide) rfl ?_
  refine mv_goto (tgt := 24) C dX9_isTemplate_100 (by decide) ?_
  refine mv_sub [1, 2, 3, 4, 5, 0] rfl ?_
  exact hK24 x1 x2 x3 x4 y21 u hw
set_option maxHeartbeats 4000000 in
set_option maxRecDepth 100000 in
theorem wj_X9_isTemplate_66_ok (C : mC p s m args meth c cX9_isTemplate 8 wsX9_isTemplate RX9 (some .boolean) (dC, dI) vwCl [(cA, .int)] A) (hs : eM A s) (hlev : 4 ≤ lev) {post : Int32 → mS → Prop} {K24 : Int32 → Int32 → Int32 → Int32 → Int32 → mS → Prop} (hK24 : ∀ (x1 x2 x3 x4 x5 : Int32) (u : mS), K24 x1 x2 x3 x4 x5 u → mV p l e (mRm lev) s m args below meth c 8 (dC, dI) vwCl A 0 0 (mQi below args s (dC, dI) vwCl [(cA, .int)] (wM cA b) A (fun r w => (r = 0 ∨ r = 1) ∧ post r w)) (wM cA b u) 24 [(0, .ref (b 0)), (1, .int x1), (2, .int x2), (3, .int x3), (4, .int x4), (5, .int x5)] []) {x1 x2 x3 x4 x5 z0 : Int32} {u : mS} (hw : wj_X9_isTemplate_66 K24 post x1 x2 x3 x4 x5 z0 u) : mV p l e (mRm lev) s m args below meth c 8 (dC, dI) vwCl A 0 0 (mQi below args s (dC, dI) vwCl [(cA, .int)] (wM cA b) A (fun r w => (r = 0 ∨ r = 1) ∧ post r w)) (wM cA b u) 66 [(0, .ref (b 0)), (1, .int x1), (2, .int x2), (3, .int x3), (4, .int x4), (5, .int x5)] [.int z0] := by
  unfold wj_X9_isTemplate_66 at hw
  refine mv_istore (lv1 := [(6, .int z0), (0, .ref (b 0)), (1, .int x1), (2, .int x2), (3, .int x3), (4, .int x4), (5, .int x5)]) C dX9_isTemplate_66 (by decide) rfl ?_
  refine mv_iload C dX9_isTemplate_68 0 rfl ?_
  refine mv_if_lt (tgt := 97) C dX9_isTemplate_70 (by decide) (fun h14 => ?_) (fun h14 => ?_)
  · have hw := hw.1 h14
    refine mv_sub [1, 2, 3, 4, 5, 6] rfl ?_
    exact wj_X9_isTemplate_97_ok C hs hlev hK24 hw
  · have hw := hw.2 h14
    refine mv_aload_n C dX9_isTemplate_73 rfl 1 rfl ?_
    refine mv_iload_n C dX9_isTemplate_74 rfl 3 rfl ?_
    refine mv_iload_n C dX9_isTemplate_75 rfl 4 rfl ?_
    refine mv_iload C dX9_isTemplate_76 6 rfl ?_
    refine mv_callVi (f := wM cA b) (As := [.int x2, .int x3, .int x5]) (rest := []) C eM_ok hs 0 rfl rfl (X9_heldBy_met (l := l) (lev := lev - 1) (by omega) hw) (cwV 3 C.2.2.2.2.1 gX9_isTemplate_X9_heldBy rfl rfl rfl (by decide +kernel) (mRm_le (by omega) (by decide))) rfl rfl (Nat.le_of_ble_eq_true rfl) dX9_isTemplate_78 ⟨Nat.le_refl 0, Nat.le_refl 0⟩ (fun r15 u16 hw => ?_)
    refine mv_aload_n C dX9_isTemplate_81 rfl 1 rfl ?_
    refine mv_iload_n C dX9_isTemplate_82 rfl 2 rfl ?_
    refine mv_iconst (v := (1 : Int32)) C dX9_isTemplate_83 (by decide) ?_
    refine mv_iadd C dX9_isTemplate_84 ?_
    refine mv_topi (fun y17 ey17 => ?_)
    have hw := hw y17 ey17
    refine mv_iload C dX9_isTemplate_85 5 rfl ?_
    refine mv_iload C dX9_isTemplate_87 0 rfl ?_
    refine mv_callVi (f := wM cA b) (As := [.int y17, .int x4, .int z0]) (rest := [.int r15]) C eM_ok hs 0 rfl rfl (X9_heldBy_met (l := l) (lev := lev - 1) (by omega) hw) (cwV 3 C.2.2.2.2.1 gX9_isTemplate_X9_heldBy rfl rfl rfl (by decide +kernel) (mRm_le (by omega) (by decide))) rfl rfl (Nat.le_of_ble_eq_true rfl) dX9_isTemplate_89 ⟨Nat.le_refl 0, Nat.le_refl 0⟩ (fun r18 u19 hw => ?_)
    refine mv_icmp_eq (tgt := 97) C dX9_isTemplate_92 (by decide) (fun h20 => ?_) (fun h20 => ?_)
    · have hw := hw.1 h20
      refine mv_sub [1, 2, 3, 4, 5, 6] rfl ?_
      exact wj_X9_isTemplate_97_ok C hs hlev hK24 hw
    · have hw := hw.2 h20
      refine mv_iconst (v := (0 : Int32)) C dX9_isTemplate_95 (by decide) ?_
      exact mv_zret C dX9_isTemplate_96 (Or.inl rfl) hw
set_option maxHeartbeats 4000000 in
set_option maxRecDepth 100000 in
theorem wj_X9_isTemplate_185_ok (C : mC p s m args meth c cX9_isTemplate 8 wsX9_isTemplate RX9 (some .boolean) (dC, dI) vwCl [(cA, .int)] A) (hs : eM A s) (hlev : 4 ≤ lev) {post : Int32 → mS → Prop} {K106 : Int32 → Int32 → Int32 → mS → Prop} (hK106 : ∀ (x1 x3 x5 : Int32) (u : mS), K106 x1 x3 x5 u → mV p l e (mRm lev) s m args below meth c 8 (dC, dI) vwCl A 0 0 (mQi below args s (dC, dI) vwCl [(cA, .int)] (wM cA b) A (fun r w => (r = 0 ∨ r = 1) ∧ post r w)) (wM cA b u) 106 [(0, .ref (b 0)), (1, .int x1), (3, .int x3), (5, .int x5)] []) {x1 x3 x5 : Int32} {u : mS} (hw : wj_X9_isTemplate_185 K106 post x1 x3 x5 u) : mV p l e (mRm lev) s m args below meth c 8 (dC, dI) vwCl A 0 0 (mQi below args s (dC, dI) vwCl [(cA, .int)] (wM cA b) A (fun r w => (r = 0 ∨ r = 1) ∧ post r w)) (wM cA b u) 185 [(0, .ref (b 0)), (1, .int x1), (3, .int x3), (5, .int x5)] [] := by
  unfold wj_X9_isTemplate_185 at hw
  obtain ⟨y36, ey36⟩ : ∃ z : Int32, z = x5 + (1 : Int32) := ⟨_, rfl⟩
  have hw := hw y36 ey36
  refine mv_iinc (v := y36) (lv1 := [(5, .int y36), (0, .ref (b 0)), (1, .int x1), (3, .int x3)]) C dX9_isTemplate_185 3 rfl (by rw [ey36]; rfl) (by decide) rfl ?_
  refine mv_goto (tgt := 106) C dX9_isTemplate_188 (by decide) ?_
  refine mv_sub [1, 2, 3, 0] rfl ?_
  exact hK106 x1 x3 y36 u hw
set_option maxHeartbeats 4000000 in
set_option maxRecDepth 100000 in
theorem wj_X9_isTemplate_149_ok (C : mC p s m args meth c cX9_isTemplate 8 wsX9_isTemplate RX9 (some .boolean) (dC, dI) vwCl [(cA, .int)] A) (hs : eM A s) (hlev : 4 ≤ lev) {post : Int32 → mS → Prop} {K106 : Int32 → Int32 → Int32 → mS → Prop} (hK106 : ∀ (x1 x3 x5 : Int32) (u : mS), K106 x1 x3 x5 u → mV p l e (mRm lev) s m args below meth c 8 (dC, dI) vwCl A 0 0 (mQi below args s (dC, dI) vwCl [(cA, .int)] (wM cA b) A (fun r w => (r = 0 ∨ r = 1) ∧ post r w)) (wM cA b u) 106 [(0, .ref (b 0)), (1, .int x1), (3, .int x3), (5, .int x5)] []) {x1 x3 x5 z0 : Int32} {u : mS} (hw : wj_X9_isTemplate_149 K106 post x1 x3 x5 z0 u) : mV p l e (mRm lev) s m args below meth c 8 (dC, dI) vwCl A 0 0 (mQi below args s (dC, dI) vwCl [(cA, .int)] (wM cA b) A (fun r w => (r = 0 ∨ r = 1) ∧ post r w)) (wM cA b u) 149 [(0, .ref (b 0)), (1, .int x1), (3, .int x3), (5, .int x5)] [.int z0] := by
  unfold wj_X9_isTemplate_149 at hw
  refine mv_istore (lv1 := [(7, .int z0), (0, .ref (b 0)), (1, .int x1), (3, .int x3), (5, .int x5)]) C dX9_isTemplate_149 (by decide) rfl ?_
  refine mv_iload C dX9_isTemplate_151 0 rfl ?_
  refine mv_iload_n C dX9_isTemplate_153 rfl 3 rfl ?_
  refine mv_icmp_ge (tgt := 185) C dX9_isTemplate_154 (by decide) (fun h29 => ?_) (fun h29 => ?_)
  · have hw := hw.1 h29
    refine mv_sub [1, 2, 3, 4] rfl ?_
    exact wj_X9_isTemplate_185_ok C hs hlev hK106 hw
  · have hw := hw.2 h29
    refine mv_aload_n C dX9_isTemplate_157 rfl 1 rfl ?_
    refine mv_get (v := .ref (b 4)) C iw_X9_isTemplate_X9 0 rfl rfl 5 (by decide) lk_X9_isTemplate_19 rfl rfl dX9_isTemplate_158 ?_
    refine mv_iload C dX9_isTemplate_161 0 rfl ?_
    refine mv_callSi (f := wM cA b) (As := [.ref (b 4), .int z0]) (rest := []) C eM_ok hs (X9_kind_4_met (l := l) (lev := lev - 1) (by omega) hw) (va_cwS 2 C.2.2.2.2.1 gX9_isTemplate_X9_kind rfl rfl rfl (by decide +kernel) (mRm_le (by omega) (by decide))) rfl rfl (Nat.le_of_ble_eq_true rfl) dX9_isTemplate_163 ⟨Nat.le_refl 0, Nat.le_refl 0⟩ (fun r30 u31 hw => ?_)
    refine mv_bipush (v := (6 : Int32)) C dX9_isTemplate_166 (by decide) ?_
    refine mv_icmp_ne (tgt := 185) C dX9_isTemplate_168 (by decide) (fun h32 => ?_) (fun h32 => ?_)
    · have hw := hw.1 h32
      refine mv_sub [1, 2, 3, 4] rfl ?_
      exact wj_X9_isTemplate_185_ok C hs hlev hK106 hw
    · have hw := hw.2 h32
      refine mv_aload_n C dX9_isTemplate_171 rfl 1 rfl ?_
      refine mv_iload_n C dX9_isTemplate_172 rfl 2 rfl ?_
      refine mv_iload C dX9_isTemplate_173 4 rfl ?_
      refine mv_iload C dX9_isTemplate_175 0 rfl ?_
      refine mv_callVi (f := wM cA b) (As := [.int x1, .int x5, .int z0]) (rest := []) C eM_ok hs 0 rfl rfl (X9_uses_met (l := l) (lev := lev - 1) (by omega) hw) (cwV 3 C.2.2.2.2.1 gX9_isTemplate_X9_uses rfl rfl rfl (by decide +kernel) (mRm_le (by omega) (by decide))) rfl rfl (Nat.le_of_ble_eq_true rfl) dX9_isTemplate_177 ⟨Nat.le_refl 0, Nat.le_refl 0⟩ (fun r33 u34 hw => ?_)
      refine mv_if_ne (tgt := 185) C dX9_isTemplate_180 (by decide) (fun h35 => ?_) (fun h35 => ?_)
      · have hw := hw.1 h35
        refine mv_sub [1, 2, 3, 4] rfl ?_
        exact wj_X9_isTemplate_185_ok C hs hlev hK106 hw
      · have hw := hw.2 h35
        refine mv_iconst (v := (0 : Int32)) C dX9_isTemplate_183 (by decide) ?_
        exact mv_zret C dX9_isTemplate_184 (Or.inl rfl) hw
set_option maxHeartbeats 4000000 in
set_option maxRecDepth 100000 in
theorem wj_X9_isTemplate_136_ok (C : mC p s m args meth c cX9_isTemplate 8 wsX9_isTemplate RX9 (some .boolean) (dC, dI) vwCl [(cA, .int)] A) (hs : eM A s) (hlev : 4 ≤ lev) {post : Int32 → mS → Prop} {K106 : Int32 → Int32 → Int32 → mS → Prop} (hK106 : ∀ (x1 x3 x5 : Int32) (u : mS), K106 x1 x3 x5 u → mV p l e (mRm lev) s m args below meth c 8 (dC, dI) vwCl A 0 0 (mQi below args s (dC, dI) vwCl [(cA, .int)] (wM cA b) A (fun r w => (r = 0 ∨ r = 1) ∧ post r w)) (wM cA b u) 106 [(0, .ref (b 0)), (1, .int x1), (3, .int x3), (5, .int x5)] []) {x1 x3 x5 : Int32} {u : mS} (hw : wj_X9_isTemplate_136 K106 post x1 x3 x5 u) : mV p l e (mRm lev) s m args below meth c 8 (dC, dI) vwCl A 0 0 (mQi below args s (dC, dI) vwCl [(cA, .int)] (wM cA b) A (fun r w => (r = 0 ∨ r = 1) ∧ post r w)) (wM cA b u) 136 [(0, .ref (b 0)), (1, .int x1), (3, .int x3), (5, .int x5)] [] := by
  unfold wj_X9_isTemplate_136 at hw
  refine mv_iload_n C dX9_isTemplate_136 rfl 2 rfl ?_
  refine mv_goto (tgt := 149) C dX9_isTemplate_137 (by decide) ?_
  exact wj_X9_isTemplate_149_ok C hs hlev hK106 hw
set_option maxHeartbeats 4000000 in
set_option maxRecDepth 100000 in
theorem wj_X9_isTemplate_106_ok (C : mC p s m args meth c cX9_isTemplate 8 wsX9_isTemplate RX9 (some .boolean) (dC, dI) vwCl [(cA, .int)] A) (hs : eM A s) (hlev : 4 ≤ lev) {post : Int32 → mS → Prop} {K106 : Int32 → Int32 → Int32 → mS → Prop} (hK106 : ∀ (x1 x3 x5 : Int32) (u : mS), K106 x1 x3 x5 u → mV p l e (mRm lev) s m args below meth c 8 (dC, dI) vwCl A 0 0 (mQi below args s (dC, dI) vwCl [(cA, .int)] (wM cA b) A (fun r w => (r = 0 ∨ r = 1) ∧ post r w)) (wM cA b u) 106 [(0, .ref (b 0)), (1, .int x1), (3, .int x3), (5, .int x5)] []) {x1 x3 x5 : Int32} {u : mS} (hw : wj_X9_isTemplate_106 K106 post x1 x3 x5 u) : mV p l e (mRm lev) s m args below meth c 8 (dC, dI) vwCl A 0 0 (mQi below args s (dC, dI) vwCl [(cA, .int)] (wM cA b) A (fun r w => (r = 0 ∨ r = 1) ∧ post r w)) (wM cA b u) 106 [(0, .ref (b 0)), (1, .int x1), (3, .int x3), (5, .int x5)] [] := by
  unfold wj_X9_isTemplate_106 at hw
  refine mv_iload C dX9_isTemplate_106 3 rfl ?_
  refine mv_iload_n C dX9_isTemplate_108 rfl 2 rfl ?_
  refine mv_icmp_ge (tgt := 191) C dX9_isTemplate_109 (by decide) (fun h22 => ?_) (fun h22 => ?_)
  · have hw := hw.1 h22
    refine mv_iconst (v := (1 : Int32)) C dX9_isTemplate_191 (by decide) ?_
    exact mv_zret C dX9_isTemplate_192 (Or.inr rfl) hw
  · have hw := hw.2 h22
    refine mv_aload_n C dX9_isTemplate_112 rfl 0 rfl ?_
    refine mv_get (v := .ref (b 4)) C iw_X9_isTemplate_X9 0 rfl rfl 5 (by decide) lk_X9_isTemplate_19 rfl rfl dX9_isTemplate_113 ?_
    refine mv_iload C dX9_isTemplate_116 3 rfl ?_
    refine mv_callSi (f := wM cA b) (As := [.ref (b 4), .int x5]) (rest := []) C eM_ok hs (X9_kind_4_met (l := l) (lev := lev - 1) (by omega) hw) (va_cwS 2 C.2.2.2.2.1 gX9_isTemplate_X9_kind rfl rfl rfl (by decide +kernel) (mRm_le (by omega) (by decide))) rfl rfl (Nat.le_of_ble_eq_true rfl) dX9_isTemplate_118 ⟨Nat.le_refl 0, Nat.le_refl 0⟩ (fun r23 u24 hw => ?_)
    refine mv_istore (lv1 := [(6, .int r23), (0, .ref (b 0)), (1, .int x1), (3, .int x3), (5, .int x5)]) C dX9_isTemplate_121 (by decide) rfl ?_
    refine mv_iload C dX9_isTemplate_123 0 rfl ?_
    refine mv_iconst (v := (2 : Int32)) C dX9_isTemplate_125 (by decide) ?_
    refine mv_icmp_eq (tgt := 136) C dX9_isTemplate_126 (by decide) (fun h25 => ?_) (fun h25 => ?_)
    · have hw := hw.1 h25
      refine mv_sub [1, 2, 3, 4] rfl ?_
      exact wj_X9_isTemplate_136_ok C hs hlev hK106 hw
    · have hw := hw.2 h25
      refine mv_iload C dX9_isTemplate_129 0 rfl ?_
      refine mv_bipush (v := (6 : Int32)) C dX9_isTemplate_131 (by decide) ?_
      refine mv_icmp_ne (tgt := 140) C dX9_isTemplate_133 (by decide) (fun h26 => ?_) (fun h26 => ?_)
      · have hw := hw.1 h26
        refine mv_aload_n C dX9_isTemplate_140 rfl 1 rfl ?_
        refine mv_get (v := .ref (b 4)) C iw_X9_isTemplate_X9 0 rfl rfl 5 (by decide) lk_X9_isTemplate_19 rfl rfl dX9_isTemplate_141 ?_
        refine mv_iload C dX9_isTemplate_144 4 rfl ?_
        refine mv_callSi (f := wM cA b) (As := [.ref (b 4), .int x5]) (rest := []) C eM_ok hs (X9_end_4_met (l := l) (lev := lev - 1) (by omega) hw) (va_cwS 2 C.2.2.2.2.1 gX9_isTemplate_X9_end rfl rfl rfl (by decide +kernel) (mRm_le (by omega) (by decide))) rfl rfl (Nat.le_of_ble_eq_true rfl) dX9_isTemplate_146 ⟨Nat.le_refl 0, Nat.le_refl 0⟩ (fun r27 u28 hw => ?_)
        refine mv_sub [1, 2, 3, 4] rfl ?_
        exact wj_X9_isTemplate_149_ok C hs hlev hK106 hw
      · have hw := hw.2 h26
        refine mv_sub [1, 2, 3, 4] rfl ?_
        exact wj_X9_isTemplate_136_ok C hs hlev hK106 hw
set_option maxHeartbeats 4000000 in
set_option maxRecDepth 100000 in
theorem wj_X9_isTemplate_24_ok (C : mC p s m args meth c cX9_isTemplate 8 wsX9_isTemplate RX9 (some .boolean) (dC, dI) vwCl [(cA, .int)] A) (hs : eM A s) (hlev : 4 ≤ lev) {post : Int32 → mS → Prop} {K24 : Int32 → Int32 → Int32 → Int32 → Int32 → mS → Prop} (hK24 : ∀ (x1 x2 x3 x4 x5 : Int32) (u : mS), K24 x1 x2 x3 x4 x5 u → mV p l e (mRm lev) s m args below meth c 8 (dC, dI) vwCl A 0 0 (mQi below args s (dC, dI) vwCl [(cA, .int)] (wM cA b) A (fun r w => (r = 0 ∨ r = 1) ∧ post r w)) (wM cA b u) 24 [(0, .ref (b 0)), (1, .int x1), (2, .int x2), (3, .int x3), (4, .int x4), (5, .int x5)] []) {x1 x2 x3 x4 x5 : Int32} {u : mS} (hw : wj_X9_isTemplate_24 K24 post x1 x2 x3 x4 x5 u) : mV p l e (mRm lev) s m args below meth c 8 (dC, dI) vwCl A 0 0 (mQi below args s (dC, dI) vwCl [(cA, .int)] (wM cA b) A (fun r w => (r = 0 ∨ r = 1) ∧ post r w)) (wM cA b u) 24 [(0, .ref (b 0)), (1, .int x1), (2, .int x2), (3, .int x3), (4, .int x4), (5, .int x5)] [] := by
  unfold wj_X9_isTemplate_24 at hw
  refine mv_iload C dX9_isTemplate_24 5 rfl ?_
  refine mv_iload_n C dX9_isTemplate_26 rfl 3 rfl ?_
  refine mv_icmp_ge (tgt := 103) C dX9_isTemplate_27 (by decide) (fun h6 => ?_) (fun h6 => ?_)
  · have hw := hw.1 h6
    refine mv_iload_n C dX9_isTemplate_103 rfl 2 rfl ?_
    refine mv_istore (lv1 := [(5, .int x2), (0, .ref (b 0)), (1, .int x1), (2, .int x2), (3, .int x3), (4, .int x4)]) C dX9_isTemplate_104 (by decide) rfl ?_
    refine mv_sub [1, 2, 4, 0] rfl ?_
    obtain ⟨n, hw⟩ := hw
    exact mL4_of (fun K hK b0 b1 b2 b3 hw => wj_X9_isTemplate_106_ok C hs hlev hK hw) n x1 x3 x2 u hw
  · have hw := hw.2 h6
    refine mv_aload_n C dX9_isTemplate_30 rfl 0 rfl ?_
    refine mv_get (v := .ref (b 4)) C iw_X9_isTemplate_X9 0 rfl rfl 5 (by decide) lk_X9_isTemplate_19 rfl rfl dX9_isTemplate_31 ?_
    refine mv_iload C dX9_isTemplate_34 5 rfl ?_
    refine mv_callSi (f := wM cA b) (As := [.ref (b 4), .int x5]) (rest := []) C eM_ok hs (X9_kind_4_met (l := l) (lev := lev - 1) (by omega) hw) (va_cwS 2 C.2.2.2.2.1 gX9_isTemplate_X9_kind rfl rfl rfl (by decide +kernel) (mRm_le (by omega) (by decide))) rfl rfl (Nat.le_of_ble_eq_true rfl) dX9_isTemplate_36 ⟨Nat.le_refl 0, Nat.le_refl 0⟩ (fun r7 u8 hw => ?_)
    refine mv_iconst (v := (3 : Int32)) C dX9_isTemplate_39 (by decide) ?_
    refine mv_icmp_ne (tgt := 65) C dX9_isTemplate_40 (by decide) (fun h9 => ?_) (fun h9 => ?_)
    · have hw := hw.1 h9
      refine mv_iconst (v := (-1 : Int32)) C dX9_isTemplate_65 (by decide) ?_
      exact wj_X9_isTemplate_66_ok C hs hlev hK24 hw
    · have hw := hw.2 h9
      refine mv_aload_n C dX9_isTemplate_43 rfl 0 rfl ?_
      refine mv_iload_n C dX9_isTemplate_44 rfl 1 rfl ?_
      refine mv_aload_n C dX9_isTemplate_45 rfl 0 rfl ?_
      refine mv_get (v := .ref (b 4)) C iw_X9_isTemplate_X9 0 rfl rfl 5 (by decide) lk_X9_isTemplate_19 rfl rfl dX9_isTemplate_46 ?_
      refine mv_iload C dX9_isTemplate_49 5 rfl ?_
      refine mv_iald (f := u8.2 3) C 4 0 rfl rfl hw.1 dX9_isTemplate_51 ?_
      refine mv_topi (fun y10 ey10 => ?_)
      have hw := hw.2 y10 ey10
      refine mv_aload_n C dX9_isTemplate_52 rfl 0 rfl ?_
      refine mv_get (v := .ref (b 5)) C iw_X9_isTemplate_X9 0 rfl rfl 6 (by decide) lk_X9_isTemplate_22 rfl rfl dX9_isTemplate_53 ?_
      refine mv_iload C dX9_isTemplate_56 5 rfl ?_
      refine mv_iald (f := u8.2 4) C 5 0 rfl rfl hw.1 dX9_isTemplate_58 ?_
      refine mv_topi (fun y11 ey11 => ?_)
      have hw := hw.2 y11 ey11
      refine mv_callVi (f := wM cA b) (As := [.int x1, .int y10, .int y11]) (rest := []) C eM_ok hs 0 rfl rfl (X9_variable_met (l := l) (lev := lev - 1) (by omega) hw) (cwV 3 C.2.2.2.2.1 gX9_isTemplate_X9_variable rfl rfl rfl (by decide +kernel) (mRm_le (by omega) (by decide))) rfl rfl (Nat.le_of_ble_eq_true rfl) dX9_isTemplate_59 ⟨Nat.le_refl 0, Nat.le_refl 0⟩ (fun r12 u13 hw => ?_)
      refine mv_goto (tgt := 66) C dX9_isTemplate_62 (by decide) ?_
      exact wj_X9_isTemplate_66_ok C hs hlev hK24 hw
set_option maxHeartbeats 4000000 in
set_option maxRecDepth 100000 in
theorem X9_isTemplate_met (hlev : 4 ≤ lev) {x1 x2 : Int32} {u : mS} {post : Int32 → mS → Prop} (hw : wp_X9_isTemplate x1 x2 u post) : mKi l yX9_isTemplate wsX9_isTemplate lev (eM) (dC, dI) vwCl [(cA, .int)] (wM cA b) [.ref (b 0), .int x1, .int x2] u (fun r w => (r = 0 ∨ r = 1) ∧ post r w) := by
  refine mKz_of (cc := cX9_isTemplate) (maxL := 8) (by decide) rfl rfl (Nat.le_of_ble_eq_true rfl) rfl ?_
  intro p e s m args below meth c A C hs
  unfold wp_X9_isTemplate at hw
  refine mv_aload_n C dX9_isTemplate_0 rfl 0 rfl ?_
  refine mv_get (v := .ref (b 4)) C iw_X9_isTemplate_X9 0 rfl rfl 5 (by decide) lk_X9_isTemplate_19 rfl rfl dX9_isTemplate_1 ?_
  refine mv_iload_n C dX9_isTemplate_4 rfl 2 rfl ?_
  refine mv_callSi (f := wM cA b) (As := [.ref (b 4), .int x2]) (rest := []) C eM_ok hs (X9_end_4_met (l := l) (lev := lev - 1) (by omega) hw) (va_cwS 2 C.2.2.2.2.1 gX9_isTemplate_X9_end rfl rfl rfl (by decide +kernel) (mRm_le (by omega) (by decide))) rfl rfl (Nat.le_of_ble_eq_true rfl) dX9_isTemplate_5 ⟨Nat.le_refl 0, Nat.le_refl 0⟩ (fun r1 u2 hw => ?_)
  refine mv_istore_n (lv1 := [(3, .int r1), (0, .ref (b 0)), (1, .int x1), (2, .int x2)]) C dX9_isTemplate_8 rfl (by decide) rfl ?_
  refine mv_aload_n C dX9_isTemplate_9 rfl 1 rfl ?_
  refine mv_get (v := .ref (b 4)) C iw_X9_isTemplate_X9 0 rfl rfl 5 (by decide) lk_X9_isTemplate_19 rfl rfl dX9_isTemplate_10 ?_
  refine mv_iload_n C dX9_isTemplate_13 rfl 2 rfl ?_
  refine mv_callSi (f := wM cA b) (As := [.ref (b 4), .int x1]) (rest := []) C eM_ok hs (X9_end_4_met (l := l) (lev := lev - 1) (by omega) hw) (va_cwS 2 C.2.2.2.2.1 gX9_isTemplate_X9_end rfl rfl rfl (by decide +kernel) (mRm_le (by omega) (by decide))) rfl rfl (Nat.le_of_ble_eq_true rfl) dX9_isTemplate_14 ⟨Nat.le_refl 0, Nat.le_refl 0⟩ (fun r3 u4 hw => ?_)
  refine mv_iconst (v := (1 : Int32)) C dX9_isTemplate_17 (by decide) ?_
  refine mv_isub C dX9_isTemplate_18 ?_
  refine mv_topi (fun y5 ey5 => ?_)
  have hw := hw y5 ey5
  refine mv_istore (lv1 := [(4, .int y5), (3, .int r1), (0, .ref (b 0)), (1, .int x1), (2, .int x2)]) C dX9_isTemplate_19 (by decide) rfl ?_
  refine mv_iload_n C dX9_isTemplate_21 rfl 4 rfl ?_
  refine mv_istore (lv1 := [(5, .int x2), (4, .int y5), (3, .int r1), (0, .ref (b 0)), (1, .int x1), (2, .int x2)]) C dX9_isTemplate_22 (by decide) rfl ?_
  refine mv_sub [3, 4, 5, 2, 1, 0] rfl ?_
  obtain ⟨n, hw⟩ := hw
  exact mL6_of (fun K hK b0 b1 b2 b3 b4 b5 hw => wj_X9_isTemplate_24_ok C hs hlev hK hw) n x1 x2 r1 y5 x2 u4 hw
set_option maxHeartbeats 4000000 in
set_option maxRecDepth 100000 in
theorem wj_X9_areRules_2_ok (C : mC p s m args meth c cX9_areRules 4 wsX9_areRules RX9 (some .boolean) (dC, dI) vwCl [(cA, .int)] A) (hs : eM A s) (hlev : 5 ≤ lev) {post : Int32 → mS → Prop} {K2 : Int32 → Int32 → mS → Prop} (hK2 : ∀ (x2 x3 : Int32) (u : mS), K2 x2 x3 u → mV p l e (mRm lev) s m args below meth c 4 (dC, dI) vwCl A 0 0 (mQi below args s (dC, dI) vwCl [(cA, .int)] (wM cA b) A (fun r w => (r = 0 ∨ r = 1) ∧ post r w)) (wM cA b u) 2 [(0, .ref (b 0)), (2, .int x2), (3, .int x3)] []) {x2 x3 : Int32} {u : mS} (hw : wj_X9_areRules_2 K2 post x2 x3 u) : mV p l e (mRm lev) s m args below meth c 4 (dC, dI) vwCl A 0 0 (mQi below args s (dC, dI) vwCl [(cA, .int)] (wM cA b) A (fun r w => (r = 0 ∨ r = 1) ∧ post r w)) (wM cA b u) 2 [(0, .ref (b 0)), (2, .int x2), (3, .int x3)] [] := by
  unfold wj_X9_areRules_2 at hw
  refine mv_iload_n C dX9_areRules_2 rfl 2 rfl ?_
  refine mv_iload_n C dX9_areRules_3 rfl 1 rfl ?_
  refine mv_icmp_ge (tgt := 76) C dX9_areRules_4 (by decide) (fun h1 => ?_) (fun h1 => ?_)
  · have hw := hw.1 h1
    refine mv_iconst (v := (1 : Int32)) C dX9_areRules_76 (by decide) ?_
    exact mv_zret C dX9_areRules_77 (Or.inr rfl) hw
  · have hw := hw.2 h1
    refine mv_aload_n C dX9_areRules_7 rfl 0 rfl ?_
    refine mv_get (v := .ref (b 4)) C iw_X9_areRules_X9 0 rfl rfl 5 (by decide) lk_X9_areRules_19 rfl rfl dX9_areRules_8 ?_
    refine mv_iload_n C dX9_areRules_11 rfl 2 rfl ?_
    refine mv_callSi (f := wM cA b) (As := [.ref (b 4), .int x3]) (rest := []) C eM_ok hs (X9_kind_4_met (l := l) (lev := lev - 1) (by omega) hw) (va_cwS 2 C.2.2.2.2.1 gX9_areRules_X9_kind rfl rfl rfl (by decide +kernel) (mRm_le (by omega) (by decide))) rfl rfl (Nat.le_of_ble_eq_true rfl) dX9_areRules_12 ⟨Nat.le_refl 0, Nat.le_refl 0⟩ (fun r2 u3 hw => ?_)
    refine mv_bipush (v := (6 : Int32)) C dX9_areRules_15 (by decide) ?_
    refine mv_icmp_eq (tgt := 62) C dX9_areRules_17 (by decide) (fun h4 => ?_) (fun h4 => ?_)
    · have hw := hw.1 h4
      refine mv_iconst (v := (0 : Int32)) C dX9_areRules_62 (by decide) ?_
      exact mv_zret C dX9_areRules_63 (Or.inl rfl) hw
    · have hw := hw.2 h4
      refine mv_aload_n C dX9_areRules_20 rfl 0 rfl ?_
      refine mv_get (v := .ref (b 4)) C iw_X9_areRules_X9 0 rfl rfl 5 (by decide) lk_X9_areRules_19 rfl rfl dX9_areRules_21 ?_
      refine mv_iload_n C dX9_areRules_24 rfl 2 rfl ?_
      refine mv_iconst (v := (2 : Int32)) C dX9_areRules_25 (by decide) ?_
      refine mv_callSi (f := wM cA b) (As := [.ref (b 4), .int x3, .int (2 : Int32)]) (rest := []) C eM_ok hs (X9_isPlain_4_met (l := l) (lev := lev - 1) (by omega) hw) (va_cwS 3 C.2.2.2.2.1 gX9_areRules_X9_isPlain rfl rfl rfl (by decide +kernel) (mRm_le (by omega) (by decide))) rfl rfl (Nat.le_of_ble_eq_true rfl) dX9_areRules_26 ⟨Nat.le_refl 0, Nat.le_refl 0⟩ (fun r5 u6 hw => ?_)
      obtain ⟨gr5, hw⟩ := hw
      refine mv_if_eq (tgt := 62) C dX9_areRules_29 (by decide) (fun h7 => ?_) (fun h7 => ?_)
      · have hw := hw.1 h7
        refine mv_iconst (v := (0 : Int32)) C dX9_areRules_62 (by decide) ?_
        exact mv_zret C dX9_areRules_63 (Or.inl rfl) hw
      · have hw := hw.2 h7
        refine mv_aload_n C dX9_areRules_32 rfl 0 rfl ?_
        refine mv_iload_n C dX9_areRules_33 rfl 2 rfl ?_
        refine mv_iconst (v := (1 : Int32)) C dX9_areRules_34 (by decide) ?_
        refine mv_iadd C dX9_areRules_35 ?_
        refine mv_topi (fun y8 ey8 => ?_)
        have hw := hw y8 ey8
        refine mv_callVi (f := wM cA b) (As := [.int y8]) (rest := []) C eM_ok hs 0 rfl rfl (X9_isPattern_met (l := l) (lev := lev - 1) (by omega) hw) (cwV 1 C.2.2.2.2.1 gX9_areRules_X9_isPattern rfl rfl rfl (by decide +kernel) (mRm_le (by omega) (by decide))) rfl rfl (Nat.le_of_ble_eq_true rfl) dX9_areRules_36 ⟨Nat.le_refl 0, Nat.le_refl 0⟩ (fun r9 u10 hw => ?_)
        obtain ⟨gr9, hw⟩ := hw
        refine mv_if_eq (tgt := 62) C dX9_areRules_39 (by decide) (fun h11 => ?_) (fun h11 => ?_)
        · have hw := hw.1 h11
          refine mv_iconst (v := (0 : Int32)) C dX9_areRules_62 (by decide) ?_
          exact mv_zret C dX9_areRules_63 (Or.inl rfl) hw
        · have hw := hw.2 h11
          refine mv_aload_n C dX9_areRules_42 rfl 0 rfl ?_
          refine mv_iload_n C dX9_areRules_43 rfl 2 rfl ?_
          refine mv_iconst (v := (1 : Int32)) C dX9_areRules_44 (by decide) ?_
          refine mv_iadd C dX9_areRules_45 ?_
          refine mv_topi (fun y12 ey12 => ?_)
          have hw := hw y12 ey12
          refine mv_aload_n C dX9_areRules_46 rfl 0 rfl ?_
          refine mv_get (v := .ref (b 4)) C iw_X9_areRules_X9 0 rfl rfl 5 (by decide) lk_X9_areRules_19 rfl rfl dX9_areRules_47 ?_
          refine mv_iload_n C dX9_areRules_50 rfl 2 rfl ?_
          refine mv_iconst (v := (1 : Int32)) C dX9_areRules_51 (by decide) ?_
          refine mv_iadd C dX9_areRules_52 ?_
          refine mv_topi (fun y13 ey13 => ?_)
          have hw := hw y13 ey13
          refine mv_callSi (f := wM cA b) (As := [.ref (b 4), .int y13]) (rest := [.int y12, .ref (b 0)]) C eM_ok hs (X9_end_4_met (l := l) (lev := lev - 1) (by omega) hw) (va_cwS 2 C.2.2.2.2.1 gX9_areRules_X9_end rfl rfl rfl (by decide +kernel) (mRm_le (by omega) (by decide))) rfl rfl (Nat.le_of_ble_eq_true rfl) dX9_areRules_53 ⟨Nat.le_refl 0, Nat.le_refl 0⟩ (fun r14 u15 hw => ?_)
          refine mv_callVi (f := wM cA b) (As := [.int y12, .int r14]) (rest := []) C eM_ok hs 0 rfl rfl (X9_isTemplate_met (l := l) (lev := lev - 1) (by omega) hw) (cwV 2 C.2.2.2.2.1 gX9_areRules_X9_isTemplate rfl rfl rfl (by decide +kernel) (mRm_le (by omega) (by decide))) rfl rfl (Nat.le_of_ble_eq_true rfl) dX9_areRules_56 ⟨Nat.le_refl 0, Nat.le_refl 0⟩ (fun r16 u17 hw => ?_)
          obtain ⟨gr16, hw⟩ := hw
          refine mv_if_ne (tgt := 64) C dX9_areRules_59 (by decide) (fun h18 => ?_) (fun h18 => ?_)
          · have hw := hw.1 h18
            refine mv_aload_n C dX9_areRules_64 rfl 0 rfl ?_
            refine mv_get (v := .ref (b 4)) C iw_X9_areRules_X9 0 rfl rfl 5 (by decide) lk_X9_areRules_19 rfl rfl dX9_areRules_65 ?_
            refine mv_iload_n C dX9_areRules_68 rfl 2 rfl ?_
            refine mv_callSi (f := wM cA b) (As := [.ref (b 4), .int x3]) (rest := []) C eM_ok hs (X9_end_4_met (l := l) (lev := lev - 1) (by omega) hw) (va_cwS 2 C.2.2.2.2.1 gX9_areRules_X9_end rfl rfl rfl (by decide +kernel) (mRm_le (by omega) (by decide))) rfl rfl (Nat.le_of_ble_eq_true rfl) dX9_areRules_69 ⟨Nat.le_refl 0, Nat.le_refl 0⟩ (fun r19 u20 hw => ?_)
            refine mv_istore_n (lv1 := [(3, .int r19), (0, .ref (b 0)), (2, .int x2)]) C dX9_areRules_72 rfl (by decide) rfl ?_
            refine mv_goto (tgt := 2) C dX9_areRules_73 (by decide) ?_
            refine mv_sub [1, 2, 0] rfl ?_
            exact hK2 x2 r19 u20 hw
          · have hw := hw.2 h18
            refine mv_iconst (v := (0 : Int32)) C dX9_areRules_62 (by decide) ?_
            exact mv_zret C dX9_areRules_63 (Or.inl rfl) hw
set_option maxHeartbeats 4000000 in
set_option maxRecDepth 100000 in
theorem X9_areRules_met (hlev : 5 ≤ lev) {x1 x2 : Int32} {u : mS} {post : Int32 → mS → Prop} (hw : wp_X9_areRules x1 x2 u post) : mKi l yX9_areRules wsX9_areRules lev (eM) (dC, dI) vwCl [(cA, .int)] (wM cA b) [.ref (b 0), .int x1, .int x2] u (fun r w => (r = 0 ∨ r = 1) ∧ post r w) := by
  refine mKz_of (cc := cX9_areRules) (maxL := 4) (by decide) rfl rfl (Nat.le_of_ble_eq_true rfl) rfl ?_
  intro p e s m args below meth c A C hs
  unfold wp_X9_areRules at hw
  refine mv_iload_n C dX9_areRules_0 rfl 1 rfl ?_
  refine mv_istore_n (lv1 := [(3, .int x1), (0, .ref (b 0)), (1, .int x1), (2, .int x2)]) C dX9_areRules_1 rfl (by decide) rfl ?_
  refine mv_sub [1, 3, 0] rfl ?_
  obtain ⟨n, hw⟩ := hw
  exact mL3_of (fun K hK b0 b1 b2 hw => wj_X9_areRules_2_ok C hs hlev hK hw) n x2 x1 u hw
set_option maxHeartbeats 4000000 in
set_option maxRecDepth 100000 in
theorem X9_what_2_met (hlev : 0 ≤ lev) {x1 : Int32} {u : mS} {post : Int32 → mS → Prop} (hw : wp_X9_what_2 x1 u post) : mKi l yX9_what wsX9_what lev (eM) (dC, dI) vwCl [(cA, .int)] (wM cA b) [.ref (b 2), .int x1] u post := by
  refine mKi_of (cc := cX9_what) (maxL := 2) (by decide) rfl rfl (Nat.le_of_ble_eq_true rfl) rfl ?_
  intro p e s m args below meth c A C hs
  unfold wp_X9_what_2 at hw
  refine mv_aload_n C dX9_what_0 rfl 0 rfl ?_
  refine mv_iload_n C dX9_what_1 rfl 1 rfl ?_
  refine mv_iald (f := u.2 1) C 2 0 rfl rfl hw.1 dX9_what_2 ?_
  refine mv_topi (fun y1 ey1 => ?_)
  have hw := hw.2 y1 ey1
  refine mv_ldc (v := (65536 : Int32)) C mw_X9_what__constant_RX9_88_65536_Int32_ dX9_what_3 ?_
  refine mv_irem C dX9_what_5 (by decide) ?_
  refine mv_topi (fun y2 ey2 => ?_)
  have hw := hw y2 ey2
  exact mv_iret C dX9_what_6 hw
set_option maxHeartbeats 4000000 in
set_option maxRecDepth 100000 in
theorem X9_core_met (hlev : 0 ≤ lev) {x0 : Int32} {u : mS} {post : Int32 → mS → Prop} (hw : wp_X9_core x0 u post) : mKi l yX9_core wsX9_core lev (eM) (dC, dI) vwCl [(cA, .int)] (wM cA b) [.int x0] u post := by
  refine mKi_of (cc := cX9_core) (maxL := 1) (by decide) rfl rfl (Nat.le_of_ble_eq_true rfl) rfl ?_
  intro p e s m args below meth c A C hs
  unfold wp_X9_core at hw
  refine mv_iload_n C dX9_core_0 rfl 0 rfl ?_
  refine mv_sipush (v := (206 : Int32)) C dX9_core_1 (by decide) ?_
  refine mv_icmp_ne (tgt := 9) C dX9_core_4 (by decide) (fun h1 => ?_) (fun h1 => ?_)
  · have hw := hw.1 h1
    refine mv_iload_n C dX9_core_9 rfl 0 rfl ?_
    refine mv_sipush (v := (294 : Int32)) C dX9_core_10 (by decide) ?_
    refine mv_icmp_ne (tgt := 18) C dX9_core_13 (by decide) (fun h2 => ?_) (fun h2 => ?_)
    · have hw := hw.1 h2
      refine mv_iload_n C dX9_core_18 rfl 0 rfl ?_
      refine mv_bipush (v := (17 : Int32)) C dX9_core_19 (by decide) ?_
      refine mv_icmp_ne (tgt := 26) C dX9_core_21 (by decide) (fun h3 => ?_) (fun h3 => ?_)
      · have hw := hw.1 h3
        refine mv_iload_n C dX9_core_26 rfl 0 rfl ?_
        refine mv_sipush (v := (403 : Int32)) C dX9_core_27 (by decide) ?_
        refine mv_icmp_ne (tgt := 37) C dX9_core_30 (by decide) (fun h4 => ?_) (fun h4 => ?_)
        · have hw := hw.1 h4
          refine mv_iconst (v := (-1 : Int32)) C dX9_core_37 (by decide) ?_
          exact mv_iret C dX9_core_38 hw
        · have hw := hw.2 h4
          refine mv_iconst (v := (3 : Int32)) C dX9_core_33 (by decide) ?_
          refine mv_goto (tgt := 38) C dX9_core_34 (by decide) ?_
          exact mv_iret C dX9_core_38 hw
      · have hw := hw.2 h3
        refine mv_iconst (v := (2 : Int32)) C dX9_core_24 (by decide) ?_
        exact mv_iret C dX9_core_25 hw
    · have hw := hw.2 h2
      refine mv_iconst (v := (1 : Int32)) C dX9_core_16 (by decide) ?_
      exact mv_iret C dX9_core_17 hw
  · have hw := hw.2 h1
    refine mv_iconst (v := (0 : Int32)) C dX9_core_7 (by decide) ?_
    exact mv_iret C dX9_core_8 hw
set_option maxHeartbeats 4000000 in
set_option maxRecDepth 100000 in
theorem wj_X9_rules_64_ok (C : mC p s m args meth c cX9_rules 5 wsX9_rules RX9 (some .int) (dC, dI) vwCl [(cA, .int)] A) (hs : eM A s) (hlev : 6 ≤ lev) {post : Int32 → mS → Prop} {u : mS} (hw : wj_X9_rules_64 post  u) : mV p l e (mRm lev) s m args below meth c 5 (dC, dI) vwCl A 0 0 (mQi below args s (dC, dI) vwCl [(cA, .int)] (wM cA b) A post) (wM cA b u) 64 [] [] := by
  unfold wj_X9_rules_64 at hw
  refine mv_sipush (v := (-1000 : Int32)) C dX9_rules_64 (by decide) ?_
  exact mv_iret C dX9_rules_67 hw
set_option maxHeartbeats 4000000 in
set_option maxRecDepth 100000 in
theorem wj_X9_rules_127_ok (C : mC p s m args meth c cX9_rules 5 wsX9_rules RX9 (some .int) (dC, dI) vwCl [(cA, .int)] A) (hs : eM A s) (hlev : 6 ≤ lev) {post : Int32 → mS → Prop} {u : mS} (hw : wj_X9_rules_127 post  u) : mV p l e (mRm lev) s m args below meth c 5 (dC, dI) vwCl A 0 0 (mQi below args s (dC, dI) vwCl [(cA, .int)] (wM cA b) A post) (wM cA b u) 127 [] [] := by
  unfold wj_X9_rules_127 at hw
  refine mv_sipush (v := (-1001 : Int32)) C dX9_rules_127 (by decide) ?_
  exact mv_iret C dX9_rules_130 hw
set_option maxHeartbeats 4000000 in
set_option maxRecDepth 100000 in
theorem wj_X9_rules_193_ok (C : mC p s m args meth c cX9_rules 5 wsX9_rules RX9 (some .int) (dC, dI) vwCl [(cA, .int)] A) (hs : eM A s) (hlev : 6 ≤ lev) {post : Int32 → mS → Prop} {x3 x4 z0 : Int32} {u : mS} (hw : wj_X9_rules_193 post x3 x4 z0 u) : mV p l e (mRm lev) s m args below meth c 5 (dC, dI) vwCl A 0 0 (mQi below args s (dC, dI) vwCl [(cA, .int)] (wM cA b) A post) (wM cA b u) 193 [(0, .ref (b 0)), (3, .int x3), (4, .int x4)] [.int z0, .ref (b 0)] := by
  unfold wj_X9_rules_193 at hw
  refine mv_put (ty := .int) (ws1 := wM cA b (mSet u 3 z0)) C iw_X9_rules_X9 tyX9 tyX9_ok nmX9 0 rfl rfl 8 (by decide) lk_X9_rules_157 rfl rfl rfl rfl rfl (Nat.le_of_ble_eq_true rfl) rfl dX9_rules_193 ?_
  refine mv_nm (f := wM cA b) (fun u45 eu45 => ?_)
  have hw := hw u45 eu45
  refine mv_aload_n C dX9_rules_196 rfl 0 rfl ?_
  refine mv_get (v := .ref (b 6)) C iw_X9_rules_X9 0 rfl rfl 9 (by decide) lk_X9_rules_25 rfl rfl dX9_rules_197 ?_
  refine mv_iload C dX9_rules_200 2 rfl ?_
  refine mv_iload_n C dX9_rules_202 rfl 1 rfl ?_
  refine mv_iast (f := u45.2 5) (ws1 := wM cA b (mPut u45 5 x4.toNatClampNeg x3)) C 6 0 rfl rfl hw.1 rfl dX9_rules_203 ?_
  refine mv_nm (f := wM cA b) (fun u46 eu46 => ?_)
  have hw := hw.2 u46 eu46
  refine mv_aload_n C dX9_rules_204 rfl 0 rfl ?_
  refine mv_get (v := .ref (b 7)) C iw_X9_rules_X9 0 rfl rfl 10 (by decide) lk_X9_rules_28 rfl rfl dX9_rules_205 ?_
  refine mv_iload C dX9_rules_208 2 rfl ?_
  refine mv_aload_n C dX9_rules_210 rfl 0 rfl ?_
  refine mv_aload_n C dX9_rules_211 rfl 0 rfl ?_
  refine mv_get (v := .int (u46.1 1)) C iw_X9_rules_X9 0 rfl rfl 4 (by decide) lk_X9_rules_104 rfl rfl dX9_rules_212 ?_
  refine mv_topi (fun y47 ey47 => ?_)
  have hw := hw y47 ey47
  refine mv_iconst (v := (2 : Int32)) C dX9_rules_215 (by decide) ?_
  refine mv_iadd C dX9_rules_216 ?_
  refine mv_topi (fun y48 ey48 => ?_)
  have hw := hw y48 ey48
  refine mv_sipush (v := (2599 : Int32)) C dX9_rules_217 (by decide) ?_
  refine mv_bipush (v := (120 : Int32)) C dX9_rules_220 (by decide) ?_
  refine mv_iload C dX9_rules_222 2 rfl ?_
  refine mv_imul C dX9_rules_224 ?_
  refine mv_topi (fun y49 ey49 => ?_)
  have hw := hw y49 ey49
  refine mv_callVi (f := wM cA b) (As := [.int y48, .int (2599 : Int32), .int y49]) (rest := [.int x4, .ref (b 7)]) C eM_ok hs 0 rfl rfl (X9_keep_met (l := l) (lev := lev - 1) (by omega) hw) (cwV 3 C.2.2.2.2.1 gX9_rules_X9_keep rfl rfl rfl (by decide +kernel) (mRm_le (by omega) (by decide))) rfl rfl (Nat.le_of_ble_eq_true rfl) dX9_rules_225 ⟨Nat.le_refl 0, Nat.le_refl 0⟩ (fun r50 u51 hw => ?_)
  refine mv_iast (f := u51.2 6) (ws1 := wM cA b (mPut u51 6 x4.toNatClampNeg r50)) C 7 0 rfl rfl hw.1 rfl dX9_rules_228 ?_
  refine mv_nm (f := wM cA b) (fun u52 eu52 => ?_)
  have hw := hw.2 u52 eu52
  refine mv_aload_n C dX9_rules_229 rfl 0 rfl ?_
  refine mv_get (v := .int (u52.1 3)) C iw_X9_rules_X9 0 rfl rfl 8 (by decide) lk_X9_rules_157 rfl rfl dX9_rules_230 ?_
  refine mv_topi (fun y53 ey53 => ?_)
  have hw := hw y53 ey53
  exact mv_iret C dX9_rules_233 hw
set_option maxHeartbeats 4000000 in
set_option maxRecDepth 100000 in
theorem wj_X9_rules_160_ok (C : mC p s m args meth c cX9_rules 5 wsX9_rules RX9 (some .int) (dC, dI) vwCl [(cA, .int)] A) (hs : eM A s) (hlev : 6 ≤ lev) {post : Int32 → mS → Prop} {x3 x4 : Int32} {u : mS} (hw : wj_X9_rules_160 post x3 x4 u) : mV p l e (mRm lev) s m args below meth c 5 (dC, dI) vwCl A 0 0 (mQi below args s (dC, dI) vwCl [(cA, .int)] (wM cA b) A post) (wM cA b u) 160 [(0, .ref (b 0)), (3, .int x3), (4, .int x4)] [] := by
  unfold wj_X9_rules_160 at hw
  refine mv_iload C dX9_rules_160 2 rfl ?_
  refine mv_iconst (v := (4 : Int32)) C dX9_rules_162 (by decide) ?_
  refine mv_icmp_ne (tgt := 170) C dX9_rules_163 (by decide) (fun h39 => ?_) (fun h39 => ?_)
  · have hw := hw.1 h39
    refine mv_aload_n C dX9_rules_170 rfl 0 rfl ?_
    refine mv_iload C dX9_rules_171 2 rfl ?_
    refine mv_aload_n C dX9_rules_173 rfl 0 rfl ?_
    refine mv_get (v := .int (u.1 3)) C iw_X9_rules_X9 0 rfl rfl 8 (by decide) lk_X9_rules_157 rfl rfl dX9_rules_174 ?_
    refine mv_topi (fun y40 ey40 => ?_)
    have hw := hw y40 ey40
    refine mv_icmp_ne (tgt := 189) C dX9_rules_177 (by decide) (fun h41 => ?_) (fun h41 => ?_)
    · have hw := hw.1 h41
      refine mv_aload_n C dX9_rules_189 rfl 0 rfl ?_
      refine mv_get (v := .int (u.1 3)) C iw_X9_rules_X9 0 rfl rfl 8 (by decide) lk_X9_rules_157 rfl rfl dX9_rules_190 ?_
      refine mv_topi (fun y42 ey42 => ?_)
      have hw := hw y42 ey42
      exact wj_X9_rules_193_ok C hs hlev hw
    · have hw := hw.2 h41
      refine mv_aload_n C dX9_rules_180 rfl 0 rfl ?_
      refine mv_get (v := .int (u.1 3)) C iw_X9_rules_X9 0 rfl rfl 8 (by decide) lk_X9_rules_157 rfl rfl dX9_rules_181 ?_
      refine mv_topi (fun y43 ey43 => ?_)
      have hw := hw y43 ey43
      refine mv_iconst (v := (1 : Int32)) C dX9_rules_184 (by decide) ?_
      refine mv_iadd C dX9_rules_185 ?_
      refine mv_topi (fun y44 ey44 => ?_)
      have hw := hw y44 ey44
      refine mv_goto (tgt := 193) C dX9_rules_186 (by decide) ?_
      exact wj_X9_rules_193_ok C hs hlev hw
  · have hw := hw.2 h39
    refine mv_sipush (v := (-1001 : Int32)) C dX9_rules_166 (by decide) ?_
    exact mv_iret C dX9_rules_169 hw
set_option maxHeartbeats 4000000 in
set_option maxRecDepth 100000 in
theorem wj_X9_rules_134_ok (C : mC p s m args meth c cX9_rules 5 wsX9_rules RX9 (some .int) (dC, dI) vwCl [(cA, .int)] A) (hs : eM A s) (hlev : 6 ≤ lev) {post : Int32 → mS → Prop} {K134 : Int32 → Int32 → mS → Prop} (hK134 : ∀ (x3 x4 : Int32) (u : mS), K134 x3 x4 u → mV p l e (mRm lev) s m args below meth c 5 (dC, dI) vwCl A 0 0 (mQi below args s (dC, dI) vwCl [(cA, .int)] (wM cA b) A post) (wM cA b u) 134 [(0, .ref (b 0)), (3, .int x3), (4, .int x4)] []) {x3 x4 : Int32} {u : mS} (hw : wj_X9_rules_134 K134 post x3 x4 u) : mV p l e (mRm lev) s m args below meth c 5 (dC, dI) vwCl A 0 0 (mQi below args s (dC, dI) vwCl [(cA, .int)] (wM cA b) A post) (wM cA b u) 134 [(0, .ref (b 0)), (3, .int x3), (4, .int x4)] [] := by
  unfold wj_X9_rules_134 at hw
  refine mv_iload C dX9_rules_134 2 rfl ?_
  refine mv_aload_n C dX9_rules_136 rfl 0 rfl ?_
  refine mv_get (v := .int (u.1 3)) C iw_X9_rules_X9 0 rfl rfl 8 (by decide) lk_X9_rules_157 rfl rfl dX9_rules_137 ?_
  refine mv_topi (fun y34 ey34 => ?_)
  have hw := hw y34 ey34
  refine mv_icmp_ge (tgt := 160) C dX9_rules_140 (by decide) (fun h35 => ?_) (fun h35 => ?_)
  · have hw := hw.1 h35
    exact wj_X9_rules_160_ok C hs hlev hw
  · have hw := hw.2 h35
    refine mv_aload_n C dX9_rules_143 rfl 0 rfl ?_
    refine mv_get (v := .ref (b 6)) C iw_X9_rules_X9 0 rfl rfl 9 (by decide) lk_X9_rules_25 rfl rfl dX9_rules_144 ?_
    refine mv_iload C dX9_rules_147 2 rfl ?_
    refine mv_iald (f := u.2 5) C 6 0 rfl rfl hw.1 dX9_rules_149 ?_
    refine mv_topi (fun y36 ey36 => ?_)
    have hw := hw.2 y36 ey36
    refine mv_iload_n C dX9_rules_150 rfl 1 rfl ?_
    refine mv_icmp_eq (tgt := 160) C dX9_rules_151 (by decide) (fun h37 => ?_) (fun h37 => ?_)
    · have hw := hw.1 h37
      exact wj_X9_rules_160_ok C hs hlev hw
    · have hw := hw.2 h37
      obtain ⟨y38, ey38⟩ : ∃ z : Int32, z = x4 + (1 : Int32) := ⟨_, rfl⟩
      have hw := hw y38 ey38
      refine mv_iinc (v := y38) (lv1 := [(4, .int y38), (0, .ref (b 0)), (3, .int x3)]) C dX9_rules_154 2 rfl (by rw [ey38]; rfl) (by decide) rfl ?_
      refine mv_goto (tgt := 134) C dX9_rules_157 (by decide) ?_
      refine mv_sub [1, 2, 0] rfl ?_
      exact hK134 x3 y38 u hw
set_option maxHeartbeats 4000000 in
set_option maxRecDepth 100000 in
theorem X9_rules_met (hlev : 6 ≤ lev) {u : mS} {post : Int32 → mS → Prop} (hw : wp_X9_rules  u post) : mKi l yX9_rules wsX9_rules lev (eM) (dC, dI) vwCl [(cA, .int)] (wM cA b) [.ref (b 0)] u post := by
  refine mKi_of (cc := cX9_rules) (maxL := 5) (by decide) rfl rfl (Nat.le_of_ble_eq_true rfl) rfl ?_
  intro p e s m args below meth c A C hs
  unfold wp_X9_rules at hw
  refine mv_aload_n C dX9_rules_0 rfl 0 rfl ?_
  refine mv_callVi (f := wM cA b) (As := []) (rest := []) C eM_ok hs 0 rfl rfl (X9_read_met (l := l) (lev := lev - 1) (by omega) hw) (cwV 0 C.2.2.2.2.1 gX9_rules_X9_read rfl rfl rfl (by decide +kernel) (mRm_le (by omega) (by decide))) rfl rfl (Nat.le_of_ble_eq_true rfl) dX9_rules_1 ⟨Nat.le_refl 0, Nat.le_refl 0⟩ (fun r1 u2 hw => ?_)
  refine mv_istore_n (lv1 := [(1, .int r1), (0, .ref (b 0))]) C dX9_rules_4 rfl (by decide) rfl ?_
  refine mv_aload_n C dX9_rules_5 rfl 1 rfl ?_
  refine mv_iconst (v := (0 : Int32)) C dX9_rules_6 (by decide) ?_
  refine mv_put (ty := .int) (ws1 := wM cA b (mSet u2 0 (0 : Int32))) C iw_X9_rules_X9 tyX9 tyX9_ok nmX9 0 rfl rfl 1 (by decide) lk_X9_rules_70 rfl rfl rfl rfl rfl (Nat.le_of_ble_eq_true rfl) rfl dX9_rules_7 ?_
  refine mv_nm (f := wM cA b) (fun u3 eu3 => ?_)
  have hw := hw u3 eu3
  refine mv_iload_n C dX9_rules_10 rfl 0 rfl ?_
  refine mv_if_lt (tgt := 18) C dX9_rules_11 (by decide) (fun h4 => ?_) (fun h4 => ?_)
  · have hw := hw.1 h4
    refine mv_aload_n C dX9_rules_18 rfl 1 rfl ?_
    refine mv_get (v := .ref (b 2)) C iw_X9_rules_X9 0 rfl rfl 2 (by decide) lk_X9_rules_13 rfl rfl dX9_rules_19 ?_
    refine mv_aload_n C dX9_rules_22 rfl 1 rfl ?_
    refine mv_get (v := .int (u3.1 1)) C iw_X9_rules_X9 0 rfl rfl 4 (by decide) lk_X9_rules_104 rfl rfl dX9_rules_23 ?_
    refine mv_topi (fun y5 ey5 => ?_)
    have hw := hw y5 ey5
    refine mv_callSi (f := wM cA b) (As := [.ref (b 2), .int y5]) (rest := []) C eM_ok hs (X9_kind_2_met (l := l) (lev := lev - 1) (by omega) hw) (va_cwS 2 C.2.2.2.2.1 gX9_rules_X9_kind rfl rfl rfl (by decide +kernel) (mRm_le (by omega) (by decide))) rfl rfl (Nat.le_of_ble_eq_true rfl) dX9_rules_26 ⟨Nat.le_refl 0, Nat.le_refl 0⟩ (fun r6 u7 hw => ?_)
    refine mv_iconst (v := (1 : Int32)) C dX9_rules_29 (by decide) ?_
    refine mv_icmp_ne (tgt := 64) C dX9_rules_30 (by decide) (fun h8 => ?_) (fun h8 => ?_)
    · have hw := hw.1 h8
      refine mv_sub [] rfl ?_
      exact wj_X9_rules_64_ok C hs hlev hw
    · have hw := hw.2 h8
      refine mv_aload_n C dX9_rules_33 rfl 1 rfl ?_
      refine mv_get (v := .ref (b 2)) C iw_X9_rules_X9 0 rfl rfl 2 (by decide) lk_X9_rules_13 rfl rfl dX9_rules_34 ?_
      refine mv_aload_n C dX9_rules_37 rfl 1 rfl ?_
      refine mv_get (v := .int (u7.1 1)) C iw_X9_rules_X9 0 rfl rfl 4 (by decide) lk_X9_rules_104 rfl rfl dX9_rules_38 ?_
      refine mv_topi (fun y9 ey9 => ?_)
      have hw := hw y9 ey9
      refine mv_iconst (v := (1 : Int32)) C dX9_rules_41 (by decide) ?_
      refine mv_iadd C dX9_rules_42 ?_
      refine mv_topi (fun y10 ey10 => ?_)
      have hw := hw y10 ey10
      refine mv_callSi (f := wM cA b) (As := [.ref (b 2), .int y10]) (rest := []) C eM_ok hs (X9_kind_2_met (l := l) (lev := lev - 1) (by omega) hw) (va_cwS 2 C.2.2.2.2.1 gX9_rules_X9_kind rfl rfl rfl (by decide +kernel) (mRm_le (by omega) (by decide))) rfl rfl (Nat.le_of_ble_eq_true rfl) dX9_rules_43 ⟨Nat.le_refl 0, Nat.le_refl 0⟩ (fun r11 u12 hw => ?_)
      refine mv_iconst (v := (3 : Int32)) C dX9_rules_46 (by decide) ?_
      refine mv_icmp_ne (tgt := 64) C dX9_rules_47 (by decide) (fun h13 => ?_) (fun h13 => ?_)
      · have hw := hw.1 h13
        refine mv_sub [] rfl ?_
        exact wj_X9_rules_64_ok C hs hlev hw
      · have hw := hw.2 h13
        refine mv_aload_n C dX9_rules_50 rfl 1 rfl ?_
        refine mv_get (v := .ref (b 2)) C iw_X9_rules_X9 0 rfl rfl 2 (by decide) lk_X9_rules_13 rfl rfl dX9_rules_51 ?_
        refine mv_aload_n C dX9_rules_54 rfl 1 rfl ?_
        refine mv_get (v := .int (u12.1 1)) C iw_X9_rules_X9 0 rfl rfl 4 (by decide) lk_X9_rules_104 rfl rfl dX9_rules_55 ?_
        refine mv_topi (fun y14 ey14 => ?_)
        have hw := hw y14 ey14
        refine mv_callSi (f := wM cA b) (As := [.ref (b 2), .int y14]) (rest := []) C eM_ok hs (X9_dots_2_met (l := l) (lev := lev - 1) (by omega) hw) (va_cwS 2 C.2.2.2.2.1 gX9_rules_X9_dots rfl rfl rfl (by decide +kernel) (mRm_le (by omega) (by decide))) rfl rfl (Nat.le_of_ble_eq_true rfl) dX9_rules_58 ⟨Nat.le_refl 0, Nat.le_refl 0⟩ (fun r15 u16 hw => ?_)
        refine mv_if_le (tgt := 68) C dX9_rules_61 (by decide) (fun h17 => ?_) (fun h17 => ?_)
        · have hw := hw.1 h17
          refine mv_aload_n C dX9_rules_68 rfl 1 rfl ?_
          refine mv_aload_n C dX9_rules_69 rfl 1 rfl ?_
          refine mv_get (v := .int (u16.1 1)) C iw_X9_rules_X9 0 rfl rfl 4 (by decide) lk_X9_rules_104 rfl rfl dX9_rules_70 ?_
          refine mv_topi (fun y18 ey18 => ?_)
          have hw := hw y18 ey18
          refine mv_iconst (v := (2 : Int32)) C dX9_rules_73 (by decide) ?_
          refine mv_iadd C dX9_rules_74 ?_
          refine mv_topi (fun y19 ey19 => ?_)
          have hw := hw y19 ey19
          refine mv_sipush (v := (2599 : Int32)) C dX9_rules_75 (by decide) ?_
          refine mv_sipush (v := (480 : Int32)) C dX9_rules_78 (by decide) ?_
          refine mv_callVi (f := wM cA b) (As := [.int y19, .int (2599 : Int32), .int (480 : Int32)]) (rest := []) C eM_ok hs 0 rfl rfl (X9_keep_met (l := l) (lev := lev - 1) (by omega) hw) (cwV 3 C.2.2.2.2.1 gX9_rules_X9_keep rfl rfl rfl (by decide +kernel) (mRm_le (by omega) (by decide))) rfl rfl (Nat.le_of_ble_eq_true rfl) dX9_rules_81 ⟨Nat.le_refl 0, Nat.le_refl 0⟩ (fun r20 u21 hw => ?_)
          refine mv_istore_n (lv1 := [(2, .int r20), (1, .int r1), (0, .ref (b 0))]) C dX9_rules_84 rfl (by decide) rfl ?_
          refine mv_aload_n C dX9_rules_85 rfl 2 rfl ?_
          refine mv_sipush (v := (480 : Int32)) C dX9_rules_86 (by decide) ?_
          refine mv_iload_n C dX9_rules_89 rfl 0 rfl ?_
          refine mv_callVi (f := wM cA b) (As := [.int (480 : Int32), .int r20]) (rest := []) C eM_ok hs 0 rfl rfl (X9_areRules_met (l := l) (lev := lev - 1) (by omega) hw) (cwV 2 C.2.2.2.2.1 gX9_rules_X9_areRules rfl rfl rfl (by decide +kernel) (mRm_le (by omega) (by decide))) rfl rfl (Nat.le_of_ble_eq_true rfl) dX9_rules_90 ⟨Nat.le_refl 0, Nat.le_refl 0⟩ (fun r22 u23 hw => ?_)
          obtain ⟨gr22, hw⟩ := hw
          refine mv_if_ne (tgt := 100) C dX9_rules_93 (by decide) (fun h24 => ?_) (fun h24 => ?_)
          · have hw := hw.1 h24
            refine mv_aload_n C dX9_rules_100 rfl 2 rfl ?_
            refine mv_get (v := .ref (b 2)) C iw_X9_rules_X9 0 rfl rfl 2 (by decide) lk_X9_rules_13 rfl rfl dX9_rules_101 ?_
            refine mv_aload_n C dX9_rules_104 rfl 2 rfl ?_
            refine mv_get (v := .int (u23.1 1)) C iw_X9_rules_X9 0 rfl rfl 4 (by decide) lk_X9_rules_104 rfl rfl dX9_rules_105 ?_
            refine mv_topi (fun y25 ey25 => ?_)
            have hw := hw y25 ey25
            refine mv_iconst (v := (1 : Int32)) C dX9_rules_108 (by decide) ?_
            refine mv_iadd C dX9_rules_109 ?_
            refine mv_topi (fun y26 ey26 => ?_)
            have hw := hw y26 ey26
            refine mv_callSi (f := wM cA b) (As := [.ref (b 2), .int y26]) (rest := []) C eM_ok hs (X9_what_2_met (l := l) (lev := lev - 1) (by omega) hw) (va_cwS 2 C.2.2.2.2.1 gX9_rules_X9_what rfl rfl rfl (by decide +kernel) (mRm_le (by omega) (by decide))) rfl rfl (Nat.le_of_ble_eq_true rfl) dX9_rules_110 ⟨Nat.le_refl 0, Nat.le_refl 0⟩ (fun r27 u28 hw => ?_)
            refine mv_istore_n (lv1 := [(3, .int r27), (2, .int r20), (1, .int r1), (0, .ref (b 0))]) C dX9_rules_113 rfl (by decide) rfl ?_
            refine mv_iload_n C dX9_rules_114 rfl 0 rfl ?_
            refine mv_callSi (f := wM cA b) (As := [.int r27]) (rest := []) C eM_ok hs (X9_core_met (l := l) (lev := lev - 1) (by omega) hw) (va_cwS 1 C.2.2.2.2.1 gX9_rules_X9_core rfl rfl rfl (by decide +kernel) (mRm_le (by omega) (by decide))) rfl rfl (Nat.le_of_ble_eq_true rfl) dX9_rules_115 ⟨Nat.le_refl 0, Nat.le_refl 0⟩ (fun r29 u30 hw => ?_)
            refine mv_if_ge (tgt := 127) C dX9_rules_118 (by decide) (fun h31 => ?_) (fun h31 => ?_)
            · have hw := hw.1 h31
              refine mv_sub [] rfl ?_
              exact wj_X9_rules_127_ok C hs hlev hw
            · have hw := hw.2 h31
              refine mv_iload_n C dX9_rules_121 rfl 0 rfl ?_
              refine mv_ldc (v := (40000 : Int32)) C mw_X9_rules__constant_RX9_92_40000_Int32_ dX9_rules_122 ?_
              refine mv_icmp_lt (tgt := 131) C dX9_rules_124 (by decide) (fun h32 => ?_) (fun h32 => ?_)
              · have hw := hw.1 h32
                refine mv_iconst (v := (0 : Int32)) C dX9_rules_131 (by decide) ?_
                refine mv_istore (lv1 := [(4, .int (0 : Int32)), (3, .int r27), (2, .int r20), (1, .int r1), (0, .ref (b 0))]) C dX9_rules_132 (by decide) rfl ?_
                refine mv_sub [4, 1, 0] rfl ?_
                obtain ⟨n, hw⟩ := hw
                exact mL3_of (fun K hK b0 b1 b2 hw => wj_X9_rules_134_ok C hs hlev hK hw) n r27 (0 : Int32) u30 hw
              · have hw := hw.2 h32
                refine mv_sub [] rfl ?_
                exact wj_X9_rules_127_ok C hs hlev hw
          · have hw := hw.2 h24
            refine mv_sipush (v := (-1000 : Int32)) C dX9_rules_96 (by decide) ?_
            exact mv_iret C dX9_rules_99 hw
        · have hw := hw.2 h17
          refine mv_sub [] rfl ?_
          exact wj_X9_rules_64_ok C hs hlev hw
  · have hw := hw.2 h4
    refine mv_iconst (v := (-1 : Int32)) C dX9_rules_14 (by decide) ?_
    refine mv_iload_n C dX9_rules_15 rfl 0 rfl ?_
    refine mv_isub C dX9_rules_16 ?_
    refine mv_topi (fun y33 ey33 => ?_)
    have hw := hw y33 ey33
    exact mv_iret C dX9_rules_17 hw
end
