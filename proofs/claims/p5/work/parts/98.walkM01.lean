set_option maxRecDepth 20000 in
theorem ggX9_read_X9_look : GoodIn wsX9_read wsX9_look := goodIn_r _ [10, 1, 11, 37, 38, 39, 40, 41, 42, 43, 44, 45, 46, 47, 48, 49, 50, 51, 52, 53, 54, 55, 56, 57, 58, 59, 60, 61, 62, 63, 64, 65, 66, 67, 68, 69, 70, 71, 72] (by decide +kernel) (by decide +kernel)
set_option maxRecDepth 20000 in
theorem gX9_read_X9_look : GoodIn wsX9_read (wsV RX9 74 RX9 yX9_look wsX9_look) := goodIn_app (goodIn_of _ (by decide +kernel)) ggX9_read_X9_look
set_option maxRecDepth 100000 in
theorem gpX9_read_X9_token_0 : GoodIn wsX9_read ([.methodLink RX9 74 yX9_look, .instanceMethod yX9_look, .selects RX9 yX9_look yX9_look, .initialized RX9, .code yX9_look cX9_look 2 (some .int), .fieldLink RX9 70 "MarkedNamesModel" "length" "I", .fieldLink RX9 7 "MarkedNamesModel" "typed" "[I", .methodLink RX9 78 yX9_isLetter, .static yX9_isLetter, .code yX9_isLetter cX9_isLetter 1 (some .boolean), .methodLink RX9 85 yX9_run, .instanceMethod yX9_run, .selects RX9 yX9_run yX9_run, .code yX9_run cX9_run 4 (some .int), .methodLink RX9 82 yX9_isDigit, .static yX9_isDigit, .code yX9_isDigit cX9_isDigit 1 (some .boolean)] : List Cond) := goodIn_r _ [6, 7, 8, 9, 10, 1, 11, 16, 17, 18, 19, 20, 21, 22, 23, 24, 25] (by decide +kernel) (by decide +kernel)
set_option maxRecDepth 100000 in
theorem gpX9_read_X9_token_1 : GoodIn wsX9_read wsX90 := goodIn_r _ [37, 38, 39, 40, 41, 42, 43, 44, 45, 46, 47, 48, 49, 50, 51, 52, 53, 54, 55, 56, 57, 58, 59, 60, 61, 62, 63, 64, 65, 66, 67, 68, 69, 70, 71, 72] (by decide +kernel) (by decide +kernel)
set_option maxRecDepth 100000 in
theorem gpX9_read_X9_token_c : GoodIn wsX9_read [Cond.code yX9_token cX9_token 3 (some .int)] := goodIn_r _ [15] (by decide +kernel) (by decide +kernel)
theorem ggX9_read_X9_token : GoodIn wsX9_read wsX9_token := goodIn_cons2 gpX9_read_X9_token_c (goodIn_app gpX9_read_X9_token_0 gpX9_read_X9_token_1)
set_option maxRecDepth 20000 in
theorem gX9_read_X9_token : GoodIn wsX9_read (wsV RX9 93 RX9 yX9_token wsX9_token) := goodIn_app (goodIn_of _ (by decide +kernel)) ggX9_read_X9_token
set_option maxRecDepth 100000 in
theorem gpX9_read_X9_code_0 : GoodIn wsX9_read ([.constant RX9 88 (65536), .constant RX9 89 (131072), .constant RX9 90 (327680), .constant RX9 91 (393216), .constant RX9 92 (40000), .methodLink RX9 74 yX9_look, .instanceMethod yX9_look, .selects RX9 yX9_look yX9_look, .initialized RX9, .code yX9_look cX9_look 2 (some .int), .fieldLink RX9 70 "MarkedNamesModel" "length" "I", .fieldLink RX9 7 "MarkedNamesModel" "typed" "[I", .methodLink RX9 82 yX9_isDigit, .static yX9_isDigit, .code yX9_isDigit cX9_isDigit 1 (some .boolean), .methodLink RX9 78 yX9_isLetter, .static yX9_isLetter, .code yX9_isLetter cX9_isLetter 1 (some .boolean)] : List Cond) := goodIn_r _ [2, 30, 31, 32, 33, 6, 7, 8, 9, 10, 1, 11, 23, 24, 25, 16, 17, 18] (by decide +kernel) (by decide +kernel)
set_option maxRecDepth 100000 in
theorem gpX9_read_X9_code_1 : GoodIn wsX9_read wsX90 := goodIn_r _ [37, 38, 39, 40, 41, 42, 43, 44, 45, 46, 47, 48, 49, 50, 51, 52, 53, 54, 55, 56, 57, 58, 59, 60, 61, 62, 63, 64, 65, 66, 67, 68, 69, 70, 71, 72] (by decide +kernel) (by decide +kernel)
set_option maxRecDepth 100000 in
theorem gpX9_read_X9_code_c : GoodIn wsX9_read [Cond.code yX9_code cX9_code 6 (some .int)] := goodIn_r _ [29] (by decide +kernel) (by decide +kernel)
theorem ggX9_read_X9_code : GoodIn wsX9_read wsX9_code := goodIn_cons2 gpX9_read_X9_code_c (goodIn_app gpX9_read_X9_code_0 gpX9_read_X9_code_1)
set_option maxRecDepth 20000 in
theorem gX9_read_X9_code : GoodIn wsX9_read (wsV RX9 96 RX9 yX9_code wsX9_code) := goodIn_app (goodIn_of _ (by decide +kernel)) ggX9_read_X9_code
set_option maxRecDepth 20000 in
theorem ggX9_read_X9_fits : GoodIn wsX9_read wsX9_fits := goodIn_r _ [36] (by decide +kernel) (by decide +kernel)
set_option maxRecDepth 20000 in
theorem gX9_read_X9_fits : GoodIn wsX9_read (va_wsS RX9 100 yX9_fits wsX9_fits) := goodIn_app (goodIn_of _ (by decide +kernel)) ggX9_read_X9_fits
theorem dX9_read_0 : decode cX9_read 0 = .ok (.iconst 0, 1) := by decide +kernel
theorem dX9_read_1 : decode cX9_read 1 = .ok (.istore_n 1, 1) := by decide +kernel
theorem dX9_read_2 : decode cX9_read 2 = .ok (.iconst 0, 1) := by decide +kernel
theorem dX9_read_3 : decode cX9_read 3 = .ok (.istore_n 2, 1) := by decide +kernel
theorem dX9_read_4 : decode cX9_read 4 = .ok (.iconst 0, 1) := by decide +kernel
theorem dX9_read_5 : decode cX9_read 5 = .ok (.istore_n 3, 1) := by decide +kernel
theorem dX9_read_6 : decode cX9_read 6 = .ok (.iconst 0, 1) := by decide +kernel
theorem dX9_read_7 : decode cX9_read 7 = .ok (.istore 4, 2) := by decide +kernel
theorem dX9_read_9 : decode cX9_read 9 = .ok (.iload 4, 2) := by decide +kernel
theorem dX9_read_11 : decode cX9_read 11 = .ok (.aload_n 0, 1) := by decide +kernel
theorem dX9_read_12 : decode cX9_read 12 = .ok (.getfield 70, 3) := by decide +kernel
theorem dX9_read_15 : decode cX9_read 15 = .ok (.if_icmp .ge 122, 3) := by decide +kernel
theorem dX9_read_18 : decode cX9_read 18 = .ok (.aload_n 0, 1) := by decide +kernel
theorem dX9_read_19 : decode cX9_read 19 = .ok (.iload 4, 2) := by decide +kernel
theorem dX9_read_21 : decode cX9_read 21 = .ok (.invokevirtual 74, 3) := by decide +kernel
theorem dX9_read_24 : decode cX9_read 24 = .ok (.bipush 32, 2) := by decide +kernel
theorem dX9_read_26 : decode cX9_read 26 = .ok (.if_icmp .ne 9, 3) := by decide +kernel
theorem dX9_read_29 : decode cX9_read 29 = .ok (.iinc 4 1, 3) := by decide +kernel
theorem dX9_read_32 : decode cX9_read 32 = .ok (.goto (-23), 3) := by decide +kernel
theorem dX9_read_35 : decode cX9_read 35 = .ok (.aload_n 0, 1) := by decide +kernel
theorem dX9_read_36 : decode cX9_read 36 = .ok (.iload 4, 2) := by decide +kernel
theorem dX9_read_38 : decode cX9_read 38 = .ok (.invokevirtual 93, 3) := by decide +kernel
theorem dX9_read_41 : decode cX9_read 41 = .ok (.istore 5, 2) := by decide +kernel
theorem dX9_read_43 : decode cX9_read 43 = .ok (.iload 5, 2) := by decide +kernel
theorem dX9_read_45 : decode cX9_read 45 = .ok (.ifCond .le 14, 3) := by decide +kernel
theorem dX9_read_48 : decode cX9_read 48 = .ok (.aload_n 0, 1) := by decide +kernel
theorem dX9_read_49 : decode cX9_read 49 = .ok (.iload 4, 2) := by decide +kernel
theorem dX9_read_51 : decode cX9_read 51 = .ok (.iload 5, 2) := by decide +kernel
theorem dX9_read_53 : decode cX9_read 53 = .ok (.invokevirtual 96, 3) := by decide +kernel
theorem dX9_read_56 : decode cX9_read 56 = .ok (.goto 4, 3) := by decide +kernel
theorem dX9_read_59 : decode cX9_read 59 = .ok (.iconst 0, 1) := by decide +kernel
theorem dX9_read_60 : decode cX9_read 60 = .ok (.istore 6, 2) := by decide +kernel
theorem dX9_read_62 : decode cX9_read 62 = .ok (.iload 6, 2) := by decide +kernel
theorem dX9_read_64 : decode cX9_read 64 = .ok (.ldc 88, 2) := by decide +kernel
theorem dX9_read_66 : decode cX9_read 66 = .ok (.idiv, 1) := by decide +kernel
theorem dX9_read_67 : decode cX9_read 67 = .ok (.istore 7, 2) := by decide +kernel
theorem dX9_read_69 : decode cX9_read 69 = .ok (.iload 5, 2) := by decide +kernel
theorem dX9_read_71 : decode cX9_read 71 = .ok (.ifCond .eq 13, 3) := by decide +kernel
theorem dX9_read_74 : decode cX9_read 74 = .ok (.iload 7, 2) := by decide +kernel
theorem dX9_read_76 : decode cX9_read 76 = .ok (.iload_n 2, 1) := by decide +kernel
theorem dX9_read_77 : decode cX9_read 77 = .ok (.iload_n 3, 1) := by decide +kernel
theorem dX9_read_78 : decode cX9_read 78 = .ok (.invokestatic 100, 3) := by decide +kernel
theorem dX9_read_81 : decode cX9_read 81 = .ok (.ifCond .ne 6, 3) := by decide +kernel
theorem dX9_read_84 : decode cX9_read 84 = .ok (.iload 4, 2) := by decide +kernel
theorem dX9_read_86 : decode cX9_read 86 = .ok (.ireturn, 1) := by decide +kernel
theorem dX9_read_87 : decode cX9_read 87 = .ok (.aload_n 0, 1) := by decide +kernel
theorem dX9_read_88 : decode cX9_read 88 = .ok (.getfield 13, 3) := by decide +kernel
theorem dX9_read_91 : decode cX9_read 91 = .ok (.iload_n 1, 1) := by decide +kernel
theorem dX9_read_92 : decode cX9_read 92 = .ok (.iload 6, 2) := by decide +kernel
theorem dX9_read_94 : decode cX9_read 94 = .ok (.iastore, 1) := by decide +kernel
theorem dX9_read_95 : decode cX9_read 95 = .ok (.iinc 1 1, 3) := by decide +kernel
theorem dX9_read_98 : decode cX9_read 98 = .ok (.iload 7, 2) := by decide +kernel
theorem dX9_read_100 : decode cX9_read 100 = .ok (.iconst 1, 1) := by decide +kernel
theorem dX9_read_101 : decode cX9_read 101 = .ok (.if_icmp .ne 9, 3) := by decide +kernel
theorem dX9_read_104 : decode cX9_read 104 = .ok (.iload_n 2, 1) := by decide +kernel
theorem dX9_read_105 : decode cX9_read 105 = .ok (.iconst 1, 1) := by decide +kernel
theorem dX9_read_106 : decode cX9_read 106 = .ok (.iadd, 1) := by decide +kernel
theorem dX9_read_107 : decode cX9_read 107 = .ok (.goto 16, 3) := by decide +kernel
theorem dX9_read_110 : decode cX9_read 110 = .ok (.iload 7, 2) := by decide +kernel
theorem dX9_read_112 : decode cX9_read 112 = .ok (.iconst 2, 1) := by decide +kernel
theorem dX9_read_113 : decode cX9_read 113 = .ok (.if_icmp .ne 9, 3) := by decide +kernel
theorem dX9_read_116 : decode cX9_read 116 = .ok (.iload_n 2, 1) := by decide +kernel
theorem dX9_read_117 : decode cX9_read 117 = .ok (.iconst 1, 1) := by decide +kernel
theorem dX9_read_118 : decode cX9_read 118 = .ok (.isub, 1) := by decide +kernel
theorem dX9_read_119 : decode cX9_read 119 = .ok (.goto 4, 3) := by decide +kernel
theorem dX9_read_122 : decode cX9_read 122 = .ok (.iload_n 2, 1) := by decide +kernel
theorem dX9_read_123 : decode cX9_read 123 = .ok (.istore_n 2, 1) := by decide +kernel
theorem dX9_read_124 : decode cX9_read 124 = .ok (.iload 7, 2) := by decide +kernel
theorem dX9_read_126 : decode cX9_read 126 = .ok (.istore_n 3, 1) := by decide +kernel
theorem dX9_read_127 : decode cX9_read 127 = .ok (.iload 4, 2) := by decide +kernel
theorem dX9_read_129 : decode cX9_read 129 = .ok (.iload 5, 2) := by decide +kernel
theorem dX9_read_131 : decode cX9_read 131 = .ok (.iadd, 1) := by decide +kernel
theorem dX9_read_132 : decode cX9_read 132 = .ok (.istore 4, 2) := by decide +kernel
theorem dX9_read_134 : decode cX9_read 134 = .ok (.goto (-125), 3) := by decide +kernel
theorem dX9_read_137 : decode cX9_read 137 = .ok (.iload_n 2, 1) := by decide +kernel
theorem dX9_read_138 : decode cX9_read 138 = .ok (.ifCond .gt 7, 3) := by decide +kernel
theorem dX9_read_141 : decode cX9_read 141 = .ok (.iload_n 3, 1) := by decide +kernel
theorem dX9_read_142 : decode cX9_read 142 = .ok (.ifCond .ne 8, 3) := by decide +kernel
theorem dX9_read_145 : decode cX9_read 145 = .ok (.aload_n 0, 1) := by decide +kernel
theorem dX9_read_146 : decode cX9_read 146 = .ok (.getfield 70, 3) := by decide +kernel
theorem dX9_read_149 : decode cX9_read 149 = .ok (.ireturn, 1) := by decide +kernel
theorem dX9_read_150 : decode cX9_read 150 = .ok (.aload_n 0, 1) := by decide +kernel
theorem dX9_read_151 : decode cX9_read 151 = .ok (.sipush 2600, 3) := by decide +kernel
theorem dX9_read_154 : decode cX9_read 154 = .ok (.iload_n 1, 1) := by decide +kernel
theorem dX9_read_155 : decode cX9_read 155 = .ok (.isub, 1) := by decide +kernel
theorem dX9_read_156 : decode cX9_read 156 = .ok (.putfield 104, 3) := by decide +kernel
theorem dX9_read_159 : decode cX9_read 159 = .ok (.iload_n 1, 1) := by decide +kernel
theorem dX9_read_160 : decode cX9_read 160 = .ok (.iconst 1, 1) := by decide +kernel
theorem dX9_read_161 : decode cX9_read 161 = .ok (.isub, 1) := by decide +kernel
theorem dX9_read_162 : decode cX9_read 162 = .ok (.istore 5, 2) := by decide +kernel
theorem dX9_read_164 : decode cX9_read 164 = .ok (.iload 5, 2) := by decide +kernel
theorem dX9_read_166 : decode cX9_read 166 = .ok (.ifCond .lt 41, 3) := by decide +kernel
theorem dX9_read_169 : decode cX9_read 169 = .ok (.aload_n 0, 1) := by decide +kernel
theorem dX9_read_170 : decode cX9_read 170 = .ok (.getfield 13, 3) := by decide +kernel
theorem dX9_read_173 : decode cX9_read 173 = .ok (.aload_n 0, 1) := by decide +kernel
theorem dX9_read_174 : decode cX9_read 174 = .ok (.getfield 104, 3) := by decide +kernel
theorem dX9_read_177 : decode cX9_read 177 = .ok (.iload 5, 2) := by decide +kernel
theorem dX9_read_179 : decode cX9_read 179 = .ok (.iadd, 1) := by decide +kernel
theorem dX9_read_180 : decode cX9_read 180 = .ok (.aload_n 0, 1) := by decide +kernel
theorem dX9_read_181 : decode cX9_read 181 = .ok (.getfield 13, 3) := by decide +kernel
theorem dX9_read_184 : decode cX9_read 184 = .ok (.iload 5, 2) := by decide +kernel
theorem dX9_read_186 : decode cX9_read 186 = .ok (.iaload, 1) := by decide +kernel
theorem dX9_read_187 : decode cX9_read 187 = .ok (.iastore, 1) := by decide +kernel
theorem dX9_read_188 : decode cX9_read 188 = .ok (.aload_n 0, 1) := by decide +kernel
theorem dX9_read_189 : decode cX9_read 189 = .ok (.getfield 16, 3) := by decide +kernel
theorem dX9_read_192 : decode cX9_read 192 = .ok (.aload_n 0, 1) := by decide +kernel
theorem dX9_read_193 : decode cX9_read 193 = .ok (.getfield 104, 3) := by decide +kernel
theorem dX9_read_196 : decode cX9_read 196 = .ok (.iload 5, 2) := by decide +kernel
theorem dX9_read_198 : decode cX9_read 198 = .ok (.iadd, 1) := by decide +kernel
theorem dX9_read_199 : decode cX9_read 199 = .ok (.iconst 0, 1) := by decide +kernel
theorem dX9_read_200 : decode cX9_read 200 = .ok (.iastore, 1) := by decide +kernel
theorem dX9_read_201 : decode cX9_read 201 = .ok (.iinc 5 (-1), 3) := by decide +kernel
theorem dX9_read_204 : decode cX9_read 204 = .ok (.goto (-40), 3) := by decide +kernel
theorem dX9_read_207 : decode cX9_read 207 = .ok (.iconst (-1), 1) := by decide +kernel
theorem dX9_read_208 : decode cX9_read 208 = .ok (.ireturn, 1) := by decide +kernel
theorem dX9_kind_0 : decode cX9_kind 0 = .ok (.aload_n 0, 1) := by decide +kernel
theorem dX9_kind_1 : decode cX9_kind 1 = .ok (.iload_n 1, 1) := by decide +kernel
theorem dX9_kind_2 : decode cX9_kind 2 = .ok (.iaload, 1) := by decide +kernel
theorem dX9_kind_3 : decode cX9_kind 3 = .ok (.ldc 88, 2) := by decide +kernel
theorem dX9_kind_5 : decode cX9_kind 5 = .ok (.idiv, 1) := by decide +kernel
theorem dX9_kind_6 : decode cX9_kind 6 = .ok (.ireturn, 1) := by decide +kernel
set_option maxRecDepth 20000 in
theorem ggX9_end_X9_kind : GoodIn wsX9_end wsX9_kind := goodIn_r _ [4, 5] (by decide +kernel) (by decide +kernel)
set_option maxRecDepth 20000 in
theorem gX9_end_X9_kind : GoodIn wsX9_end (va_wsS RX9 107 yX9_kind wsX9_kind) := goodIn_app (goodIn_of _ (by decide +kernel)) ggX9_end_X9_kind
theorem dX9_end_0 : decode cX9_end 0 = .ok (.iconst 0, 1) := by decide +kernel
theorem dX9_end_1 : decode cX9_end 1 = .ok (.istore_n 2, 1) := by decide +kernel
theorem dX9_end_2 : decode cX9_end 2 = .ok (.iload_n 1, 1) := by decide +kernel
theorem dX9_end_3 : decode cX9_end 3 = .ok (.istore_n 3, 1) := by decide +kernel
theorem dX9_end_4 : decode cX9_end 4 = .ok (.iconst 1, 1) := by decide +kernel
theorem dX9_end_5 : decode cX9_end 5 = .ok (.istore 4, 2) := by decide +kernel
theorem dX9_end_7 : decode cX9_end 7 = .ok (.iload 4, 2) := by decide +kernel
theorem dX9_end_9 : decode cX9_end 9 = .ok (.ifCond .eq 52, 3) := by decide +kernel
theorem dX9_end_12 : decode cX9_end 12 = .ok (.aload_n 0, 1) := by decide +kernel
theorem dX9_end_13 : decode cX9_end 13 = .ok (.iload_n 3, 1) := by decide +kernel
theorem dX9_end_14 : decode cX9_end 14 = .ok (.invokestatic 107, 3) := by decide +kernel
theorem dX9_end_17 : decode cX9_end 17 = .ok (.iconst 1, 1) := by decide +kernel
theorem dX9_end_18 : decode cX9_end 18 = .ok (.if_icmp .ne 9, 3) := by decide +kernel
theorem dX9_end_21 : decode cX9_end 21 = .ok (.iload_n 2, 1) := by decide +kernel
theorem dX9_end_22 : decode cX9_end 22 = .ok (.iconst 1, 1) := by decide +kernel
theorem dX9_end_23 : decode cX9_end 23 = .ok (.iadd, 1) := by decide +kernel
theorem dX9_end_24 : decode cX9_end 24 = .ok (.goto 19, 3) := by decide +kernel
theorem dX9_end_27 : decode cX9_end 27 = .ok (.aload_n 0, 1) := by decide +kernel
theorem dX9_end_28 : decode cX9_end 28 = .ok (.iload_n 3, 1) := by decide +kernel
theorem dX9_end_29 : decode cX9_end 29 = .ok (.invokestatic 107, 3) := by decide +kernel
theorem dX9_end_32 : decode cX9_end 32 = .ok (.iconst 2, 1) := by decide +kernel
theorem dX9_end_33 : decode cX9_end 33 = .ok (.if_icmp .ne 9, 3) := by decide +kernel
theorem dX9_end_36 : decode cX9_end 36 = .ok (.iload_n 2, 1) := by decide +kernel
theorem dX9_end_37 : decode cX9_end 37 = .ok (.iconst 1, 1) := by decide +kernel
theorem dX9_end_38 : decode cX9_end 38 = .ok (.isub, 1) := by decide +kernel
theorem dX9_end_39 : decode cX9_end 39 = .ok (.goto 4, 3) := by decide +kernel
theorem dX9_end_42 : decode cX9_end 42 = .ok (.iload_n 2, 1) := by decide +kernel
theorem dX9_end_43 : decode cX9_end 43 = .ok (.istore_n 2, 1) := by decide +kernel
theorem dX9_end_44 : decode cX9_end 44 = .ok (.iinc 3 1, 3) := by decide +kernel
theorem dX9_end_47 : decode cX9_end 47 = .ok (.iload_n 2, 1) := by decide +kernel
theorem dX9_end_48 : decode cX9_end 48 = .ok (.ifCond .le 7, 3) := by decide +kernel
theorem dX9_end_51 : decode cX9_end 51 = .ok (.iconst 1, 1) := by decide +kernel
theorem dX9_end_52 : decode cX9_end 52 = .ok (.goto 4, 3) := by decide +kernel
theorem dX9_end_55 : decode cX9_end 55 = .ok (.iconst 0, 1) := by decide +kernel
theorem dX9_end_56 : decode cX9_end 56 = .ok (.istore 4, 2) := by decide +kernel
theorem dX9_end_58 : decode cX9_end 58 = .ok (.goto (-51), 3) := by decide +kernel
theorem dX9_end_61 : decode cX9_end 61 = .ok (.iload_n 3, 1) := by decide +kernel
theorem dX9_end_62 : decode cX9_end 62 = .ok (.ireturn, 1) := by decide +kernel
set_option maxRecDepth 20000 in
theorem ggX9_dots_X9_kind : GoodIn wsX9_dots wsX9_kind := goodIn_r _ [4, 5] (by decide +kernel) (by decide +kernel)
set_option maxRecDepth 20000 in
theorem gX9_dots_X9_kind : GoodIn wsX9_dots (va_wsS RX9 107 yX9_kind wsX9_kind) := goodIn_app (goodIn_of _ (by decide +kernel)) ggX9_dots_X9_kind
set_option maxRecDepth 20000 in
theorem ggX9_dots_X9_end : GoodIn wsX9_dots wsX9_end := goodIn_r _ [8, 1, 2, 3, 4, 5] (by decide +kernel) (by decide +kernel)
set_option maxRecDepth 20000 in
theorem gX9_dots_X9_end : GoodIn wsX9_dots (va_wsS RX9 111 yX9_end wsX9_end) := goodIn_app (goodIn_of _ (by decide +kernel)) ggX9_dots_X9_end
theorem dX9_dots_0 : decode cX9_dots 0 = .ok (.iconst 0, 1) := by decide +kernel
theorem dX9_dots_1 : decode cX9_dots 1 = .ok (.istore_n 2, 1) := by decide +kernel
theorem dX9_dots_2 : decode cX9_dots 2 = .ok (.iload_n 1, 1) := by decide +kernel
theorem dX9_dots_3 : decode cX9_dots 3 = .ok (.iconst 1, 1) := by decide +kernel
theorem dX9_dots_4 : decode cX9_dots 4 = .ok (.iadd, 1) := by decide +kernel
theorem dX9_dots_5 : decode cX9_dots 5 = .ok (.istore_n 3, 1) := by decide +kernel
theorem dX9_dots_6 : decode cX9_dots 6 = .ok (.aload_n 0, 1) := by decide +kernel
theorem dX9_dots_7 : decode cX9_dots 7 = .ok (.iload_n 3, 1) := by decide +kernel
theorem dX9_dots_8 : decode cX9_dots 8 = .ok (.invokestatic 107, 3) := by decide +kernel
theorem dX9_dots_11 : decode cX9_dots 11 = .ok (.iconst 2, 1) := by decide +kernel
theorem dX9_dots_12 : decode cX9_dots 12 = .ok (.if_icmp .eq 53, 3) := by decide +kernel
theorem dX9_dots_15 : decode cX9_dots 15 = .ok (.aload_n 0, 1) := by decide +kernel
theorem dX9_dots_16 : decode cX9_dots 16 = .ok (.iload_n 3, 1) := by decide +kernel
theorem dX9_dots_17 : decode cX9_dots 17 = .ok (.invokestatic 107, 3) := by decide +kernel
theorem dX9_dots_20 : decode cX9_dots 20 = .ok (.bipush 6, 2) := by decide +kernel
theorem dX9_dots_22 : decode cX9_dots 22 = .ok (.if_icmp .ne 7, 3) := by decide +kernel
theorem dX9_dots_25 : decode cX9_dots 25 = .ok (.iconst 1, 1) := by decide +kernel
theorem dX9_dots_26 : decode cX9_dots 26 = .ok (.goto 4, 3) := by decide +kernel
theorem dX9_dots_29 : decode cX9_dots 29 = .ok (.iconst 0, 1) := by decide +kernel
theorem dX9_dots_30 : decode cX9_dots 30 = .ok (.istore 4, 2) := by decide +kernel
theorem dX9_dots_32 : decode cX9_dots 32 = .ok (.iload 4, 2) := by decide +kernel
theorem dX9_dots_34 : decode cX9_dots 34 = .ok (.ifCond .eq 9, 3) := by decide +kernel
theorem dX9_dots_37 : decode cX9_dots 37 = .ok (.iload_n 2, 1) := by decide +kernel
theorem dX9_dots_38 : decode cX9_dots 38 = .ok (.iconst 1, 1) := by decide +kernel
theorem dX9_dots_39 : decode cX9_dots 39 = .ok (.iadd, 1) := by decide +kernel
theorem dX9_dots_40 : decode cX9_dots 40 = .ok (.goto 4, 3) := by decide +kernel
theorem dX9_dots_43 : decode cX9_dots 43 = .ok (.iload_n 2, 1) := by decide +kernel
theorem dX9_dots_44 : decode cX9_dots 44 = .ok (.istore_n 2, 1) := by decide +kernel
theorem dX9_dots_45 : decode cX9_dots 45 = .ok (.iload 4, 2) := by decide +kernel
theorem dX9_dots_47 : decode cX9_dots 47 = .ok (.ifCond .eq 9, 3) := by decide +kernel
theorem dX9_dots_50 : decode cX9_dots 50 = .ok (.iload_n 3, 1) := by decide +kernel
theorem dX9_dots_51 : decode cX9_dots 51 = .ok (.iconst 1, 1) := by decide +kernel
theorem dX9_dots_52 : decode cX9_dots 52 = .ok (.iadd, 1) := by decide +kernel
theorem dX9_dots_53 : decode cX9_dots 53 = .ok (.goto 8, 3) := by decide +kernel
theorem dX9_dots_56 : decode cX9_dots 56 = .ok (.aload_n 0, 1) := by decide +kernel
theorem dX9_dots_57 : decode cX9_dots 57 = .ok (.iload_n 3, 1) := by decide +kernel
theorem dX9_dots_58 : decode cX9_dots 58 = .ok (.invokestatic 111, 3) := by decide +kernel
theorem dX9_dots_61 : decode cX9_dots 61 = .ok (.istore_n 3, 1) := by decide +kernel
theorem dX9_dots_62 : decode cX9_dots 62 = .ok (.goto (-56), 3) := by decide +kernel
theorem dX9_dots_65 : decode cX9_dots 65 = .ok (.iload_n 2, 1) := by decide +kernel
theorem dX9_dots_66 : decode cX9_dots 66 = .ok (.ireturn, 1) := by decide +kernel
theorem dX9_keep_0 : decode cX9_keep 0 = .ok (.iload_n 1, 1) := by decide +kernel
theorem dX9_keep_1 : decode cX9_keep 1 = .ok (.istore 4, 2) := by decide +kernel
theorem dX9_keep_3 : decode cX9_keep 3 = .ok (.iload 4, 2) := by decide +kernel
theorem dX9_keep_5 : decode cX9_keep 5 = .ok (.iload_n 2, 1) := by decide +kernel
theorem dX9_keep_6 : decode cX9_keep 6 = .ok (.if_icmp .ge 45, 3) := by decide +kernel
theorem dX9_keep_9 : decode cX9_keep 9 = .ok (.aload_n 0, 1) := by decide +kernel
theorem dX9_keep_10 : decode cX9_keep 10 = .ok (.getfield 19, 3) := by decide +kernel
theorem dX9_keep_13 : decode cX9_keep 13 = .ok (.iload_n 3, 1) := by decide +kernel
theorem dX9_keep_14 : decode cX9_keep 14 = .ok (.iload 4, 2) := by decide +kernel
theorem dX9_keep_16 : decode cX9_keep 16 = .ok (.iadd, 1) := by decide +kernel
theorem dX9_keep_17 : decode cX9_keep 17 = .ok (.iload_n 1, 1) := by decide +kernel
theorem dX9_keep_18 : decode cX9_keep 18 = .ok (.isub, 1) := by decide +kernel
theorem dX9_keep_19 : decode cX9_keep 19 = .ok (.aload_n 0, 1) := by decide +kernel
theorem dX9_keep_20 : decode cX9_keep 20 = .ok (.getfield 13, 3) := by decide +kernel
theorem dX9_keep_23 : decode cX9_keep 23 = .ok (.iload 4, 2) := by decide +kernel
theorem dX9_keep_25 : decode cX9_keep 25 = .ok (.iaload, 1) := by decide +kernel
theorem dX9_keep_26 : decode cX9_keep 26 = .ok (.iastore, 1) := by decide +kernel
theorem dX9_keep_27 : decode cX9_keep 27 = .ok (.aload_n 0, 1) := by decide +kernel
theorem dX9_keep_28 : decode cX9_keep 28 = .ok (.getfield 22, 3) := by decide +kernel
theorem dX9_keep_31 : decode cX9_keep 31 = .ok (.iload_n 3, 1) := by decide +kernel
theorem dX9_keep_32 : decode cX9_keep 32 = .ok (.iload 4, 2) := by decide +kernel
theorem dX9_keep_34 : decode cX9_keep 34 = .ok (.iadd, 1) := by decide +kernel
theorem dX9_keep_35 : decode cX9_keep 35 = .ok (.iload_n 1, 1) := by decide +kernel
theorem dX9_keep_36 : decode cX9_keep 36 = .ok (.isub, 1) := by decide +kernel
theorem dX9_keep_37 : decode cX9_keep 37 = .ok (.aload_n 0, 1) := by decide +kernel
theorem dX9_keep_38 : decode cX9_keep 38 = .ok (.getfield 16, 3) := by decide +kernel
theorem dX9_keep_41 : decode cX9_keep 41 = .ok (.iload 4, 2) := by decide +kernel
theorem dX9_keep_43 : decode cX9_keep 43 = .ok (.iaload, 1) := by decide +kernel
theorem dX9_keep_44 : decode cX9_keep 44 = .ok (.iastore, 1) := by decide +kernel
theorem dX9_keep_45 : decode cX9_keep 45 = .ok (.iinc 4 1, 3) := by decide +kernel
theorem dX9_keep_48 : decode cX9_keep 48 = .ok (.goto (-45), 3) := by decide +kernel
theorem dX9_keep_51 : decode cX9_keep 51 = .ok (.iload_n 3, 1) := by decide +kernel
theorem dX9_keep_52 : decode cX9_keep 52 = .ok (.iload_n 2, 1) := by decide +kernel
theorem dX9_keep_53 : decode cX9_keep 53 = .ok (.iadd, 1) := by decide +kernel
theorem dX9_keep_54 : decode cX9_keep 54 = .ok (.iload_n 1, 1) := by decide +kernel
theorem dX9_keep_55 : decode cX9_keep 55 = .ok (.isub, 1) := by decide +kernel
theorem dX9_keep_56 : decode cX9_keep 56 = .ok (.ireturn, 1) := by decide +kernel
theorem iw_X9_read_X9 : ∀ w ∈ wsX90, w ∈ wsX9_read := by decide +kernel
theorem lk_X9_read_70 : Cond.fieldLink RX9 70 "MarkedNamesModel" "length" "I" ∈ wsX9_read := by decide +kernel
theorem lk_X9_read_104 : Cond.fieldLink RX9 104 "MarkedNamesModel" "head" "I" ∈ wsX9_read := by decide +kernel
theorem mw_X9_read__constant_RX9_88_65536_Int32_ : Cond.constant RX9 88 (65536 : Int32) ∈ wsX9_read := by decide +kernel
theorem lk_X9_read_13 : Cond.fieldLink RX9 13 "MarkedNamesModel" "row" "[I" ∈ wsX9_read := by decide +kernel
theorem lk_X9_read_16 : Cond.fieldLink RX9 16 "MarkedNamesModel" "set" "[I" ∈ wsX9_read := by decide +kernel
theorem mw_X9_kind__constant_RX9_88_65536_Int32_ : Cond.constant RX9 88 (65536 : Int32) ∈ wsX9_kind := by decide +kernel
theorem iw_X9_keep_X9 : ∀ w ∈ wsX90, w ∈ wsX9_keep := by decide +kernel
theorem lk_X9_keep_19 : Cond.fieldLink RX9 19 "MarkedNamesModel" "kept" "[I" ∈ wsX9_keep := by decide +kernel
theorem lk_X9_keep_13 : Cond.fieldLink RX9 13 "MarkedNamesModel" "row" "[I" ∈ wsX9_keep := by decide +kernel
theorem lk_X9_keep_22 : Cond.fieldLink RX9 22 "MarkedNamesModel" "keptSet" "[I" ∈ wsX9_keep := by decide +kernel
theorem lk_X9_keep_16 : Cond.fieldLink RX9 16 "MarkedNamesModel" "set" "[I" ∈ wsX9_keep := by decide +kernel
section
variable {l : Launch} {p : Program} {e : Env} {s : State} {m : MethodId} {args : Array Value} {below : List Frame} {meth : Method} {c : Code} {A : Nat → Prop} {dC : Nat → ClassId} {dI : Nat → Nat → Nat} {cA : ClassId} {a b : Nat → Nat} {lev : Nat}
set_option maxHeartbeats 4000000 in
set_option maxRecDepth 100000 in
theorem wj_X9_read_84_ok (C : mC p s m args meth c cX9_read 8 wsX9_read RX9 (some .int) (dC, dI) vwCl [(cA, .int)] A) (hs : eM A s) (hlev : 3 ≤ lev) {post : Int32 → mS → Prop} {x4 : Int32} {u : mS} (hw : wj_X9_read_84 post x4 u) : mV p l e (mRm lev) s m args below meth c 8 (dC, dI) vwCl A 0 0 (mQi below args s (dC, dI) vwCl [(cA, .int)] (wM cA b) A post) (wM cA b u) 84 [(4, .int x4)] [] := by
  unfold wj_X9_read_84 at hw
  refine mv_iload C dX9_read_84 0 rfl ?_
  exact mv_iret C dX9_read_86 hw
set_option maxHeartbeats 4000000 in
set_option maxRecDepth 100000 in
theorem wj_X9_read_123_ok (C : mC p s m args meth c cX9_read 8 wsX9_read RX9 (some .int) (dC, dI) vwCl [(cA, .int)] A) (hs : eM A s) (hlev : 3 ≤ lev) {post : Int32 → mS → Prop} {K9 : Int32 → Int32 → Int32 → Int32 → mS → Prop} (hK9 : ∀ (x1 x2 x3 x4 : Int32) (u : mS), K9 x1 x2 x3 x4 u → mV p l e (mRm lev) s m args below meth c 8 (dC, dI) vwCl A 0 0 (mQi below args s (dC, dI) vwCl [(cA, .int)] (wM cA b) A post) (wM cA b u) 9 [(0, .ref (b 0)), (1, .int x1), (2, .int x2), (3, .int x3), (4, .int x4)] []) {x1 x4 x5 x7 z0 : Int32} {u : mS} (hw : wj_X9_read_123 K9 post x1 x4 x5 x7 z0 u) : mV p l e (mRm lev) s m args below meth c 8 (dC, dI) vwCl A 0 0 (mQi below args s (dC, dI) vwCl [(cA, .int)] (wM cA b) A post) (wM cA b u) 123 [(0, .ref (b 0)), (1, .int x1), (4, .int x4), (5, .int x5), (7, .int x7)] [.int z0] := by
  unfold wj_X9_read_123 at hw
  refine mv_istore_n (lv1 := [(2, .int z0), (0, .ref (b 0)), (1, .int x1), (4, .int x4), (5, .int x5), (7, .int x7)]) C dX9_read_123 rfl (by decide) rfl ?_
  refine mv_iload C dX9_read_124 5 rfl ?_
  refine mv_istore_n (lv1 := [(3, .int x7), (2, .int z0), (0, .ref (b 0)), (1, .int x1), (4, .int x4), (5, .int x5), (7, .int x7)]) C dX9_read_126 rfl (by decide) rfl ?_
  refine mv_iload C dX9_read_127 4 rfl ?_
  refine mv_iload C dX9_read_129 5 rfl ?_
  refine mv_iadd C dX9_read_131 ?_
  refine mv_topi (fun y28 ey28 => ?_)
  have hw := hw y28 ey28
  refine mv_istore (lv1 := [(4, .int y28), (3, .int x7), (2, .int z0), (0, .ref (b 0)), (1, .int x1), (5, .int x5), (7, .int x7)]) C dX9_read_132 (by decide) rfl ?_
  refine mv_goto (tgt := 9) C dX9_read_134 (by decide) ?_
  refine mv_sub [3, 4, 2, 1, 0] rfl ?_
  exact hK9 x1 z0 x7 y28 u hw
set_option maxHeartbeats 4000000 in
set_option maxRecDepth 100000 in
theorem wj_X9_read_60_ok (C : mC p s m args meth c cX9_read 8 wsX9_read RX9 (some .int) (dC, dI) vwCl [(cA, .int)] A) (hs : eM A s) (hlev : 3 ≤ lev) {post : Int32 → mS → Prop} {K9 : Int32 → Int32 → Int32 → Int32 → mS → Prop} (hK9 : ∀ (x1 x2 x3 x4 : Int32) (u : mS), K9 x1 x2 x3 x4 u → mV p l e (mRm lev) s m args below meth c 8 (dC, dI) vwCl A 0 0 (mQi below args s (dC, dI) vwCl [(cA, .int)] (wM cA b) A post) (wM cA b u) 9 [(0, .ref (b 0)), (1, .int x1), (2, .int x2), (3, .int x3), (4, .int x4)] []) {x1 x2 x3 x4 x5 z0 : Int32} {u : mS} (hw : wj_X9_read_60 K9 post x1 x2 x3 x4 x5 z0 u) : mV p l e (mRm lev) s m args below meth c 8 (dC, dI) vwCl A 0 0 (mQi below args s (dC, dI) vwCl [(cA, .int)] (wM cA b) A post) (wM cA b u) 60 [(0, .ref (b 0)), (1, .int x1), (2, .int x2), (3, .int x3), (4, .int x4), (5, .int x5)] [.int z0] := by
  unfold wj_X9_read_60 at hw
  refine mv_istore (lv1 := [(6, .int z0), (0, .ref (b 0)), (1, .int x1), (2, .int x2), (3, .int x3), (4, .int x4), (5, .int x5)]) C dX9_read_60 (by decide) rfl ?_
  refine mv_iload C dX9_read_62 0 rfl ?_
  refine mv_ldc (v := (65536 : Int32)) C mw_X9_read__constant_RX9_88_65536_Int32_ dX9_read_64 ?_
  refine mv_idiv C dX9_read_66 (by decide) ?_
  refine mv_topi (fun y17 ey17 => ?_)
  have hw := hw y17 ey17
  refine mv_istore (lv1 := [(7, .int y17), (6, .int z0), (0, .ref (b 0)), (1, .int x1), (2, .int x2), (3, .int x3), (4, .int x4), (5, .int x5)]) C dX9_read_67 (by decide) rfl ?_
  refine mv_iload C dX9_read_69 7 rfl ?_
  refine mv_if_eq (tgt := 84) C dX9_read_71 (by decide) (fun h18 => ?_) (fun h18 => ?_)
  · have hw := hw.1 h18
    refine mv_sub [6] rfl ?_
    exact wj_X9_read_84_ok C hs hlev hw
  · have hw := hw.2 h18
    refine mv_iload C dX9_read_74 0 rfl ?_
    refine mv_iload_n C dX9_read_76 rfl 4 rfl ?_
    refine mv_iload_n C dX9_read_77 rfl 5 rfl ?_
    refine mv_callSi (f := wM cA b) (As := [.int y17, .int x2, .int x3]) (rest := []) C eM_ok hs (X9_fits_met (l := l) (lev := lev - 1) (by omega) hw) (va_cwS 3 C.2.2.2.2.1 gX9_read_X9_fits rfl rfl rfl (by decide +kernel) (mRm_le (by omega) (by decide))) rfl rfl (Nat.le_of_ble_eq_true rfl) dX9_read_78 ⟨Nat.le_refl 0, Nat.le_refl 0⟩ (fun r19 u20 hw => ?_)
    obtain ⟨gr19, hw⟩ := hw
    refine mv_if_ne (tgt := 87) C dX9_read_81 (by decide) (fun h21 => ?_) (fun h21 => ?_)
    · have hw := hw.1 h21
      refine mv_aload_n C dX9_read_87 rfl 2 rfl ?_
      refine mv_get (v := .ref (b 2)) C iw_X9_read_X9 0 rfl rfl 2 (by decide) lk_X9_read_13 rfl rfl dX9_read_88 ?_
      refine mv_iload_n C dX9_read_91 rfl 3 rfl ?_
      refine mv_iload C dX9_read_92 1 rfl ?_
      refine mv_iast (f := u20.2 1) (ws1 := wM cA b (mPut u20 1 x1.toNatClampNeg z0)) C 2 0 rfl rfl hw.1 rfl dX9_read_94 ?_
      refine mv_nm (f := wM cA b) (fun u22 eu22 => ?_)
      have hw := hw.2 u22 eu22
      obtain ⟨y23, ey23⟩ : ∃ z : Int32, z = x1 + (1 : Int32) := ⟨_, rfl⟩
      have hw := hw y23 ey23
      refine mv_iinc (v := y23) (lv1 := [(1, .int y23), (7, .int y17), (6, .int z0), (0, .ref (b 0)), (2, .int x2), (3, .int x3), (4, .int x4), (5, .int x5)]) C dX9_read_95 3 rfl (by rw [ey23]; rfl) (by decide) rfl ?_
      refine mv_iload C dX9_read_98 1 rfl ?_
      refine mv_iconst (v := (1 : Int32)) C dX9_read_100 (by decide) ?_
      refine mv_icmp_ne (tgt := 110) C dX9_read_101 (by decide) (fun h24 => ?_) (fun h24 => ?_)
      · have hw := hw.1 h24
        refine mv_iload C dX9_read_110 1 rfl ?_
        refine mv_iconst (v := (2 : Int32)) C dX9_read_112 (by decide) ?_
        refine mv_icmp_ne (tgt := 122) C dX9_read_113 (by decide) (fun h25 => ?_) (fun h25 => ?_)
        · have hw := hw.1 h25
          refine mv_iload_n C dX9_read_122 rfl 4 rfl ?_
          refine mv_sub [3, 0, 6, 7, 1] rfl ?_
          exact wj_X9_read_123_ok C hs hlev hK9 hw
        · have hw := hw.2 h25
          refine mv_iload_n C dX9_read_116 rfl 4 rfl ?_
          refine mv_iconst (v := (1 : Int32)) C dX9_read_117 (by decide) ?_
          refine mv_isub C dX9_read_118 ?_
          refine mv_topi (fun y26 ey26 => ?_)
          have hw := hw y26 ey26
          refine mv_goto (tgt := 123) C dX9_read_119 (by decide) ?_
          refine mv_sub [3, 0, 6, 7, 1] rfl ?_
          exact wj_X9_read_123_ok C hs hlev hK9 hw
      · have hw := hw.2 h24
        refine mv_iload_n C dX9_read_104 rfl 4 rfl ?_
        refine mv_iconst (v := (1 : Int32)) C dX9_read_105 (by decide) ?_
        refine mv_iadd C dX9_read_106 ?_
        refine mv_topi (fun y27 ey27 => ?_)
        have hw := hw y27 ey27
        refine mv_goto (tgt := 123) C dX9_read_107 (by decide) ?_
        refine mv_sub [3, 0, 6, 7, 1] rfl ?_
        exact wj_X9_read_123_ok C hs hlev hK9 hw
    · have hw := hw.2 h21
      refine mv_sub [6] rfl ?_
      exact wj_X9_read_84_ok C hs hlev hw
set_option maxHeartbeats 4000000 in
set_option maxRecDepth 100000 in
theorem wj_X9_read_145_ok (C : mC p s m args meth c cX9_read 8 wsX9_read RX9 (some .int) (dC, dI) vwCl [(cA, .int)] A) (hs : eM A s) (hlev : 3 ≤ lev) {post : Int32 → mS → Prop} {u : mS} (hw : wj_X9_read_145 post  u) : mV p l e (mRm lev) s m args below meth c 8 (dC, dI) vwCl A 0 0 (mQi below args s (dC, dI) vwCl [(cA, .int)] (wM cA b) A post) (wM cA b u) 145 [(0, .ref (b 0))] [] := by
  unfold wj_X9_read_145 at hw
  refine mv_aload_n C dX9_read_145 rfl 0 rfl ?_
  refine mv_get (v := .int (u.1 0)) C iw_X9_read_X9 0 rfl rfl 1 (by decide) lk_X9_read_70 rfl rfl dX9_read_146 ?_
  refine mv_topi (fun y38 ey38 => ?_)
  have hw := hw y38 ey38
  exact mv_iret C dX9_read_149 hw
set_option maxHeartbeats 4000000 in
set_option maxRecDepth 100000 in
theorem wj_X9_read_164_ok (C : mC p s m args meth c cX9_read 8 wsX9_read RX9 (some .int) (dC, dI) vwCl [(cA, .int)] A) (hs : eM A s) (hlev : 3 ≤ lev) {post : Int32 → mS → Prop} {K164 : Int32 → mS → Prop} (hK164 : ∀ (x5 : Int32) (u : mS), K164 x5 u → mV p l e (mRm lev) s m args below meth c 8 (dC, dI) vwCl A 0 0 (mQi below args s (dC, dI) vwCl [(cA, .int)] (wM cA b) A post) (wM cA b u) 164 [(0, .ref (b 0)), (5, .int x5)] []) {x5 : Int32} {u : mS} (hw : wj_X9_read_164 K164 post x5 u) : mV p l e (mRm lev) s m args below meth c 8 (dC, dI) vwCl A 0 0 (mQi below args s (dC, dI) vwCl [(cA, .int)] (wM cA b) A post) (wM cA b u) 164 [(0, .ref (b 0)), (5, .int x5)] [] := by
  unfold wj_X9_read_164 at hw
  refine mv_iload C dX9_read_164 1 rfl ?_
  refine mv_if_lt (tgt := 207) C dX9_read_166 (by decide) (fun h29 => ?_) (fun h29 => ?_)
  · have hw := hw.1 h29
    refine mv_iconst (v := (-1 : Int32)) C dX9_read_207 (by decide) ?_
    exact mv_iret C dX9_read_208 hw
  · have hw := hw.2 h29
    refine mv_aload_n C dX9_read_169 rfl 0 rfl ?_
    refine mv_get (v := .ref (b 2)) C iw_X9_read_X9 0 rfl rfl 2 (by decide) lk_X9_read_13 rfl rfl dX9_read_170 ?_
    refine mv_aload_n C dX9_read_173 rfl 0 rfl ?_
    refine mv_get (v := .int (u.1 1)) C iw_X9_read_X9 0 rfl rfl 4 (by decide) lk_X9_read_104 rfl rfl dX9_read_174 ?_
    refine mv_topi (fun y30 ey30 => ?_)
    have hw := hw y30 ey30
    refine mv_iload C dX9_read_177 1 rfl ?_
    refine mv_iadd C dX9_read_179 ?_
    refine mv_topi (fun y31 ey31 => ?_)
    have hw := hw y31 ey31
    refine mv_aload_n C dX9_read_180 rfl 0 rfl ?_
    refine mv_get (v := .ref (b 2)) C iw_X9_read_X9 0 rfl rfl 2 (by decide) lk_X9_read_13 rfl rfl dX9_read_181 ?_
    refine mv_iload C dX9_read_184 1 rfl ?_
    refine mv_iald (f := u.2 1) C 2 0 rfl rfl hw.1 dX9_read_186 ?_
    refine mv_topi (fun y32 ey32 => ?_)
    have hw := hw.2 y32 ey32
    refine mv_iast (f := u.2 1) (ws1 := wM cA b (mPut u 1 y31.toNatClampNeg y32)) C 2 0 rfl rfl hw.1 rfl dX9_read_187 ?_
    refine mv_nm (f := wM cA b) (fun u33 eu33 => ?_)
    have hw := hw.2 u33 eu33
    refine mv_aload_n C dX9_read_188 rfl 0 rfl ?_
    refine mv_get (v := .ref (b 3)) C iw_X9_read_X9 0 rfl rfl 3 (by decide) lk_X9_read_16 rfl rfl dX9_read_189 ?_
    refine mv_aload_n C dX9_read_192 rfl 0 rfl ?_
    refine mv_get (v := .int (u33.1 1)) C iw_X9_read_X9 0 rfl rfl 4 (by decide) lk_X9_read_104 rfl rfl dX9_read_193 ?_
    refine mv_topi (fun y34 ey34 => ?_)
    have hw := hw y34 ey34
    refine mv_iload C dX9_read_196 1 rfl ?_
    refine mv_iadd C dX9_read_198 ?_
    refine mv_topi (fun y35 ey35 => ?_)
    have hw := hw y35 ey35
    refine mv_iconst (v := (0 : Int32)) C dX9_read_199 (by decide) ?_
    refine mv_iast (f := u33.2 2) (ws1 := wM cA b (mPut u33 2 y35.toNatClampNeg (0 : Int32))) C 3 0 rfl rfl hw.1 rfl dX9_read_200 ?_
    refine mv_nm (f := wM cA b) (fun u36 eu36 => ?_)
    have hw := hw.2 u36 eu36
    obtain ⟨y37, ey37⟩ : ∃ z : Int32, z = x5 + (-1 : Int32) := ⟨_, rfl⟩
    have hw := hw y37 ey37
    refine mv_iinc (v := y37) (lv1 := [(5, .int y37), (0, .ref (b 0))]) C dX9_read_201 1 rfl (by rw [ey37]; rfl) (by decide) rfl ?_
    refine mv_goto (tgt := 164) C dX9_read_204 (by decide) ?_
    refine mv_sub [1, 0] rfl ?_
    exact hK164 y37 u36 hw
set_option maxHeartbeats 4000000 in
set_option maxRecDepth 100000 in
theorem wj_X9_read_9_ok (C : mC p s m args meth c cX9_read 8 wsX9_read RX9 (some .int) (dC, dI) vwCl [(cA, .int)] A) (hs : eM A s) (hlev : 3 ≤ lev) {post : Int32 → mS → Prop} {K9 : Int32 → Int32 → Int32 → Int32 → mS → Prop} (hK9 : ∀ (x1 x2 x3 x4 : Int32) (u : mS), K9 x1 x2 x3 x4 u → mV p l e (mRm lev) s m args below meth c 8 (dC, dI) vwCl A 0 0 (mQi below args s (dC, dI) vwCl [(cA, .int)] (wM cA b) A post) (wM cA b u) 9 [(0, .ref (b 0)), (1, .int x1), (2, .int x2), (3, .int x3), (4, .int x4)] []) {x1 x2 x3 x4 : Int32} {u : mS} (hw : wj_X9_read_9 K9 post x1 x2 x3 x4 u) : mV p l e (mRm lev) s m args below meth c 8 (dC, dI) vwCl A 0 0 (mQi below args s (dC, dI) vwCl [(cA, .int)] (wM cA b) A post) (wM cA b u) 9 [(0, .ref (b 0)), (1, .int x1), (2, .int x2), (3, .int x3), (4, .int x4)] [] := by
  unfold wj_X9_read_9 at hw
  refine mv_iload C dX9_read_9 4 rfl ?_
  refine mv_aload_n C dX9_read_11 rfl 0 rfl ?_
  refine mv_get (v := .int (u.1 0)) C iw_X9_read_X9 0 rfl rfl 1 (by decide) lk_X9_read_70 rfl rfl dX9_read_12 ?_
  refine mv_topi (fun y1 ey1 => ?_)
  have hw := hw y1 ey1
  refine mv_icmp_ge (tgt := 137) C dX9_read_15 (by decide) (fun h2 => ?_) (fun h2 => ?_)
  · have hw := hw.1 h2
    refine mv_iload_n C dX9_read_137 rfl 2 rfl ?_
    refine mv_if_gt (tgt := 145) C dX9_read_138 (by decide) (fun h3 => ?_) (fun h3 => ?_)
    · have hw := hw.1 h3
      refine mv_sub [0] rfl ?_
      exact wj_X9_read_145_ok C hs hlev hw
    · have hw := hw.2 h3
      refine mv_iload_n C dX9_read_141 rfl 3 rfl ?_
      refine mv_if_ne (tgt := 150) C dX9_read_142 (by decide) (fun h4 => ?_) (fun h4 => ?_)
      · have hw := hw.1 h4
        refine mv_aload_n C dX9_read_150 rfl 0 rfl ?_
        refine mv_sipush (v := (2600 : Int32)) C dX9_read_151 (by decide) ?_
        refine mv_iload_n C dX9_read_154 rfl 1 rfl ?_
        refine mv_isub C dX9_read_155 ?_
        refine mv_topi (fun y5 ey5 => ?_)
        have hw := hw y5 ey5
        refine mv_put (ty := .int) (ws1 := wM cA b (mSet u 1 y5)) C iw_X9_read_X9 tyX9 tyX9_ok nmX9 0 rfl rfl 4 (by decide) lk_X9_read_104 rfl rfl rfl rfl rfl (Nat.le_of_ble_eq_true rfl) rfl dX9_read_156 ?_
        refine mv_nm (f := wM cA b) (fun u6 eu6 => ?_)
        have hw := hw u6 eu6
        refine mv_iload_n C dX9_read_159 rfl 1 rfl ?_
        refine mv_iconst (v := (1 : Int32)) C dX9_read_160 (by decide) ?_
        refine mv_isub C dX9_read_161 ?_
        refine mv_topi (fun y7 ey7 => ?_)
        have hw := hw y7 ey7
        refine mv_istore (lv1 := [(5, .int y7), (0, .ref (b 0)), (1, .int x1), (2, .int x2), (3, .int x3), (4, .int x4)]) C dX9_read_162 (by decide) rfl ?_
        refine mv_sub [1, 0] rfl ?_
        obtain ⟨n, hw⟩ := hw
        exact mL2_of (fun K hK b0 b1 hw => wj_X9_read_164_ok C hs hlev hK hw) n y7 u6 hw
      · have hw := hw.2 h4
        refine mv_sub [0] rfl ?_
        exact wj_X9_read_145_ok C hs hlev hw
  · have hw := hw.2 h2
    refine mv_aload_n C dX9_read_18 rfl 0 rfl ?_
    refine mv_iload C dX9_read_19 4 rfl ?_
    refine mv_callVi (f := wM cA b) (As := [.int x4]) (rest := []) C eM_ok hs 0 rfl rfl (X9_look_met (l := l) (lev := lev - 1) (by omega) hw) (cwV 1 C.2.2.2.2.1 gX9_read_X9_look rfl rfl rfl (by decide +kernel) (mRm_le (by omega) (by decide))) rfl rfl (Nat.le_of_ble_eq_true rfl) dX9_read_21 ⟨Nat.le_refl 0, Nat.le_refl 0⟩ (fun r8 u9 hw => ?_)
    refine mv_bipush (v := (32 : Int32)) C dX9_read_24 (by decide) ?_
    refine mv_icmp_ne (tgt := 35) C dX9_read_26 (by decide) (fun h10 => ?_) (fun h10 => ?_)
    · have hw := hw.1 h10
      refine mv_aload_n C dX9_read_35 rfl 0 rfl ?_
      refine mv_iload C dX9_read_36 4 rfl ?_
      refine mv_callVi (f := wM cA b) (As := [.int x4]) (rest := []) C eM_ok hs 0 rfl rfl (X9_token_met (l := l) (lev := lev - 1) (by omega) hw) (cwV 1 C.2.2.2.2.1 gX9_read_X9_token rfl rfl rfl (by decide +kernel) (mRm_le (by omega) (by decide))) rfl rfl (Nat.le_of_ble_eq_true rfl) dX9_read_38 ⟨Nat.le_refl 0, Nat.le_refl 0⟩ (fun r11 u12 hw => ?_)
      refine mv_istore (lv1 := [(5, .int r11), (0, .ref (b 0)), (1, .int x1), (2, .int x2), (3, .int x3), (4, .int x4)]) C dX9_read_41 (by decide) rfl ?_
      refine mv_iload C dX9_read_43 0 rfl ?_
      refine mv_if_le (tgt := 59) C dX9_read_45 (by decide) (fun h13 => ?_) (fun h13 => ?_)
      · have hw := hw.1 h13
        refine mv_iconst (v := (0 : Int32)) C dX9_read_59 (by decide) ?_
        refine mv_sub [1, 2, 3, 4, 5, 0] rfl ?_
        exact wj_X9_read_60_ok C hs hlev hK9 hw
      · have hw := hw.2 h13
        refine mv_aload_n C dX9_read_48 rfl 1 rfl ?_
        refine mv_iload C dX9_read_49 5 rfl ?_
        refine mv_iload C dX9_read_51 0 rfl ?_
        refine mv_callVi (f := wM cA b) (As := [.int x4, .int r11]) (rest := []) C eM_ok hs 0 rfl rfl (X9_code_met (l := l) (lev := lev - 1) (by omega) hw) (cwV 2 C.2.2.2.2.1 gX9_read_X9_code rfl rfl rfl (by decide +kernel) (mRm_le (by omega) (by decide))) rfl rfl (Nat.le_of_ble_eq_true rfl) dX9_read_53 ⟨Nat.le_refl 0, Nat.le_refl 0⟩ (fun r14 u15 hw => ?_)
        refine mv_goto (tgt := 60) C dX9_read_56 (by decide) ?_
        refine mv_sub [1, 2, 3, 4, 5, 0] rfl ?_
        exact wj_X9_read_60_ok C hs hlev hK9 hw
    · have hw := hw.2 h10
      obtain ⟨y16, ey16⟩ : ∃ z : Int32, z = x4 + (1 : Int32) := ⟨_, rfl⟩
      have hw := hw y16 ey16
      refine mv_iinc (v := y16) (lv1 := [(4, .int y16), (0, .ref (b 0)), (1, .int x1), (2, .int x2), (3, .int x3)]) C dX9_read_29 4 rfl (by rw [ey16]; rfl) (by decide) rfl ?_
      refine mv_goto (tgt := 9) C dX9_read_32 (by decide) ?_
      refine mv_sub [1, 2, 3, 4, 0] rfl ?_
      exact hK9 x1 x2 x3 y16 u9 hw
set_option maxHeartbeats 4000000 in
set_option maxRecDepth 100000 in
theorem X9_read_met (hlev : 3 ≤ lev) {u : mS} {post : Int32 → mS → Prop} (hw : wp_X9_read  u post) : mKi l yX9_read wsX9_read lev (eM) (dC, dI) vwCl [(cA, .int)] (wM cA b) [.ref (b 0)] u post := by
  refine mKi_of (cc := cX9_read) (maxL := 8) (by decide) rfl rfl (Nat.le_of_ble_eq_true rfl) rfl ?_
  intro p e s m args below meth c A C hs
  unfold wp_X9_read at hw
  refine mv_iconst (v := (0 : Int32)) C dX9_read_0 (by decide) ?_
  refine mv_istore_n (lv1 := [(1, .int (0 : Int32)), (0, .ref (b 0))]) C dX9_read_1 rfl (by decide) rfl ?_
  refine mv_iconst (v := (0 : Int32)) C dX9_read_2 (by decide) ?_
  refine mv_istore_n (lv1 := [(2, .int (0 : Int32)), (1, .int (0 : Int32)), (0, .ref (b 0))]) C dX9_read_3 rfl (by decide) rfl ?_
  refine mv_iconst (v := (0 : Int32)) C dX9_read_4 (by decide) ?_
  refine mv_istore_n (lv1 := [(3, .int (0 : Int32)), (2, .int (0 : Int32)), (1, .int (0 : Int32)), (0, .ref (b 0))]) C dX9_read_5 rfl (by decide) rfl ?_
  refine mv_iconst (v := (0 : Int32)) C dX9_read_6 (by decide) ?_
  refine mv_istore (lv1 := [(4, .int (0 : Int32)), (3, .int (0 : Int32)), (2, .int (0 : Int32)), (1, .int (0 : Int32)), (0, .ref (b 0))]) C dX9_read_7 (by decide) rfl ?_
  refine mv_sub [4, 3, 2, 1, 0] rfl ?_
  obtain ⟨n, hw⟩ := hw
  exact mL5_of (fun K hK b0 b1 b2 b3 b4 hw => wj_X9_read_9_ok C hs hlev hK hw) n (0 : Int32) (0 : Int32) (0 : Int32) (0 : Int32) u hw
set_option maxHeartbeats 4000000 in
set_option maxRecDepth 100000 in
theorem X9_kind_2_met (hlev : 0 ≤ lev) {x1 : Int32} {u : mS} {post : Int32 → mS → Prop} (hw : wp_X9_kind_2 x1 u post) : mKi l yX9_kind wsX9_kind lev (eM) (dC, dI) vwCl [(cA, .int)] (wM cA b) [.ref (b 2), .int x1] u post := by
  refine mKi_of (cc := cX9_kind) (maxL := 2) (by decide) rfl rfl (Nat.le_of_ble_eq_true rfl) rfl ?_
  intro p e s m args below meth c A C hs
  unfold wp_X9_kind_2 at hw
  refine mv_aload_n C dX9_kind_0 rfl 0 rfl ?_
  refine mv_iload_n C dX9_kind_1 rfl 1 rfl ?_
  refine mv_iald (f := u.2 1) C 2 0 rfl rfl hw.1 dX9_kind_2 ?_
  refine mv_topi (fun y1 ey1 => ?_)
  have hw := hw.2 y1 ey1
  refine mv_ldc (v := (65536 : Int32)) C mw_X9_kind__constant_RX9_88_65536_Int32_ dX9_kind_3 ?_
  refine mv_idiv C dX9_kind_5 (by decide) ?_
  refine mv_topi (fun y2 ey2 => ?_)
  have hw := hw y2 ey2
  exact mv_iret C dX9_kind_6 hw
set_option maxHeartbeats 4000000 in
set_option maxRecDepth 100000 in
theorem wj_X9_end_2_56_ok (C : mC p s m args meth c cX9_end 5 wsX9_end RX9 (some .int) (dC, dI) vwCl [(cA, .int)] A) (hs : eM A s) (hlev : 1 ≤ lev) {post : Int32 → mS → Prop} {K7 : Int32 → Int32 → Int32 → mS → Prop} (hK7 : ∀ (x2 x3 x4 : Int32) (u : mS), K7 x2 x3 x4 u → mV p l e (mRm lev) s m args below meth c 5 (dC, dI) vwCl A 0 0 (mQi below args s (dC, dI) vwCl [(cA, .int)] (wM cA b) A post) (wM cA b u) 7 [(0, .ref (b 2)), (2, .int x2), (3, .int x3), (4, .int x4)] []) {x2 x3 z0 : Int32} {u : mS} (hw : wj_X9_end_2_56 K7 post x2 x3 z0 u) : mV p l e (mRm lev) s m args below meth c 5 (dC, dI) vwCl A 0 0 (mQi below args s (dC, dI) vwCl [(cA, .int)] (wM cA b) A post) (wM cA b u) 56 [(0, .ref (b 2)), (2, .int x2), (3, .int x3)] [.int z0] := by
  unfold wj_X9_end_2_56 at hw
  refine mv_istore (lv1 := [(4, .int z0), (0, .ref (b 2)), (2, .int x2), (3, .int x3)]) C dX9_end_56 (by decide) rfl ?_
  refine mv_goto (tgt := 7) C dX9_end_58 (by decide) ?_
  refine mv_sub [1, 2, 3, 0] rfl ?_
  exact hK7 x2 x3 z0 u hw
set_option maxHeartbeats 4000000 in
set_option maxRecDepth 100000 in
theorem wj_X9_end_2_43_ok (C : mC p s m args meth c cX9_end 5 wsX9_end RX9 (some .int) (dC, dI) vwCl [(cA, .int)] A) (hs : eM A s) (hlev : 1 ≤ lev) {post : Int32 → mS → Prop} {K7 : Int32 → Int32 → Int32 → mS → Prop} (hK7 : ∀ (x2 x3 x4 : Int32) (u : mS), K7 x2 x3 x4 u → mV p l e (mRm lev) s m args below meth c 5 (dC, dI) vwCl A 0 0 (mQi below args s (dC, dI) vwCl [(cA, .int)] (wM cA b) A post) (wM cA b u) 7 [(0, .ref (b 2)), (2, .int x2), (3, .int x3), (4, .int x4)] []) {x3 z0 : Int32} {u : mS} (hw : wj_X9_end_2_43 K7 post x3 z0 u) : mV p l e (mRm lev) s m args below meth c 5 (dC, dI) vwCl A 0 0 (mQi below args s (dC, dI) vwCl [(cA, .int)] (wM cA b) A post) (wM cA b u) 43 [(0, .ref (b 2)), (3, .int x3)] [.int z0] := by
  unfold wj_X9_end_2_43 at hw
  refine mv_istore_n (lv1 := [(2, .int z0), (0, .ref (b 2)), (3, .int x3)]) C dX9_end_43 rfl (by decide) rfl ?_
  obtain ⟨y10, ey10⟩ : ∃ z : Int32, z = x3 + (1 : Int32) := ⟨_, rfl⟩
  have hw := hw y10 ey10
  refine mv_iinc (v := y10) (lv1 := [(3, .int y10), (2, .int z0), (0, .ref (b 2))]) C dX9_end_44 2 rfl (by rw [ey10]; rfl) (by decide) rfl ?_
  refine mv_iload_n C dX9_end_47 rfl 1 rfl ?_
  refine mv_if_le (tgt := 55) C dX9_end_48 (by decide) (fun h11 => ?_) (fun h11 => ?_)
  · have hw := hw.1 h11
    refine mv_iconst (v := (0 : Int32)) C dX9_end_55 (by decide) ?_
    refine mv_sub [2, 1, 0] rfl ?_
    exact wj_X9_end_2_56_ok C hs hlev hK7 hw
  · have hw := hw.2 h11
    refine mv_iconst (v := (1 : Int32)) C dX9_end_51 (by decide) ?_
    refine mv_goto (tgt := 56) C dX9_end_52 (by decide) ?_
    refine mv_sub [2, 1, 0] rfl ?_
    exact wj_X9_end_2_56_ok C hs hlev hK7 hw
set_option maxHeartbeats 4000000 in
set_option maxRecDepth 100000 in
theorem wj_X9_end_2_7_ok (C : mC p s m args meth c cX9_end 5 wsX9_end RX9 (some .int) (dC, dI) vwCl [(cA, .int)] A) (hs : eM A s) (hlev : 1 ≤ lev) {post : Int32 → mS → Prop} {K7 : Int32 → Int32 → Int32 → mS → Prop} (hK7 : ∀ (x2 x3 x4 : Int32) (u : mS), K7 x2 x3 x4 u → mV p l e (mRm lev) s m args below meth c 5 (dC, dI) vwCl A 0 0 (mQi below args s (dC, dI) vwCl [(cA, .int)] (wM cA b) A post) (wM cA b u) 7 [(0, .ref (b 2)), (2, .int x2), (3, .int x3), (4, .int x4)] []) {x2 x3 x4 : Int32} {u : mS} (hw : wj_X9_end_2_7 K7 post x2 x3 x4 u) : mV p l e (mRm lev) s m args below meth c 5 (dC, dI) vwCl A 0 0 (mQi below args s (dC, dI) vwCl [(cA, .int)] (wM cA b) A post) (wM cA b u) 7 [(0, .ref (b 2)), (2, .int x2), (3, .int x3), (4, .int x4)] [] := by
  unfold wj_X9_end_2_7 at hw
  refine mv_iload C dX9_end_7 3 rfl ?_
  refine mv_if_eq (tgt := 61) C dX9_end_9 (by decide) (fun h1 => ?_) (fun h1 => ?_)
  · have hw := hw.1 h1
    refine mv_iload_n C dX9_end_61 rfl 2 rfl ?_
    exact mv_iret C dX9_end_62 hw
  · have hw := hw.2 h1
    refine mv_aload_n C dX9_end_12 rfl 0 rfl ?_
    refine mv_iload_n C dX9_end_13 rfl 2 rfl ?_
    refine mv_callSi (f := wM cA b) (As := [.ref (b 2), .int x3]) (rest := []) C eM_ok hs (X9_kind_2_met (l := l) (lev := lev - 1) (by omega) hw) (va_cwS 2 C.2.2.2.2.1 gX9_end_X9_kind rfl rfl rfl (by decide +kernel) (mRm_le (by omega) (by decide))) rfl rfl (Nat.le_of_ble_eq_true rfl) dX9_end_14 ⟨Nat.le_refl 0, Nat.le_refl 0⟩ (fun r2 u3 hw => ?_)
    refine mv_iconst (v := (1 : Int32)) C dX9_end_17 (by decide) ?_
    refine mv_icmp_ne (tgt := 27) C dX9_end_18 (by decide) (fun h4 => ?_) (fun h4 => ?_)
    · have hw := hw.1 h4
      refine mv_aload_n C dX9_end_27 rfl 0 rfl ?_
      refine mv_iload_n C dX9_end_28 rfl 2 rfl ?_
      refine mv_callSi (f := wM cA b) (As := [.ref (b 2), .int x3]) (rest := []) C eM_ok hs (X9_kind_2_met (l := l) (lev := lev - 1) (by omega) hw) (va_cwS 2 C.2.2.2.2.1 gX9_end_X9_kind rfl rfl rfl (by decide +kernel) (mRm_le (by omega) (by decide))) rfl rfl (Nat.le_of_ble_eq_true rfl) dX9_end_29 ⟨Nat.le_refl 0, Nat.le_refl 0⟩ (fun r5 u6 hw => ?_)
      refine mv_iconst (v := (2 : Int32)) C dX9_end_32 (by decide) ?_
      refine mv_icmp_ne (tgt := 42) C dX9_end_33 (by decide) (fun h7 => ?_) (fun h7 => ?_)
      · have hw := hw.1 h7
        refine mv_iload_n C dX9_end_42 rfl 1 rfl ?_
        refine mv_sub [0, 2] rfl ?_
        exact wj_X9_end_2_43_ok C hs hlev hK7 hw
      · have hw := hw.2 h7
        refine mv_iload_n C dX9_end_36 rfl 1 rfl ?_
        refine mv_iconst (v := (1 : Int32)) C dX9_end_37 (by decide) ?_
        refine mv_isub C dX9_end_38 ?_
        refine mv_topi (fun y8 ey8 => ?_)
        have hw := hw y8 ey8
        refine mv_goto (tgt := 43) C dX9_end_39 (by decide) ?_
        refine mv_sub [0, 2] rfl ?_
        exact wj_X9_end_2_43_ok C hs hlev hK7 hw
    · have hw := hw.2 h4
      refine mv_iload_n C dX9_end_21 rfl 1 rfl ?_
      refine mv_iconst (v := (1 : Int32)) C dX9_end_22 (by decide) ?_
      refine mv_iadd C dX9_end_23 ?_
      refine mv_topi (fun y9 ey9 => ?_)
      have hw := hw y9 ey9
      refine mv_goto (tgt := 43) C dX9_end_24 (by decide) ?_
      refine mv_sub [0, 2] rfl ?_
      exact wj_X9_end_2_43_ok C hs hlev hK7 hw
set_option maxHeartbeats 4000000 in
set_option maxRecDepth 100000 in
theorem X9_end_2_met (hlev : 1 ≤ lev) {x1 : Int32} {u : mS} {post : Int32 → mS → Prop} (hw : wp_X9_end_2 x1 u post) : mKi l yX9_end wsX9_end lev (eM) (dC, dI) vwCl [(cA, .int)] (wM cA b) [.ref (b 2), .int x1] u post := by
  refine mKi_of (cc := cX9_end) (maxL := 5) (by decide) rfl rfl (Nat.le_of_ble_eq_true rfl) rfl ?_
  intro p e s m args below meth c A C hs
  unfold wp_X9_end_2 at hw
  refine mv_iconst (v := (0 : Int32)) C dX9_end_0 (by decide) ?_
  refine mv_istore_n (lv1 := [(2, .int (0 : Int32)), (0, .ref (b 2)), (1, .int x1)]) C dX9_end_1 rfl (by decide) rfl ?_
  refine mv_iload_n C dX9_end_2 rfl 2 rfl ?_
  refine mv_istore_n (lv1 := [(3, .int x1), (2, .int (0 : Int32)), (0, .ref (b 2)), (1, .int x1)]) C dX9_end_3 rfl (by decide) rfl ?_
  refine mv_iconst (v := (1 : Int32)) C dX9_end_4 (by decide) ?_
  refine mv_istore (lv1 := [(4, .int (1 : Int32)), (3, .int x1), (2, .int (0 : Int32)), (0, .ref (b 2)), (1, .int x1)]) C dX9_end_5 (by decide) rfl ?_
  refine mv_sub [3, 2, 1, 0] rfl ?_
  obtain ⟨n, hw⟩ := hw
  exact mL4_of (fun K hK b0 b1 b2 b3 hw => wj_X9_end_2_7_ok C hs hlev hK hw) n (0 : Int32) x1 (1 : Int32) u hw
set_option maxHeartbeats 4000000 in
set_option maxRecDepth 100000 in
theorem wj_X9_dots_2_61_ok (C : mC p s m args meth c cX9_dots 5 wsX9_dots RX9 (some .int) (dC, dI) vwCl [(cA, .int)] A) (hs : eM A s) (hlev : 2 ≤ lev) {post : Int32 → mS → Prop} {K6 : Int32 → Int32 → mS → Prop} (hK6 : ∀ (x2 x3 : Int32) (u : mS), K6 x2 x3 u → mV p l e (mRm lev) s m args below meth c 5 (dC, dI) vwCl A 0 0 (mQi below args s (dC, dI) vwCl [(cA, .int)] (wM cA b) A post) (wM cA b u) 6 [(0, .ref (b 2)), (2, .int x2), (3, .int x3)] []) {x2 z0 : Int32} {u : mS} (hw : wj_X9_dots_2_61 K6 post x2 z0 u) : mV p l e (mRm lev) s m args below meth c 5 (dC, dI) vwCl A 0 0 (mQi below args s (dC, dI) vwCl [(cA, .int)] (wM cA b) A post) (wM cA b u) 61 [(0, .ref (b 2)), (2, .int x2)] [.int z0] := by
  unfold wj_X9_dots_2_61 at hw
  refine mv_istore_n (lv1 := [(3, .int z0), (0, .ref (b 2)), (2, .int x2)]) C dX9_dots_61 rfl (by decide) rfl ?_
  refine mv_goto (tgt := 6) C dX9_dots_62 (by decide) ?_
  refine mv_sub [1, 2, 0] rfl ?_
  exact hK6 x2 z0 u hw
set_option maxHeartbeats 4000000 in
set_option maxRecDepth 100000 in
theorem wj_X9_dots_2_44_ok (C : mC p s m args meth c cX9_dots 5 wsX9_dots RX9 (some .int) (dC, dI) vwCl [(cA, .int)] A) (hs : eM A s) (hlev : 2 ≤ lev) {post : Int32 → mS → Prop} {K6 : Int32 → Int32 → mS → Prop} (hK6 : ∀ (x2 x3 : Int32) (u : mS), K6 x2 x3 u → mV p l e (mRm lev) s m args below meth c 5 (dC, dI) vwCl A 0 0 (mQi below args s (dC, dI) vwCl [(cA, .int)] (wM cA b) A post) (wM cA b u) 6 [(0, .ref (b 2)), (2, .int x2), (3, .int x3)] []) {x3 x4 z0 : Int32} {u : mS} (hw : wj_X9_dots_2_44 K6 post x3 x4 z0 u) : mV p l e (mRm lev) s m args below meth c 5 (dC, dI) vwCl A 0 0 (mQi below args s (dC, dI) vwCl [(cA, .int)] (wM cA b) A post) (wM cA b u) 44 [(0, .ref (b 2)), (3, .int x3), (4, .int x4)] [.int z0] := by
  unfold wj_X9_dots_2_44 at hw
  refine mv_istore_n (lv1 := [(2, .int z0), (0, .ref (b 2)), (3, .int x3), (4, .int x4)]) C dX9_dots_44 rfl (by decide) rfl ?_
  refine mv_iload C dX9_dots_45 3 rfl ?_
  refine mv_if_eq (tgt := 56) C dX9_dots_47 (by decide) (fun h10 => ?_) (fun h10 => ?_)
  · have hw := hw.1 h10
    refine mv_aload_n C dX9_dots_56 rfl 1 rfl ?_
    refine mv_iload_n C dX9_dots_57 rfl 2 rfl ?_
    refine mv_callSi (f := wM cA b) (As := [.ref (b 2), .int x3]) (rest := []) C eM_ok hs (X9_end_2_met (l := l) (lev := lev - 1) (by omega) hw) (va_cwS 2 C.2.2.2.2.1 gX9_dots_X9_end rfl rfl rfl (by decide +kernel) (mRm_le (by omega) (by decide))) rfl rfl (Nat.le_of_ble_eq_true rfl) dX9_dots_58 ⟨Nat.le_refl 0, Nat.le_refl 0⟩ (fun r11 u12 hw => ?_)
    refine mv_sub [1, 0] rfl ?_
    exact wj_X9_dots_2_61_ok C hs hlev hK6 hw
  · have hw := hw.2 h10
    refine mv_iload_n C dX9_dots_50 rfl 2 rfl ?_
    refine mv_iconst (v := (1 : Int32)) C dX9_dots_51 (by decide) ?_
    refine mv_iadd C dX9_dots_52 ?_
    refine mv_topi (fun y13 ey13 => ?_)
    have hw := hw y13 ey13
    refine mv_goto (tgt := 61) C dX9_dots_53 (by decide) ?_
    refine mv_sub [1, 0] rfl ?_
    exact wj_X9_dots_2_61_ok C hs hlev hK6 hw
set_option maxHeartbeats 4000000 in
set_option maxRecDepth 100000 in
theorem wj_X9_dots_2_30_ok (C : mC p s m args meth c cX9_dots 5 wsX9_dots RX9 (some .int) (dC, dI) vwCl [(cA, .int)] A) (hs : eM A s) (hlev : 2 ≤ lev) {post : Int32 → mS → Prop} {K6 : Int32 → Int32 → mS → Prop} (hK6 : ∀ (x2 x3 : Int32) (u : mS), K6 x2 x3 u → mV p l e (mRm lev) s m args below meth c 5 (dC, dI) vwCl A 0 0 (mQi below args s (dC, dI) vwCl [(cA, .int)] (wM cA b) A post) (wM cA b u) 6 [(0, .ref (b 2)), (2, .int x2), (3, .int x3)] []) {x2 x3 z0 : Int32} {u : mS} (hw : wj_X9_dots_2_30 K6 post x2 x3 z0 u) : mV p l e (mRm lev) s m args below meth c 5 (dC, dI) vwCl A 0 0 (mQi below args s (dC, dI) vwCl [(cA, .int)] (wM cA b) A post) (wM cA b u) 30 [(0, .ref (b 2)), (2, .int x2), (3, .int x3)] [.int z0] := by
  unfold wj_X9_dots_2_30 at hw
  refine mv_istore (lv1 := [(4, .int z0), (0, .ref (b 2)), (2, .int x2), (3, .int x3)]) C dX9_dots_30 (by decide) rfl ?_
  refine mv_iload C dX9_dots_32 0 rfl ?_
  refine mv_if_eq (tgt := 43) C dX9_dots_34 (by decide) (fun h8 => ?_) (fun h8 => ?_)
  · have hw := hw.1 h8
    refine mv_iload_n C dX9_dots_43 rfl 2 rfl ?_
    refine mv_sub [1, 3, 0] rfl ?_
    exact wj_X9_dots_2_44_ok C hs hlev hK6 hw
  · have hw := hw.2 h8
    refine mv_iload_n C dX9_dots_37 rfl 2 rfl ?_
    refine mv_iconst (v := (1 : Int32)) C dX9_dots_38 (by decide) ?_
    refine mv_iadd C dX9_dots_39 ?_
    refine mv_topi (fun y9 ey9 => ?_)
    have hw := hw y9 ey9
    refine mv_goto (tgt := 44) C dX9_dots_40 (by decide) ?_
    refine mv_sub [1, 3, 0] rfl ?_
    exact wj_X9_dots_2_44_ok C hs hlev hK6 hw
set_option maxHeartbeats 4000000 in
set_option maxRecDepth 100000 in
theorem wj_X9_dots_2_6_ok (C : mC p s m args meth c cX9_dots 5 wsX9_dots RX9 (some .int) (dC, dI) vwCl [(cA, .int)] A) (hs : eM A s) (hlev : 2 ≤ lev) {post : Int32 → mS → Prop} {K6 : Int32 → Int32 → mS → Prop} (hK6 : ∀ (x2 x3 : Int32) (u : mS), K6 x2 x3 u → mV p l e (mRm lev) s m args below meth c 5 (dC, dI) vwCl A 0 0 (mQi below args s (dC, dI) vwCl [(cA, .int)] (wM cA b) A post) (wM cA b u) 6 [(0, .ref (b 2)), (2, .int x2), (3, .int x3)] []) {x2 x3 : Int32} {u : mS} (hw : wj_X9_dots_2_6 K6 post x2 x3 u) : mV p l e (mRm lev) s m args below meth c 5 (dC, dI) vwCl A 0 0 (mQi below args s (dC, dI) vwCl [(cA, .int)] (wM cA b) A post) (wM cA b u) 6 [(0, .ref (b 2)), (2, .int x2), (3, .int x3)] [] := by
  unfold wj_X9_dots_2_6 at hw
  refine mv_aload_n C dX9_dots_6 rfl 0 rfl ?_
  refine mv_iload_n C dX9_dots_7 rfl 2 rfl ?_
  refine mv_callSi (f := wM cA b) (As := [.ref (b 2), .int x3]) (rest := []) C eM_ok hs (X9_kind_2_met (l := l) (lev := lev - 1) (by omega) hw) (va_cwS 2 C.2.2.2.2.1 gX9_dots_X9_kind rfl rfl rfl (by decide +kernel) (mRm_le (by omega) (by decide))) rfl rfl (Nat.le_of_ble_eq_true rfl) dX9_dots_8 ⟨Nat.le_refl 0, Nat.le_refl 0⟩ (fun r2 u3 hw => ?_)
  refine mv_iconst (v := (2 : Int32)) C dX9_dots_11 (by decide) ?_
  refine mv_icmp_eq (tgt := 65) C dX9_dots_12 (by decide) (fun h4 => ?_) (fun h4 => ?_)
  · have hw := hw.1 h4
    refine mv_iload_n C dX9_dots_65 rfl 1 rfl ?_
    exact mv_iret C dX9_dots_66 hw
  · have hw := hw.2 h4
    refine mv_aload_n C dX9_dots_15 rfl 0 rfl ?_
    refine mv_iload_n C dX9_dots_16 rfl 2 rfl ?_
    refine mv_callSi (f := wM cA b) (As := [.ref (b 2), .int x3]) (rest := []) C eM_ok hs (X9_kind_2_met (l := l) (lev := lev - 1) (by omega) hw) (va_cwS 2 C.2.2.2.2.1 gX9_dots_X9_kind rfl rfl rfl (by decide +kernel) (mRm_le (by omega) (by decide))) rfl rfl (Nat.le_of_ble_eq_true rfl) dX9_dots_17 ⟨Nat.le_refl 0, Nat.le_refl 0⟩ (fun r5 u6 hw => ?_)
    refine mv_bipush (v := (6 : Int32)) C dX9_dots_20 (by decide) ?_
    refine mv_icmp_ne (tgt := 29) C dX9_dots_22 (by decide) (fun h7 => ?_) (fun h7 => ?_)
    · have hw := hw.1 h7
      refine mv_iconst (v := (0 : Int32)) C dX9_dots_29 (by decide) ?_
      exact wj_X9_dots_2_30_ok C hs hlev hK6 hw
    · have hw := hw.2 h7
      refine mv_iconst (v := (1 : Int32)) C dX9_dots_25 (by decide) ?_
      refine mv_goto (tgt := 30) C dX9_dots_26 (by decide) ?_
      exact wj_X9_dots_2_30_ok C hs hlev hK6 hw
set_option maxHeartbeats 4000000 in
set_option maxRecDepth 100000 in
theorem X9_dots_2_met (hlev : 2 ≤ lev) {x1 : Int32} {u : mS} {post : Int32 → mS → Prop} (hw : wp_X9_dots_2 x1 u post) : mKi l yX9_dots wsX9_dots lev (eM) (dC, dI) vwCl [(cA, .int)] (wM cA b) [.ref (b 2), .int x1] u post := by
  refine mKi_of (cc := cX9_dots) (maxL := 5) (by decide) rfl rfl (Nat.le_of_ble_eq_true rfl) rfl ?_
  intro p e s m args below meth c A C hs
  unfold wp_X9_dots_2 at hw
  refine mv_iconst (v := (0 : Int32)) C dX9_dots_0 (by decide) ?_
  refine mv_istore_n (lv1 := [(2, .int (0 : Int32)), (0, .ref (b 2)), (1, .int x1)]) C dX9_dots_1 rfl (by decide) rfl ?_
  refine mv_iload_n C dX9_dots_2 rfl 2 rfl ?_
  refine mv_iconst (v := (1 : Int32)) C dX9_dots_3 (by decide) ?_
  refine mv_iadd C dX9_dots_4 ?_
  refine mv_topi (fun y1 ey1 => ?_)
  have hw := hw y1 ey1
  refine mv_istore_n (lv1 := [(3, .int y1), (2, .int (0 : Int32)), (0, .ref (b 2)), (1, .int x1)]) C dX9_dots_5 rfl (by decide) rfl ?_
  refine mv_sub [2, 1, 0] rfl ?_
  obtain ⟨n, hw⟩ := hw
  exact mL3_of (fun K hK b0 b1 b2 hw => wj_X9_dots_2_6_ok C hs hlev hK hw) n (0 : Int32) y1 u hw
set_option maxHeartbeats 4000000 in
set_option maxRecDepth 100000 in
theorem wj_X9_keep_3_ok (C : mC p s m args meth c cX9_keep 5 wsX9_keep RX9 (some .int) (dC, dI) vwCl [(cA, .int)] A) (hs : eM A s) (hlev : 0 ≤ lev) {post : Int32 → mS → Prop} {K3 : Int32 → Int32 → Int32 → Int32 → mS → Prop} (hK3 : ∀ (x1 x2 x3 x4 : Int32) (u : mS), K3 x1 x2 x3 x4 u → mV p l e (mRm lev) s m args below meth c 5 (dC, dI) vwCl A 0 0 (mQi below args s (dC, dI) vwCl [(cA, .int)] (wM cA b) A post) (wM cA b u) 3 [(0, .ref (b 0)), (1, .int x1), (2, .int x2), (3, .int x3), (4, .int x4)] []) {x1 x2 x3 x4 : Int32} {u : mS} (hw : wj_X9_keep_3 K3 post x1 x2 x3 x4 u) : mV p l e (mRm lev) s m args below meth c 5 (dC, dI) vwCl A 0 0 (mQi below args s (dC, dI) vwCl [(cA, .int)] (wM cA b) A post) (wM cA b u) 3 [(0, .ref (b 0)), (1, .int x1), (2, .int x2), (3, .int x3), (4, .int x4)] [] := by
  unfold wj_X9_keep_3 at hw
  refine mv_iload C dX9_keep_3 4 rfl ?_
  refine mv_iload_n C dX9_keep_5 rfl 2 rfl ?_
  refine mv_icmp_ge (tgt := 51) C dX9_keep_6 (by decide) (fun h1 => ?_) (fun h1 => ?_)
  · have hw := hw.1 h1
    refine mv_iload_n C dX9_keep_51 rfl 3 rfl ?_
    refine mv_iload_n C dX9_keep_52 rfl 2 rfl ?_
    refine mv_iadd C dX9_keep_53 ?_
    refine mv_topi (fun y2 ey2 => ?_)
    have hw := hw y2 ey2
    refine mv_iload_n C dX9_keep_54 rfl 1 rfl ?_
    refine mv_isub C dX9_keep_55 ?_
    refine mv_topi (fun y3 ey3 => ?_)
    have hw := hw y3 ey3
    exact mv_iret C dX9_keep_56 hw
  · have hw := hw.2 h1
    refine mv_aload_n C dX9_keep_9 rfl 0 rfl ?_
    refine mv_get (v := .ref (b 4)) C iw_X9_keep_X9 0 rfl rfl 5 (by decide) lk_X9_keep_19 rfl rfl dX9_keep_10 ?_
    refine mv_iload_n C dX9_keep_13 rfl 3 rfl ?_
    refine mv_iload C dX9_keep_14 4 rfl ?_
    refine mv_iadd C dX9_keep_16 ?_
    refine mv_topi (fun y4 ey4 => ?_)
    have hw := hw y4 ey4
    refine mv_iload_n C dX9_keep_17 rfl 1 rfl ?_
    refine mv_isub C dX9_keep_18 ?_
    refine mv_topi (fun y5 ey5 => ?_)
    have hw := hw y5 ey5
    refine mv_aload_n C dX9_keep_19 rfl 0 rfl ?_
    refine mv_get (v := .ref (b 2)) C iw_X9_keep_X9 0 rfl rfl 2 (by decide) lk_X9_keep_13 rfl rfl dX9_keep_20 ?_
    refine mv_iload C dX9_keep_23 4 rfl ?_
    refine mv_iald (f := u.2 1) C 2 0 rfl rfl hw.1 dX9_keep_25 ?_
    refine mv_topi (fun y6 ey6 => ?_)
    have hw := hw.2 y6 ey6
    refine mv_iast (f := u.2 3) (ws1 := wM cA b (mPut u 3 y5.toNatClampNeg y6)) C 4 0 rfl rfl hw.1 rfl dX9_keep_26 ?_
    refine mv_nm (f := wM cA b) (fun u7 eu7 => ?_)
    have hw := hw.2 u7 eu7
    refine mv_aload_n C dX9_keep_27 rfl 0 rfl ?_
    refine mv_get (v := .ref (b 5)) C iw_X9_keep_X9 0 rfl rfl 6 (by decide) lk_X9_keep_22 rfl rfl dX9_keep_28 ?_
    refine mv_iload_n C dX9_keep_31 rfl 3 rfl ?_
    refine mv_iload C dX9_keep_32 4 rfl ?_
    refine mv_iadd C dX9_keep_34 ?_
    refine mv_topi (fun y8 ey8 => ?_)
    have hw := hw y8 ey8
    refine mv_iload_n C dX9_keep_35 rfl 1 rfl ?_
    refine mv_isub C dX9_keep_36 ?_
    refine mv_topi (fun y9 ey9 => ?_)
    have hw := hw y9 ey9
    refine mv_aload_n C dX9_keep_37 rfl 0 rfl ?_
    refine mv_get (v := .ref (b 3)) C iw_X9_keep_X9 0 rfl rfl 3 (by decide) lk_X9_keep_16 rfl rfl dX9_keep_38 ?_
    refine mv_iload C dX9_keep_41 4 rfl ?_
    refine mv_iald (f := u7.2 2) C 3 0 rfl rfl hw.1 dX9_keep_43 ?_
    refine mv_topi (fun y10 ey10 => ?_)
    have hw := hw.2 y10 ey10
    refine mv_iast (f := u7.2 4) (ws1 := wM cA b (mPut u7 4 y9.toNatClampNeg y10)) C 5 0 rfl rfl hw.1 rfl dX9_keep_44 ?_
    refine mv_nm (f := wM cA b) (fun u11 eu11 => ?_)
    have hw := hw.2 u11 eu11
    obtain ⟨y12, ey12⟩ : ∃ z : Int32, z = x4 + (1 : Int32) := ⟨_, rfl⟩
    have hw := hw y12 ey12
    refine mv_iinc (v := y12) (lv1 := [(4, .int y12), (0, .ref (b 0)), (1, .int x1), (2, .int x2), (3, .int x3)]) C dX9_keep_45 4 rfl (by rw [ey12]; rfl) (by decide) rfl ?_
    refine mv_goto (tgt := 3) C dX9_keep_48 (by decide) ?_
    refine mv_sub [1, 2, 3, 4, 0] rfl ?_
    exact hK3 x1 x2 x3 y12 u11 hw
set_option maxHeartbeats 4000000 in
set_option maxRecDepth 100000 in
theorem X9_keep_met (hlev : 0 ≤ lev) {x1 x2 x3 : Int32} {u : mS} {post : Int32 → mS → Prop} (hw : wp_X9_keep x1 x2 x3 u post) : mKi l yX9_keep wsX9_keep lev (eM) (dC, dI) vwCl [(cA, .int)] (wM cA b) [.ref (b 0), .int x1, .int x2, .int x3] u post := by
  refine mKi_of (cc := cX9_keep) (maxL := 5) (by decide) rfl rfl (Nat.le_of_ble_eq_true rfl) rfl ?_
  intro p e s m args below meth c A C hs
  unfold wp_X9_keep at hw
  refine mv_iload_n C dX9_keep_0 rfl 1 rfl ?_
  refine mv_istore (lv1 := [(4, .int x1), (0, .ref (b 0)), (1, .int x1), (2, .int x2), (3, .int x3)]) C dX9_keep_1 (by decide) rfl ?_
  refine mv_sub [1, 2, 3, 4, 0] rfl ?_
  obtain ⟨n, hw⟩ := hw
  exact mL5_of (fun K hK b0 b1 b2 b3 b4 hw => wj_X9_keep_3_ok C hs hlev hK hw) n x1 x2 x3 x1 u hw
set_option maxHeartbeats 4000000 in
set_option maxRecDepth 100000 in
theorem X9_kind_4_met (hlev : 0 ≤ lev) {x1 : Int32} {u : mS} {post : Int32 → mS → Prop} (hw : wp_X9_kind_4 x1 u post) : mKi l yX9_kind wsX9_kind lev (eM) (dC, dI) vwCl [(cA, .int)] (wM cA b) [.ref (b 4), .int x1] u post := by
  refine mKi_of (cc := cX9_kind) (maxL := 2) (by decide) rfl rfl (Nat.le_of_ble_eq_true rfl) rfl ?_
  intro p e s m args below meth c A C hs
  unfold wp_X9_kind_4 at hw
  refine mv_aload_n C dX9_kind_0 rfl 0 rfl ?_
  refine mv_iload_n C dX9_kind_1 rfl 1 rfl ?_
  refine mv_iald (f := u.2 3) C 4 0 rfl rfl hw.1 dX9_kind_2 ?_
  refine mv_topi (fun y1 ey1 => ?_)
  have hw := hw.2 y1 ey1
  refine mv_ldc (v := (65536 : Int32)) C mw_X9_kind__constant_RX9_88_65536_Int32_ dX9_kind_3 ?_
  refine mv_idiv C dX9_kind_5 (by decide) ?_
  refine mv_topi (fun y2 ey2 => ?_)
  have hw := hw y2 ey2
  exact mv_iret C dX9_kind_6 hw
set_option maxHeartbeats 4000000 in
set_option maxRecDepth 100000 in
theorem wj_X9_end_4_56_ok (C : mC p s m args meth c cX9_end 5 wsX9_end RX9 (some .int) (dC, dI) vwCl [(cA, .int)] A) (hs : eM A s) (hlev : 1 ≤ lev) {post : Int32 → mS → Prop} {K7 : Int32 → Int32 → Int32 → mS → Prop} (hK7 : ∀ (x2 x3 x4 : Int32) (u : mS), K7 x2 x3 x4 u → mV p l e (mRm lev) s m args below meth c 5 (dC, dI) vwCl A 0 0 (mQi below args s (dC, dI) vwCl [(cA, .int)] (wM cA b) A post) (wM cA b u) 7 [(0, .ref (b 4)), (2, .int x2), (3, .int x3), (4, .int x4)] []) {x2 x3 z0 : Int32} {u : mS} (hw : wj_X9_end_4_56 K7 post x2 x3 z0 u) : mV p l e (mRm lev) s m args below meth c 5 (dC, dI) vwCl A 0 0 (mQi below args s (dC, dI) vwCl [(cA, .int)] (wM cA b) A post) (wM cA b u) 56 [(0, .ref (b 4)), (2, .int x2), (3, .int x3)] [.int z0] := by
  unfold wj_X9_end_4_56 at hw
  refine mv_istore (lv1 := [(4, .int z0), (0, .ref (b 4)), (2, .int x2), (3, .int x3)]) C dX9_end_56 (by decide) rfl ?_
  refine mv_goto (tgt := 7) C dX9_end_58 (by decide) ?_
  refine mv_sub [1, 2, 3, 0] rfl ?_
  exact hK7 x2 x3 z0 u hw
set_option maxHeartbeats 4000000 in
set_option maxRecDepth 100000 in
theorem wj_X9_end_4_43_ok (C : mC p s m args meth c cX9_end 5 wsX9_end RX9 (some .int) (dC, dI) vwCl [(cA, .int)] A) (hs : eM A s) (hlev : 1 ≤ lev) {post : Int32 → mS → Prop} {K7 : Int32 → Int32 → Int32 → mS → Prop} (hK7 : ∀ (x2 x3 x4 : Int32) (u : mS), K7 x2 x3 x4 u → mV p l e (mRm lev) s m args below meth c 5 (dC, dI) vwCl A 0 0 (mQi below args s (dC, dI) vwCl [(cA, .int)] (wM cA b) A post) (wM cA b u) 7 [(0, .ref (b 4)), (2, .int x2), (3, .int x3), (4, .int x4)] []) {x3 z0 : Int32} {u : mS} (hw : wj_X9_end_4_43 K7 post x3 z0 u) : mV p l e (mRm lev) s m args below meth c 5 (dC, dI) vwCl A 0 0 (mQi below args s (dC, dI) vwCl [(cA, .int)] (wM cA b) A post) (wM cA b u) 43 [(0, .ref (b 4)), (3, .int x3)] [.int z0] := by
  unfold wj_X9_end_4_43 at hw
  refine mv_istore_n (lv1 := [(2, .int z0), (0, .ref (b 4)), (3, .int x3)]) C dX9_end_43 rfl (by decide) rfl ?_
  obtain ⟨y10, ey10⟩ : ∃ z : Int32, z = x3 + (1 : Int32) := ⟨_, rfl⟩
  have hw := hw y10 ey10
  refine mv_iinc (v := y10) (lv1 := [(3, .int y10), (2, .int z0), (0, .ref (b 4))]) C dX9_end_44 2 rfl (by rw [ey10]; rfl) (by decide) rfl ?_
  refine mv_iload_n C dX9_end_47 rfl 1 rfl ?_
  refine mv_if_le (tgt := 55) C dX9_end_48 (by decide) (fun h11 => ?_) (fun h11 => ?_)
  · have hw := hw.1 h11
    refine mv_iconst (v := (0 : Int32)) C dX9_end_55 (by decide) ?_
    refine mv_sub [2, 1, 0] rfl ?_
    exact wj_X9_end_4_56_ok C hs hlev hK7 hw
  · have hw := hw.2 h11
    refine mv_iconst (v := (1 : Int32)) C dX9_end_51 (by decide) ?_
    refine mv_goto (tgt := 56) C dX9_end_52 (by decide) ?_
    refine mv_sub [2, 1, 0] rfl ?_
    exact wj_X9_end_4_56_ok C hs hlev hK7 hw
set_option maxHeartbeats 4000000 in
set_option maxRecDepth 100000 in
theorem wj_X9_end_4_7_ok (C : mC p s m args meth c cX9_end 5 wsX9_end RX9 (some .int) (dC, dI) vwCl [(cA, .int)] A) (hs : eM A s) (hlev : 1 ≤ lev) {post : Int32 → mS → Prop} {K7 : Int32 → Int32 → Int32 → mS → Prop} (hK7 : ∀ (x2 x3 x4 : Int32) (u : mS), K7 x2 x3 x4 u → mV p l e (mRm lev) s m args below meth c 5 (dC, dI) vwCl A 0 0 (mQi below args s (dC, dI) vwCl [(cA, .int)] (wM cA b) A post) (wM cA b u) 7 [(0, .ref (b 4)), (2, .int x2), (3, .int x3), (4, .int x4)] []) {x2 x3 x4 : Int32} {u : mS} (hw : wj_X9_end_4_7 K7 post x2 x3 x4 u) : mV p l e (mRm lev) s m args below meth c 5 (dC, dI) vwCl A 0 0 (mQi below args s (dC, dI) vwCl [(cA, .int)] (wM cA b) A post) (wM cA b u) 7 [(0, .ref (b 4)), (2, .int x2), (3, .int x3), (4, .int x4)] [] := by
  unfold wj_X9_end_4_7 at hw
  refine mv_iload C dX9_end_7 3 rfl ?_
  refine mv_if_eq (tgt := 61) C dX9_end_9 (by decide) (fun h1 => ?_) (fun h1 => ?_)
  · have hw := hw.1 h1
    refine mv_iload_n C dX9_end_61 rfl 2 rfl ?_
    exact mv_iret C dX9_end_62 hw
  · have hw := hw.2 h1
    refine mv_aload_n C dX9_end_12 rfl 0 rfl ?_
    refine mv_iload_n C dX9_end_13 rfl 2 rfl ?_
    refine mv_callSi (f := wM cA b) (As := [.ref (b 4), .int x3]) (rest := []) C eM_ok hs (X9_kind_4_met (l := l) (lev := lev - 1) (by omega) hw) (va_cwS 2 C.2.2.2.2.1 gX9_end_X9_kind rfl rfl rfl (by decide +kernel) (mRm_le (by omega) (by decide))) rfl rfl (Nat.le_of_ble_eq_true rfl) dX9_end_14 ⟨Nat.le_refl 0, Nat.le_refl 0⟩ (fun r2 u3 hw => ?_)
    refine mv_iconst (v := (1 : Int32)) C dX9_end_17 (by decide) ?_
    refine mv_icmp_ne (tgt := 27) C dX9_end_18 (by decide) (fun h4 => ?_) (fun h4 => ?_)
    · have hw := hw.1 h4
      refine mv_aload_n C dX9_end_27 rfl 0 rfl ?_
      refine mv_iload_n C dX9_end_28 rfl 2 rfl ?_
      refine mv_callSi (f := wM cA b) (As := [.ref (b 4), .int x3]) (rest := []) C eM_ok hs (X9_kind_4_met (l := l) (lev := lev - 1) (by omega) hw) (va_cwS 2 C.2.2.2.2.1 gX9_end_X9_kind rfl rfl rfl (by decide +kernel) (mRm_le (by omega) (by decide))) rfl rfl (Nat.le_of_ble_eq_true rfl) dX9_end_29 ⟨Nat.le_refl 0, Nat.le_refl 0⟩ (fun r5 u6 hw => ?_)
      refine mv_iconst (v := (2 : Int32)) C dX9_end_32 (by decide) ?_
      refine mv_icmp_ne (tgt := 42) C dX9_end_33 (by decide) (fun h7 => ?_) (fun h7 => ?_)
      · have hw := hw.1 h7
        refine mv_iload_n C dX9_end_42 rfl 1 rfl ?_
        refine mv_sub [0, 2] rfl ?_
        exact wj_X9_end_4_43_ok C hs hlev hK7 hw
      · have hw := hw.2 h7
        refine mv_iload_n C dX9_end_36 rfl 1 rfl ?_
        refine mv_iconst (v := (1 : Int32)) C dX9_end_37 (by decide) ?_
        refine mv_isub C dX9_end_38 ?_
        refine mv_topi (fun y8 ey8 => ?_)
        have hw := hw y8 ey8
        refine mv_goto (tgt := 43) C dX9_end_39 (by decide) ?_
        refine mv_sub [0, 2] rfl ?_
        exact wj_X9_end_4_43_ok C hs hlev hK7 hw
    · have hw := hw.2 h4
      refine mv_iload_n C dX9_end_21 rfl 1 rfl ?_
      refine mv_iconst (v := (1 : Int32)) C dX9_end_22 (by decide) ?_
      refine mv_iadd C dX9_end_23 ?_
      refine mv_topi (fun y9 ey9 => ?_)
      have hw := hw y9 ey9
      refine mv_goto (tgt := 43) C dX9_end_24 (by decide) ?_
      refine mv_sub [0, 2] rfl ?_
      exact wj_X9_end_4_43_ok C hs hlev hK7 hw
set_option maxHeartbeats 4000000 in
set_option maxRecDepth 100000 in
theorem X9_end_4_met (hlev : 1 ≤ lev) {x1 : Int32} {u : mS} {post : Int32 → mS → Prop} (hw : wp_X9_end_4 x1 u post) : mKi l yX9_end wsX9_end lev (eM) (dC, dI) vwCl [(cA, .int)] (wM cA b) [.ref (b 4), .int x1] u post := by
  refine mKi_of (cc := cX9_end) (maxL := 5) (by decide) rfl rfl (Nat.le_of_ble_eq_true rfl) rfl ?_
  intro p e s m args below meth c A C hs
  unfold wp_X9_end_4 at hw
  refine mv_iconst (v := (0 : Int32)) C dX9_end_0 (by decide) ?_
  refine mv_istore_n (lv1 := [(2, .int (0 : Int32)), (0, .ref (b 4)), (1, .int x1)]) C dX9_end_1 rfl (by decide) rfl ?_
  refine mv_iload_n C dX9_end_2 rfl 2 rfl ?_
  refine mv_istore_n (lv1 := [(3, .int x1), (2, .int (0 : Int32)), (0, .ref (b 4)), (1, .int x1)]) C dX9_end_3 rfl (by decide) rfl ?_
  refine mv_iconst (v := (1 : Int32)) C dX9_end_4 (by decide) ?_
  refine mv_istore (lv1 := [(4, .int (1 : Int32)), (3, .int x1), (2, .int (0 : Int32)), (0, .ref (b 4)), (1, .int x1)]) C dX9_end_5 (by decide) rfl ?_
  refine mv_sub [3, 2, 1, 0] rfl ?_
  obtain ⟨n, hw⟩ := hw
  exact mL4_of (fun K hK b0 b1 b2 b3 hw => wj_X9_end_4_7_ok C hs hlev hK hw) n (0 : Int32) x1 (1 : Int32) u hw
end
