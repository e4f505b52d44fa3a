set_option maxRecDepth 20000 in
theorem ggX9_fill_X9_end : GoodIn wsX9_fill wsX9_end := goodIn_r _ [10, 11, 12, 9, 13, 14] (by decide +kernel) (by decide +kernel)
set_option maxRecDepth 20000 in
theorem gX9_fill_X9_end : GoodIn wsX9_fill (va_wsS RX9 111 yX9_end wsX9_end) := goodIn_app (goodIn_of _ (by decide +kernel)) ggX9_fill_X9_end
set_option maxRecDepth 20000 in
theorem ggX9_fill_X9_kind : GoodIn wsX9_fill wsX9_kind := goodIn_r _ [13, 14] (by decide +kernel) (by decide +kernel)
set_option maxRecDepth 20000 in
theorem gX9_fill_X9_kind : GoodIn wsX9_fill (va_wsS RX9 107 yX9_kind wsX9_kind) := goodIn_app (goodIn_of _ (by decide +kernel)) ggX9_fill_X9_kind
set_option maxRecDepth 20000 in
theorem ggX9_fill_X9_again : GoodIn wsX9_fill wsX9_again := goodIn_r _ [18, 19, 4, 20, 21, 58, 59, 60, 61, 62, 63, 64, 65, 66, 67, 68, 69, 70, 71, 72, 73, 74, 75, 76, 77, 78, 79, 80, 81, 82, 83, 84, 85, 86, 87, 88, 89, 90, 91, 92, 93] (by decide +kernel) (by decide +kernel)
set_option maxRecDepth 20000 in
theorem gX9_fill_X9_again : GoodIn wsX9_fill (wsV RX9 229 RX9 yX9_again wsX9_again) := goodIn_app (goodIn_of _ (by decide +kernel)) ggX9_fill_X9_again
set_option maxRecDepth 20000 in
theorem ggX9_fill_X9_isHeld : GoodIn wsX9_fill wsX9_isHeld := goodIn_r _ [25, 4, 21, 58, 59, 60, 61, 62, 63, 64, 65, 66, 67, 68, 69, 70, 71, 72, 73, 74, 75, 76, 77, 78, 79, 80, 81, 82, 83, 84, 85, 86, 87, 88, 89, 90, 91, 92, 93] (by decide +kernel) (by decide +kernel)
set_option maxRecDepth 20000 in
theorem gX9_fill_X9_isHeld : GoodIn wsX9_fill (wsV RX9 232 RX9 yX9_isHeld wsX9_isHeld) := goodIn_app (goodIn_of _ (by decide +kernel)) ggX9_fill_X9_isHeld
set_option maxRecDepth 100000 in
theorem gpX9_fill_X9_hold_0 : GoodIn wsX9_fill wsX9_hold_r1 := goodIn_r _ [1, 21, 4, 20, 19, 7, 8, 9, 10, 11, 12, 13, 14, 30, 31, 32, 33, 6, 34, 35, 36, 37, 38, 39] (by decide +kernel) (by decide +kernel)
set_option maxRecDepth 100000 in
theorem gpX9_fill_X9_hold_1 : GoodIn wsX9_fill wsX9_hold_r2 := goodIn_r _ [40, 41, 42, 43, 44, 45, 46, 5] (by decide +kernel) (by decide +kernel)
set_option maxRecDepth 100000 in
theorem gpX9_fill_X9_hold_2 : GoodIn wsX9_fill wsX90 := goodIn_r _ [58, 59, 60, 61, 62, 63, 64, 65, 66, 67, 68, 69, 70, 71, 72, 73, 74, 75, 76, 77, 78, 79, 80, 81, 82, 83, 84, 85, 86, 87, 88, 89, 90, 91, 92, 93] (by decide +kernel) (by decide +kernel)
set_option maxRecDepth 100000 in
theorem gpX9_fill_X9_hold_c : GoodIn wsX9_fill [Cond.code yX9_hold cX9_hold 6 (some .int)] := goodIn_r _ [29] (by decide +kernel) (by decide +kernel)
theorem ggX9_fill_X9_hold : GoodIn wsX9_fill wsX9_hold := goodIn_cons2 gpX9_fill_X9_hold_c (goodIn_app (goodIn_app gpX9_fill_X9_hold_0 gpX9_fill_X9_hold_1) gpX9_fill_X9_hold_2)
set_option maxRecDepth 20000 in
theorem gX9_fill_X9_hold : GoodIn wsX9_fill (wsV RX9 235 RX9 yX9_hold wsX9_hold) := goodIn_app (goodIn_of _ (by decide +kernel)) ggX9_fill_X9_hold
set_option maxRecDepth 20000 in
theorem ggX9_fill_X9_variable : GoodIn wsX9_fill wsX9_variable := goodIn_r _ [37, 1, 6, 7, 8, 9, 10, 11, 12, 13, 14, 58, 59, 60, 61, 62, 63, 64, 65, 66, 67, 68, 69, 70, 71, 72, 73, 74, 75, 76, 77, 78, 79, 80, 81, 82, 83, 84, 85, 86, 87, 88, 89, 90, 91, 92, 93] (by decide +kernel) (by decide +kernel)
set_option maxRecDepth 20000 in
theorem gX9_fill_X9_variable : GoodIn wsX9_fill (wsV RX9 124 RX9 yX9_variable wsX9_variable) := goodIn_app (goodIn_of _ (by decide +kernel)) ggX9_fill_X9_variable
set_option maxRecDepth 20000 in
theorem ggX9_fill_X9_add : GoodIn wsX9_fill wsX9_add := goodIn_r _ [50, 14, 3, 51, 2, 52, 43, 44, 45, 9, 46, 5, 58, 59, 60, 61, 62, 63, 64, 65, 66, 67, 68, 69, 70, 71, 72, 73, 74, 75, 76, 77, 78, 79, 80, 81, 82, 83, 84, 85, 86, 87, 88, 89, 90, 91, 92, 93] (by decide +kernel) (by decide +kernel)
set_option maxRecDepth 20000 in
theorem gX9_fill_X9_add : GoodIn wsX9_fill (wsV RX9 238 RX9 yX9_add wsX9_add) := goodIn_app (goodIn_of _ (by decide +kernel)) ggX9_fill_X9_add
set_option maxRecDepth 20000 in
theorem ggX9_fill_X9_walk : GoodIn wsX9_fill wsX9_walk := goodIn_r _ [41, 1, 42, 19, 7, 8, 9, 10, 11, 12, 13, 14, 58, 59, 60, 61, 62, 63, 64, 65, 66, 67, 68, 69, 70, 71, 72, 73, 74, 75, 76, 77, 78, 79, 80, 81, 82, 83, 84, 85, 86, 87, 88, 89, 90, 91, 92, 93] (by decide +kernel) (by decide +kernel)
set_option maxRecDepth 20000 in
theorem gX9_fill_X9_walk : GoodIn wsX9_fill (wsV RX9 222 RX9 yX9_walk wsX9_walk) := goodIn_app (goodIn_of _ (by decide +kernel)) ggX9_fill_X9_walk
set_option maxRecDepth 100000 in
theorem gpX9_fill_X9_bring_0 : GoodIn wsX9_fill ([.fieldLink RX9 13 "MarkedNamesModel" "row" "[I", .fieldLink RX9 178 "MarkedNamesModel" "error" "I", .fieldLink RX9 16 "MarkedNamesModel" "set" "[I", .methodLink RX9 111 yX9_end, .static yX9_end, .initialized RX9, .code yX9_end cX9_end 5 (some .int), .methodLink RX9 107 yX9_kind, .static yX9_kind, .code yX9_kind cX9_kind 2 (some .int), .constant RX9 88 (65536), .methodLink RX9 238 yX9_add, .instanceMethod yX9_add, .selects RX9 yX9_add yX9_add, .code yX9_add cX9_add 4 none, .fieldLink RX9 213 "MarkedNamesModel" "trees" "I", .fieldLink RX9 46 "MarkedNamesModel" "made" "[I", .fieldLink RX9 216 "MarkedNamesModel" "many" "I", .fieldLink RX9 49 "MarkedNamesModel" "madeSet" "[I", .methodLink RX9 163 yX9_fails, .instanceMethod yX9_fails, .selects RX9 yX9_fails yX9_fails, .code yX9_fails cX9_fails 2 none] : List Cond) := goodIn_r _ [42, 5, 57, 7, 8, 9, 10, 11, 12, 13, 14, 47, 48, 49, 50, 3, 51, 2, 52, 43, 44, 45, 46] (by decide +kernel) (by decide +kernel)
set_option maxRecDepth 100000 in
theorem gpX9_fill_X9_bring_1 : GoodIn wsX9_fill wsX90 := goodIn_r _ [58, 59, 60, 61, 62, 63, 64, 65, 66, 67, 68, 69, 70, 71, 72, 73, 74, 75, 76, 77, 78, 79, 80, 81, 82, 83, 84, 85, 86, 87, 88, 89, 90, 91, 92, 93] (by decide +kernel) (by decide +kernel)
set_option maxRecDepth 100000 in
theorem gpX9_fill_X9_bring_c : GoodIn wsX9_fill [Cond.code yX9_bring cX9_bring 4 none] := goodIn_r _ [56] (by decide +kernel) (by decide +kernel)
theorem ggX9_fill_X9_bring : GoodIn wsX9_fill wsX9_bring := goodIn_cons2 gpX9_fill_X9_bring_c (goodIn_app gpX9_fill_X9_bring_0 gpX9_fill_X9_bring_1)
set_option maxRecDepth 20000 in
theorem gX9_fill_X9_bring : GoodIn wsX9_fill (wsV RX9 242 RX9 yX9_bring wsX9_bring) := goodIn_app (goodIn_of _ (by decide +kernel)) ggX9_fill_X9_bring
theorem dX9_fill_0 : decode cX9_fill 0 = .ok (.aload_n 0, 1) := by decide +kernel
theorem dX9_fill_1 : decode cX9_fill 1 = .ok (.getfield 19, 3) := by decide +kernel
theorem dX9_fill_4 : decode cX9_fill 4 = .ok (.iload_n 1, 1) := by decide +kernel
theorem dX9_fill_5 : decode cX9_fill 5 = .ok (.invokestatic 111, 3) := by decide +kernel
theorem dX9_fill_8 : decode cX9_fill 8 = .ok (.istore_n 3, 1) := by decide +kernel
theorem dX9_fill_9 : decode cX9_fill 9 = .ok (.aload_n 0, 1) := by decide +kernel
theorem dX9_fill_10 : decode cX9_fill 10 = .ok (.getfield 19, 3) := by decide +kernel
theorem dX9_fill_13 : decode cX9_fill 13 = .ok (.iload_n 3, 1) := by decide +kernel
theorem dX9_fill_14 : decode cX9_fill 14 = .ok (.invokestatic 111, 3) := by decide +kernel
theorem dX9_fill_17 : decode cX9_fill 17 = .ok (.istore 4, 2) := by decide +kernel
theorem dX9_fill_19 : decode cX9_fill 19 = .ok (.iload_n 3, 1) := by decide +kernel
theorem dX9_fill_20 : decode cX9_fill 20 = .ok (.istore 5, 2) := by decide +kernel
theorem dX9_fill_22 : decode cX9_fill 22 = .ok (.aload_n 0, 1) := by decide +kernel
theorem dX9_fill_23 : decode cX9_fill 23 = .ok (.iconst 0, 1) := by decide +kernel
theorem dX9_fill_24 : decode cX9_fill 24 = .ok (.putfield 216, 3) := by decide +kernel
theorem dX9_fill_27 : decode cX9_fill 27 = .ok (.aload_n 0, 1) := by decide +kernel
theorem dX9_fill_28 : decode cX9_fill 28 = .ok (.iconst 0, 1) := by decide +kernel
theorem dX9_fill_29 : decode cX9_fill 29 = .ok (.putfield 213, 3) := by decide +kernel
theorem dX9_fill_32 : decode cX9_fill 32 = .ok (.aload_n 0, 1) := by decide +kernel
theorem dX9_fill_33 : decode cX9_fill 33 = .ok (.iconst 0, 1) := by decide +kernel
theorem dX9_fill_34 : decode cX9_fill 34 = .ok (.putfield 219, 3) := by decide +kernel
theorem dX9_fill_37 : decode cX9_fill 37 = .ok (.iload 5, 2) := by decide +kernel
theorem dX9_fill_39 : decode cX9_fill 39 = .ok (.iload 4, 2) := by decide +kernel
theorem dX9_fill_41 : decode cX9_fill 41 = .ok (.if_icmp .ge 188, 3) := by decide +kernel
theorem dX9_fill_44 : decode cX9_fill 44 = .ok (.aload_n 0, 1) := by decide +kernel
theorem dX9_fill_45 : decode cX9_fill 45 = .ok (.getfield 178, 3) := by decide +kernel
theorem dX9_fill_48 : decode cX9_fill 48 = .ok (.ifCond .ne 181, 3) := by decide +kernel
theorem dX9_fill_51 : decode cX9_fill 51 = .ok (.aload_n 0, 1) := by decide +kernel
theorem dX9_fill_52 : decode cX9_fill 52 = .ok (.getfield 19, 3) := by decide +kernel
theorem dX9_fill_55 : decode cX9_fill 55 = .ok (.iload 5, 2) := by decide +kernel
theorem dX9_fill_57 : decode cX9_fill 57 = .ok (.invokestatic 107, 3) := by decide +kernel
theorem dX9_fill_60 : decode cX9_fill 60 = .ok (.istore 6, 2) := by decide +kernel
theorem dX9_fill_62 : decode cX9_fill 62 = .ok (.iload 6, 2) := by decide +kernel
theorem dX9_fill_64 : decode cX9_fill 64 = .ok (.bipush 6, 2) := by decide +kernel
theorem dX9_fill_66 : decode cX9_fill 66 = .ok (.if_icmp .ne 14, 3) := by decide +kernel
theorem dX9_fill_69 : decode cX9_fill 69 = .ok (.aload_n 0, 1) := by decide +kernel
theorem dX9_fill_70 : decode cX9_fill 70 = .ok (.iload 5, 2) := by decide +kernel
theorem dX9_fill_72 : decode cX9_fill 72 = .ok (.invokevirtual 229, 3) := by decide +kernel
theorem dX9_fill_75 : decode cX9_fill 75 = .ok (.istore 5, 2) := by decide +kernel
theorem dX9_fill_77 : decode cX9_fill 77 = .ok (.goto (-40), 3) := by decide +kernel
theorem dX9_fill_80 : decode cX9_fill 80 = .ok (.iload 6, 2) := by decide +kernel
theorem dX9_fill_82 : decode cX9_fill 82 = .ok (.iconst 2, 1) := by decide +kernel
theorem dX9_fill_83 : decode cX9_fill 83 = .ok (.if_icmp .eq 69, 3) := by decide +kernel
theorem dX9_fill_86 : decode cX9_fill 86 = .ok (.aload_n 0, 1) := by decide +kernel
theorem dX9_fill_87 : decode cX9_fill 87 = .ok (.iload 5, 2) := by decide +kernel
theorem dX9_fill_89 : decode cX9_fill 89 = .ok (.invokevirtual 232, 3) := by decide +kernel
theorem dX9_fill_92 : decode cX9_fill 92 = .ok (.ifCond .ne 60, 3) := by decide +kernel
theorem dX9_fill_95 : decode cX9_fill 95 = .ok (.aload_n 0, 1) := by decide +kernel
theorem dX9_fill_96 : decode cX9_fill 96 = .ok (.getfield 19, 3) := by decide +kernel
theorem dX9_fill_99 : decode cX9_fill 99 = .ok (.iload 5, 2) := by decide +kernel
theorem dX9_fill_101 : decode cX9_fill 101 = .ok (.invokestatic 111, 3) := by decide +kernel
theorem dX9_fill_104 : decode cX9_fill 104 = .ok (.iload 4, 2) := by decide +kernel
theorem dX9_fill_106 : decode cX9_fill 106 = .ok (.if_icmp .ge 46, 3) := by decide +kernel
theorem dX9_fill_109 : decode cX9_fill 109 = .ok (.aload_n 0, 1) := by decide +kernel
theorem dX9_fill_110 : decode cX9_fill 110 = .ok (.getfield 19, 3) := by decide +kernel
theorem dX9_fill_113 : decode cX9_fill 113 = .ok (.aload_n 0, 1) := by decide +kernel
theorem dX9_fill_114 : decode cX9_fill 114 = .ok (.getfield 19, 3) := by decide +kernel
theorem dX9_fill_117 : decode cX9_fill 117 = .ok (.iload 5, 2) := by decide +kernel
theorem dX9_fill_119 : decode cX9_fill 119 = .ok (.invokestatic 111, 3) := by decide +kernel
theorem dX9_fill_122 : decode cX9_fill 122 = .ok (.invokestatic 107, 3) := by decide +kernel
theorem dX9_fill_125 : decode cX9_fill 125 = .ok (.bipush 6, 2) := by decide +kernel
theorem dX9_fill_127 : decode cX9_fill 127 = .ok (.if_icmp .ne 25, 3) := by decide +kernel
theorem dX9_fill_130 : decode cX9_fill 130 = .ok (.aload_n 0, 1) := by decide +kernel
theorem dX9_fill_131 : decode cX9_fill 131 = .ok (.iload_n 1, 1) := by decide +kernel
theorem dX9_fill_132 : decode cX9_fill 132 = .ok (.iload_n 2, 1) := by decide +kernel
theorem dX9_fill_133 : decode cX9_fill 133 = .ok (.iload 5, 2) := by decide +kernel
theorem dX9_fill_135 : decode cX9_fill 135 = .ok (.invokevirtual 235, 3) := by decide +kernel
theorem dX9_fill_138 : decode cX9_fill 138 = .ok (.istore 5, 2) := by decide +kernel
theorem dX9_fill_140 : decode cX9_fill 140 = .ok (.aload_n 0, 1) := by decide +kernel
theorem dX9_fill_141 : decode cX9_fill 141 = .ok (.iload 5, 2) := by decide +kernel
theorem dX9_fill_143 : decode cX9_fill 143 = .ok (.invokevirtual 232, 3) := by decide +kernel
theorem dX9_fill_146 : decode cX9_fill 146 = .ok (.ifCond .ne 6, 3) := by decide +kernel
theorem dX9_fill_149 : decode cX9_fill 149 = .ok (.goto (-112), 3) := by decide +kernel
theorem dX9_fill_152 : decode cX9_fill 152 = .ok (.iload 6, 2) := by decide +kernel
theorem dX9_fill_154 : decode cX9_fill 154 = .ok (.iconst 3, 1) := by decide +kernel
theorem dX9_fill_155 : decode cX9_fill 155 = .ok (.if_icmp .ne 25, 3) := by decide +kernel
theorem dX9_fill_158 : decode cX9_fill 158 = .ok (.aload_n 0, 1) := by decide +kernel
theorem dX9_fill_159 : decode cX9_fill 159 = .ok (.iload_n 1, 1) := by decide +kernel
theorem dX9_fill_160 : decode cX9_fill 160 = .ok (.aload_n 0, 1) := by decide +kernel
theorem dX9_fill_161 : decode cX9_fill 161 = .ok (.getfield 19, 3) := by decide +kernel
theorem dX9_fill_164 : decode cX9_fill 164 = .ok (.iload 5, 2) := by decide +kernel
theorem dX9_fill_166 : decode cX9_fill 166 = .ok (.iaload, 1) := by decide +kernel
theorem dX9_fill_167 : decode cX9_fill 167 = .ok (.aload_n 0, 1) := by decide +kernel
theorem dX9_fill_168 : decode cX9_fill 168 = .ok (.getfield 22, 3) := by decide +kernel
theorem dX9_fill_171 : decode cX9_fill 171 = .ok (.iload 5, 2) := by decide +kernel
theorem dX9_fill_173 : decode cX9_fill 173 = .ok (.iaload, 1) := by decide +kernel
theorem dX9_fill_174 : decode cX9_fill 174 = .ok (.invokevirtual 124, 3) := by decide +kernel
theorem dX9_fill_177 : decode cX9_fill 177 = .ok (.goto 4, 3) := by decide +kernel
theorem dX9_fill_180 : decode cX9_fill 180 = .ok (.iconst (-1), 1) := by decide +kernel
theorem dX9_fill_181 : decode cX9_fill 181 = .ok (.istore 7, 2) := by decide +kernel
theorem dX9_fill_183 : decode cX9_fill 183 = .ok (.iload 7, 2) := by decide +kernel
theorem dX9_fill_185 : decode cX9_fill 185 = .ok (.ifCond .ge 24, 3) := by decide +kernel
theorem dX9_fill_188 : decode cX9_fill 188 = .ok (.aload_n 0, 1) := by decide +kernel
theorem dX9_fill_189 : decode cX9_fill 189 = .ok (.aload_n 0, 1) := by decide +kernel
theorem dX9_fill_190 : decode cX9_fill 190 = .ok (.getfield 19, 3) := by decide +kernel
theorem dX9_fill_193 : decode cX9_fill 193 = .ok (.iload 5, 2) := by decide +kernel
theorem dX9_fill_195 : decode cX9_fill 195 = .ok (.iaload, 1) := by decide +kernel
theorem dX9_fill_196 : decode cX9_fill 196 = .ok (.aload_n 0, 1) := by decide +kernel
theorem dX9_fill_197 : decode cX9_fill 197 = .ok (.getfield 22, 3) := by decide +kernel
theorem dX9_fill_200 : decode cX9_fill 200 = .ok (.iload 5, 2) := by decide +kernel
theorem dX9_fill_202 : decode cX9_fill 202 = .ok (.iaload, 1) := by decide +kernel
theorem dX9_fill_203 : decode cX9_fill 203 = .ok (.invokevirtual 238, 3) := by decide +kernel
theorem dX9_fill_206 : decode cX9_fill 206 = .ok (.goto 17, 3) := by decide +kernel
theorem dX9_fill_209 : decode cX9_fill 209 = .ok (.aload_n 0, 1) := by decide +kernel
theorem dX9_fill_210 : decode cX9_fill 210 = .ok (.aload_n 0, 1) := by decide +kernel
theorem dX9_fill_211 : decode cX9_fill 211 = .ok (.iload_n 1, 1) := by decide +kernel
theorem dX9_fill_212 : decode cX9_fill 212 = .ok (.iload_n 2, 1) := by decide +kernel
theorem dX9_fill_213 : decode cX9_fill 213 = .ok (.iload 7, 2) := by decide +kernel
theorem dX9_fill_215 : decode cX9_fill 215 = .ok (.bipush 9, 2) := by decide +kernel
theorem dX9_fill_217 : decode cX9_fill 217 = .ok (.invokevirtual 222, 3) := by decide +kernel
theorem dX9_fill_220 : decode cX9_fill 220 = .ok (.invokevirtual 242, 3) := by decide +kernel
theorem dX9_fill_223 : decode cX9_fill 223 = .ok (.iinc 5 1, 3) := by decide +kernel
theorem dX9_fill_226 : decode cX9_fill 226 = .ok (.goto (-189), 3) := by decide +kernel
theorem dX9_fill_229 : decode cX9_fill 229 = .ok (.return_, 1) := by decide +kernel
set_option maxRecDepth 20000 in
theorem ggX9_bring_X9_end : GoodIn wsX9_bring wsX9_end := goodIn_r _ [7, 8, 9, 6, 10, 11] (by decide +kernel) (by decide +kernel)
set_option maxRecDepth 20000 in
theorem gX9_bring_X9_end : GoodIn wsX9_bring (va_wsS RX9 111 yX9_end wsX9_end) := goodIn_app (goodIn_of _ (by decide +kernel)) ggX9_bring_X9_end
set_option maxRecDepth 20000 in
theorem ggX9_bring_X9_add : GoodIn wsX9_bring wsX9_add := goodIn_r _ [15, 11, 16, 17, 18, 19, 20, 21, 22, 6, 23, 2, 24, 25, 26, 27, 28, 29, 30, 31, 32, 33, 34, 35, 36, 37, 38, 39, 40, 41, 42, 43, 44, 45, 46, 47, 48, 49, 50, 51, 52, 53, 54, 55, 56, 57, 58, 59] (by decide +kernel) (by decide +kernel)
set_option maxRecDepth 20000 in
theorem gX9_bring_X9_add : GoodIn wsX9_bring (wsV RX9 238 RX9 yX9_add wsX9_add) := goodIn_app (goodIn_of _ (by decide +kernel)) ggX9_bring_X9_add
theorem dX9_bring_0 : decode cX9_bring 0 = .ok (.aload_n 0, 1) := by decide +kernel
theorem dX9_bring_1 : decode cX9_bring 1 = .ok (.getfield 13, 3) := by decide +kernel
theorem dX9_bring_4 : decode cX9_bring 4 = .ok (.iload_n 1, 1) := by decide +kernel
theorem dX9_bring_5 : decode cX9_bring 5 = .ok (.invokestatic 111, 3) := by decide +kernel
theorem dX9_bring_8 : decode cX9_bring 8 = .ok (.istore_n 2, 1) := by decide +kernel
theorem dX9_bring_9 : decode cX9_bring 9 = .ok (.iload_n 1, 1) := by decide +kernel
theorem dX9_bring_10 : decode cX9_bring 10 = .ok (.istore_n 3, 1) := by decide +kernel
theorem dX9_bring_11 : decode cX9_bring 11 = .ok (.iload_n 3, 1) := by decide +kernel
theorem dX9_bring_12 : decode cX9_bring 12 = .ok (.iload_n 2, 1) := by decide +kernel
theorem dX9_bring_13 : decode cX9_bring 13 = .ok (.if_icmp .ge 32, 3) := by decide +kernel
theorem dX9_bring_16 : decode cX9_bring 16 = .ok (.aload_n 0, 1) := by decide +kernel
theorem dX9_bring_17 : decode cX9_bring 17 = .ok (.getfield 178, 3) := by decide +kernel
theorem dX9_bring_20 : decode cX9_bring 20 = .ok (.ifCond .ne 25, 3) := by decide +kernel
theorem dX9_bring_23 : decode cX9_bring 23 = .ok (.aload_n 0, 1) := by decide +kernel
theorem dX9_bring_24 : decode cX9_bring 24 = .ok (.aload_n 0, 1) := by decide +kernel
theorem dX9_bring_25 : decode cX9_bring 25 = .ok (.getfield 13, 3) := by decide +kernel
theorem dX9_bring_28 : decode cX9_bring 28 = .ok (.iload_n 3, 1) := by decide +kernel
theorem dX9_bring_29 : decode cX9_bring 29 = .ok (.iaload, 1) := by decide +kernel
theorem dX9_bring_30 : decode cX9_bring 30 = .ok (.aload_n 0, 1) := by decide +kernel
theorem dX9_bring_31 : decode cX9_bring 31 = .ok (.getfield 16, 3) := by decide +kernel
theorem dX9_bring_34 : decode cX9_bring 34 = .ok (.iload_n 3, 1) := by decide +kernel
theorem dX9_bring_35 : decode cX9_bring 35 = .ok (.iaload, 1) := by decide +kernel
theorem dX9_bring_36 : decode cX9_bring 36 = .ok (.invokevirtual 238, 3) := by decide +kernel
theorem dX9_bring_39 : decode cX9_bring 39 = .ok (.iinc 3 1, 3) := by decide +kernel
theorem dX9_bring_42 : decode cX9_bring 42 = .ok (.goto (-31), 3) := by decide +kernel
theorem dX9_bring_45 : decode cX9_bring 45 = .ok (.return_, 1) := by decide +kernel
set_option maxRecDepth 20000 in
theorem ggX9_use_X9_fails : GoodIn wsX9_use wsX9_fails := goodIn_r _ [16, 2, 91, 92, 93, 94, 95, 96, 97, 98, 99, 100, 101, 102, 103, 104, 105, 106, 107, 108, 109, 110, 111, 112, 113, 114, 115, 116, 117, 118, 119, 120, 121, 122, 123, 124, 125, 126] (by decide +kernel) (by decide +kernel)
set_option maxRecDepth 20000 in
theorem gX9_use_X9_fails : GoodIn wsX9_use (wsV RX9 163 RX9 yX9_fails wsX9_fails) := goodIn_app (goodIn_of _ (by decide +kernel)) ggX9_use_X9_fails
set_option maxRecDepth 20000 in
theorem ggX9_use_X9_scope : GoodIn wsX9_use wsX9_scope := goodIn_r _ [20, 21, 12, 13, 14, 15, 16, 2, 91, 92, 93, 94, 95, 96, 97, 98, 99, 100, 101, 102, 103, 104, 105, 106, 107, 108, 109, 110, 111, 112, 113, 114, 115, 116, 117, 118, 119, 120, 121, 122, 123, 124, 125, 126] (by decide +kernel) (by decide +kernel)
set_option maxRecDepth 20000 in
theorem gX9_use_X9_scope : GoodIn wsX9_use (wsV RX9 248 RX9 yX9_scope wsX9_scope) := goodIn_app (goodIn_of _ (by decide +kernel)) ggX9_use_X9_scope
set_option maxRecDepth 20000 in
theorem ggX9_use_X9_end : GoodIn wsX9_use wsX9_end := goodIn_r _ [24, 25, 26, 15, 27, 28] (by decide +kernel) (by decide +kernel)
set_option maxRecDepth 20000 in
theorem gX9_use_X9_end : GoodIn wsX9_use (va_wsS RX9 111 yX9_end wsX9_end) := goodIn_app (goodIn_of _ (by decide +kernel)) ggX9_use_X9_end
set_option maxRecDepth 20000 in
theorem ggX9_use_X9_turn : GoodIn wsX9_use wsX9_turn := goodIn_r _ [32, 25, 26, 15, 27, 28] (by decide +kernel) (by decide +kernel)
set_option maxRecDepth 20000 in
theorem gX9_use_X9_turn : GoodIn wsX9_use (wsV RX9 251 RX9 yX9_turn wsX9_turn) := goodIn_app (goodIn_of _ (by decide +kernel)) ggX9_use_X9_turn
set_option maxRecDepth 100000 in
theorem gpX9_use_X9_matches_0 : GoodIn wsX9_use ([.fieldLink RX9 52 "MarkedNamesModel" "left" "[I", .fieldLink RX9 55 "MarkedNamesModel" "right" "[I", .fieldLink RX9 19 "MarkedNamesModel" "kept" "[I", .fieldLink RX9 13 "MarkedNamesModel" "row" "[I", .methodLink RX9 209 yX9_pairs, .instanceMethod yX9_pairs, .selects RX9 yX9_pairs yX9_pairs, .initialized RX9, .code yX9_pairs cX9_pairs 12 (some .int), .methodLink RX9 107 yX9_kind, .static yX9_kind, .code yX9_kind cX9_kind 2 (some .int), .constant RX9 88 (65536), .methodLink RX9 117 yX9_dots, .static yX9_dots, .code yX9_dots cX9_dots 5 (some .int), .methodLink RX9 111 yX9_end, .static yX9_end, .code yX9_end cX9_end 5 (some .int), .methodLink RX9 114 yX9_count, .static yX9_count, .code yX9_count cX9_count 5 (some .int)] : List Cond) := goodIn_r _ [37, 38, 8, 3, 39, 40, 41, 15, 42, 25, 26, 27, 28, 43, 44, 45, 22, 23, 24, 46, 47, 48] (by decide +kernel) (by decide +kernel)
set_option maxRecDepth 100000 in
theorem gpX9_use_X9_matches_1 : GoodIn wsX9_use wsX90 := goodIn_r _ [91, 92, 93, 94, 95, 96, 97, 98, 99, 100, 101, 102, 103, 104, 105, 106, 107, 108, 109, 110, 111, 112, 113, 114, 115, 116, 117, 118, 119, 120, 121, 122, 123, 124, 125, 126] (by decide +kernel) (by decide +kernel)
set_option maxRecDepth 100000 in
theorem gpX9_use_X9_matches_c : GoodIn wsX9_use [Cond.code yX9_matches cX9_matches 7 (some .boolean)] := goodIn_r _ [36] (by decide +kernel) (by decide +kernel)
theorem ggX9_use_X9_matches : GoodIn wsX9_use wsX9_matches := goodIn_cons2 gpX9_use_X9_matches_c (goodIn_app gpX9_use_X9_matches_0 gpX9_use_X9_matches_1)
set_option maxRecDepth 20000 in
theorem gX9_use_X9_matches : GoodIn wsX9_use (wsV RX9 255 RX9 yX9_matches wsX9_matches) := goodIn_app (goodIn_of _ (by decide +kernel)) ggX9_use_X9_matches
set_option maxRecDepth 100000 in
theorem gpX9_use_X9_fill_0 : GoodIn wsX9_use wsX9_fill_r1 := goodIn_r _ [8, 11, 53, 54, 2, 55, 22, 23, 15, 24, 25, 26, 27, 28, 56, 57, 58, 59, 60, 61, 62, 63, 64, 65] (by decide +kernel) (by decide +kernel)
set_option maxRecDepth 100000 in
theorem gpX9_use_X9_fill_1 : GoodIn wsX9_use wsX9_fill_r2 := goodIn_r _ [66, 67, 68, 69, 70, 71, 72, 73, 74, 75, 76, 77, 78, 79, 80, 81, 82, 3, 12, 13, 14, 16, 83, 84] (by decide +kernel) (by decide +kernel)
set_option maxRecDepth 100000 in
theorem gpX9_use_X9_fill_2 : GoodIn wsX9_use wsX9_fill_r3 := goodIn_r _ [85, 86, 9, 10, 87, 88, 89, 90, 5] (by decide +kernel) (by decide +kernel)
set_option maxRecDepth 100000 in
theorem gpX9_use_X9_fill_3 : GoodIn wsX9_use wsX90 := goodIn_r _ [91, 92, 93, 94, 95, 96, 97, 98, 99, 100, 101, 102, 103, 104, 105, 106, 107, 108, 109, 110, 111, 112, 113, 114, 115, 116, 117, 118, 119, 120, 121, 122, 123, 124, 125, 126] (by decide +kernel) (by decide +kernel)
set_option maxRecDepth 100000 in
theorem gpX9_use_X9_fill_c : GoodIn wsX9_use [Cond.code yX9_fill cX9_fill 8 none] := goodIn_r _ [52] (by decide +kernel) (by decide +kernel)
theorem ggX9_use_X9_fill : GoodIn wsX9_use wsX9_fill := goodIn_cons2 gpX9_use_X9_fill_c (goodIn_app (goodIn_app gpX9_use_X9_fill_0 (goodIn_app gpX9_use_X9_fill_1 gpX9_use_X9_fill_2)) gpX9_use_X9_fill_3)
set_option maxRecDepth 20000 in
theorem gX9_use_X9_fill : GoodIn wsX9_use (wsV RX9 258 RX9 yX9_fill wsX9_fill) := goodIn_app (goodIn_of _ (by decide +kernel)) ggX9_use_X9_fill
theorem dX9_use_0 : decode cX9_use 0 = .ok (.aload_n 0, 1) := by decide +kernel
theorem dX9_use_1 : decode cX9_use 1 = .ok (.getfield 245, 3) := by decide +kernel
theorem dX9_use_4 : decode cX9_use 4 = .ok (.ifCond .ne 9, 3) := by decide +kernel
theorem dX9_use_7 : decode cX9_use 7 = .ok (.aload_n 0, 1) := by decide +kernel
theorem dX9_use_8 : decode cX9_use 8 = .ok (.iconst 5, 1) := by decide +kernel
theorem dX9_use_9 : decode cX9_use 9 = .ok (.invokevirtual 163, 3) := by decide +kernel
theorem dX9_use_12 : decode cX9_use 12 = .ok (.return_, 1) := by decide +kernel
theorem dX9_use_13 : decode cX9_use 13 = .ok (.aload_n 0, 1) := by decide +kernel
theorem dX9_use_14 : decode cX9_use 14 = .ok (.dup, 1) := by decide +kernel
theorem dX9_use_15 : decode cX9_use 15 = .ok (.getfield 245, 3) := by decide +kernel
theorem dX9_use_18 : decode cX9_use 18 = .ok (.iconst 1, 1) := by decide +kernel
theorem dX9_use_19 : decode cX9_use 19 = .ok (.isub, 1) := by decide +kernel
theorem dX9_use_20 : decode cX9_use 20 = .ok (.putfield 245, 3) := by decide +kernel
theorem dX9_use_23 : decode cX9_use 23 = .ok (.aload_n 0, 1) := by decide +kernel
theorem dX9_use_24 : decode cX9_use 24 = .ok (.invokevirtual 248, 3) := by decide +kernel
theorem dX9_use_27 : decode cX9_use 27 = .ok (.istore_n 2, 1) := by decide +kernel
theorem dX9_use_28 : decode cX9_use 28 = .ok (.aload_n 0, 1) := by decide +kernel
theorem dX9_use_29 : decode cX9_use 29 = .ok (.getfield 178, 3) := by decide +kernel
theorem dX9_use_32 : decode cX9_use 32 = .ok (.ifCond .eq 4, 3) := by decide +kernel
theorem dX9_use_35 : decode cX9_use 35 = .ok (.return_, 1) := by decide +kernel
theorem dX9_use_36 : decode cX9_use 36 = .ok (.aload_n 0, 1) := by decide +kernel
theorem dX9_use_37 : decode cX9_use 37 = .ok (.getfield 13, 3) := by decide +kernel
theorem dX9_use_40 : decode cX9_use 40 = .ok (.aload_n 0, 1) := by decide +kernel
theorem dX9_use_41 : decode cX9_use 41 = .ok (.getfield 104, 3) := by decide +kernel
theorem dX9_use_44 : decode cX9_use 44 = .ok (.invokestatic 111, 3) := by decide +kernel
theorem dX9_use_47 : decode cX9_use 47 = .ok (.istore_n 3, 1) := by decide +kernel
theorem dX9_use_48 : decode cX9_use 48 = .ok (.aload_n 0, 1) := by decide +kernel
theorem dX9_use_49 : decode cX9_use 49 = .ok (.aload_n 0, 1) := by decide +kernel
theorem dX9_use_50 : decode cX9_use 50 = .ok (.getfield 13, 3) := by decide +kernel
theorem dX9_use_53 : decode cX9_use 53 = .ok (.aload_n 0, 1) := by decide +kernel
theorem dX9_use_54 : decode cX9_use 54 = .ok (.getfield 16, 3) := by decide +kernel
theorem dX9_use_57 : decode cX9_use 57 = .ok (.aload_n 0, 1) := by decide +kernel
theorem dX9_use_58 : decode cX9_use 58 = .ok (.getfield 104, 3) := by decide +kernel
theorem dX9_use_61 : decode cX9_use 61 = .ok (.iload_n 3, 1) := by decide +kernel
theorem dX9_use_62 : decode cX9_use 62 = .ok (.iload_n 2, 1) := by decide +kernel
theorem dX9_use_63 : decode cX9_use 63 = .ok (.invokevirtual 251, 3) := by decide +kernel
theorem dX9_use_66 : decode cX9_use 66 = .ok (.aload_n 0, 1) := by decide +kernel
theorem dX9_use_67 : decode cX9_use 67 = .ok (.getfield 40, 3) := by decide +kernel
theorem dX9_use_70 : decode cX9_use 70 = .ok (.iload_n 1, 1) := by decide +kernel
theorem dX9_use_71 : decode cX9_use 71 = .ok (.iaload, 1) := by decide +kernel
theorem dX9_use_72 : decode cX9_use 72 = .ok (.istore 4, 2) := by decide +kernel
theorem dX9_use_74 : decode cX9_use 74 = .ok (.iload 4, 2) := by decide +kernel
theorem dX9_use_76 : decode cX9_use 76 = .ok (.aload_n 0, 1) := by decide +kernel
theorem dX9_use_77 : decode cX9_use 77 = .ok (.getfield 43, 3) := by decide +kernel
theorem dX9_use_80 : decode cX9_use 80 = .ok (.iload_n 1, 1) := by decide +kernel
theorem dX9_use_81 : decode cX9_use 81 = .ok (.iaload, 1) := by decide +kernel
theorem dX9_use_82 : decode cX9_use 82 = .ok (.if_icmp .ge 32, 3) := by decide +kernel
theorem dX9_use_85 : decode cX9_use 85 = .ok (.aload_n 0, 1) := by decide +kernel
theorem dX9_use_86 : decode cX9_use 86 = .ok (.iload 4, 2) := by decide +kernel
theorem dX9_use_88 : decode cX9_use 88 = .ok (.iconst 1, 1) := by decide +kernel
theorem dX9_use_89 : decode cX9_use 89 = .ok (.iadd, 1) := by decide +kernel
theorem dX9_use_90 : decode cX9_use 90 = .ok (.aload_n 0, 1) := by decide +kernel
theorem dX9_use_91 : decode cX9_use 91 = .ok (.getfield 104, 3) := by decide +kernel
theorem dX9_use_94 : decode cX9_use 94 = .ok (.invokevirtual 255, 3) := by decide +kernel
theorem dX9_use_97 : decode cX9_use 97 = .ok (.ifCond .ne 17, 3) := by decide +kernel
theorem dX9_use_100 : decode cX9_use 100 = .ok (.aload_n 0, 1) := by decide +kernel
theorem dX9_use_101 : decode cX9_use 101 = .ok (.getfield 19, 3) := by decide +kernel
theorem dX9_use_104 : decode cX9_use 104 = .ok (.iload 4, 2) := by decide +kernel
theorem dX9_use_106 : decode cX9_use 106 = .ok (.invokestatic 111, 3) := by decide +kernel
theorem dX9_use_109 : decode cX9_use 109 = .ok (.istore 4, 2) := by decide +kernel
theorem dX9_use_111 : decode cX9_use 111 = .ok (.goto (-37), 3) := by decide +kernel
theorem dX9_use_114 : decode cX9_use 114 = .ok (.iload 4, 2) := by decide +kernel
theorem dX9_use_116 : decode cX9_use 116 = .ok (.aload_n 0, 1) := by decide +kernel
theorem dX9_use_117 : decode cX9_use 117 = .ok (.getfield 43, 3) := by decide +kernel
theorem dX9_use_120 : decode cX9_use 120 = .ok (.iload_n 1, 1) := by decide +kernel
theorem dX9_use_121 : decode cX9_use 121 = .ok (.iaload, 1) := by decide +kernel
theorem dX9_use_122 : decode cX9_use 122 = .ok (.if_icmp .lt 9, 3) := by decide +kernel
theorem dX9_use_125 : decode cX9_use 125 = .ok (.aload_n 0, 1) := by decide +kernel
theorem dX9_use_126 : decode cX9_use 126 = .ok (.iconst 4, 1) := by decide +kernel
theorem dX9_use_127 : decode cX9_use 127 = .ok (.invokevirtual 163, 3) := by decide +kernel
theorem dX9_use_130 : decode cX9_use 130 = .ok (.return_, 1) := by decide +kernel
theorem dX9_use_131 : decode cX9_use 131 = .ok (.aload_n 0, 1) := by decide +kernel
theorem dX9_use_132 : decode cX9_use 132 = .ok (.iload 4, 2) := by decide +kernel
theorem dX9_use_134 : decode cX9_use 134 = .ok (.iconst 1, 1) := by decide +kernel
theorem dX9_use_135 : decode cX9_use 135 = .ok (.iadd, 1) := by decide +kernel
theorem dX9_use_136 : decode cX9_use 136 = .ok (.aload_n 0, 1) := by decide +kernel
theorem dX9_use_137 : decode cX9_use 137 = .ok (.getfield 104, 3) := by decide +kernel
theorem dX9_use_140 : decode cX9_use 140 = .ok (.invokevirtual 258, 3) := by decide +kernel
theorem dX9_use_143 : decode cX9_use 143 = .ok (.aload_n 0, 1) := by decide +kernel
theorem dX9_use_144 : decode cX9_use 144 = .ok (.getfield 178, 3) := by decide +kernel
theorem dX9_use_147 : decode cX9_use 147 = .ok (.ifCond .eq 4, 3) := by decide +kernel
theorem dX9_use_150 : decode cX9_use 150 = .ok (.return_, 1) := by decide +kernel
theorem dX9_use_151 : decode cX9_use 151 = .ok (.aload_n 0, 1) := by decide +kernel
theorem dX9_use_152 : decode cX9_use 152 = .ok (.aload_n 0, 1) := by decide +kernel
theorem dX9_use_153 : decode cX9_use 153 = .ok (.getfield 46, 3) := by decide +kernel
theorem dX9_use_156 : decode cX9_use 156 = .ok (.aload_n 0, 1) := by decide +kernel
theorem dX9_use_157 : decode cX9_use 157 = .ok (.getfield 49, 3) := by decide +kernel
theorem dX9_use_160 : decode cX9_use 160 = .ok (.iconst 0, 1) := by decide +kernel
theorem dX9_use_161 : decode cX9_use 161 = .ok (.aload_n 0, 1) := by decide +kernel
theorem dX9_use_162 : decode cX9_use 162 = .ok (.getfield 216, 3) := by decide +kernel
theorem dX9_use_165 : decode cX9_use 165 = .ok (.iload_n 2, 1) := by decide +kernel
theorem dX9_use_166 : decode cX9_use 166 = .ok (.invokevirtual 251, 3) := by decide +kernel
theorem dX9_use_169 : decode cX9_use 169 = .ok (.aload_n 0, 1) := by decide +kernel
theorem dX9_use_170 : decode cX9_use 170 = .ok (.iload_n 3, 1) := by decide +kernel
theorem dX9_use_171 : decode cX9_use 171 = .ok (.aload_n 0, 1) := by decide +kernel
theorem dX9_use_172 : decode cX9_use 172 = .ok (.getfield 216, 3) := by decide +kernel
theorem dX9_use_175 : decode cX9_use 175 = .ok (.isub, 1) := by decide +kernel
theorem dX9_use_176 : decode cX9_use 176 = .ok (.putfield 104, 3) := by decide +kernel
theorem dX9_use_179 : decode cX9_use 179 = .ok (.iconst 0, 1) := by decide +kernel
theorem dX9_use_180 : decode cX9_use 180 = .ok (.istore 5, 2) := by decide +kernel
theorem dX9_use_182 : decode cX9_use 182 = .ok (.iload 5, 2) := by decide +kernel
theorem dX9_use_184 : decode cX9_use 184 = .ok (.aload_n 0, 1) := by decide +kernel
theorem dX9_use_185 : decode cX9_use 185 = .ok (.getfield 216, 3) := by decide +kernel
theorem dX9_use_188 : decode cX9_use 188 = .ok (.if_icmp .ge 47, 3) := by decide +kernel
theorem dX9_use_191 : decode cX9_use 191 = .ok (.aload_n 0, 1) := by decide +kernel
theorem dX9_use_192 : decode cX9_use 192 = .ok (.getfield 13, 3) := by decide +kernel
theorem dX9_use_195 : decode cX9_use 195 = .ok (.aload_n 0, 1) := by decide +kernel
theorem dX9_use_196 : decode cX9_use 196 = .ok (.getfield 104, 3) := by decide +kernel
theorem dX9_use_199 : decode cX9_use 199 = .ok (.iload 5, 2) := by decide +kernel
theorem dX9_use_201 : decode cX9_use 201 = .ok (.iadd, 1) := by decide +kernel
theorem dX9_use_202 : decode cX9_use 202 = .ok (.aload_n 0, 1) := by decide +kernel
theorem dX9_use_203 : decode cX9_use 203 = .ok (.getfield 46, 3) := by decide +kernel
theorem dX9_use_206 : decode cX9_use 206 = .ok (.iload 5, 2) := by decide +kernel
theorem dX9_use_208 : decode cX9_use 208 = .ok (.iaload, 1) := by decide +kernel
theorem dX9_use_209 : decode cX9_use 209 = .ok (.iastore, 1) := by decide +kernel
theorem dX9_use_210 : decode cX9_use 210 = .ok (.aload_n 0, 1) := by decide +kernel
theorem dX9_use_211 : decode cX9_use 211 = .ok (.getfield 16, 3) := by decide +kernel
theorem dX9_use_214 : decode cX9_use 214 = .ok (.aload_n 0, 1) := by decide +kernel
theorem dX9_use_215 : decode cX9_use 215 = .ok (.getfield 104, 3) := by decide +kernel
theorem dX9_use_218 : decode cX9_use 218 = .ok (.iload 5, 2) := by decide +kernel
theorem dX9_use_220 : decode cX9_use 220 = .ok (.iadd, 1) := by decide +kernel
theorem dX9_use_221 : decode cX9_use 221 = .ok (.aload_n 0, 1) := by decide +kernel
theorem dX9_use_222 : decode cX9_use 222 = .ok (.getfield 49, 3) := by decide +kernel
theorem dX9_use_225 : decode cX9_use 225 = .ok (.iload 5, 2) := by decide +kernel
theorem dX9_use_227 : decode cX9_use 227 = .ok (.iaload, 1) := by decide +kernel
theorem dX9_use_228 : decode cX9_use 228 = .ok (.iastore, 1) := by decide +kernel
theorem dX9_use_229 : decode cX9_use 229 = .ok (.iinc 5 1, 3) := by decide +kernel
theorem dX9_use_232 : decode cX9_use 232 = .ok (.goto (-50), 3) := by decide +kernel
theorem dX9_use_235 : decode cX9_use 235 = .ok (.return_, 1) := by decide +kernel
theorem iw_X9_use_X9 : ∀ w ∈ wsX90, w ∈ wsX9_use := by decide +kernel
theorem lk_X9_use_245 : Cond.fieldLink RX9 245 "MarkedNamesModel" "fuelLeft" "I" ∈ wsX9_use := by decide +kernel
theorem lk_X9_use_178 : Cond.fieldLink RX9 178 "MarkedNamesModel" "error" "I" ∈ wsX9_use := by decide +kernel
theorem lk_X9_use_13 : Cond.fieldLink RX9 13 "MarkedNamesModel" "row" "[I" ∈ wsX9_use := by decide +kernel
theorem lk_X9_use_104 : Cond.fieldLink RX9 104 "MarkedNamesModel" "head" "I" ∈ wsX9_use := by decide +kernel
theorem lk_X9_use_16 : Cond.fieldLink RX9 16 "MarkedNamesModel" "set" "[I" ∈ wsX9_use := by decide +kernel
theorem lk_X9_use_40 : Cond.fieldLink RX9 40 "MarkedNamesModel" "from" "[I" ∈ wsX9_use := by decide +kernel
theorem lk_X9_use_43 : Cond.fieldLink RX9 43 "MarkedNamesModel" "to" "[I" ∈ wsX9_use := by decide +kernel
theorem lk_X9_use_19 : Cond.fieldLink RX9 19 "MarkedNamesModel" "kept" "[I" ∈ wsX9_use := by decide +kernel
theorem iw_X9_fill_X9 : ∀ w ∈ wsX90, w ∈ wsX9_fill := by decide +kernel
theorem lk_X9_fill_19 : Cond.fieldLink RX9 19 "MarkedNamesModel" "kept" "[I" ∈ wsX9_fill := by decide +kernel
theorem lk_X9_fill_216 : Cond.fieldLink RX9 216 "MarkedNamesModel" "many" "I" ∈ wsX9_fill := by decide +kernel
theorem lk_X9_fill_213 : Cond.fieldLink RX9 213 "MarkedNamesModel" "trees" "I" ∈ wsX9_fill := by decide +kernel
theorem lk_X9_fill_219 : Cond.fieldLink RX9 219 "MarkedNamesModel" "held" "I" ∈ wsX9_fill := by decide +kernel
theorem lk_X9_fill_178 : Cond.fieldLink RX9 178 "MarkedNamesModel" "error" "I" ∈ wsX9_fill := by decide +kernel
theorem lk_X9_fill_22 : Cond.fieldLink RX9 22 "MarkedNamesModel" "keptSet" "[I" ∈ wsX9_fill := by decide +kernel
theorem iw_X9_bring_X9 : ∀ w ∈ wsX90, w ∈ wsX9_bring := by decide +kernel
theorem lk_X9_bring_13 : Cond.fieldLink RX9 13 "MarkedNamesModel" "row" "[I" ∈ wsX9_bring := by decide +kernel
theorem lk_X9_bring_178 : Cond.fieldLink RX9 178 "MarkedNamesModel" "error" "I" ∈ wsX9_bring := by decide +kernel
theorem lk_X9_bring_16 : Cond.fieldLink RX9 16 "MarkedNamesModel" "set" "[I" ∈ wsX9_bring := by decide +kernel
theorem lk_X9_use_46 : Cond.fieldLink RX9 46 "MarkedNamesModel" "made" "[I" ∈ wsX9_use := by decide +kernel
theorem lk_X9_use_49 : Cond.fieldLink RX9 49 "MarkedNamesModel" "madeSet" "[I" ∈ wsX9_use := by decide +kernel
theorem lk_X9_use_216 : Cond.fieldLink RX9 216 "MarkedNamesModel" "many" "I" ∈ wsX9_use := by decide +kernel
section
variable {l : Launch} {p : Program} {e : Env} {s : State} {m : MethodId} {args : Array Value} {below : List Frame} {meth : Method} {c : Code} {A : Nat → Prop} {dC : Nat → ClassId} {dI : Nat → Nat → Nat} {cA : ClassId} {a b : Nat → Nat} {lev : Nat}
set_option maxHeartbeats 4000000 in
set_option maxRecDepth 100000 in
theorem wj_X9_bring_11_ok (C : mC p s m args meth c cX9_bring 4 wsX9_bring RX9 none (dC, dI) vwCl [(cA, .int)] A) (hs : eM A s) (hlev : 2 ≤ lev) {post : mS → Prop} {K11 : Int32 → Int32 → mS → Prop} (hK11 : ∀ (x2 x3 : Int32) (u : mS), K11 x2 x3 u → mV p l e (mRm lev) s m args below meth c 4 (dC, dI) vwCl A 0 0 (mQv below args s (dC, dI) vwCl [(cA, .int)] (wM cA b) A post) (wM cA b u) 11 [(0, .ref (b 0)), (2, .int x2), (3, .int x3)] []) {x2 x3 : Int32} {u : mS} (hw : wj_X9_bring_11 K11 post x2 x3 u) : mV p l e (mRm lev) s m args below meth c 4 (dC, dI) vwCl A 0 0 (mQv below args s (dC, dI) vwCl [(cA, .int)] (wM cA b) A post) (wM cA b u) 11 [(0, .ref (b 0)), (2, .int x2), (3, .int x3)] [] := by
  unfold wj_X9_bring_11 at hw
  refine mv_iload_n C dX9_bring_11 rfl 2 rfl ?_
  refine mv_iload_n C dX9_bring_12 rfl 1 rfl ?_
  refine mv_icmp_ge (tgt := 45) C dX9_bring_13 (by decide) (fun h3 => ?_) (fun h3 => ?_)
  · have hw := hw.1 h3
    exact mv_vret C dX9_bring_45 hw
  · have hw := hw.2 h3
    refine mv_aload_n C dX9_bring_16 rfl 0 rfl ?_
    refine mv_get (v := .int (u.1 12)) C iw_X9_bring_X9 0 rfl rfl 32 (by decide) lk_X9_bring_178 rfl rfl dX9_bring_17 ?_
    refine mv_topi (fun y4 ey4 => ?_)
    have hw := hw y4 ey4
    refine mv_if_ne (tgt := 45) C dX9_bring_20 (by decide) (fun h5 => ?_) (fun h5 => ?_)
    · have hw := hw.1 h5
      exact mv_vret C dX9_bring_45 hw
    · have hw := hw.2 h5
      refine mv_aload_n C dX9_bring_23 rfl 0 rfl ?_
      refine mv_aload_n C dX9_bring_24 rfl 0 rfl ?_
      refine mv_get (v := .ref (b 2)) C iw_X9_bring_X9 0 rfl rfl 2 (by decide) lk_X9_bring_13 rfl rfl dX9_bring_25 ?_
      refine mv_iload_n C dX9_bring_28 rfl 2 rfl ?_
      refine mv_iald (f := u.2 1) C 2 0 rfl rfl hw.1 dX9_bring_29 ?_
      refine mv_topi (fun y6 ey6 => ?_)
      have hw := hw.2 y6 ey6
      refine mv_aload_n C dX9_bring_30 rfl 0 rfl ?_
      refine mv_get (v := .ref (b 3)) C iw_X9_bring_X9 0 rfl rfl 3 (by decide) lk_X9_bring_16 rfl rfl dX9_bring_31 ?_
      refine mv_iload_n C dX9_bring_34 rfl 2 rfl ?_
      refine mv_iald (f := u.2 2) C 3 0 rfl rfl hw.1 dX9_bring_35 ?_
      refine mv_topi (fun y7 ey7 => ?_)
      have hw := hw.2 y7 ey7
      refine mv_callVv (f := wM cA b) (As := [.int y6, .int y7]) (rest := []) C eM_ok hs 0 rfl rfl (X9_add_met (l := l) (lev := lev - 1) (by omega) hw) (cwV 2 C.2.2.2.2.1 gX9_bring_X9_add rfl rfl rfl (by decide +kernel) (mRm_le (by omega) (by decide))) rfl rfl (Nat.le_of_ble_eq_true rfl) dX9_bring_36 ⟨Nat.le_refl 0, Nat.le_refl 0⟩ (fun u9 hw => ?_)
      obtain ⟨y10, ey10⟩ : ∃ z : Int32, z = x3 + (1 : Int32) := ⟨_, rfl⟩
      have hw := hw y10 ey10
      refine mv_iinc (v := y10) (lv1 := [(3, .int y10), (0, .ref (b 0)), (2, .int x2)]) C dX9_bring_39 2 rfl (by rw [ey10]; rfl) (by decide) rfl ?_
      refine mv_goto (tgt := 11) C dX9_bring_42 (by decide) ?_
      refine mv_sub [1, 2, 0] rfl ?_
      exact hK11 x2 y10 u9 hw
set_option maxHeartbeats 4000000 in
set_option maxRecDepth 100000 in
theorem X9_bring_met (hlev : 2 ≤ lev) {x1 : Int32} {u : mS} {post : mS → Prop} (hw : wp_X9_bring x1 u post) : mKv l yX9_bring wsX9_bring lev (eM) (dC, dI) vwCl [(cA, .int)] (wM cA b) [.ref (b 0), .int x1] u post := by
  refine mKv_of (cc := cX9_bring) (maxL := 4) (by decide) rfl rfl (Nat.le_of_ble_eq_true rfl) rfl ?_
  intro p e s m args below meth c A C hs
  unfold wp_X9_bring at hw
  refine mv_aload_n C dX9_bring_0 rfl 0 rfl ?_
  refine mv_get (v := .ref (b 2)) C iw_X9_bring_X9 0 rfl rfl 2 (by decide) lk_X9_bring_13 rfl rfl dX9_bring_1 ?_
  refine mv_iload_n C dX9_bring_4 rfl 1 rfl ?_
  refine mv_callSi (f := wM cA b) (As := [.ref (b 2), .int x1]) (rest := []) C eM_ok hs (X9_end_2_met (l := l) (lev := lev - 1) (by omega) hw) (va_cwS 2 C.2.2.2.2.1 gX9_bring_X9_end rfl rfl rfl (by decide +kernel) (mRm_le (by omega) (by decide))) rfl rfl (Nat.le_of_ble_eq_true rfl) dX9_bring_5 ⟨Nat.le_refl 0, Nat.le_refl 0⟩ (fun r1 u2 hw => ?_)
  refine mv_istore_n (lv1 := [(2, .int r1), (0, .ref (b 0)), (1, .int x1)]) C dX9_bring_8 rfl (by decide) rfl ?_
  refine mv_iload_n C dX9_bring_9 rfl 2 rfl ?_
  refine mv_istore_n (lv1 := [(3, .int x1), (2, .int r1), (0, .ref (b 0)), (1, .int x1)]) C dX9_bring_10 rfl (by decide) rfl ?_
  refine mv_sub [2, 1, 0] rfl ?_
  obtain ⟨n, hw⟩ := hw
  exact mL3_of (fun K hK b0 b1 b2 hw => wj_X9_bring_11_ok C hs hlev hK hw) n r1 x1 u2 hw
set_option maxHeartbeats 4000000 in
set_option maxRecDepth 100000 in
theorem wj_X9_fill_223_ok (C : mC p s m args meth c cX9_fill 8 wsX9_fill RX9 none (dC, dI) vwCl [(cA, .int)] A) (hs : eM A s) (hlev : 5 ≤ lev) {post : mS → Prop} {K37 : Int32 → Int32 → Int32 → Int32 → mS → Prop} (hK37 : ∀ (x1 x2 x4 x5 : Int32) (u : mS), K37 x1 x2 x4 x5 u → mV p l e (mRm lev) s m args below meth c 8 (dC, dI) vwCl A 0 0 (mQv below args s (dC, dI) vwCl [(cA, .int)] (wM cA b) A post) (wM cA b u) 37 [(0, .ref (b 0)), (1, .int x1), (2, .int x2), (4, .int x4), (5, .int x5)] []) {x1 x2 x4 x5 : Int32} {u : mS} (hw : wj_X9_fill_223 K37 post x1 x2 x4 x5 u) : mV p l e (mRm lev) s m args below meth c 8 (dC, dI) vwCl A 0 0 (mQv below args s (dC, dI) vwCl [(cA, .int)] (wM cA b) A post) (wM cA b u) 223 [(0, .ref (b 0)), (1, .int x1), (2, .int x2), (4, .int x4), (5, .int x5)] [] := by
  unfold wj_X9_fill_223 at hw
  obtain ⟨y47, ey47⟩ : ∃ z : Int32, z = x5 + (1 : Int32) := ⟨_, rfl⟩
  have hw := hw y47 ey47
  refine mv_iinc (v := y47) (lv1 := [(5, .int y47), (0, .ref (b 0)), (1, .int x1), (2, .int x2), (4, .int x4)]) C dX9_fill_223 4 rfl (by rw [ey47]; rfl) (by decide) rfl ?_
  refine mv_goto (tgt := 37) C dX9_fill_226 (by decide) ?_
  refine mv_sub [1, 2, 3, 4, 0] rfl ?_
  exact hK37 x1 x2 x4 y47 u hw
set_option maxHeartbeats 4000000 in
set_option maxRecDepth 100000 in
theorem wj_X9_fill_181_ok (C : mC p s m args meth c cX9_fill 8 wsX9_fill RX9 none (dC, dI) vwCl [(cA, .int)] A) (hs : eM A s) (hlev : 5 ≤ lev) {post : mS → Prop} {K37 : Int32 → Int32 → Int32 → Int32 → mS → Prop} (hK37 : ∀ (x1 x2 x4 x5 : Int32) (u : mS), K37 x1 x2 x4 x5 u → mV p l e (mRm lev) s m args below meth c 8 (dC, dI) vwCl A 0 0 (mQv below args s (dC, dI) vwCl [(cA, .int)] (wM cA b) A post) (wM cA b u) 37 [(0, .ref (b 0)), (1, .int x1), (2, .int x2), (4, .int x4), (5, .int x5)] []) {x1 x2 x4 x5 z0 : Int32} {u : mS} (hw : wj_X9_fill_181 K37 post x1 x2 x4 x5 z0 u) : mV p l e (mRm lev) s m args below meth c 8 (dC, dI) vwCl A 0 0 (mQv below args s (dC, dI) vwCl [(cA, .int)] (wM cA b) A post) (wM cA b u) 181 [(0, .ref (b 0)), (1, .int x1), (2, .int x2), (4, .int x4), (5, .int x5)] [.int z0] := by
  unfold wj_X9_fill_181 at hw
  refine mv_istore (lv1 := [(7, .int z0), (0, .ref (b 0)), (1, .int x1), (2, .int x2), (4, .int x4), (5, .int x5)]) C dX9_fill_181 (by decide) rfl ?_
  refine mv_iload C dX9_fill_183 0 rfl ?_
  refine mv_if_ge (tgt := 209) C dX9_fill_185 (by decide) (fun h38 => ?_) (fun h38 => ?_)
  · have hw := hw.1 h38
    refine mv_aload_n C dX9_fill_209 rfl 1 rfl ?_
    refine mv_aload_n C dX9_fill_210 rfl 1 rfl ?_
    refine mv_iload_n C dX9_fill_211 rfl 2 rfl ?_
    refine mv_iload_n C dX9_fill_212 rfl 3 rfl ?_
    refine mv_iload C dX9_fill_213 0 rfl ?_
    refine mv_bipush (v := (9 : Int32)) C dX9_fill_215 (by decide) ?_
    refine mv_callVi (f := wM cA b) (As := [.int x1, .int x2, .int z0, .int (9 : Int32)]) (rest := [.ref (b 0)]) C eM_ok hs 0 rfl rfl (X9_walk_met (l := l) (lev := lev - 1) (by omega) hw) (cwV 4 C.2.2.2.2.1 gX9_fill_X9_walk rfl rfl rfl (by decide +kernel) (mRm_le (by omega) (by decide))) rfl rfl (Nat.le_of_ble_eq_true rfl) dX9_fill_217 ⟨Nat.le_refl 0, Nat.le_refl 0⟩ (fun r39 u40 hw => ?_)
    refine mv_callVv (f := wM cA b) (As := [.int r39]) (rest := []) C eM_ok hs 0 rfl rfl (X9_bring_met (l := l) (lev := lev - 1) (by omega) hw) (cwV 1 C.2.2.2.2.1 gX9_fill_X9_bring rfl rfl rfl (by decide +kernel) (mRm_le (by omega) (by decide))) rfl rfl (Nat.le_of_ble_eq_true rfl) dX9_fill_220 ⟨Nat.le_refl 0, Nat.le_refl 0⟩ (fun u42 hw => ?_)
    refine mv_sub [1, 2, 3, 4, 5] rfl ?_
    exact wj_X9_fill_223_ok C hs hlev hK37 hw
  · have hw := hw.2 h38
    refine mv_aload_n C dX9_fill_188 rfl 1 rfl ?_
    refine mv_aload_n C dX9_fill_189 rfl 1 rfl ?_
    refine mv_get (v := .ref (b 4)) C iw_X9_fill_X9 0 rfl rfl 5 (by decide) lk_X9_fill_19 rfl rfl dX9_fill_190 ?_
    refine mv_iload C dX9_fill_193 5 rfl ?_
    refine mv_iald (f := u.2 3) C 4 0 rfl rfl hw.1 dX9_fill_195 ?_
    refine mv_topi (fun y43 ey43 => ?_)
    have hw := hw.2 y43 ey43
    refine mv_aload_n C dX9_fill_196 rfl 1 rfl ?_
    refine mv_get (v := .ref (b 5)) C iw_X9_fill_X9 0 rfl rfl 6 (by decide) lk_X9_fill_22 rfl rfl dX9_fill_197 ?_
    refine mv_iload C dX9_fill_200 5 rfl ?_
    refine mv_iald (f := u.2 4) C 5 0 rfl rfl hw.1 dX9_fill_202 ?_
    refine mv_topi (fun y44 ey44 => ?_)
    have hw := hw.2 y44 ey44
    refine mv_callVv (f := wM cA b) (As := [.int y43, .int y44]) (rest := []) C eM_ok hs 0 rfl rfl (X9_add_met (l := l) (lev := lev - 1) (by omega) hw) (cwV 2 C.2.2.2.2.1 gX9_fill_X9_add rfl rfl rfl (by decide +kernel) (mRm_le (by omega) (by decide))) rfl rfl (Nat.le_of_ble_eq_true rfl) dX9_fill_203 ⟨Nat.le_refl 0, Nat.le_refl 0⟩ (fun u46 hw => ?_)
    refine mv_goto (tgt := 223) C dX9_fill_206 (by decide) ?_
    refine mv_sub [1, 2, 3, 4, 5] rfl ?_
    exact wj_X9_fill_223_ok C hs hlev hK37 hw
set_option maxHeartbeats 4000000 in
set_option maxRecDepth 100000 in
theorem wj_X9_fill_152_ok (C : mC p s m args meth c cX9_fill 8 wsX9_fill RX9 none (dC, dI) vwCl [(cA, .int)] A) (hs : eM A s) (hlev : 5 ≤ lev) {post : mS → Prop} {K37 : Int32 → Int32 → Int32 → Int32 → mS → Prop} (hK37 : ∀ (x1 x2 x4 x5 : Int32) (u : mS), K37 x1 x2 x4 x5 u → mV p l e (mRm lev) s m args below meth c 8 (dC, dI) vwCl A 0 0 (mQv below args s (dC, dI) vwCl [(cA, .int)] (wM cA b) A post) (wM cA b u) 37 [(0, .ref (b 0)), (1, .int x1), (2, .int x2), (4, .int x4), (5, .int x5)] []) {x1 x2 x4 x5 x6 : Int32} {u : mS} (hw : wj_X9_fill_152 K37 post x1 x2 x4 x5 x6 u) : mV p l e (mRm lev) s m args below meth c 8 (dC, dI) vwCl A 0 0 (mQv below args s (dC, dI) vwCl [(cA, .int)] (wM cA b) A post) (wM cA b u) 152 [(0, .ref (b 0)), (1, .int x1), (2, .int x2), (4, .int x4), (5, .int x5), (6, .int x6)] [] := by
  unfold wj_X9_fill_152 at hw
  refine mv_iload C dX9_fill_152 5 rfl ?_
  refine mv_iconst (v := (3 : Int32)) C dX9_fill_154 (by decide) ?_
  refine mv_icmp_ne (tgt := 180) C dX9_fill_155 (by decide) (fun h33 => ?_) (fun h33 => ?_)
  · have hw := hw.1 h33
    refine mv_iconst (v := (-1 : Int32)) C dX9_fill_180 (by decide) ?_
    refine mv_sub [0, 1, 2, 3, 4] rfl ?_
    exact wj_X9_fill_181_ok C hs hlev hK37 hw
  · have hw := hw.2 h33
    refine mv_aload_n C dX9_fill_158 rfl 0 rfl ?_
    refine mv_iload_n C dX9_fill_159 rfl 1 rfl ?_
    refine mv_aload_n C dX9_fill_160 rfl 0 rfl ?_
    refine mv_get (v := .ref (b 4)) C iw_X9_fill_X9 0 rfl rfl 5 (by decide) lk_X9_fill_19 rfl rfl dX9_fill_161 ?_
    refine mv_iload C dX9_fill_164 4 rfl ?_
    refine mv_iald (f := u.2 3) C 4 0 rfl rfl hw.1 dX9_fill_166 ?_
    refine mv_topi (fun y34 ey34 => ?_)
    have hw := hw.2 y34 ey34
    refine mv_aload_n C dX9_fill_167 rfl 0 rfl ?_
    refine mv_get (v := .ref (b 5)) C iw_X9_fill_X9 0 rfl rfl 6 (by decide) lk_X9_fill_22 rfl rfl dX9_fill_168 ?_
    refine mv_iload C dX9_fill_171 4 rfl ?_
    refine mv_iald (f := u.2 4) C 5 0 rfl rfl hw.1 dX9_fill_173 ?_
    refine mv_topi (fun y35 ey35 => ?_)
    have hw := hw.2 y35 ey35
    refine mv_callVi (f := wM cA b) (As := [.int x1, .int y34, .int y35]) (rest := []) C eM_ok hs 0 rfl rfl (X9_variable_met (l := l) (lev := lev - 1) (by omega) hw) (cwV 3 C.2.2.2.2.1 gX9_fill_X9_variable rfl rfl rfl (by decide +kernel) (mRm_le (by omega) (by decide))) rfl rfl (Nat.le_of_ble_eq_true rfl) dX9_fill_174 ⟨Nat.le_refl 0, Nat.le_refl 0⟩ (fun r36 u37 hw => ?_)
    refine mv_goto (tgt := 181) C dX9_fill_177 (by decide) ?_
    refine mv_sub [0, 1, 2, 3, 4] rfl ?_
    exact wj_X9_fill_181_ok C hs hlev hK37 hw
set_option maxHeartbeats 4000000 in
set_option maxRecDepth 100000 in
theorem wj_X9_fill_37_ok (C : mC p s m args meth c cX9_fill 8 wsX9_fill RX9 none (dC, dI) vwCl [(cA, .int)] A) (hs : eM A s) (hlev : 5 ≤ lev) {post : mS → Prop} {K37 : Int32 → Int32 → Int32 → Int32 → mS → Prop} (hK37 : ∀ (x1 x2 x4 x5 : Int32) (u : mS), K37 x1 x2 x4 x5 u → mV p l e (mRm lev) s m args below meth c 8 (dC, dI) vwCl A 0 0 (mQv below args s (dC, dI) vwCl [(cA, .int)] (wM cA b) A post) (wM cA b u) 37 [(0, .ref (b 0)), (1, .int x1), (2, .int x2), (4, .int x4), (5, .int x5)] []) {x1 x2 x4 x5 : Int32} {u : mS} (hw : wj_X9_fill_37 K37 post x1 x2 x4 x5 u) : mV p l e (mRm lev) s m args below meth c 8 (dC, dI) vwCl A 0 0 (mQv below args s (dC, dI) vwCl [(cA, .int)] (wM cA b) A post) (wM cA b u) 37 [(0, .ref (b 0)), (1, .int x1), (2, .int x2), (4, .int x4), (5, .int x5)] [] := by
  unfold wj_X9_fill_37 at hw
  refine mv_iload C dX9_fill_37 4 rfl ?_
  refine mv_iload C dX9_fill_39 3 rfl ?_
  refine mv_icmp_ge (tgt := 229) C dX9_fill_41 (by decide) (fun h8 => ?_) (fun h8 => ?_)
  · have hw := hw.1 h8
    exact mv_vret C dX9_fill_229 hw
  · have hw := hw.2 h8
    refine mv_aload_n C dX9_fill_44 rfl 0 rfl ?_
    refine mv_get (v := .int (u.1 12)) C iw_X9_fill_X9 0 rfl rfl 32 (by decide) lk_X9_fill_178 rfl rfl dX9_fill_45 ?_
    refine mv_topi (fun y9 ey9 => ?_)
    have hw := hw y9 ey9
    refine mv_if_ne (tgt := 229) C dX9_fill_48 (by decide) (fun h10 => ?_) (fun h10 => ?_)
    · have hw := hw.1 h10
      exact mv_vret C dX9_fill_229 hw
    · have hw := hw.2 h10
      refine mv_aload_n C dX9_fill_51 rfl 0 rfl ?_
      refine mv_get (v := .ref (b 4)) C iw_X9_fill_X9 0 rfl rfl 5 (by decide) lk_X9_fill_19 rfl rfl dX9_fill_52 ?_
      refine mv_iload C dX9_fill_55 4 rfl ?_
      refine mv_callSi (f := wM cA b) (As := [.ref (b 4), .int x5]) (rest := []) C eM_ok hs (X9_kind_4_met (l := l) (lev := lev - 1) (by omega) hw) (va_cwS 2 C.2.2.2.2.1 gX9_fill_X9_kind rfl rfl rfl (by decide +kernel) (mRm_le (by omega) (by decide))) rfl rfl (Nat.le_of_ble_eq_true rfl) dX9_fill_57 ⟨Nat.le_refl 0, Nat.le_refl 0⟩ (fun r11 u12 hw => ?_)
      refine mv_istore (lv1 := [(6, .int r11), (0, .ref (b 0)), (1, .int x1), (2, .int x2), (4, .int x4), (5, .int x5)]) C dX9_fill_60 (by decide) rfl ?_
      refine mv_iload C dX9_fill_62 0 rfl ?_
      refine mv_bipush (v := (6 : Int32)) C dX9_fill_64 (by decide) ?_
      refine mv_icmp_ne (tgt := 80) C dX9_fill_66 (by decide) (fun h13 => ?_) (fun h13 => ?_)
      · have hw := hw.1 h13
        refine mv_iload C dX9_fill_80 0 rfl ?_
        refine mv_iconst (v := (2 : Int32)) C dX9_fill_82 (by decide) ?_
        refine mv_icmp_eq (tgt := 152) C dX9_fill_83 (by decide) (fun h14 => ?_) (fun h14 => ?_)
        · have hw := hw.1 h14
          refine mv_sub [1, 2, 3, 4, 5, 0] rfl ?_
          exact wj_X9_fill_152_ok C hs hlev hK37 hw
        · have hw := hw.2 h14
          refine mv_aload_n C dX9_fill_86 rfl 1 rfl ?_
          refine mv_iload C dX9_fill_87 5 rfl ?_
          refine mv_callVi (f := wM cA b) (As := [.int x5]) (rest := []) C eM_ok hs 0 rfl rfl (X9_isHeld_met (l := l) (lev := lev - 1) (by omega) hw) (cwV 1 C.2.2.2.2.1 gX9_fill_X9_isHeld rfl rfl rfl (by decide +kernel) (mRm_le (by omega) (by decide))) rfl rfl (Nat.le_of_ble_eq_true rfl) dX9_fill_89 ⟨Nat.le_refl 0, Nat.le_refl 0⟩ (fun r15 u16 hw => ?_)
          obtain ⟨gr15, hw⟩ := hw
          refine mv_if_ne (tgt := 152) C dX9_fill_92 (by decide) (fun h17 => ?_) (fun h17 => ?_)
          · have hw := hw.1 h17
            refine mv_sub [1, 2, 3, 4, 5, 0] rfl ?_
            exact wj_X9_fill_152_ok C hs hlev hK37 hw
          · have hw := hw.2 h17
            refine mv_aload_n C dX9_fill_95 rfl 1 rfl ?_
            refine mv_get (v := .ref (b 4)) C iw_X9_fill_X9 0 rfl rfl 5 (by decide) lk_X9_fill_19 rfl rfl dX9_fill_96 ?_
            refine mv_iload C dX9_fill_99 5 rfl ?_
            refine mv_callSi (f := wM cA b) (As := [.ref (b 4), .int x5]) (rest := []) C eM_ok hs (X9_end_4_met (l := l) (lev := lev - 1) (by omega) hw) (va_cwS 2 C.2.2.2.2.1 gX9_fill_X9_end rfl rfl rfl (by decide +kernel) (mRm_le (by omega) (by decide))) rfl rfl (Nat.le_of_ble_eq_true rfl) dX9_fill_101 ⟨Nat.le_refl 0, Nat.le_refl 0⟩ (fun r18 u19 hw => ?_)
            refine mv_iload C dX9_fill_104 4 rfl ?_
            refine mv_icmp_ge (tgt := 152) C dX9_fill_106 (by decide) (fun h20 => ?_) (fun h20 => ?_)
            · have hw := hw.1 h20
              refine mv_sub [1, 2, 3, 4, 5, 0] rfl ?_
              exact wj_X9_fill_152_ok C hs hlev hK37 hw
            · have hw := hw.2 h20
              refine mv_aload_n C dX9_fill_109 rfl 1 rfl ?_
              refine mv_get (v := .ref (b 4)) C iw_X9_fill_X9 0 rfl rfl 5 (by decide) lk_X9_fill_19 rfl rfl dX9_fill_110 ?_
              refine mv_aload_n C dX9_fill_113 rfl 1 rfl ?_
              refine mv_get (v := .ref (b 4)) C iw_X9_fill_X9 0 rfl rfl 5 (by decide) lk_X9_fill_19 rfl rfl dX9_fill_114 ?_
              refine mv_iload C dX9_fill_117 5 rfl ?_
              refine mv_callSi (f := wM cA b) (As := [.ref (b 4), .int x5]) (rest := [.ref (b 4)]) C eM_ok hs (X9_end_4_met (l := l) (lev := lev - 1) (by omega) hw) (va_cwS 2 C.2.2.2.2.1 gX9_fill_X9_end rfl rfl rfl (by decide +kernel) (mRm_le (by omega) (by decide))) rfl rfl (Nat.le_of_ble_eq_true rfl) dX9_fill_119 ⟨Nat.le_refl 0, Nat.le_refl 0⟩ (fun r21 u22 hw => ?_)
              refine mv_callSi (f := wM cA b) (As := [.ref (b 4), .int r21]) (rest := []) C eM_ok hs (X9_kind_4_met (l := l) (lev := lev - 1) (by omega) hw) (va_cwS 2 C.2.2.2.2.1 gX9_fill_X9_kind rfl rfl rfl (by decide +kernel) (mRm_le (by omega) (by decide))) rfl rfl (Nat.le_of_ble_eq_true rfl) dX9_fill_122 ⟨Nat.le_refl 0, Nat.le_refl 0⟩ (fun r23 u24 hw => ?_)
              refine mv_bipush (v := (6 : Int32)) C dX9_fill_125 (by decide) ?_
              refine mv_icmp_ne (tgt := 152) C dX9_fill_127 (by decide) (fun h25 => ?_) (fun h25 => ?_)
              · have hw := hw.1 h25
                refine mv_sub [1, 2, 3, 4, 5, 0] rfl ?_
                exact wj_X9_fill_152_ok C hs hlev hK37 hw
              · have hw := hw.2 h25
                refine mv_aload_n C dX9_fill_130 rfl 1 rfl ?_
                refine mv_iload_n C dX9_fill_131 rfl 2 rfl ?_
                refine mv_iload_n C dX9_fill_132 rfl 3 rfl ?_
                refine mv_iload C dX9_fill_133 5 rfl ?_
                refine mv_callVi (f := wM cA b) (As := [.int x1, .int x2, .int x5]) (rest := []) C eM_ok hs 0 rfl rfl (X9_hold_met (l := l) (lev := lev - 1) (by omega) hw) (cwV 3 C.2.2.2.2.1 gX9_fill_X9_hold rfl rfl rfl (by decide +kernel) (mRm_le (by omega) (by decide))) rfl rfl (Nat.le_of_ble_eq_true rfl) dX9_fill_135 ⟨Nat.le_refl 0, Nat.le_refl 0⟩ (fun r26 u27 hw => ?_)
                refine mv_istore (lv1 := [(5, .int r26), (6, .int r11), (0, .ref (b 0)), (1, .int x1), (2, .int x2), (4, .int x4)]) C dX9_fill_138 (by decide) rfl ?_
                refine mv_aload_n C dX9_fill_140 rfl 2 rfl ?_
                refine mv_iload C dX9_fill_141 0 rfl ?_
                refine mv_callVi (f := wM cA b) (As := [.int r26]) (rest := []) C eM_ok hs 0 rfl rfl (X9_isHeld_met (l := l) (lev := lev - 1) (by omega) hw) (cwV 1 C.2.2.2.2.1 gX9_fill_X9_isHeld rfl rfl rfl (by decide +kernel) (mRm_le (by omega) (by decide))) rfl rfl (Nat.le_of_ble_eq_true rfl) dX9_fill_143 ⟨Nat.le_refl 0, Nat.le_refl 0⟩ (fun r28 u29 hw => ?_)
                obtain ⟨gr28, hw⟩ := hw
                refine mv_if_ne (tgt := 152) C dX9_fill_146 (by decide) (fun h30 => ?_) (fun h30 => ?_)
                · have hw := hw.1 h30
                  refine mv_sub [2, 3, 4, 5, 0, 1] rfl ?_
                  exact wj_X9_fill_152_ok C hs hlev hK37 hw
                · have hw := hw.2 h30
                  refine mv_goto (tgt := 37) C dX9_fill_149 (by decide) ?_
                  refine mv_sub [2, 3, 4, 5, 0] rfl ?_
                  exact hK37 x1 x2 x4 r26 u29 hw
      · have hw := hw.2 h13
        refine mv_aload_n C dX9_fill_69 rfl 1 rfl ?_
        refine mv_iload C dX9_fill_70 5 rfl ?_
        refine mv_callVi (f := wM cA b) (As := [.int x5]) (rest := []) C eM_ok hs 0 rfl rfl (X9_again_met (l := l) (lev := lev - 1) (by omega) hw) (cwV 1 C.2.2.2.2.1 gX9_fill_X9_again rfl rfl rfl (by decide +kernel) (mRm_le (by omega) (by decide))) rfl rfl (Nat.le_of_ble_eq_true rfl) dX9_fill_72 ⟨Nat.le_refl 0, Nat.le_refl 0⟩ (fun r31 u32 hw => ?_)
        refine mv_istore (lv1 := [(5, .int r31), (6, .int r11), (0, .ref (b 0)), (1, .int x1), (2, .int x2), (4, .int x4)]) C dX9_fill_75 (by decide) rfl ?_
        refine mv_goto (tgt := 37) C dX9_fill_77 (by decide) ?_
        refine mv_sub [2, 3, 4, 5, 0] rfl ?_
        exact hK37 x1 x2 x4 r31 u32 hw
set_option maxHeartbeats 4000000 in
set_option maxRecDepth 100000 in
theorem X9_fill_met (hlev : 5 ≤ lev) {x1 x2 : Int32} {u : mS} {post : mS → Prop} (hw : wp_X9_fill x1 x2 u post) : mKv l yX9_fill wsX9_fill lev (eM) (dC, dI) vwCl [(cA, .int)] (wM cA b) [.ref (b 0), .int x1, .int x2] u post := by
  refine mKv_of (cc := cX9_fill) (maxL := 8) (by decide) rfl rfl (Nat.le_of_ble_eq_true rfl) rfl ?_
  intro p e s m args below meth c A C hs
  unfold wp_X9_fill at hw
  refine mv_aload_n C dX9_fill_0 rfl 0 rfl ?_
  refine mv_get (v := .ref (b 4)) C iw_X9_fill_X9 0 rfl rfl 5 (by decide) lk_X9_fill_19 rfl rfl dX9_fill_1 ?_
  refine mv_iload_n C dX9_fill_4 rfl 1 rfl ?_
  refine mv_callSi (f := wM cA b) (As := [.ref (b 4), .int x1]) (rest := []) C eM_ok hs (X9_end_4_met (l := l) (lev := lev - 1) (by omega) hw) (va_cwS 2 C.2.2.2.2.1 gX9_fill_X9_end rfl rfl rfl (by decide +kernel) (mRm_le (by omega) (by decide))) rfl rfl (Nat.le_of_ble_eq_true rfl) dX9_fill_5 ⟨Nat.le_refl 0, Nat.le_refl 0⟩ (fun r1 u2 hw => ?_)
  refine mv_istore_n (lv1 := [(3, .int r1), (0, .ref (b 0)), (1, .int x1), (2, .int x2)]) C dX9_fill_8 rfl (by decide) rfl ?_
  refine mv_aload_n C dX9_fill_9 rfl 1 rfl ?_
  refine mv_get (v := .ref (b 4)) C iw_X9_fill_X9 0 rfl rfl 5 (by decide) lk_X9_fill_19 rfl rfl dX9_fill_10 ?_
  refine mv_iload_n C dX9_fill_13 rfl 0 rfl ?_
  refine mv_callSi (f := wM cA b) (As := [.ref (b 4), .int r1]) (rest := []) C eM_ok hs (X9_end_4_met (l := l) (lev := lev - 1) (by omega) hw) (va_cwS 2 C.2.2.2.2.1 gX9_fill_X9_end rfl rfl rfl (by decide +kernel) (mRm_le (by omega) (by decide))) rfl rfl (Nat.le_of_ble_eq_true rfl) dX9_fill_14 ⟨Nat.le_refl 0, Nat.le_refl 0⟩ (fun r3 u4 hw => ?_)
  refine mv_istore (lv1 := [(4, .int r3), (3, .int r1), (0, .ref (b 0)), (1, .int x1), (2, .int x2)]) C dX9_fill_17 (by decide) rfl ?_
  refine mv_iload_n C dX9_fill_19 rfl 1 rfl ?_
  refine mv_istore (lv1 := [(5, .int r1), (4, .int r3), (3, .int r1), (0, .ref (b 0)), (1, .int x1), (2, .int x2)]) C dX9_fill_20 (by decide) rfl ?_
  refine mv_aload_n C dX9_fill_22 rfl 3 rfl ?_
  refine mv_iconst (v := (0 : Int32)) C dX9_fill_23 (by decide) ?_
  refine mv_put (ty := .int) (ws1 := wM cA b (mSet u4 6 (0 : Int32))) C iw_X9_fill_X9 tyX9 tyX9_ok nmX9 0 rfl rfl 20 (by decide) lk_X9_fill_216 rfl rfl rfl rfl rfl (Nat.le_of_ble_eq_true rfl) rfl dX9_fill_24 ?_
  refine mv_nm (f := wM cA b) (fun u5 eu5 => ?_)
  have hw := hw u5 eu5
  refine mv_aload_n C dX9_fill_27 rfl 3 rfl ?_
  refine mv_iconst (v := (0 : Int32)) C dX9_fill_28 (by decide) ?_
  refine mv_put (ty := .int) (ws1 := wM cA b (mSet u5 7 (0 : Int32))) C iw_X9_fill_X9 tyX9 tyX9_ok nmX9 0 rfl rfl 21 (by decide) lk_X9_fill_213 rfl rfl rfl rfl rfl (Nat.le_of_ble_eq_true rfl) rfl dX9_fill_29 ?_
  refine mv_nm (f := wM cA b) (fun u6 eu6 => ?_)
  have hw := hw u6 eu6
  refine mv_aload_n C dX9_fill_32 rfl 3 rfl ?_
  refine mv_iconst (v := (0 : Int32)) C dX9_fill_33 (by decide) ?_
  refine mv_put (ty := .int) (ws1 := wM cA b (mSet u6 8 (0 : Int32))) C iw_X9_fill_X9 tyX9 tyX9_ok nmX9 0 rfl rfl 27 (by decide) lk_X9_fill_219 rfl rfl rfl rfl rfl (Nat.le_of_ble_eq_true rfl) rfl dX9_fill_34 ?_
  refine mv_nm (f := wM cA b) (fun u7 eu7 => ?_)
  have hw := hw u7 eu7
  refine mv_sub [3, 4, 5, 1, 0] rfl ?_
  obtain ⟨n, hw⟩ := hw
  exact mL5_of (fun K hK b0 b1 b2 b3 b4 hw => wj_X9_fill_37_ok C hs hlev hK hw) n x1 x2 r3 r1 u7 hw
set_option maxHeartbeats 4000000 in
set_option maxRecDepth 100000 in
theorem X9_kind_13_met (hlev : 0 ≤ lev) {x1 : Int32} {u : mS} {post : Int32 → mS → Prop} (hw : wp_X9_kind_13 x1 u post) : mKi l yX9_kind wsX9_kind lev (eM) (dC, dI) vwCl [(cA, .int)] (wM cA b) [.ref (b 13), .int x1] u post := by
  refine mKi_of (cc := cX9_kind) (maxL := 2) (by decide) rfl rfl (Nat.le_of_ble_eq_true rfl) rfl ?_
  intro p e s m args below meth c A C hs
  unfold wp_X9_kind_13 at hw
  refine mv_aload_n C dX9_kind_0 rfl 0 rfl ?_
  refine mv_iload_n C dX9_kind_1 rfl 1 rfl ?_
  refine mv_iald (f := u.2 12) C 13 0 rfl rfl hw.1 dX9_kind_2 ?_
  refine mv_topi (fun y1 ey1 => ?_)
  have hw := hw.2 y1 ey1
  refine mv_ldc (v := (65536 : Int32)) C mw_X9_kind__constant_RX9_88_65536_Int32_ dX9_kind_3 ?_
  refine mv_idiv C dX9_kind_5 (by decide) ?_
  refine mv_topi (fun y2 ey2 => ?_)
  have hw := hw y2 ey2
  exact mv_iret C dX9_kind_6 hw
set_option maxHeartbeats 4000000 in
set_option maxRecDepth 100000 in
theorem wj_X9_turn_13_14_37_ok (C : mC p s m args meth c cX9_turn 7 wsX9_turn RX9 none (dC, dI) vwCl [(cA, .int)] A) (hs : eM A s) (hlev : 1 ≤ lev) {post : mS → Prop} {K3 : Int32 → Int32 → Int32 → mS → Prop} (hK3 : ∀ (x4 x5 x6 : Int32) (u : mS), K3 x4 x5 x6 u → mV p l e (mRm lev) s m args below meth c 7 (dC, dI) vwCl A 0 0 (mQv below args s (dC, dI) vwCl [(cA, .int)] (wM cA b) A post) (wM cA b u) 3 [(1, .ref (b 13)), (2, .ref (b 14)), (4, .int x4), (5, .int x5), (6, .int x6)] []) {x4 x5 x6 z0 z1 : Int32} {u : mS} (hw : wj_X9_turn_13_14_37 K3 post x4 x5 x6 z0 z1 u) : mV p l e (mRm lev) s m args below meth c 7 (dC, dI) vwCl A 0 0 (mQv below args s (dC, dI) vwCl [(cA, .int)] (wM cA b) A post) (wM cA b u) 37 [(1, .ref (b 13)), (2, .ref (b 14)), (4, .int x4), (5, .int x5), (6, .int x6)] [.int z0, .int z1, .ref (b 14)] := by
  unfold wj_X9_turn_13_14_37 at hw
  refine mv_iast (f := u.2 13) (ws1 := wM cA b (mPut u 13 z1.toNatClampNeg z0)) C 14 0 rfl rfl hw.1 rfl dX9_turn_37 ?_
  refine mv_nm (f := wM cA b) (fun u8 eu8 => ?_)
  have hw := hw.2 u8 eu8
  obtain ⟨y9, ey9⟩ : ∃ z : Int32, z = x6 + (1 : Int32) := ⟨_, rfl⟩
  have hw := hw y9 ey9
  refine mv_iinc (v := y9) (lv1 := [(6, .int y9), (1, .ref (b 13)), (2, .ref (b 14)), (4, .int x4), (5, .int x5)]) C dX9_turn_38 4 rfl (by rw [ey9]; rfl) (by decide) rfl ?_
  refine mv_goto (tgt := 3) C dX9_turn_41 (by decide) ?_
  refine mv_sub [1, 2, 3, 4, 0] rfl ?_
  exact hK3 x4 x5 y9 u8 hw
set_option maxHeartbeats 4000000 in
set_option maxRecDepth 100000 in
theorem wj_X9_turn_13_14_3_ok (C : mC p s m args meth c cX9_turn 7 wsX9_turn RX9 none (dC, dI) vwCl [(cA, .int)] A) (hs : eM A s) (hlev : 1 ≤ lev) {post : mS → Prop} {K3 : Int32 → Int32 → Int32 → mS → Prop} (hK3 : ∀ (x4 x5 x6 : Int32) (u : mS), K3 x4 x5 x6 u → mV p l e (mRm lev) s m args below meth c 7 (dC, dI) vwCl A 0 0 (mQv below args s (dC, dI) vwCl [(cA, .int)] (wM cA b) A post) (wM cA b u) 3 [(1, .ref (b 13)), (2, .ref (b 14)), (4, .int x4), (5, .int x5), (6, .int x6)] []) {x4 x5 x6 : Int32} {u : mS} (hw : wj_X9_turn_13_14_3 K3 post x4 x5 x6 u) : mV p l e (mRm lev) s m args below meth c 7 (dC, dI) vwCl A 0 0 (mQv below args s (dC, dI) vwCl [(cA, .int)] (wM cA b) A post) (wM cA b u) 3 [(1, .ref (b 13)), (2, .ref (b 14)), (4, .int x4), (5, .int x5), (6, .int x6)] [] := by
  unfold wj_X9_turn_13_14_3 at hw
  refine mv_iload C dX9_turn_3 4 rfl ?_
  refine mv_iload C dX9_turn_5 2 rfl ?_
  refine mv_icmp_ge (tgt := 44) C dX9_turn_7 (by decide) (fun h1 => ?_) (fun h1 => ?_)
  · have hw := hw.1 h1
    exact mv_vret C dX9_turn_44 hw
  · have hw := hw.2 h1
    refine mv_aload_n C dX9_turn_10 rfl 1 rfl ?_
    refine mv_iload C dX9_turn_11 4 rfl ?_
    refine mv_aload_n C dX9_turn_13 rfl 0 rfl ?_
    refine mv_iload C dX9_turn_14 4 rfl ?_
    refine mv_callSi (f := wM cA b) (As := [.ref (b 13), .int x6]) (rest := [.int x6, .ref (b 14)]) C eM_ok hs (X9_kind_13_met (l := l) (lev := lev - 1) (by omega) hw) (va_cwS 2 C.2.2.2.2.1 gX9_turn_X9_kind rfl rfl rfl (by decide +kernel) (mRm_le (by omega) (by decide))) rfl rfl (Nat.le_of_ble_eq_true rfl) dX9_turn_16 ⟨Nat.le_refl 0, Nat.le_refl 0⟩ (fun r2 u3 hw => ?_)
    refine mv_iconst (v := (3 : Int32)) C dX9_turn_19 (by decide) ?_
    refine mv_icmp_ne (tgt := 33) C dX9_turn_20 (by decide) (fun h4 => ?_) (fun h4 => ?_)
    · have hw := hw.1 h4
      refine mv_aload_n C dX9_turn_33 rfl 1 rfl ?_
      refine mv_iload C dX9_turn_34 4 rfl ?_
      refine mv_iald (f := u3.2 13) C 14 0 rfl rfl hw.1 dX9_turn_36 ?_
      refine mv_topi (fun y5 ey5 => ?_)
      have hw := hw.2 y5 ey5
      exact wj_X9_turn_13_14_37_ok C hs hlev hK3 hw
    · have hw := hw.2 h4
      refine mv_aload_n C dX9_turn_23 rfl 1 rfl ?_
      refine mv_iload C dX9_turn_24 4 rfl ?_
      refine mv_iald (f := u3.2 13) C 14 0 rfl rfl hw.1 dX9_turn_26 ?_
      refine mv_topi (fun y6 ey6 => ?_)
      have hw := hw.2 y6 ey6
      refine mv_iload C dX9_turn_27 3 rfl ?_
      refine mv_ixor C dX9_turn_29 ?_
      refine mv_topi (fun y7 ey7 => ?_)
      have hw := hw y7 ey7
      refine mv_goto (tgt := 37) C dX9_turn_30 (by decide) ?_
      exact wj_X9_turn_13_14_37_ok C hs hlev hK3 hw
set_option maxHeartbeats 4000000 in
set_option maxRecDepth 100000 in
theorem X9_turn_13_14_met (hlev : 1 ≤ lev) {x3 x4 x5 : Int32} {u : mS} {post : mS → Prop} (hw : wp_X9_turn_13_14 x3 x4 x5 u post) : mKv l yX9_turn wsX9_turn lev (eM) (dC, dI) vwCl [(cA, .int)] (wM cA b) [.ref (b 0), .ref (b 13), .ref (b 14), .int x3, .int x4, .int x5] u post := by
  refine mKv_of (cc := cX9_turn) (maxL := 7) (by decide) rfl rfl (Nat.le_of_ble_eq_true rfl) rfl ?_
  intro p e s m args below meth c A C hs
  unfold wp_X9_turn_13_14 at hw
  refine mv_iload_n C dX9_turn_0 rfl 3 rfl ?_
  refine mv_istore (lv1 := [(6, .int x3), (0, .ref (b 0)), (1, .ref (b 13)), (2, .ref (b 14)), (3, .int x3), (4, .int x4), (5, .int x5)]) C dX9_turn_1 (by decide) rfl ?_
  refine mv_sub [2, 3, 5, 6, 0] rfl ?_
  obtain ⟨n, hw⟩ := hw
  exact mL4_of (fun K hK b0 b1 b2 b3 hw => wj_X9_turn_13_14_3_ok C hs hlev hK hw) n x4 x5 x3 u hw
set_option maxHeartbeats 4000000 in
set_option maxRecDepth 100000 in
theorem wj_X9_use_182_ok (C : mC p s m args meth c cX9_use 6 wsX9_use RX9 none (dC, dI) vwCl [(cA, .int)] A) (hs : eM A s) (hlev : 6 ≤ lev) {post : mS → Prop} {K182 : Int32 → mS → Prop} (hK182 : ∀ (x5 : Int32) (u : mS), K182 x5 u → mV p l e (mRm lev) s m args below meth c 6 (dC, dI) vwCl A 0 0 (mQv below args s (dC, dI) vwCl [(cA, .int)] (wM cA b) A post) (wM cA b u) 182 [(0, .ref (b 0)), (5, .int x5)] []) {x5 : Int32} {u : mS} (hw : wj_X9_use_182 K182 post x5 u) : mV p l e (mRm lev) s m args below meth c 6 (dC, dI) vwCl A 0 0 (mQv below args s (dC, dI) vwCl [(cA, .int)] (wM cA b) A post) (wM cA b u) 182 [(0, .ref (b 0)), (5, .int x5)] [] := by
  unfold wj_X9_use_182 at hw
  refine mv_iload C dX9_use_182 1 rfl ?_
  refine mv_aload_n C dX9_use_184 rfl 0 rfl ?_
  refine mv_get (v := .int (u.1 6)) C iw_X9_use_X9 0 rfl rfl 20 (by decide) lk_X9_use_216 rfl rfl dX9_use_185 ?_
  refine mv_topi (fun y44 ey44 => ?_)
  have hw := hw y44 ey44
  refine mv_icmp_ge (tgt := 235) C dX9_use_188 (by decide) (fun h45 => ?_) (fun h45 => ?_)
  · have hw := hw.1 h45
    exact mv_vret C dX9_use_235 hw
  · have hw := hw.2 h45
    refine mv_aload_n C dX9_use_191 rfl 0 rfl ?_
    refine mv_get (v := .ref (b 2)) C iw_X9_use_X9 0 rfl rfl 2 (by decide) lk_X9_use_13 rfl rfl dX9_use_192 ?_
    refine mv_aload_n C dX9_use_195 rfl 0 rfl ?_
    refine mv_get (v := .int (u.1 1)) C iw_X9_use_X9 0 rfl rfl 4 (by decide) lk_X9_use_104 rfl rfl dX9_use_196 ?_
    refine mv_topi (fun y46 ey46 => ?_)
    have hw := hw y46 ey46
    refine mv_iload C dX9_use_199 1 rfl ?_
    refine mv_iadd C dX9_use_201 ?_
    refine mv_topi (fun y47 ey47 => ?_)
    have hw := hw y47 ey47
    refine mv_aload_n C dX9_use_202 rfl 0 rfl ?_
    refine mv_get (v := .ref (b 13)) C iw_X9_use_X9 0 rfl rfl 18 (by decide) lk_X9_use_46 rfl rfl dX9_use_203 ?_
    refine mv_iload C dX9_use_206 1 rfl ?_
    refine mv_iald (f := u.2 12) C 13 0 rfl rfl hw.1 dX9_use_208 ?_
    refine mv_topi (fun y48 ey48 => ?_)
    have hw := hw.2 y48 ey48
    refine mv_iast (f := u.2 1) (ws1 := wM cA b (mPut u 1 y47.toNatClampNeg y48)) C 2 0 rfl rfl hw.1 rfl dX9_use_209 ?_
    refine mv_nm (f := wM cA b) (fun u49 eu49 => ?_)
    have hw := hw.2 u49 eu49
    refine mv_aload_n C dX9_use_210 rfl 0 rfl ?_
    refine mv_get (v := .ref (b 3)) C iw_X9_use_X9 0 rfl rfl 3 (by decide) lk_X9_use_16 rfl rfl dX9_use_211 ?_
    refine mv_aload_n C dX9_use_214 rfl 0 rfl ?_
    refine mv_get (v := .int (u49.1 1)) C iw_X9_use_X9 0 rfl rfl 4 (by decide) lk_X9_use_104 rfl rfl dX9_use_215 ?_
    refine mv_topi (fun y50 ey50 => ?_)
    have hw := hw y50 ey50
    refine mv_iload C dX9_use_218 1 rfl ?_
    refine mv_iadd C dX9_use_220 ?_
    refine mv_topi (fun y51 ey51 => ?_)
    have hw := hw y51 ey51
    refine mv_aload_n C dX9_use_221 rfl 0 rfl ?_
    refine mv_get (v := .ref (b 14)) C iw_X9_use_X9 0 rfl rfl 19 (by decide) lk_X9_use_49 rfl rfl dX9_use_222 ?_
    refine mv_iload C dX9_use_225 1 rfl ?_
    refine mv_iald (f := u49.2 13) C 14 0 rfl rfl hw.1 dX9_use_227 ?_
    refine mv_topi (fun y52 ey52 => ?_)
    have hw := hw.2 y52 ey52
    refine mv_iast (f := u49.2 2) (ws1 := wM cA b (mPut u49 2 y51.toNatClampNeg y52)) C 3 0 rfl rfl hw.1 rfl dX9_use_228 ?_
    refine mv_nm (f := wM cA b) (fun u53 eu53 => ?_)
    have hw := hw.2 u53 eu53
    obtain ⟨y54, ey54⟩ : ∃ z : Int32, z = x5 + (1 : Int32) := ⟨_, rfl⟩
    have hw := hw y54 ey54
    refine mv_iinc (v := y54) (lv1 := [(5, .int y54), (0, .ref (b 0))]) C dX9_use_229 1 rfl (by rw [ey54]; rfl) (by decide) rfl ?_
    refine mv_goto (tgt := 182) C dX9_use_232 (by decide) ?_
    refine mv_sub [1, 0] rfl ?_
    exact hK182 y54 u53 hw
set_option maxHeartbeats 4000000 in
set_option maxRecDepth 100000 in
theorem wj_X9_use_114_ok (C : mC p s m args meth c cX9_use 6 wsX9_use RX9 none (dC, dI) vwCl [(cA, .int)] A) (hs : eM A s) (hlev : 6 ≤ lev) {post : mS → Prop} {x1 x2 x3 x4 : Int32} {u : mS} (hw : wj_X9_use_114 post x1 x2 x3 x4 u) : mV p l e (mRm lev) s m args below meth c 6 (dC, dI) vwCl A 0 0 (mQv below args s (dC, dI) vwCl [(cA, .int)] (wM cA b) A post) (wM cA b u) 114 [(0, .ref (b 0)), (1, .int x1), (2, .int x2), (3, .int x3), (4, .int x4)] [] := by
  unfold wj_X9_use_114 at hw
  refine mv_iload C dX9_use_114 4 rfl ?_
  refine mv_aload_n C dX9_use_116 rfl 0 rfl ?_
  refine mv_get (v := .ref (b 12)) C iw_X9_use_X9 0 rfl rfl 17 (by decide) lk_X9_use_43 rfl rfl dX9_use_117 ?_
  refine mv_iload_n C dX9_use_120 rfl 1 rfl ?_
  refine mv_iald (f := u.2 11) C 12 0 rfl rfl hw.1 dX9_use_121 ?_
  refine mv_topi (fun y28 ey28 => ?_)
  have hw := hw.2 y28 ey28
  refine mv_icmp_lt (tgt := 131) C dX9_use_122 (by decide) (fun h29 => ?_) (fun h29 => ?_)
  · have hw := hw.1 h29
    refine mv_aload_n C dX9_use_131 rfl 0 rfl ?_
    refine mv_iload C dX9_use_132 4 rfl ?_
    refine mv_iconst (v := (1 : Int32)) C dX9_use_134 (by decide) ?_
    refine mv_iadd C dX9_use_135 ?_
    refine mv_topi (fun y30 ey30 => ?_)
    have hw := hw y30 ey30
    refine mv_aload_n C dX9_use_136 rfl 0 rfl ?_
    refine mv_get (v := .int (u.1 1)) C iw_X9_use_X9 0 rfl rfl 4 (by decide) lk_X9_use_104 rfl rfl dX9_use_137 ?_
    refine mv_topi (fun y31 ey31 => ?_)
    have hw := hw y31 ey31
    refine mv_callVv (f := wM cA b) (As := [.int y30, .int y31]) (rest := []) C eM_ok hs 0 rfl rfl (X9_fill_met (l := l) (lev := lev - 1) (by omega) hw) (cwV 2 C.2.2.2.2.1 gX9_use_X9_fill rfl rfl rfl (by decide +kernel) (mRm_le (by omega) (by decide))) rfl rfl (Nat.le_of_ble_eq_true rfl) dX9_use_140 ⟨Nat.le_refl 0, Nat.le_refl 0⟩ (fun u33 hw => ?_)
    refine mv_aload_n C dX9_use_143 rfl 0 rfl ?_
    refine mv_get (v := .int (u33.1 12)) C iw_X9_use_X9 0 rfl rfl 32 (by decide) lk_X9_use_178 rfl rfl dX9_use_144 ?_
    refine mv_topi (fun y34 ey34 => ?_)
    have hw := hw y34 ey34
    refine mv_if_eq (tgt := 151) C dX9_use_147 (by decide) (fun h35 => ?_) (fun h35 => ?_)
    · have hw := hw.1 h35
      refine mv_aload_n C dX9_use_151 rfl 0 rfl ?_
      refine mv_aload_n C dX9_use_152 rfl 0 rfl ?_
      refine mv_get (v := .ref (b 13)) C iw_X9_use_X9 0 rfl rfl 18 (by decide) lk_X9_use_46 rfl rfl dX9_use_153 ?_
      refine mv_aload_n C dX9_use_156 rfl 0 rfl ?_
      refine mv_get (v := .ref (b 14)) C iw_X9_use_X9 0 rfl rfl 19 (by decide) lk_X9_use_49 rfl rfl dX9_use_157 ?_
      refine mv_iconst (v := (0 : Int32)) C dX9_use_160 (by decide) ?_
      refine mv_aload_n C dX9_use_161 rfl 0 rfl ?_
      refine mv_get (v := .int (u33.1 6)) C iw_X9_use_X9 0 rfl rfl 20 (by decide) lk_X9_use_216 rfl rfl dX9_use_162 ?_
      refine mv_topi (fun y36 ey36 => ?_)
      have hw := hw y36 ey36
      refine mv_iload_n C dX9_use_165 rfl 2 rfl ?_
      refine mv_callVv (f := wM cA b) (As := [.ref (b 13), .ref (b 14), .int (0 : Int32), .int y36, .int x2]) (rest := []) C eM_ok hs 0 rfl rfl (X9_turn_13_14_met (l := l) (lev := lev - 1) (by omega) hw) (cwV 5 C.2.2.2.2.1 gX9_use_X9_turn rfl rfl rfl (by decide +kernel) (mRm_le (by omega) (by decide))) rfl rfl (Nat.le_of_ble_eq_true rfl) dX9_use_166 ⟨Nat.le_refl 0, Nat.le_refl 0⟩ (fun u38 hw => ?_)
      refine mv_aload_n C dX9_use_169 rfl 0 rfl ?_
      refine mv_iload_n C dX9_use_170 rfl 3 rfl ?_
      refine mv_aload_n C dX9_use_171 rfl 0 rfl ?_
      refine mv_get (v := .int (u38.1 6)) C iw_X9_use_X9 0 rfl rfl 20 (by decide) lk_X9_use_216 rfl rfl dX9_use_172 ?_
      refine mv_topi (fun y39 ey39 => ?_)
      have hw := hw y39 ey39
      refine mv_isub C dX9_use_175 ?_
      refine mv_topi (fun y40 ey40 => ?_)
      have hw := hw y40 ey40
      refine mv_put (ty := .int) (ws1 := wM cA b (mSet u38 1 y40)) C iw_X9_use_X9 tyX9 tyX9_ok nmX9 0 rfl rfl 4 (by decide) lk_X9_use_104 rfl rfl rfl rfl rfl (Nat.le_of_ble_eq_true rfl) rfl dX9_use_176 ?_
      refine mv_nm (f := wM cA b) (fun u41 eu41 => ?_)
      have hw := hw u41 eu41
      refine mv_iconst (v := (0 : Int32)) C dX9_use_179 (by decide) ?_
      refine mv_istore (lv1 := [(5, .int (0 : Int32)), (0, .ref (b 0)), (1, .int x1), (2, .int x2), (3, .int x3), (4, .int x4)]) C dX9_use_180 (by decide) rfl ?_
      refine mv_sub [1, 0] rfl ?_
      obtain ⟨n, hw⟩ := hw
      exact mL2_of (fun K hK b0 b1 hw => wj_X9_use_182_ok C hs hlev hK hw) n (0 : Int32) u41 hw
    · have hw := hw.2 h35
      exact mv_vret C dX9_use_150 hw
  · have hw := hw.2 h29
    refine mv_aload_n C dX9_use_125 rfl 0 rfl ?_
    refine mv_iconst (v := (4 : Int32)) C dX9_use_126 (by decide) ?_
    refine mv_callVv (f := wM cA b) (As := [.int (4 : Int32)]) (rest := []) C eM_ok hs 0 rfl rfl (X9_fails_met (l := l) (lev := lev - 1) (by omega) hw) (cwV 1 C.2.2.2.2.1 gX9_use_X9_fails rfl rfl rfl (by decide +kernel) (mRm_le (by omega) (by decide))) rfl rfl (Nat.le_of_ble_eq_true rfl) dX9_use_127 ⟨Nat.le_refl 0, Nat.le_refl 0⟩ (fun u43 hw => ?_)
    exact mv_vret C dX9_use_130 hw
set_option maxHeartbeats 4000000 in
set_option maxRecDepth 100000 in
theorem wj_X9_use_74_ok (C : mC p s m args meth c cX9_use 6 wsX9_use RX9 none (dC, dI) vwCl [(cA, .int)] A) (hs : eM A s) (hlev : 6 ≤ lev) {post : mS → Prop} {K74 : Int32 → Int32 → Int32 → Int32 → mS → Prop} (hK74 : ∀ (x1 x2 x3 x4 : Int32) (u : mS), K74 x1 x2 x3 x4 u → mV p l e (mRm lev) s m args below meth c 6 (dC, dI) vwCl A 0 0 (mQv below args s (dC, dI) vwCl [(cA, .int)] (wM cA b) A post) (wM cA b u) 74 [(0, .ref (b 0)), (1, .int x1), (2, .int x2), (3, .int x3), (4, .int x4)] []) {x1 x2 x3 x4 : Int32} {u : mS} (hw : wj_X9_use_74 K74 post x1 x2 x3 x4 u) : mV p l e (mRm lev) s m args below meth c 6 (dC, dI) vwCl A 0 0 (mQv below args s (dC, dI) vwCl [(cA, .int)] (wM cA b) A post) (wM cA b u) 74 [(0, .ref (b 0)), (1, .int x1), (2, .int x2), (3, .int x3), (4, .int x4)] [] := by
  unfold wj_X9_use_74 at hw
  refine mv_iload C dX9_use_74 4 rfl ?_
  refine mv_aload_n C dX9_use_76 rfl 0 rfl ?_
  refine mv_get (v := .ref (b 12)) C iw_X9_use_X9 0 rfl rfl 17 (by decide) lk_X9_use_43 rfl rfl dX9_use_77 ?_
  refine mv_iload_n C dX9_use_80 rfl 1 rfl ?_
  refine mv_iald (f := u.2 11) C 12 0 rfl rfl hw.1 dX9_use_81 ?_
  refine mv_topi (fun y19 ey19 => ?_)
  have hw := hw.2 y19 ey19
  refine mv_icmp_ge (tgt := 114) C dX9_use_82 (by decide) (fun h20 => ?_) (fun h20 => ?_)
  · have hw := hw.1 h20
    exact wj_X9_use_114_ok C hs hlev hw
  · have hw := hw.2 h20
    refine mv_aload_n C dX9_use_85 rfl 0 rfl ?_
    refine mv_iload C dX9_use_86 4 rfl ?_
    refine mv_iconst (v := (1 : Int32)) C dX9_use_88 (by decide) ?_
    refine mv_iadd C dX9_use_89 ?_
    refine mv_topi (fun y21 ey21 => ?_)
    have hw := hw y21 ey21
    refine mv_aload_n C dX9_use_90 rfl 0 rfl ?_
    refine mv_get (v := .int (u.1 1)) C iw_X9_use_X9 0 rfl rfl 4 (by decide) lk_X9_use_104 rfl rfl dX9_use_91 ?_
    refine mv_topi (fun y22 ey22 => ?_)
    have hw := hw y22 ey22
    refine mv_callVi (f := wM cA b) (As := [.int y21, .int y22]) (rest := []) C eM_ok hs 0 rfl rfl (X9_matches_met (l := l) (lev := lev - 1) (by omega) hw) (cwV 2 C.2.2.2.2.1 gX9_use_X9_matches rfl rfl rfl (by decide +kernel) (mRm_le (by omega) (by decide))) rfl rfl (Nat.le_of_ble_eq_true rfl) dX9_use_94 ⟨Nat.le_refl 0, Nat.le_refl 0⟩ (fun r23 u24 hw => ?_)
    obtain ⟨gr23, hw⟩ := hw
    refine mv_if_ne (tgt := 114) C dX9_use_97 (by decide) (fun h25 => ?_) (fun h25 => ?_)
    · have hw := hw.1 h25
      exact wj_X9_use_114_ok C hs hlev hw
    · have hw := hw.2 h25
      refine mv_aload_n C dX9_use_100 rfl 0 rfl ?_
      refine mv_get (v := .ref (b 4)) C iw_X9_use_X9 0 rfl rfl 5 (by decide) lk_X9_use_19 rfl rfl dX9_use_101 ?_
      refine mv_iload C dX9_use_104 4 rfl ?_
      refine mv_callSi (f := wM cA b) (As := [.ref (b 4), .int x4]) (rest := []) C eM_ok hs (X9_end_4_met (l := l) (lev := lev - 1) (by omega) hw) (va_cwS 2 C.2.2.2.2.1 gX9_use_X9_end rfl rfl rfl (by decide +kernel) (mRm_le (by omega) (by decide))) rfl rfl (Nat.le_of_ble_eq_true rfl) dX9_use_106 ⟨Nat.le_refl 0, Nat.le_refl 0⟩ (fun r26 u27 hw => ?_)
      refine mv_istore (lv1 := [(4, .int r26), (0, .ref (b 0)), (1, .int x1), (2, .int x2), (3, .int x3)]) C dX9_use_109 (by decide) rfl ?_
      refine mv_goto (tgt := 74) C dX9_use_111 (by decide) ?_
      refine mv_sub [1, 2, 3, 4, 0] rfl ?_
      exact hK74 x1 x2 x3 r26 u27 hw
set_option maxHeartbeats 4000000 in
set_option maxRecDepth 100000 in
theorem X9_use_met (hlev : 6 ≤ lev) {x1 : Int32} {u : mS} {post : mS → Prop} (hw : wp_X9_use x1 u post) : mKv l yX9_use wsX9_use lev (eM) (dC, dI) vwCl [(cA, .int)] (wM cA b) [.ref (b 0), .int x1] u post := by
  refine mKv_of (cc := cX9_use) (maxL := 6) (by decide) rfl rfl (Nat.le_of_ble_eq_true rfl) rfl ?_
  intro p e s m args below meth c A C hs
  unfold wp_X9_use at hw
  refine mv_aload_n C dX9_use_0 rfl 0 rfl ?_
  refine mv_get (v := .int (u.1 15)) C iw_X9_use_X9 0 rfl rfl 35 (by decide) lk_X9_use_245 rfl rfl dX9_use_1 ?_
  refine mv_topi (fun y1 ey1 => ?_)
  have hw := hw y1 ey1
  refine mv_if_ne (tgt := 13) C dX9_use_4 (by decide) (fun h2 => ?_) (fun h2 => ?_)
  · have hw := hw.1 h2
    refine mv_aload_n C dX9_use_13 rfl 0 rfl ?_
    refine mv_dup C dX9_use_14 rfl ?_
    refine mv_get (v := .int (u.1 15)) C iw_X9_use_X9 0 rfl rfl 35 (by decide) lk_X9_use_245 rfl rfl dX9_use_15 ?_
    refine mv_topi (fun y3 ey3 => ?_)
    have hw := hw y3 ey3
    refine mv_iconst (v := (1 : Int32)) C dX9_use_18 (by decide) ?_
    refine mv_isub C dX9_use_19 ?_
    refine mv_topi (fun y4 ey4 => ?_)
    have hw := hw y4 ey4
    refine mv_put (ty := .int) (ws1 := wM cA b (mSet u 15 y4)) C iw_X9_use_X9 tyX9 tyX9_ok nmX9 0 rfl rfl 35 (by decide) lk_X9_use_245 rfl rfl rfl rfl rfl (Nat.le_of_ble_eq_true rfl) rfl dX9_use_20 ?_
    refine mv_nm (f := wM cA b) (fun u5 eu5 => ?_)
    have hw := hw u5 eu5
    refine mv_aload_n C dX9_use_23 rfl 0 rfl ?_
    refine mv_callVi (f := wM cA b) (As := []) (rest := []) C eM_ok hs 0 rfl rfl (X9_scope_met (l := l) (lev := lev - 1) (by omega) hw) (cwV 0 C.2.2.2.2.1 gX9_use_X9_scope rfl rfl rfl (by decide +kernel) (mRm_le (by omega) (by decide))) rfl rfl (Nat.le_of_ble_eq_true rfl) dX9_use_24 ⟨Nat.le_refl 0, Nat.le_refl 0⟩ (fun r6 u7 hw => ?_)
    refine mv_istore_n (lv1 := [(2, .int r6), (0, .ref (b 0)), (1, .int x1)]) C dX9_use_27 rfl (by decide) rfl ?_
    refine mv_aload_n C dX9_use_28 rfl 1 rfl ?_
    refine mv_get (v := .int (u7.1 12)) C iw_X9_use_X9 0 rfl rfl 32 (by decide) lk_X9_use_178 rfl rfl dX9_use_29 ?_
    refine mv_topi (fun y8 ey8 => ?_)
    have hw := hw y8 ey8
    refine mv_if_eq (tgt := 36) C dX9_use_32 (by decide) (fun h9 => ?_) (fun h9 => ?_)
    · have hw := hw.1 h9
      refine mv_aload_n C dX9_use_36 rfl 1 rfl ?_
      refine mv_get (v := .ref (b 2)) C iw_X9_use_X9 0 rfl rfl 2 (by decide) lk_X9_use_13 rfl rfl dX9_use_37 ?_
      refine mv_aload_n C dX9_use_40 rfl 1 rfl ?_
      refine mv_get (v := .int (u7.1 1)) C iw_X9_use_X9 0 rfl rfl 4 (by decide) lk_X9_use_104 rfl rfl dX9_use_41 ?_
      refine mv_topi (fun y10 ey10 => ?_)
      have hw := hw y10 ey10
      refine mv_callSi (f := wM cA b) (As := [.ref (b 2), .int y10]) (rest := []) C eM_ok hs (X9_end_2_met (l := l) (lev := lev - 1) (by omega) hw) (va_cwS 2 C.2.2.2.2.1 gX9_use_X9_end rfl rfl rfl (by decide +kernel) (mRm_le (by omega) (by decide))) rfl rfl (Nat.le_of_ble_eq_true rfl) dX9_use_44 ⟨Nat.le_refl 0, Nat.le_refl 0⟩ (fun r11 u12 hw => ?_)
      refine mv_istore_n (lv1 := [(3, .int r11), (2, .int r6), (0, .ref (b 0)), (1, .int x1)]) C dX9_use_47 rfl (by decide) rfl ?_
      refine mv_aload_n C dX9_use_48 rfl 2 rfl ?_
      refine mv_aload_n C dX9_use_49 rfl 2 rfl ?_
      refine mv_get (v := .ref (b 2)) C iw_X9_use_X9 0 rfl rfl 2 (by decide) lk_X9_use_13 rfl rfl dX9_use_50 ?_
      refine mv_aload_n C dX9_use_53 rfl 2 rfl ?_
      refine mv_get (v := .ref (b 3)) C iw_X9_use_X9 0 rfl rfl 3 (by decide) lk_X9_use_16 rfl rfl dX9_use_54 ?_
      refine mv_aload_n C dX9_use_57 rfl 2 rfl ?_
      refine mv_get (v := .int (u12.1 1)) C iw_X9_use_X9 0 rfl rfl 4 (by decide) lk_X9_use_104 rfl rfl dX9_use_58 ?_
      refine mv_topi (fun y13 ey13 => ?_)
      have hw := hw y13 ey13
      refine mv_iload_n C dX9_use_61 rfl 0 rfl ?_
      refine mv_iload_n C dX9_use_62 rfl 1 rfl ?_
      refine mv_callVv (f := wM cA b) (As := [.ref (b 2), .ref (b 3), .int y13, .int r11, .int r6]) (rest := []) C eM_ok hs 0 rfl rfl (X9_turn_2_3_met (l := l) (lev := lev - 1) (by omega) hw) (cwV 5 C.2.2.2.2.1 gX9_use_X9_turn rfl rfl rfl (by decide +kernel) (mRm_le (by omega) (by decide))) rfl rfl (Nat.le_of_ble_eq_true rfl) dX9_use_63 ⟨Nat.le_refl 0, Nat.le_refl 0⟩ (fun u15 hw => ?_)
      refine mv_aload_n C dX9_use_66 rfl 2 rfl ?_
      refine mv_get (v := .ref (b 11)) C iw_X9_use_X9 0 rfl rfl 16 (by decide) lk_X9_use_40 rfl rfl dX9_use_67 ?_
      refine mv_iload_n C dX9_use_70 rfl 3 rfl ?_
      refine mv_iald (f := u15.2 10) C 11 0 rfl rfl hw.1 dX9_use_71 ?_
      refine mv_topi (fun y16 ey16 => ?_)
      have hw := hw.2 y16 ey16
      refine mv_istore (lv1 := [(4, .int y16), (3, .int r11), (2, .int r6), (0, .ref (b 0)), (1, .int x1)]) C dX9_use_72 (by decide) rfl ?_
      refine mv_sub [3, 4, 2, 1, 0] rfl ?_
      obtain ⟨n, hw⟩ := hw
      exact mL5_of (fun K hK b0 b1 b2 b3 b4 hw => wj_X9_use_74_ok C hs hlev hK hw) n x1 r6 r11 y16 u15 hw
    · have hw := hw.2 h9
      exact mv_vret C dX9_use_35 hw
  · have hw := hw.2 h2
    refine mv_aload_n C dX9_use_7 rfl 0 rfl ?_
    refine mv_iconst (v := (5 : Int32)) C dX9_use_8 (by decide) ?_
    refine mv_callVv (f := wM cA b) (As := [.int (5 : Int32)]) (rest := []) C eM_ok hs 0 rfl rfl (X9_fails_met (l := l) (lev := lev - 1) (by omega) hw) (cwV 1 C.2.2.2.2.1 gX9_use_X9_fails rfl rfl rfl (by decide +kernel) (mRm_le (by omega) (by decide))) rfl rfl (Nat.le_of_ble_eq_true rfl) dX9_use_9 ⟨Nat.le_refl 0, Nat.le_refl 0⟩ (fun u18 hw => ?_)
    exact mv_vret C dX9_use_12 hw
end
