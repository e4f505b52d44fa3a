set_option maxRecDepth 20000 in
theorem ggX9_list_X9_fails : GoodIn wsX9_list wsX9_fails := goodIn_r _ [11, 12, 193, 194, 195, 196, 197, 198, 199, 200, 201, 202, 203, 204, 205, 206, 207, 208, 209, 210, 211, 212, 213, 214, 215, 216, 217, 218, 219, 220, 221, 222, 223, 224, 225, 226, 227, 228] (by decide +kernel) (by decide +kernel)
set_option maxRecDepth 20000 in
theorem gX9_list_X9_fails : GoodIn wsX9_list (wsV RX9 163 RX9 yX9_fails wsX9_fails) := goodIn_app (goodIn_of _ (by decide +kernel)) ggX9_list_X9_fails
set_option maxRecDepth 20000 in
theorem ggX9_list_X9_kind : GoodIn wsX9_list wsX9_kind := goodIn_r _ [15, 16] (by decide +kernel) (by decide +kernel)
set_option maxRecDepth 20000 in
theorem gX9_list_X9_kind : GoodIn wsX9_list (va_wsS RX9 107 yX9_kind wsX9_kind) := goodIn_app (goodIn_of _ (by decide +kernel)) ggX9_list_X9_kind
set_option maxRecDepth 20000 in
theorem ggX9_list_X9_what : GoodIn wsX9_list wsX9_what := goodIn_r _ [19, 16] (by decide +kernel) (by decide +kernel)
set_option maxRecDepth 20000 in
theorem gX9_list_X9_what : GoodIn wsX9_list (va_wsS RX9 151 yX9_what wsX9_what) := goodIn_app (goodIn_of _ (by decide +kernel)) ggX9_list_X9_what
set_option maxRecDepth 20000 in
theorem ggX9_list_X9_means : GoodIn wsX9_list wsX9_means := goodIn_r _ [23, 24, 25, 26, 193, 194, 195, 196, 197, 198, 199, 200, 201, 202, 203, 204, 205, 206, 207, 208, 209, 210, 211, 212, 213, 214, 215, 216, 217, 218, 219, 220, 221, 222, 223, 224, 225, 226, 227, 228] (by decide +kernel) (by decide +kernel)
set_option maxRecDepth 20000 in
theorem gX9_list_X9_means : GoodIn wsX9_list (wsV RX9 287 RX9 yX9_means wsX9_means) := goodIn_app (goodIn_of _ (by decide +kernel)) ggX9_list_X9_means
set_option maxRecDepth 100000 in
theorem gpX9_list_X9_form_0 : GoodIn wsX9_list wsX9_form_r1 := goodIn_r _ [2, 3, 1, 12, 31, 32, 33, 10, 34, 35, 4, 36, 37, 38, 13, 14, 15, 16, 39, 40, 41, 42, 43, 44] (by decide +kernel) (by decide +kernel)
set_option maxRecDepth 100000 in
theorem gpX9_list_X9_form_1 : GoodIn wsX9_list wsX9_form_r2 := goodIn_r _ [45, 46, 47, 7, 8, 9, 11, 48, 49, 50, 51, 52, 53, 54, 55, 56, 17, 18, 19, 57, 58, 59, 60, 24] (by decide +kernel) (by decide +kernel)
set_option maxRecDepth 100000 in
theorem gpX9_list_X9_form_2 : GoodIn wsX9_list wsX9_form_r3 := goodIn_r _ [25, 26, 5, 6, 61, 62, 63, 64, 65, 66, 67, 68, 69, 70, 71, 72, 73, 74, 75, 76, 77, 78, 79, 80] (by decide +kernel) (by decide +kernel)
set_option maxRecDepth 100000 in
theorem gpX9_list_X9_form_3 : GoodIn wsX9_list wsX9_form_r4 := goodIn_r _ [81, 82, 83, 84, 85, 86, 87, 88, 89, 90, 91, 92, 93, 94, 95, 96, 97, 98, 99, 100, 101, 102, 103, 104] (by decide +kernel) (by decide +kernel)
set_option maxRecDepth 100000 in
theorem gpX9_list_X9_form_4 : GoodIn wsX9_list wsX9_form_r5 := goodIn_r _ [105, 106, 107, 108, 109, 110, 111, 112, 113, 114, 115, 116, 117, 118, 119, 120, 121, 122, 123, 124, 125, 126, 127, 128] (by decide +kernel) (by decide +kernel)
set_option maxRecDepth 100000 in
theorem gpX9_list_X9_form_5 : GoodIn wsX9_list wsX9_form_r6 := goodIn_r _ [129, 130, 131, 132, 133] (by decide +kernel) (by decide +kernel)
set_option maxRecDepth 100000 in
theorem gpX9_list_X9_form_6 : GoodIn wsX9_list wsX90 := goodIn_r _ [193, 194, 195, 196, 197, 198, 199, 200, 201, 202, 203, 204, 205, 206, 207, 208, 209, 210, 211, 212, 213, 214, 215, 216, 217, 218, 219, 220, 221, 222, 223, 224, 225, 226, 227, 228] (by decide +kernel) (by decide +kernel)
set_option maxRecDepth 100000 in
theorem gpX9_list_X9_form_c : GoodIn wsX9_list [Cond.code yX9_form cX9_form 4 none] := goodIn_r _ [30] (by decide +kernel) (by decide +kernel)
theorem ggX9_list_X9_form : GoodIn wsX9_list wsX9_form := goodIn_cons2 gpX9_list_X9_form_c (goodIn_app (goodIn_app gpX9_list_X9_form_0 (goodIn_app gpX9_list_X9_form_1 (goodIn_app gpX9_list_X9_form_2 (goodIn_app gpX9_list_X9_form_3 (goodIn_app gpX9_list_X9_form_4 gpX9_list_X9_form_5))))) gpX9_list_X9_form_6)
set_option maxRecDepth 20000 in
theorem gX9_list_X9_form : GoodIn wsX9_list (wsV RX9 290 RX9 yX9_form wsX9_form) := goodIn_app (goodIn_of _ (by decide +kernel)) ggX9_list_X9_form
set_option maxRecDepth 100000 in
theorem gpX9_list_X9_use_0 : GoodIn wsX9_list wsX9_use_r1 := goodIn_r _ [138, 12, 2, 3, 4, 6, 61, 104, 139, 140, 141, 7, 8, 9, 10, 11, 48, 49, 50, 51, 52, 36, 37, 38] (by decide +kernel) (by decide +kernel)
set_option maxRecDepth 100000 in
theorem gpX9_list_X9_use_1 : GoodIn wsX9_list wsX9_use_r2 := goodIn_r _ [13, 14, 15, 16, 142, 143, 144, 145, 146, 147, 148, 149, 150, 151, 152, 153, 154, 155, 45, 46, 47, 42, 43, 44] (by decide +kernel) (by decide +kernel)
set_option maxRecDepth 100000 in
theorem gpX9_list_X9_use_2 : GoodIn wsX9_list wsX9_use_r3 := goodIn_r _ [156, 157, 158, 159, 160, 161, 105, 162, 163, 164, 165, 166, 167, 168, 169, 170, 171, 172, 173, 174, 175, 176, 177, 178] (by decide +kernel) (by decide +kernel)
set_option maxRecDepth 100000 in
theorem gpX9_list_X9_use_3 : GoodIn wsX9_list wsX9_use_r4 := goodIn_r _ [179, 180, 118, 119, 120, 121, 181, 182, 183, 184, 185, 186, 187, 188, 189, 190, 191, 192] (by decide +kernel) (by decide +kernel)
set_option maxRecDepth 100000 in
theorem gpX9_list_X9_use_4 : GoodIn wsX9_list wsX90 := goodIn_r _ [193, 194, 195, 196, 197, 198, 199, 200, 201, 202, 203, 204, 205, 206, 207, 208, 209, 210, 211, 212, 213, 214, 215, 216, 217, 218, 219, 220, 221, 222, 223, 224, 225, 226, 227, 228] (by decide +kernel) (by decide +kernel)
set_option maxRecDepth 100000 in
theorem gpX9_list_X9_use_c : GoodIn wsX9_list [Cond.code yX9_use cX9_use 6 none] := goodIn_r _ [137] (by decide +kernel) (by decide +kernel)
theorem ggX9_list_X9_use : GoodIn wsX9_list wsX9_use := goodIn_cons2 gpX9_list_X9_use_c (goodIn_app (goodIn_app gpX9_list_X9_use_0 (goodIn_app gpX9_list_X9_use_1 (goodIn_app gpX9_list_X9_use_2 gpX9_list_X9_use_3))) gpX9_list_X9_use_4)
set_option maxRecDepth 20000 in
theorem gX9_list_X9_use : GoodIn wsX9_list (wsV RX9 293 RX9 yX9_use wsX9_use) := goodIn_app (goodIn_of _ (by decide +kernel)) ggX9_list_X9_use
set_option maxRecDepth 100000 in
theorem gpX9_list_X9_putOpen_0 : GoodIn wsX9_list ([.fieldLink RX9 187 "MarkedNamesModel" "gap" "Z", .methodLink RX9 194 yX9_space, .instanceMethod yX9_space, .selects RX9 yX9_space yX9_space, .initialized RX9, .code yX9_space cX9_space 1 none, .methodLink RX9 191 yX9_put, .instanceMethod yX9_put, .selects RX9 yX9_put yX9_put, .code yX9_put cX9_put 2 none, .fieldLink RX9 178 "MarkedNamesModel" "error" "I", .fieldLink RX9 184 "MarkedNamesModel" "size" "I", .fieldLink RX9 67 "MarkedNamesModel" "text" "[I", .methodLink RX9 163 yX9_fails, .instanceMethod yX9_fails, .selects RX9 yX9_fails yX9_fails, .code yX9_fails cX9_fails 2 none] : List Cond) := goodIn_r _ [66, 67, 68, 69, 10, 70, 71, 72, 73, 74, 12, 75, 76, 7, 8, 9, 11] (by decide +kernel) (by decide +kernel)
set_option maxRecDepth 100000 in
theorem gpX9_list_X9_putOpen_1 : GoodIn wsX9_list wsX90 := goodIn_r _ [193, 194, 195, 196, 197, 198, 199, 200, 201, 202, 203, 204, 205, 206, 207, 208, 209, 210, 211, 212, 213, 214, 215, 216, 217, 218, 219, 220, 221, 222, 223, 224, 225, 226, 227, 228] (by decide +kernel) (by decide +kernel)
set_option maxRecDepth 100000 in
theorem gpX9_list_X9_putOpen_c : GoodIn wsX9_list [Cond.code yX9_putOpen cX9_putOpen 1 none] := goodIn_r _ [65] (by decide +kernel) (by decide +kernel)
theorem ggX9_list_X9_putOpen : GoodIn wsX9_list wsX9_putOpen := goodIn_cons2 gpX9_list_X9_putOpen_c (goodIn_app gpX9_list_X9_putOpen_0 gpX9_list_X9_putOpen_1)
set_option maxRecDepth 20000 in
theorem gX9_list_X9_putOpen : GoodIn wsX9_list (wsV RX9 200 RX9 yX9_putOpen wsX9_putOpen) := goodIn_app (goodIn_of _ (by decide +kernel)) ggX9_list_X9_putOpen
theorem dX9_list_0 : decode cX9_list 0 = .ok (.aload_n 0, 1) := by decide +kernel
theorem dX9_list_1 : decode cX9_list 1 = .ok (.getfield 271, 3) := by decide +kernel
theorem dX9_list_4 : decode cX9_list 4 = .ok (.bipush 9, 2) := by decide +kernel
theorem dX9_list_6 : decode cX9_list 6 = .ok (.if_icmp .le 10, 3) := by decide +kernel
theorem dX9_list_9 : decode cX9_list 9 = .ok (.aload_n 0, 1) := by decide +kernel
theorem dX9_list_10 : decode cX9_list 10 = .ok (.bipush 6, 2) := by decide +kernel
theorem dX9_list_12 : decode cX9_list 12 = .ok (.invokevirtual 163, 3) := by decide +kernel
theorem dX9_list_15 : decode cX9_list 15 = .ok (.return_, 1) := by decide +kernel
theorem dX9_list_16 : decode cX9_list 16 = .ok (.aload_n 0, 1) := by decide +kernel
theorem dX9_list_17 : decode cX9_list 17 = .ok (.getfield 13, 3) := by decide +kernel
theorem dX9_list_20 : decode cX9_list 20 = .ok (.aload_n 0, 1) := by decide +kernel
theorem dX9_list_21 : decode cX9_list 21 = .ok (.getfield 104, 3) := by decide +kernel
theorem dX9_list_24 : decode cX9_list 24 = .ok (.iconst 1, 1) := by decide +kernel
theorem dX9_list_25 : decode cX9_list 25 = .ok (.iadd, 1) := by decide +kernel
theorem dX9_list_26 : decode cX9_list 26 = .ok (.invokestatic 107, 3) := by decide +kernel
theorem dX9_list_29 : decode cX9_list 29 = .ok (.istore_n 1, 1) := by decide +kernel
theorem dX9_list_30 : decode cX9_list 30 = .ok (.iload_n 1, 1) := by decide +kernel
theorem dX9_list_31 : decode cX9_list 31 = .ok (.iconst 2, 1) := by decide +kernel
theorem dX9_list_32 : decode cX9_list 32 = .ok (.if_icmp .ne 9, 3) := by decide +kernel
theorem dX9_list_35 : decode cX9_list 35 = .ok (.aload_n 0, 1) := by decide +kernel
theorem dX9_list_36 : decode cX9_list 36 = .ok (.iconst 3, 1) := by decide +kernel
theorem dX9_list_37 : decode cX9_list 37 = .ok (.invokevirtual 163, 3) := by decide +kernel
theorem dX9_list_40 : decode cX9_list 40 = .ok (.return_, 1) := by decide +kernel
theorem dX9_list_41 : decode cX9_list 41 = .ok (.iload_n 1, 1) := by decide +kernel
theorem dX9_list_42 : decode cX9_list 42 = .ok (.iconst 3, 1) := by decide +kernel
theorem dX9_list_43 : decode cX9_list 43 = .ok (.if_icmp .ne 34, 3) := by decide +kernel
theorem dX9_list_46 : decode cX9_list 46 = .ok (.aload_n 0, 1) := by decide +kernel
theorem dX9_list_47 : decode cX9_list 47 = .ok (.aload_n 0, 1) := by decide +kernel
theorem dX9_list_48 : decode cX9_list 48 = .ok (.getfield 13, 3) := by decide +kernel
theorem dX9_list_51 : decode cX9_list 51 = .ok (.aload_n 0, 1) := by decide +kernel
theorem dX9_list_52 : decode cX9_list 52 = .ok (.getfield 104, 3) := by decide +kernel
theorem dX9_list_55 : decode cX9_list 55 = .ok (.iconst 1, 1) := by decide +kernel
theorem dX9_list_56 : decode cX9_list 56 = .ok (.iadd, 1) := by decide +kernel
theorem dX9_list_57 : decode cX9_list 57 = .ok (.invokestatic 151, 3) := by decide +kernel
theorem dX9_list_60 : decode cX9_list 60 = .ok (.aload_n 0, 1) := by decide +kernel
theorem dX9_list_61 : decode cX9_list 61 = .ok (.getfield 16, 3) := by decide +kernel
theorem dX9_list_64 : decode cX9_list 64 = .ok (.aload_n 0, 1) := by decide +kernel
theorem dX9_list_65 : decode cX9_list 65 = .ok (.getfield 104, 3) := by decide +kernel
theorem dX9_list_68 : decode cX9_list 68 = .ok (.iconst 1, 1) := by decide +kernel
theorem dX9_list_69 : decode cX9_list 69 = .ok (.iadd, 1) := by decide +kernel
theorem dX9_list_70 : decode cX9_list 70 = .ok (.iaload, 1) := by decide +kernel
theorem dX9_list_71 : decode cX9_list 71 = .ok (.invokevirtual 287, 3) := by decide +kernel
theorem dX9_list_74 : decode cX9_list 74 = .ok (.goto 4, 3) := by decide +kernel
theorem dX9_list_77 : decode cX9_list 77 = .ok (.iconst 0, 1) := by decide +kernel
theorem dX9_list_78 : decode cX9_list 78 = .ok (.istore_n 2, 1) := by decide +kernel
theorem dX9_list_79 : decode cX9_list 79 = .ok (.iload_n 2, 1) := by decide +kernel
theorem dX9_list_80 : decode cX9_list 80 = .ok (.ifCond .ge 20, 3) := by decide +kernel
theorem dX9_list_83 : decode cX9_list 83 = .ok (.aload_n 0, 1) := by decide +kernel
theorem dX9_list_84 : decode cX9_list 84 = .ok (.iload_n 2, 1) := by decide +kernel
theorem dX9_list_85 : decode cX9_list 85 = .ok (.iconst (-1), 1) := by decide +kernel
theorem dX9_list_86 : decode cX9_list 86 = .ok (.if_icmp .ne 7, 3) := by decide +kernel
theorem dX9_list_89 : decode cX9_list 89 = .ok (.iconst 1, 1) := by decide +kernel
theorem dX9_list_90 : decode cX9_list 90 = .ok (.goto 4, 3) := by decide +kernel
theorem dX9_list_93 : decode cX9_list 93 = .ok (.iconst 2, 1) := by decide +kernel
theorem dX9_list_94 : decode cX9_list 94 = .ok (.invokevirtual 163, 3) := by decide +kernel
theorem dX9_list_97 : decode cX9_list 97 = .ok (.goto 77, 3) := by decide +kernel
theorem dX9_list_100 : decode cX9_list 100 = .ok (.iload_n 1, 1) := by decide +kernel
theorem dX9_list_101 : decode cX9_list 101 = .ok (.iconst 3, 1) := by decide +kernel
theorem dX9_list_102 : decode cX9_list 102 = .ok (.if_icmp .ne 25, 3) := by decide +kernel
theorem dX9_list_105 : decode cX9_list 105 = .ok (.aload_n 0, 1) := by decide +kernel
theorem dX9_list_106 : decode cX9_list 106 = .ok (.getfield 37, 3) := by decide +kernel
theorem dX9_list_109 : decode cX9_list 109 = .ok (.iload_n 2, 1) := by decide +kernel
theorem dX9_list_110 : decode cX9_list 110 = .ok (.iaload, 1) := by decide +kernel
theorem dX9_list_111 : decode cX9_list 111 = .ok (.ifCond .ne 16, 3) := by decide +kernel
theorem dX9_list_114 : decode cX9_list 114 = .ok (.aload_n 0, 1) := by decide +kernel
theorem dX9_list_115 : decode cX9_list 115 = .ok (.aload_n 0, 1) := by decide +kernel
theorem dX9_list_116 : decode cX9_list 116 = .ok (.getfield 40, 3) := by decide +kernel
theorem dX9_list_119 : decode cX9_list 119 = .ok (.iload_n 2, 1) := by decide +kernel
theorem dX9_list_120 : decode cX9_list 120 = .ok (.iaload, 1) := by decide +kernel
theorem dX9_list_121 : decode cX9_list 121 = .ok (.invokevirtual 290, 3) := by decide +kernel
theorem dX9_list_124 : decode cX9_list 124 = .ok (.goto 50, 3) := by decide +kernel
theorem dX9_list_127 : decode cX9_list 127 = .ok (.iload_n 1, 1) := by decide +kernel
theorem dX9_list_128 : decode cX9_list 128 = .ok (.iconst 3, 1) := by decide +kernel
theorem dX9_list_129 : decode cX9_list 129 = .ok (.if_icmp .ne 21, 3) := by decide +kernel
theorem dX9_list_132 : decode cX9_list 132 = .ok (.aload_n 0, 1) := by decide +kernel
theorem dX9_list_133 : decode cX9_list 133 = .ok (.getfield 37, 3) := by decide +kernel
theorem dX9_list_136 : decode cX9_list 136 = .ok (.iload_n 2, 1) := by decide +kernel
theorem dX9_list_137 : decode cX9_list 137 = .ok (.iaload, 1) := by decide +kernel
theorem dX9_list_138 : decode cX9_list 138 = .ok (.iconst 3, 1) := by decide +kernel
theorem dX9_list_139 : decode cX9_list 139 = .ok (.if_icmp .ne 11, 3) := by decide +kernel
theorem dX9_list_142 : decode cX9_list 142 = .ok (.aload_n 0, 1) := by decide +kernel
theorem dX9_list_143 : decode cX9_list 143 = .ok (.iload_n 2, 1) := by decide +kernel
theorem dX9_list_144 : decode cX9_list 144 = .ok (.invokevirtual 293, 3) := by decide +kernel
theorem dX9_list_147 : decode cX9_list 147 = .ok (.goto 27, 3) := by decide +kernel
theorem dX9_list_150 : decode cX9_list 150 = .ok (.aload_n 0, 1) := by decide +kernel
theorem dX9_list_151 : decode cX9_list 151 = .ok (.invokevirtual 200, 3) := by decide +kernel
theorem dX9_list_154 : decode cX9_list 154 = .ok (.aload_n 0, 1) := by decide +kernel
theorem dX9_list_155 : decode cX9_list 155 = .ok (.dup, 1) := by decide +kernel
theorem dX9_list_156 : decode cX9_list 156 = .ok (.getfield 271, 3) := by decide +kernel
theorem dX9_list_159 : decode cX9_list 159 = .ok (.iconst 1, 1) := by decide +kernel
theorem dX9_list_160 : decode cX9_list 160 = .ok (.iadd, 1) := by decide +kernel
theorem dX9_list_161 : decode cX9_list 161 = .ok (.putfield 271, 3) := by decide +kernel
theorem dX9_list_164 : decode cX9_list 164 = .ok (.aload_n 0, 1) := by decide +kernel
theorem dX9_list_165 : decode cX9_list 165 = .ok (.dup, 1) := by decide +kernel
theorem dX9_list_166 : decode cX9_list 166 = .ok (.getfield 104, 3) := by decide +kernel
theorem dX9_list_169 : decode cX9_list 169 = .ok (.iconst 1, 1) := by decide +kernel
theorem dX9_list_170 : decode cX9_list 170 = .ok (.iadd, 1) := by decide +kernel
theorem dX9_list_171 : decode cX9_list 171 = .ok (.putfield 104, 3) := by decide +kernel
theorem dX9_list_174 : decode cX9_list 174 = .ok (.return_, 1) := by decide +kernel
set_option maxRecDepth 20000 in
theorem ggX9_step_X9_kind : GoodIn wsX9_step wsX9_kind := goodIn_r _ [9, 10] (by decide +kernel) (by decide +kernel)
set_option maxRecDepth 20000 in
theorem gX9_step_X9_kind : GoodIn wsX9_step (va_wsS RX9 107 yX9_kind wsX9_kind) := goodIn_app (goodIn_of _ (by decide +kernel)) ggX9_step_X9_kind
set_option maxRecDepth 20000 in
theorem ggX9_step_X9_put : GoodIn wsX9_step wsX9_put := goodIn_r _ [14, 4, 15, 16, 17, 18, 19, 8, 20, 201, 202, 203, 204, 205, 206, 207, 208, 209, 210, 211, 212, 213, 214, 215, 216, 217, 218, 219, 220, 221, 222, 223, 224, 225, 226, 227, 228, 229, 230, 231, 232, 233, 234, 235, 236] (by decide +kernel) (by decide +kernel)
set_option maxRecDepth 20000 in
theorem gX9_step_X9_put : GoodIn wsX9_step (wsV RX9 191 RX9 yX9_put wsX9_put) := goodIn_app (goodIn_of _ (by decide +kernel)) ggX9_step_X9_put
set_option maxRecDepth 100000 in
theorem gpX9_step_X9_list_0 : GoodIn wsX9_step wsX9_list_r1 := goodIn_r _ [5, 1, 2, 25, 26, 27, 17, 18, 19, 8, 20, 4, 6, 7, 9, 10, 28, 29, 30, 31, 32, 33, 34, 35] (by decide +kernel) (by decide +kernel)
set_option maxRecDepth 100000 in
theorem gpX9_step_X9_list_1 : GoodIn wsX9_step wsX9_list_r2 := goodIn_r _ [36, 37, 38, 39, 40, 41, 42, 43, 44, 45, 46, 47, 48, 49, 50, 51, 52, 53, 54, 55, 56, 57, 58, 59] (by decide +kernel) (by decide +kernel)
set_option maxRecDepth 100000 in
theorem gpX9_step_X9_list_2 : GoodIn wsX9_step wsX9_list_r3 := goodIn_r _ [60, 61, 62, 63, 64, 65, 66, 67, 68, 69, 70, 71, 72, 73, 74, 75, 76, 3, 77, 78, 79, 80, 11, 12] (by decide +kernel) (by decide +kernel)
set_option maxRecDepth 100000 in
theorem gpX9_step_X9_list_3 : GoodIn wsX9_step wsX9_list_r4 := goodIn_r _ [13, 14, 15, 16, 81, 82, 83, 84, 85, 86, 87, 88, 89, 90, 91, 92, 93, 94, 95, 96, 97, 98, 99, 100] (by decide +kernel) (by decide +kernel)
set_option maxRecDepth 100000 in
theorem gpX9_step_X9_list_4 : GoodIn wsX9_step wsX9_list_r5 := goodIn_r _ [101, 102, 103, 104, 105, 106, 107, 108, 109, 110, 111, 112, 113, 114, 115, 116, 117, 118, 119, 120, 121, 122, 123, 124] (by decide +kernel) (by decide +kernel)
set_option maxRecDepth 100000 in
theorem gpX9_step_X9_list_5 : GoodIn wsX9_step wsX9_list_r6 := goodIn_r _ [125, 126, 127, 128, 129, 130, 131, 132, 133, 134, 135, 136, 137, 138, 139, 140, 141, 142, 143, 144, 145, 146, 147, 148] (by decide +kernel) (by decide +kernel)
set_option maxRecDepth 100000 in
theorem gpX9_step_X9_list_6 : GoodIn wsX9_step wsX9_list_r7 := goodIn_r _ [149, 150, 151, 152, 153, 154, 155, 156, 157, 158, 159, 160, 161, 162, 163, 164, 165, 166, 167, 168, 169, 170, 171, 172] (by decide +kernel) (by decide +kernel)
set_option maxRecDepth 100000 in
theorem gpX9_step_X9_list_7 : GoodIn wsX9_step wsX9_list_r8 := goodIn_r _ [173, 174, 175, 176, 177, 178, 179, 180, 181, 182, 183, 184, 185, 186, 187, 188, 189, 190, 191, 192, 193, 194, 195, 196] (by decide +kernel) (by decide +kernel)
set_option maxRecDepth 100000 in
theorem gpX9_step_X9_list_8 : GoodIn wsX9_step wsX90 := goodIn_r _ [201, 202, 203, 204, 205, 206, 207, 208, 209, 210, 211, 212, 213, 214, 215, 216, 217, 218, 219, 220, 221, 222, 223, 224, 225, 226, 227, 228, 229, 230, 231, 232, 233, 234, 235, 236] (by decide +kernel) (by decide +kernel)
set_option maxRecDepth 100000 in
theorem gpX9_step_X9_list_c : GoodIn wsX9_step [Cond.code yX9_list cX9_list 3 none] := goodIn_r _ [24] (by decide +kernel) (by decide +kernel)
theorem ggX9_step_X9_list : GoodIn wsX9_step wsX9_list := goodIn_cons2 gpX9_step_X9_list_c (goodIn_app (goodIn_app gpX9_step_X9_list_0 (goodIn_app gpX9_step_X9_list_1 (goodIn_app gpX9_step_X9_list_2 (goodIn_app gpX9_step_X9_list_3 (goodIn_app gpX9_step_X9_list_4 (goodIn_app gpX9_step_X9_list_5 (goodIn_app gpX9_step_X9_list_6 gpX9_step_X9_list_7))))))) gpX9_step_X9_list_8)
set_option maxRecDepth 20000 in
theorem gX9_step_X9_list : GoodIn wsX9_step (wsV RX9 296 RX9 yX9_list wsX9_list) := goodIn_app (goodIn_of _ (by decide +kernel)) ggX9_step_X9_list
set_option maxRecDepth 100000 in
theorem gpX9_step_X9_word_0 : GoodIn wsX9_step wsX9_word_r1 := goodIn_r _ [1, 2, 25, 26, 27, 28, 29, 8, 30, 10, 31, 32, 33, 34, 35, 36, 37, 17, 18, 19, 20, 4, 77, 78] (by decide +kernel) (by decide +kernel)
set_option maxRecDepth 100000 in
theorem gpX9_step_X9_word_1 : GoodIn wsX9_step wsX9_word_r2 := goodIn_r _ [79, 80, 3, 11, 12, 13, 14, 15, 16, 81, 82, 83, 84, 85, 86, 87, 88, 89, 90, 91, 92, 93] (by decide +kernel) (by decide +kernel)
set_option maxRecDepth 100000 in
theorem gpX9_step_X9_word_2 : GoodIn wsX9_step wsX90 := goodIn_r _ [201, 202, 203, 204, 205, 206, 207, 208, 209, 210, 211, 212, 213, 214, 215, 216, 217, 218, 219, 220, 221, 222, 223, 224, 225, 226, 227, 228, 229, 230, 231, 232, 233, 234, 235, 236] (by decide +kernel) (by decide +kernel)
set_option maxRecDepth 100000 in
theorem gpX9_step_X9_word_c : GoodIn wsX9_step [Cond.code yX9_word cX9_word 2 none] := goodIn_r _ [200] (by decide +kernel) (by decide +kernel)
theorem ggX9_step_X9_word : GoodIn wsX9_step wsX9_word := goodIn_cons2 gpX9_step_X9_word_c (goodIn_app (goodIn_app gpX9_step_X9_word_0 gpX9_step_X9_word_1) gpX9_step_X9_word_2)
set_option maxRecDepth 20000 in
theorem gX9_step_X9_word : GoodIn wsX9_step (wsV RX9 299 RX9 yX9_word wsX9_word) := goodIn_app (goodIn_of _ (by decide +kernel)) ggX9_step_X9_word
set_option maxRecDepth 100000 in
theorem gpX9_step_X9_putToken_0 : GoodIn wsX9_step wsX9_putToken_r1 := goodIn_r _ [1, 6, 7, 8, 9, 10, 73, 74, 75, 76, 3, 77, 78, 79, 80, 11, 12, 13, 14, 4, 15, 16, 17, 18] (by decide +kernel) (by decide +kernel)
set_option maxRecDepth 100000 in
theorem gpX9_step_X9_putToken_1 : GoodIn wsX9_step wsX9_putToken_r2 := goodIn_r _ [19, 20, 94, 95, 96, 97, 28, 29, 30, 81, 82, 83, 84, 85, 90, 91, 92, 93] (by decide +kernel) (by decide +kernel)
set_option maxRecDepth 100000 in
theorem gpX9_step_X9_putToken_2 : GoodIn wsX9_step wsX90 := goodIn_r _ [201, 202, 203, 204, 205, 206, 207, 208, 209, 210, 211, 212, 213, 214, 215, 216, 217, 218, 219, 220, 221, 222, 223, 224, 225, 226, 227, 228, 229, 230, 231, 232, 233, 234, 235, 236] (by decide +kernel) (by decide +kernel)
set_option maxRecDepth 100000 in
theorem gpX9_step_X9_putToken_c : GoodIn wsX9_step [Cond.code yX9_putToken cX9_putToken 3 none] := goodIn_r _ [137] (by decide +kernel) (by decide +kernel)
theorem ggX9_step_X9_putToken : GoodIn wsX9_step wsX9_putToken := goodIn_cons2 gpX9_step_X9_putToken_c (goodIn_app (goodIn_app gpX9_step_X9_putToken_0 gpX9_step_X9_putToken_1) gpX9_step_X9_putToken_2)
set_option maxRecDepth 20000 in
theorem gX9_step_X9_putToken : GoodIn wsX9_step (wsV RX9 284 RX9 yX9_putToken wsX9_putToken) := goodIn_app (goodIn_of _ (by decide +kernel)) ggX9_step_X9_putToken
set_option maxRecDepth 100000 in
theorem gpX9_step_X9_putClose_0 : GoodIn wsX9_step ([.fieldLink RX9 187 "MarkedNamesModel" "gap" "Z", .methodLink RX9 191 yX9_put, .instanceMethod yX9_put, .selects RX9 yX9_put yX9_put, .initialized RX9, .code yX9_put cX9_put 2 none, .fieldLink RX9 178 "MarkedNamesModel" "error" "I", .fieldLink RX9 184 "MarkedNamesModel" "size" "I", .fieldLink RX9 67 "MarkedNamesModel" "text" "[I", .methodLink RX9 163 yX9_fails, .instanceMethod yX9_fails, .selects RX9 yX9_fails yX9_fails, .code yX9_fails cX9_fails 2 none] : List Cond) := goodIn_r _ [3, 11, 12, 13, 8, 14, 4, 15, 16, 17, 18, 19, 20] (by decide +kernel) (by decide +kernel)
set_option maxRecDepth 100000 in
theorem gpX9_step_X9_putClose_1 : GoodIn wsX9_step wsX90 := goodIn_r _ [201, 202, 203, 204, 205, 206, 207, 208, 209, 210, 211, 212, 213, 214, 215, 216, 217, 218, 219, 220, 221, 222, 223, 224, 225, 226, 227, 228, 229, 230, 231, 232, 233, 234, 235, 236] (by decide +kernel) (by decide +kernel)
set_option maxRecDepth 100000 in
theorem gpX9_step_X9_putClose_c : GoodIn wsX9_step [Cond.code yX9_putClose cX9_putClose 1 none] := goodIn_r _ [97] (by decide +kernel) (by decide +kernel)
theorem ggX9_step_X9_putClose : GoodIn wsX9_step wsX9_putClose := goodIn_cons2 gpX9_step_X9_putClose_c (goodIn_app gpX9_step_X9_putClose_0 gpX9_step_X9_putClose_1)
set_option maxRecDepth 20000 in
theorem gX9_step_X9_putClose : GoodIn wsX9_step (wsV RX9 203 RX9 yX9_putClose wsX9_putClose) := goodIn_app (goodIn_of _ (by decide +kernel)) ggX9_step_X9_putClose
set_option maxRecDepth 20000 in
theorem ggX9_step_X9_fails : GoodIn wsX9_step wsX9_fails := goodIn_r _ [20, 4, 201, 202, 203, 204, 205, 206, 207, 208, 209, 210, 211, 212, 213, 214, 215, 216, 217, 218, 219, 220, 221, 222, 223, 224, 225, 226, 227, 228, 229, 230, 231, 232, 233, 234, 235, 236] (by decide +kernel) (by decide +kernel)
set_option maxRecDepth 20000 in
theorem gX9_step_X9_fails : GoodIn wsX9_step (wsV RX9 163 RX9 yX9_fails wsX9_fails) := goodIn_app (goodIn_of _ (by decide +kernel)) ggX9_step_X9_fails
theorem dX9_step_0 : decode cX9_step 0 = .ok (.aload_n 0, 1) := by decide +kernel
theorem dX9_step_1 : decode cX9_step 1 = .ok (.getfield 13, 3) := by decide +kernel
theorem dX9_step_4 : decode cX9_step 4 = .ok (.aload_n 0, 1) := by decide +kernel
theorem dX9_step_5 : decode cX9_step 5 = .ok (.getfield 104, 3) := by decide +kernel
theorem dX9_step_8 : decode cX9_step 8 = .ok (.invokestatic 107, 3) := by decide +kernel
theorem dX9_step_11 : decode cX9_step 11 = .ok (.istore_n 1, 1) := by decide +kernel
theorem dX9_step_12 : decode cX9_step 12 = .ok (.aload_n 0, 1) := by decide +kernel
theorem dX9_step_13 : decode cX9_step 13 = .ok (.getfield 187, 3) := by decide +kernel
theorem dX9_step_16 : decode cX9_step 16 = .ok (.ifCond .eq 31, 3) := by decide +kernel
theorem dX9_step_19 : decode cX9_step 19 = .ok (.iload_n 1, 1) := by decide +kernel
theorem dX9_step_20 : decode cX9_step 20 = .ok (.iconst 2, 1) := by decide +kernel
theorem dX9_step_21 : decode cX9_step 21 = .ok (.if_icmp .eq 26, 3) := by decide +kernel
theorem dX9_step_24 : decode cX9_step 24 = .ok (.iload_n 1, 1) := by decide +kernel
theorem dX9_step_25 : decode cX9_step 25 = .ok (.bipush 7, 2) := by decide +kernel
theorem dX9_step_27 : decode cX9_step 27 = .ok (.if_icmp .eq 20, 3) := by decide +kernel
theorem dX9_step_30 : decode cX9_step 30 = .ok (.iload_n 1, 1) := by decide +kernel
theorem dX9_step_31 : decode cX9_step 31 = .ok (.bipush 6, 2) := by decide +kernel
theorem dX9_step_33 : decode cX9_step 33 = .ok (.if_icmp .eq 14, 3) := by decide +kernel
theorem dX9_step_36 : decode cX9_step 36 = .ok (.aload_n 0, 1) := by decide +kernel
theorem dX9_step_37 : decode cX9_step 37 = .ok (.bipush 32, 2) := by decide +kernel
theorem dX9_step_39 : decode cX9_step 39 = .ok (.invokevirtual 191, 3) := by decide +kernel
theorem dX9_step_42 : decode cX9_step 42 = .ok (.aload_n 0, 1) := by decide +kernel
theorem dX9_step_43 : decode cX9_step 43 = .ok (.iconst 0, 1) := by decide +kernel
theorem dX9_step_44 : decode cX9_step 44 = .ok (.putfield 187, 3) := by decide +kernel
theorem dX9_step_47 : decode cX9_step 47 = .ok (.aload_n 0, 1) := by decide +kernel
theorem dX9_step_48 : decode cX9_step 48 = .ok (.getfield 178, 3) := by decide +kernel
theorem dX9_step_51 : decode cX9_step 51 = .ok (.ifCond .eq 4, 3) := by decide +kernel
theorem dX9_step_54 : decode cX9_step 54 = .ok (.return_, 1) := by decide +kernel
theorem dX9_step_55 : decode cX9_step 55 = .ok (.iload_n 1, 1) := by decide +kernel
theorem dX9_step_56 : decode cX9_step 56 = .ok (.iconst 1, 1) := by decide +kernel
theorem dX9_step_57 : decode cX9_step 57 = .ok (.if_icmp .ne 10, 3) := by decide +kernel
theorem dX9_step_60 : decode cX9_step 60 = .ok (.aload_n 0, 1) := by decide +kernel
theorem dX9_step_61 : decode cX9_step 61 = .ok (.invokevirtual 296, 3) := by decide +kernel
theorem dX9_step_64 : decode cX9_step 64 = .ok (.goto 89, 3) := by decide +kernel
theorem dX9_step_67 : decode cX9_step 67 = .ok (.iload_n 1, 1) := by decide +kernel
theorem dX9_step_68 : decode cX9_step 68 = .ok (.iconst 3, 1) := by decide +kernel
theorem dX9_step_69 : decode cX9_step 69 = .ok (.if_icmp .ne 10, 3) := by decide +kernel
theorem dX9_step_72 : decode cX9_step 72 = .ok (.aload_n 0, 1) := by decide +kernel
theorem dX9_step_73 : decode cX9_step 73 = .ok (.invokevirtual 299, 3) := by decide +kernel
theorem dX9_step_76 : decode cX9_step 76 = .ok (.goto 77, 3) := by decide +kernel
theorem dX9_step_79 : decode cX9_step 79 = .ok (.iload_n 1, 1) := by decide +kernel
theorem dX9_step_80 : decode cX9_step 80 = .ok (.iconst 4, 1) := by decide +kernel
theorem dX9_step_81 : decode cX9_step 81 = .ok (.if_icmp .ne 24, 3) := by decide +kernel
theorem dX9_step_84 : decode cX9_step 84 = .ok (.aload_n 0, 1) := by decide +kernel
theorem dX9_step_85 : decode cX9_step 85 = .ok (.aload_n 0, 1) := by decide +kernel
theorem dX9_step_86 : decode cX9_step 86 = .ok (.getfield 104, 3) := by decide +kernel
theorem dX9_step_89 : decode cX9_step 89 = .ok (.invokevirtual 284, 3) := by decide +kernel
theorem dX9_step_92 : decode cX9_step 92 = .ok (.aload_n 0, 1) := by decide +kernel
theorem dX9_step_93 : decode cX9_step 93 = .ok (.dup, 1) := by decide +kernel
theorem dX9_step_94 : decode cX9_step 94 = .ok (.getfield 104, 3) := by decide +kernel
theorem dX9_step_97 : decode cX9_step 97 = .ok (.iconst 1, 1) := by decide +kernel
theorem dX9_step_98 : decode cX9_step 98 = .ok (.iadd, 1) := by decide +kernel
theorem dX9_step_99 : decode cX9_step 99 = .ok (.putfield 104, 3) := by decide +kernel
theorem dX9_step_102 : decode cX9_step 102 = .ok (.goto 51, 3) := by decide +kernel
theorem dX9_step_105 : decode cX9_step 105 = .ok (.iload_n 1, 1) := by decide +kernel
theorem dX9_step_106 : decode cX9_step 106 = .ok (.iconst 2, 1) := by decide +kernel
theorem dX9_step_107 : decode cX9_step 107 = .ok (.if_icmp .eq 9, 3) := by decide +kernel
theorem dX9_step_110 : decode cX9_step 110 = .ok (.iload_n 1, 1) := by decide +kernel
theorem dX9_step_111 : decode cX9_step 111 = .ok (.bipush 7, 2) := by decide +kernel
theorem dX9_step_113 : decode cX9_step 113 = .ok (.if_icmp .ne 35, 3) := by decide +kernel
theorem dX9_step_116 : decode cX9_step 116 = .ok (.iload_n 1, 1) := by decide +kernel
theorem dX9_step_117 : decode cX9_step 117 = .ok (.iconst 2, 1) := by decide +kernel
theorem dX9_step_118 : decode cX9_step 118 = .ok (.if_icmp .ne 7, 3) := by decide +kernel
theorem dX9_step_121 : decode cX9_step 121 = .ok (.aload_n 0, 1) := by decide +kernel
theorem dX9_step_122 : decode cX9_step 122 = .ok (.invokevirtual 203, 3) := by decide +kernel
theorem dX9_step_125 : decode cX9_step 125 = .ok (.aload_n 0, 1) := by decide +kernel
theorem dX9_step_126 : decode cX9_step 126 = .ok (.dup, 1) := by decide +kernel
theorem dX9_step_127 : decode cX9_step 127 = .ok (.getfield 271, 3) := by decide +kernel
theorem dX9_step_130 : decode cX9_step 130 = .ok (.iconst 1, 1) := by decide +kernel
theorem dX9_step_131 : decode cX9_step 131 = .ok (.isub, 1) := by decide +kernel
theorem dX9_step_132 : decode cX9_step 132 = .ok (.putfield 271, 3) := by decide +kernel
theorem dX9_step_135 : decode cX9_step 135 = .ok (.aload_n 0, 1) := by decide +kernel
theorem dX9_step_136 : decode cX9_step 136 = .ok (.dup, 1) := by decide +kernel
theorem dX9_step_137 : decode cX9_step 137 = .ok (.getfield 104, 3) := by decide +kernel
theorem dX9_step_140 : decode cX9_step 140 = .ok (.iconst 1, 1) := by decide +kernel
theorem dX9_step_141 : decode cX9_step 141 = .ok (.iadd, 1) := by decide +kernel
theorem dX9_step_142 : decode cX9_step 142 = .ok (.putfield 104, 3) := by decide +kernel
theorem dX9_step_145 : decode cX9_step 145 = .ok (.goto 8, 3) := by decide +kernel
theorem dX9_step_148 : decode cX9_step 148 = .ok (.aload_n 0, 1) := by decide +kernel
theorem dX9_step_149 : decode cX9_step 149 = .ok (.iconst 3, 1) := by decide +kernel
theorem dX9_step_150 : decode cX9_step 150 = .ok (.invokevirtual 163, 3) := by decide +kernel
theorem dX9_step_153 : decode cX9_step 153 = .ok (.return_, 1) := by decide +kernel
set_option maxRecDepth 100000 in
theorem gpX9_expand_X9_read_0 : GoodIn wsX9_expand wsX9_read_r1 := goodIn_r _ [1, 16, 17, 10, 18, 19, 20, 21, 14, 22, 23, 24, 25, 26, 27, 28, 29, 30, 31, 32, 33, 34, 35, 36] (by decide +kernel) (by decide +kernel)
set_option maxRecDepth 100000 in
theorem gpX9_expand_X9_read_1 : GoodIn wsX9_expand wsX9_read_r2 := goodIn_r _ [37, 38, 39, 40, 41, 42, 43, 44, 45, 46, 47, 48] (by decide +kernel) (by decide +kernel)
set_option maxRecDepth 100000 in
theorem gpX9_expand_X9_read_2 : GoodIn wsX9_expand wsX90 := goodIn_r _ [251, 252, 253, 254, 255, 256, 257, 258, 259, 260, 261, 262, 263, 264, 265, 266, 267, 268, 269, 270, 271, 272, 273, 274, 275, 276, 277, 278, 279, 280, 281, 282, 283, 284, 285, 286] (by decide +kernel) (by decide +kernel)
set_option maxRecDepth 100000 in
theorem gpX9_expand_X9_read_c : GoodIn wsX9_expand [Cond.code yX9_read cX9_read 8 (some .int)] := goodIn_r _ [15] (by decide +kernel) (by decide +kernel)
theorem ggX9_expand_X9_read : GoodIn wsX9_expand wsX9_read := goodIn_cons2 gpX9_expand_X9_read_c (goodIn_app (goodIn_app gpX9_expand_X9_read_0 gpX9_expand_X9_read_1) gpX9_expand_X9_read_2)
set_option maxRecDepth 20000 in
theorem gX9_expand_X9_read : GoodIn wsX9_expand (wsV RX9 141 RX9 yX9_read wsX9_read) := goodIn_app (goodIn_of _ (by decide +kernel)) ggX9_expand_X9_read
set_option maxRecDepth 100000 in
theorem gpX9_expand_X9_beginning_0 : GoodIn wsX9_expand ([.fieldLink RX9 160 "MarkedNamesModel" "bindings" "I", .constant RX9 171 (40043), .constant RX9 172 (40042), .constant RX9 173 (40061), .constant RX9 174 (40060), .fieldLink RX9 157 "MarkedNamesModel" "own" "I", .fieldLink RX9 25 "MarkedNamesModel" "ownName" "[I", .fieldLink RX9 28 "MarkedNamesModel" "ownEnd" "[I", .fieldLink RX9 175 "MarkedNamesModel" "atFirst" "I", .methodLink RX9 167 yX9_bind, .instanceMethod yX9_bind, .selects RX9 yX9_bind yX9_bind, .initialized RX9, .code yX9_bind cX9_bind 6 none, .fieldLink RX9 31 "MarkedNamesModel" "name" "[I", .fieldLink RX9 34 "MarkedNamesModel" "scopes" "[I", .fieldLink RX9 37 "MarkedNamesModel" "meaning" "[I", .fieldLink RX9 40 "MarkedNamesModel" "from" "[I", .fieldLink RX9 43 "MarkedNamesModel" "to" "[I", .methodLink RX9 163 yX9_fails, .instanceMethod yX9_fails, .selects RX9 yX9_fails yX9_fails, .code yX9_fails cX9_fails 2 none, .fieldLink RX9 178 "MarkedNamesModel" "error" "I"] : List Cond) := goodIn_r _ [53, 54, 55, 56, 57, 58, 59, 60, 61, 62, 63, 64, 14, 65, 66, 67, 68, 69, 70, 71, 72, 73, 74, 5] (by decide +kernel) (by decide +kernel)
set_option maxRecDepth 100000 in
theorem gpX9_expand_X9_beginning_1 : GoodIn wsX9_expand wsX90 := goodIn_r _ [251, 252, 253, 254, 255, 256, 257, 258, 259, 260, 261, 262, 263, 264, 265, 266, 267, 268, 269, 270, 271, 272, 273, 274, 275, 276, 277, 278, 279, 280, 281, 282, 283, 284, 285, 286] (by decide +kernel) (by decide +kernel)
set_option maxRecDepth 100000 in
theorem gpX9_expand_X9_beginning_c : GoodIn wsX9_expand [Cond.code yX9_beginning cX9_beginning 2 none] := goodIn_r _ [52] (by decide +kernel) (by decide +kernel)
theorem ggX9_expand_X9_beginning : GoodIn wsX9_expand wsX9_beginning := goodIn_cons2 gpX9_expand_X9_beginning_c (goodIn_app gpX9_expand_X9_beginning_0 gpX9_expand_X9_beginning_1)
set_option maxRecDepth 20000 in
theorem gX9_expand_X9_beginning : GoodIn wsX9_expand (wsV RX9 302 RX9 yX9_beginning wsX9_beginning) := goodIn_app (goodIn_of _ (by decide +kernel)) ggX9_expand_X9_beginning
set_option maxRecDepth 100000 in
theorem gpX9_expand_X9_step_0 : GoodIn wsX9_expand wsX9_step_r1 := goodIn_r _ [17, 10, 3, 5, 4, 79, 80, 14, 81, 16, 82, 83, 84, 85, 2, 86, 71, 72, 73, 74, 87, 88, 89, 90] (by decide +kernel) (by decide +kernel)
set_option maxRecDepth 100000 in
theorem gpX9_expand_X9_step_1 : GoodIn wsX9_expand wsX9_step_r2 := goodIn_r _ [18, 68, 69, 91, 92, 93, 94, 95, 96, 97, 53, 66, 67, 98, 99, 100, 101, 102, 103, 104, 105, 7, 106, 107] (by decide +kernel) (by decide +kernel)
set_option maxRecDepth 100000 in
theorem gpX9_expand_X9_step_2 : GoodIn wsX9_expand wsX9_step_r3 := goodIn_r _ [108, 109, 110, 111, 112, 113, 114, 115, 116, 117, 118, 119, 120, 121, 6, 122, 123, 124, 125, 62, 63, 64, 65, 70] (by decide +kernel) (by decide +kernel)
set_option maxRecDepth 100000 in
theorem gpX9_expand_X9_step_3 : GoodIn wsX9_expand wsX9_step_r4 := goodIn_r _ [126, 127, 128, 129, 130, 131, 132, 133, 134, 135, 136, 137, 45, 138, 139, 140, 141, 142, 143, 144, 145, 146, 147, 148] (by decide +kernel) (by decide +kernel)
set_option maxRecDepth 100000 in
theorem gpX9_expand_X9_step_4 : GoodIn wsX9_expand wsX9_step_r5 := goodIn_r _ [149, 150, 151, 152, 153, 9, 154, 155, 156, 157, 158, 159, 160, 161, 162, 163, 164, 165, 166, 167, 168, 169, 170, 171] (by decide +kernel) (by decide +kernel)
set_option maxRecDepth 100000 in
theorem gpX9_expand_X9_step_5 : GoodIn wsX9_expand wsX9_step_r6 := goodIn_r _ [172, 173, 174, 175, 176, 177, 178, 179, 180, 181, 182, 183, 184, 185, 186, 187, 188, 189, 190, 191, 192, 8, 193, 194] (by decide +kernel) (by decide +kernel)
set_option maxRecDepth 100000 in
theorem gpX9_expand_X9_step_6 : GoodIn wsX9_expand wsX9_step_r7 := goodIn_r _ [195, 196, 197, 198, 199, 200, 201, 202, 203, 204, 205, 206, 207, 208, 209, 210, 211, 212, 213, 214, 215, 216, 217, 218] (by decide +kernel) (by decide +kernel)
set_option maxRecDepth 100000 in
theorem gpX9_expand_X9_step_7 : GoodIn wsX9_expand wsX9_step_r8 := goodIn_r _ [219, 220, 221, 222, 223, 224, 225, 226, 227, 228, 229, 230, 231, 232, 233, 234, 235, 236, 237, 238, 239, 240, 241, 242] (by decide +kernel) (by decide +kernel)
set_option maxRecDepth 100000 in
theorem gpX9_expand_X9_step_8 : GoodIn wsX9_expand wsX9_step_r9 := goodIn_r _ [243, 244, 245, 246, 247, 248, 249, 250] (by decide +kernel) (by decide +kernel)
set_option maxRecDepth 100000 in
theorem gpX9_expand_X9_step_9 : GoodIn wsX9_expand wsX90 := goodIn_r _ [251, 252, 253, 254, 255, 256, 257, 258, 259, 260, 261, 262, 263, 264, 265, 266, 267, 268, 269, 270, 271, 272, 273, 274, 275, 276, 277, 278, 279, 280, 281, 282, 283, 284, 285, 286] (by decide +kernel) (by decide +kernel)
set_option maxRecDepth 100000 in
theorem gpX9_expand_X9_step_c : GoodIn wsX9_expand [Cond.code yX9_step cX9_step 2 none] := goodIn_r _ [78] (by decide +kernel) (by decide +kernel)
theorem ggX9_expand_X9_step : GoodIn wsX9_expand wsX9_step := goodIn_cons2 gpX9_expand_X9_step_c (goodIn_app (goodIn_app gpX9_expand_X9_step_0 (goodIn_app gpX9_expand_X9_step_1 (goodIn_app gpX9_expand_X9_step_2 (goodIn_app gpX9_expand_X9_step_3 (goodIn_app gpX9_expand_X9_step_4 (goodIn_app gpX9_expand_X9_step_5 (goodIn_app gpX9_expand_X9_step_6 (goodIn_app gpX9_expand_X9_step_7 gpX9_expand_X9_step_8)))))))) gpX9_expand_X9_step_9)
set_option maxRecDepth 20000 in
theorem gX9_expand_X9_step : GoodIn wsX9_expand (wsV RX9 305 RX9 yX9_step wsX9_step) := goodIn_app (goodIn_of _ (by decide +kernel)) ggX9_expand_X9_step
theorem dX9_expand_0 : decode cX9_expand 0 = .ok (.iload_n 1, 1) := by decide +kernel
theorem dX9_expand_1 : decode cX9_expand 1 = .ok (.ifCond .lt 9, 3) := by decide +kernel
theorem dX9_expand_4 : decode cX9_expand 4 = .ok (.iload_n 1, 1) := by decide +kernel
theorem dX9_expand_5 : decode cX9_expand 5 = .ok (.bipush 8, 2) := by decide +kernel
theorem dX9_expand_7 : decode cX9_expand 7 = .ok (.if_icmp .le 7, 3) := by decide +kernel
theorem dX9_expand_10 : decode cX9_expand 10 = .ok (.sipush (-7000), 3) := by decide +kernel
theorem dX9_expand_13 : decode cX9_expand 13 = .ok (.ireturn, 1) := by decide +kernel
theorem dX9_expand_14 : decode cX9_expand 14 = .ok (.aload_n 0, 1) := by decide +kernel
theorem dX9_expand_15 : decode cX9_expand 15 = .ok (.invokevirtual 141, 3) := by decide +kernel
theorem dX9_expand_18 : decode cX9_expand 18 = .ok (.istore_n 2, 1) := by decide +kernel
theorem dX9_expand_19 : decode cX9_expand 19 = .ok (.aload_n 0, 1) := by decide +kernel
theorem dX9_expand_20 : decode cX9_expand 20 = .ok (.iconst 0, 1) := by decide +kernel
theorem dX9_expand_21 : decode cX9_expand 21 = .ok (.putfield 70, 3) := by decide +kernel
theorem dX9_expand_24 : decode cX9_expand 24 = .ok (.aload_n 0, 1) := by decide +kernel
theorem dX9_expand_25 : decode cX9_expand 25 = .ok (.iconst 0, 1) := by decide +kernel
theorem dX9_expand_26 : decode cX9_expand 26 = .ok (.putfield 184, 3) := by decide +kernel
theorem dX9_expand_29 : decode cX9_expand 29 = .ok (.aload_n 0, 1) := by decide +kernel
theorem dX9_expand_30 : decode cX9_expand 30 = .ok (.iconst 0, 1) := by decide +kernel
theorem dX9_expand_31 : decode cX9_expand 31 = .ok (.putfield 187, 3) := by decide +kernel
theorem dX9_expand_34 : decode cX9_expand 34 = .ok (.aload_n 0, 1) := by decide +kernel
theorem dX9_expand_35 : decode cX9_expand 35 = .ok (.iconst 0, 1) := by decide +kernel
theorem dX9_expand_36 : decode cX9_expand 36 = .ok (.putfield 271, 3) := by decide +kernel
theorem dX9_expand_39 : decode cX9_expand 39 = .ok (.aload_n 0, 1) := by decide +kernel
theorem dX9_expand_40 : decode cX9_expand 40 = .ok (.iconst 0, 1) := by decide +kernel
theorem dX9_expand_41 : decode cX9_expand 41 = .ok (.putfield 178, 3) := by decide +kernel
theorem dX9_expand_44 : decode cX9_expand 44 = .ok (.aload_n 0, 1) := by decide +kernel
theorem dX9_expand_45 : decode cX9_expand 45 = .ok (.iconst 0, 1) := by decide +kernel
theorem dX9_expand_46 : decode cX9_expand 46 = .ok (.putfield 181, 3) := by decide +kernel
theorem dX9_expand_49 : decode cX9_expand 49 = .ok (.aload_n 0, 1) := by decide +kernel
theorem dX9_expand_50 : decode cX9_expand 50 = .ok (.iconst 0, 1) := by decide +kernel
theorem dX9_expand_51 : decode cX9_expand 51 = .ok (.putfield 265, 3) := by decide +kernel
theorem dX9_expand_54 : decode cX9_expand 54 = .ok (.aload_n 0, 1) := by decide +kernel
theorem dX9_expand_55 : decode cX9_expand 55 = .ok (.iload_n 2, 1) := by decide +kernel
theorem dX9_expand_56 : decode cX9_expand 56 = .ok (.ifCond .ge 7, 3) := by decide +kernel
theorem dX9_expand_59 : decode cX9_expand 59 = .ok (.iload_n 1, 1) := by decide +kernel
theorem dX9_expand_60 : decode cX9_expand 60 = .ok (.goto 4, 3) := by decide +kernel
theorem dX9_expand_63 : decode cX9_expand 63 = .ok (.iconst 0, 1) := by decide +kernel
theorem dX9_expand_64 : decode cX9_expand 64 = .ok (.putfield 245, 3) := by decide +kernel
theorem dX9_expand_67 : decode cX9_expand 67 = .ok (.aload_n 0, 1) := by decide +kernel
theorem dX9_expand_68 : decode cX9_expand 68 = .ok (.sipush 480, 3) := by decide +kernel
theorem dX9_expand_71 : decode cX9_expand 71 = .ok (.putfield 274, 3) := by decide +kernel
theorem dX9_expand_74 : decode cX9_expand 74 = .ok (.aload_n 0, 1) := by decide +kernel
theorem dX9_expand_75 : decode cX9_expand 75 = .ok (.invokevirtual 302, 3) := by decide +kernel
theorem dX9_expand_78 : decode cX9_expand 78 = .ok (.iload_n 2, 1) := by decide +kernel
theorem dX9_expand_79 : decode cX9_expand 79 = .ok (.ifCond .lt 7, 3) := by decide +kernel
theorem dX9_expand_82 : decode cX9_expand 82 = .ok (.iconst (-1), 1) := by decide +kernel
theorem dX9_expand_83 : decode cX9_expand 83 = .ok (.iload_n 2, 1) := by decide +kernel
theorem dX9_expand_84 : decode cX9_expand 84 = .ok (.isub, 1) := by decide +kernel
theorem dX9_expand_85 : decode cX9_expand 85 = .ok (.ireturn, 1) := by decide +kernel
theorem dX9_expand_86 : decode cX9_expand 86 = .ok (.aload_n 0, 1) := by decide +kernel
theorem dX9_expand_87 : decode cX9_expand 87 = .ok (.getfield 104, 3) := by decide +kernel
theorem dX9_expand_90 : decode cX9_expand 90 = .ok (.sipush 2600, 3) := by decide +kernel
theorem dX9_expand_93 : decode cX9_expand 93 = .ok (.if_icmp .ge 17, 3) := by decide +kernel
theorem dX9_expand_96 : decode cX9_expand 96 = .ok (.aload_n 0, 1) := by decide +kernel
theorem dX9_expand_97 : decode cX9_expand 97 = .ok (.getfield 178, 3) := by decide +kernel
theorem dX9_expand_100 : decode cX9_expand 100 = .ok (.ifCond .ne 10, 3) := by decide +kernel
theorem dX9_expand_103 : decode cX9_expand 103 = .ok (.aload_n 0, 1) := by decide +kernel
theorem dX9_expand_104 : decode cX9_expand 104 = .ok (.invokevirtual 305, 3) := by decide +kernel
theorem dX9_expand_107 : decode cX9_expand 107 = .ok (.goto (-21), 3) := by decide +kernel
theorem dX9_expand_110 : decode cX9_expand 110 = .ok (.aload_n 0, 1) := by decide +kernel
theorem dX9_expand_111 : decode cX9_expand 111 = .ok (.getfield 178, 3) := by decide +kernel
theorem dX9_expand_114 : decode cX9_expand 114 = .ok (.ifCond .eq 8, 3) := by decide +kernel
theorem dX9_expand_117 : decode cX9_expand 117 = .ok (.aload_n 0, 1) := by decide +kernel
theorem dX9_expand_118 : decode cX9_expand 118 = .ok (.iconst 0, 1) := by decide +kernel
theorem dX9_expand_119 : decode cX9_expand 119 = .ok (.putfield 184, 3) := by decide +kernel
theorem dX9_expand_122 : decode cX9_expand 122 = .ok (.aload_n 0, 1) := by decide +kernel
theorem dX9_expand_123 : decode cX9_expand 123 = .ok (.getfield 178, 3) := by decide +kernel
theorem dX9_expand_126 : decode cX9_expand 126 = .ok (.ifCond .eq 14, 3) := by decide +kernel
theorem dX9_expand_129 : decode cX9_expand 129 = .ok (.sipush (-1000), 3) := by decide +kernel
theorem dX9_expand_132 : decode cX9_expand 132 = .ok (.aload_n 0, 1) := by decide +kernel
theorem dX9_expand_133 : decode cX9_expand 133 = .ok (.getfield 178, 3) := by decide +kernel
theorem dX9_expand_136 : decode cX9_expand 136 = .ok (.imul, 1) := by decide +kernel
theorem dX9_expand_137 : decode cX9_expand 137 = .ok (.goto 7, 3) := by decide +kernel
theorem dX9_expand_140 : decode cX9_expand 140 = .ok (.aload_n 0, 1) := by decide +kernel
theorem dX9_expand_141 : decode cX9_expand 141 = .ok (.getfield 184, 3) := by decide +kernel
theorem dX9_expand_144 : decode cX9_expand 144 = .ok (.ireturn, 1) := by decide +kernel
theorem dX9_at_0 : decode cX9_at 0 = .ok (.iload_n 1, 1) := by decide +kernel
theorem dX9_at_1 : decode cX9_at 1 = .ok (.ifCond .lt 20, 3) := by decide +kernel
theorem dX9_at_4 : decode cX9_at 4 = .ok (.iload_n 1, 1) := by decide +kernel
theorem dX9_at_5 : decode cX9_at 5 = .ok (.aload_n 0, 1) := by decide +kernel
theorem dX9_at_6 : decode cX9_at 6 = .ok (.getfield 184, 3) := by decide +kernel
theorem dX9_at_9 : decode cX9_at 9 = .ok (.if_icmp .ge 12, 3) := by decide +kernel
theorem dX9_at_12 : decode cX9_at 12 = .ok (.aload_n 0, 1) := by decide +kernel
theorem dX9_at_13 : decode cX9_at 13 = .ok (.getfield 67, 3) := by decide +kernel
theorem dX9_at_16 : decode cX9_at 16 = .ok (.iload_n 1, 1) := by decide +kernel
theorem dX9_at_17 : decode cX9_at 17 = .ok (.iaload, 1) := by decide +kernel
theorem dX9_at_18 : decode cX9_at 18 = .ok (.goto 4, 3) := by decide +kernel
theorem dX9_at_21 : decode cX9_at 21 = .ok (.iconst (-1), 1) := by decide +kernel
theorem dX9_at_22 : decode cX9_at 22 = .ok (.ireturn, 1) := by decide +kernel
theorem dX9_count__0 : decode cX9_count_ 0 = .ok (.iload_n 1, 1) := by decide +kernel
theorem dX9_count__1 : decode cX9_count_ 1 = .ok (.tableswitch 56 0 3 #[31, 36, 46, 51], 31) := by decide +kernel
theorem dX9_count__32 : decode cX9_count_ 32 = .ok (.aload_n 0, 1) := by decide +kernel
theorem dX9_count__33 : decode cX9_count_ 33 = .ok (.getfield 181, 3) := by decide +kernel
theorem dX9_count__36 : decode cX9_count_ 36 = .ok (.ireturn, 1) := by decide +kernel
theorem dX9_count__37 : decode cX9_count_ 37 = .ok (.aload_n 0, 1) := by decide +kernel
theorem dX9_count__38 : decode cX9_count_ 38 = .ok (.getfield 160, 3) := by decide +kernel
theorem dX9_count__41 : decode cX9_count_ 41 = .ok (.aload_n 0, 1) := by decide +kernel
theorem dX9_count__42 : decode cX9_count_ 42 = .ok (.getfield 175, 3) := by decide +kernel
theorem dX9_count__45 : decode cX9_count_ 45 = .ok (.isub, 1) := by decide +kernel
theorem dX9_count__46 : decode cX9_count_ 46 = .ok (.ireturn, 1) := by decide +kernel
theorem dX9_count__47 : decode cX9_count_ 47 = .ok (.aload_n 0, 1) := by decide +kernel
theorem dX9_count__48 : decode cX9_count_ 48 = .ok (.getfield 265, 3) := by decide +kernel
theorem dX9_count__51 : decode cX9_count_ 51 = .ok (.ireturn, 1) := by decide +kernel
theorem dX9_count__52 : decode cX9_count_ 52 = .ok (.aload_n 0, 1) := by decide +kernel
theorem dX9_count__53 : decode cX9_count_ 53 = .ok (.getfield 245, 3) := by decide +kernel
theorem dX9_count__56 : decode cX9_count_ 56 = .ok (.ireturn, 1) := by decide +kernel
theorem dX9_count__57 : decode cX9_count_ 57 = .ok (.iconst (-1), 1) := by decide +kernel
theorem dX9_count__58 : decode cX9_count_ 58 = .ok (.ireturn, 1) := by decide +kernel
theorem iw_X9_expand_X9 : ∀ w ∈ wsX90, w ∈ wsX9_expand := by decide +kernel
theorem lk_X9_expand_70 : Cond.fieldLink RX9 70 "MarkedNamesModel" "length" "I" ∈ wsX9_expand := by decide +kernel
theorem lk_X9_expand_184 : Cond.fieldLink RX9 184 "MarkedNamesModel" "size" "I" ∈ wsX9_expand := by decide +kernel
theorem lk_X9_expand_187 : Cond.fieldLink RX9 187 "MarkedNamesModel" "gap" "Z" ∈ wsX9_expand := by decide +kernel
theorem lk_X9_expand_271 : Cond.fieldLink RX9 271 "MarkedNamesModel" "deep" "I" ∈ wsX9_expand := by decide +kernel
theorem lk_X9_expand_178 : Cond.fieldLink RX9 178 "MarkedNamesModel" "error" "I" ∈ wsX9_expand := by decide +kernel
theorem lk_X9_expand_181 : Cond.fieldLink RX9 181 "MarkedNamesModel" "scopesMade" "I" ∈ wsX9_expand := by decide +kernel
theorem lk_X9_expand_265 : Cond.fieldLink RX9 265 "MarkedNamesModel" "variables" "I" ∈ wsX9_expand := by decide +kernel
theorem lk_X9_expand_245 : Cond.fieldLink RX9 245 "MarkedNamesModel" "fuelLeft" "I" ∈ wsX9_expand := by decide +kernel
theorem lk_X9_expand_274 : Cond.fieldLink RX9 274 "MarkedNamesModel" "keptEnd" "I" ∈ wsX9_expand := by decide +kernel
theorem lk_X9_expand_104 : Cond.fieldLink RX9 104 "MarkedNamesModel" "head" "I" ∈ wsX9_expand := by decide +kernel
theorem iw_X9_step_X9 : ∀ w ∈ wsX90, w ∈ wsX9_step := by decide +kernel
theorem lk_X9_step_13 : Cond.fieldLink RX9 13 "MarkedNamesModel" "row" "[I" ∈ wsX9_step := by decide +kernel
theorem lk_X9_step_104 : Cond.fieldLink RX9 104 "MarkedNamesModel" "head" "I" ∈ wsX9_step := by decide +kernel
theorem lk_X9_step_187 : Cond.fieldLink RX9 187 "MarkedNamesModel" "gap" "Z" ∈ wsX9_step := by decide +kernel
theorem lk_X9_step_178 : Cond.fieldLink RX9 178 "MarkedNamesModel" "error" "I" ∈ wsX9_step := by decide +kernel
theorem iw_X9_list_X9 : ∀ w ∈ wsX90, w ∈ wsX9_list := by decide +kernel
theorem lk_X9_list_271 : Cond.fieldLink RX9 271 "MarkedNamesModel" "deep" "I" ∈ wsX9_list := by decide +kernel
theorem lk_X9_list_13 : Cond.fieldLink RX9 13 "MarkedNamesModel" "row" "[I" ∈ wsX9_list := by decide +kernel
theorem lk_X9_list_104 : Cond.fieldLink RX9 104 "MarkedNamesModel" "head" "I" ∈ wsX9_list := by decide +kernel
theorem lk_X9_list_16 : Cond.fieldLink RX9 16 "MarkedNamesModel" "set" "[I" ∈ wsX9_list := by decide +kernel
theorem lk_X9_list_37 : Cond.fieldLink RX9 37 "MarkedNamesModel" "meaning" "[I" ∈ wsX9_list := by decide +kernel
theorem lk_X9_list_40 : Cond.fieldLink RX9 40 "MarkedNamesModel" "from" "[I" ∈ wsX9_list := by decide +kernel
theorem lk_X9_step_271 : Cond.fieldLink RX9 271 "MarkedNamesModel" "deep" "I" ∈ wsX9_step := by decide +kernel
theorem iw_X9_at_X9 : ∀ w ∈ wsX90, w ∈ wsX9_at := by decide +kernel
theorem lk_X9_at_184 : Cond.fieldLink RX9 184 "MarkedNamesModel" "size" "I" ∈ wsX9_at := by decide +kernel
theorem lk_X9_at_67 : Cond.fieldLink RX9 67 "MarkedNamesModel" "text" "[I" ∈ wsX9_at := by decide +kernel
theorem iw_X9_count__X9 : ∀ w ∈ wsX90, w ∈ wsX9_count_ := by decide +kernel
theorem lk_X9_count__181 : Cond.fieldLink RX9 181 "MarkedNamesModel" "scopesMade" "I" ∈ wsX9_count_ := by decide +kernel
theorem lk_X9_count__160 : Cond.fieldLink RX9 160 "MarkedNamesModel" "bindings" "I" ∈ wsX9_count_ := by decide +kernel
theorem lk_X9_count__175 : Cond.fieldLink RX9 175 "MarkedNamesModel" "atFirst" "I" ∈ wsX9_count_ := by decide +kernel
theorem lk_X9_count__265 : Cond.fieldLink RX9 265 "MarkedNamesModel" "variables" "I" ∈ wsX9_count_ := by decide +kernel
theorem lk_X9_count__245 : Cond.fieldLink RX9 245 "MarkedNamesModel" "fuelLeft" "I" ∈ wsX9_count_ := by decide +kernel
section
variable {l : Launch} {p : Program} {e : Env} {s : State} {m : MethodId} {args : Array Value} {below : List Frame} {meth : Method} {c : Code} {A : Nat → Prop} {dC : Nat → ClassId} {dI : Nat → Nat → Nat} {cA : ClassId} {a b : Nat → Nat} {lev : Nat}
set_option maxHeartbeats 4000000 in
set_option maxRecDepth 100000 in
theorem wj_X9_list_94_ok (C : mC p s m args meth c cX9_list 3 wsX9_list RX9 none (dC, dI) vwCl [(cA, .int)] A) (hs : eM A s) (hlev : 8 ≤ lev) {post : mS → Prop} {z0 : Int32} {u : mS} (hw : wj_X9_list_94 post z0 u) : mV p l e (mRm lev) s m args below meth c 3 (dC, dI) vwCl A 0 0 (mQv below args s (dC, dI) vwCl [(cA, .int)] (wM cA b) A post) (wM cA b u) 94 [] [.int z0, .ref (b 0)] := by
  unfold wj_X9_list_94 at hw
  refine mv_callVv (f := wM cA b) (As := [.int z0]) (rest := []) C eM_ok hs 0 rfl rfl (X9_fails_met (l := l) (lev := lev - 1) (by omega) hw) (cwV 1 C.2.2.2.2.1 gX9_list_X9_fails rfl rfl rfl (by decide +kernel) (mRm_le (by omega) (by decide))) rfl rfl (Nat.le_of_ble_eq_true rfl) dX9_list_94 ⟨Nat.le_refl 0, Nat.le_refl 0⟩ (fun u31 hw => ?_)
  refine mv_goto (tgt := 174) C dX9_list_97 (by decide) ?_
  exact mv_vret C dX9_list_174 hw
set_option maxHeartbeats 4000000 in
set_option maxRecDepth 100000 in
theorem wj_X9_list_150_ok (C : mC p s m args meth c cX9_list 3 wsX9_list RX9 none (dC, dI) vwCl [(cA, .int)] A) (hs : eM A s) (hlev : 8 ≤ lev) {post : mS → Prop} {u : mS} (hw : wj_X9_list_150 post  u) : mV p l e (mRm lev) s m args below meth c 3 (dC, dI) vwCl A 0 0 (mQv below args s (dC, dI) vwCl [(cA, .int)] (wM cA b) A post) (wM cA b u) 150 [(0, .ref (b 0))] [] := by
  unfold wj_X9_list_150 at hw
  refine mv_aload_n C dX9_list_150 rfl 0 rfl ?_
  refine mv_callVv (f := wM cA b) (As := []) (rest := []) C eM_ok hs 0 rfl rfl (X9_putOpen_met (l := l) (lev := lev - 1) (by omega) hw) (cwV 0 C.2.2.2.2.1 gX9_list_X9_putOpen rfl rfl rfl (by decide +kernel) (mRm_le (by omega) (by decide))) rfl rfl (Nat.le_of_ble_eq_true rfl) dX9_list_151 ⟨Nat.le_refl 0, Nat.le_refl 0⟩ (fun u38 hw => ?_)
  refine mv_aload_n C dX9_list_154 rfl 0 rfl ?_
  refine mv_dup C dX9_list_155 rfl ?_
  refine mv_get (v := .int (u38.1 11)) C iw_X9_list_X9 0 rfl rfl 31 (by decide) lk_X9_list_271 rfl rfl dX9_list_156 ?_
  refine mv_topi (fun y39 ey39 => ?_)
  have hw := hw y39 ey39
  refine mv_iconst (v := (1 : Int32)) C dX9_list_159 (by decide) ?_
  refine mv_iadd C dX9_list_160 ?_
  refine mv_topi (fun y40 ey40 => ?_)
  have hw := hw y40 ey40
  refine mv_put (ty := .int) (ws1 := wM cA b (mSet u38 11 y40)) C iw_X9_list_X9 tyX9 tyX9_ok nmX9 0 rfl rfl 31 (by decide) lk_X9_list_271 rfl rfl rfl rfl rfl (Nat.le_of_ble_eq_true rfl) rfl dX9_list_161 ?_
  refine mv_nm (f := wM cA b) (fun u41 eu41 => ?_)
  have hw := hw u41 eu41
  refine mv_aload_n C dX9_list_164 rfl 0 rfl ?_
  refine mv_dup C dX9_list_165 rfl ?_
  refine mv_get (v := .int (u41.1 1)) C iw_X9_list_X9 0 rfl rfl 4 (by decide) lk_X9_list_104 rfl rfl dX9_list_166 ?_
  refine mv_topi (fun y42 ey42 => ?_)
  have hw := hw y42 ey42
  refine mv_iconst (v := (1 : Int32)) C dX9_list_169 (by decide) ?_
  refine mv_iadd C dX9_list_170 ?_
  refine mv_topi (fun y43 ey43 => ?_)
  have hw := hw y43 ey43
  refine mv_put (ty := .int) (ws1 := wM cA b (mSet u41 1 y43)) C iw_X9_list_X9 tyX9 tyX9_ok nmX9 0 rfl rfl 4 (by decide) lk_X9_list_104 rfl rfl rfl rfl rfl (Nat.le_of_ble_eq_true rfl) rfl dX9_list_171 ?_
  refine mv_nm (f := wM cA b) (fun u44 eu44 => ?_)
  have hw := hw u44 eu44
  exact mv_vret C dX9_list_174 hw
set_option maxHeartbeats 4000000 in
set_option maxRecDepth 100000 in
theorem wj_X9_list_127_ok (C : mC p s m args meth c cX9_list 3 wsX9_list RX9 none (dC, dI) vwCl [(cA, .int)] A) (hs : eM A s) (hlev : 8 ≤ lev) {post : mS → Prop} {x1 x2 : Int32} {u : mS} (hw : wj_X9_list_127 post x1 x2 u) : mV p l e (mRm lev) s m args below meth c 3 (dC, dI) vwCl A 0 0 (mQv below args s (dC, dI) vwCl [(cA, .int)] (wM cA b) A post) (wM cA b u) 127 [(0, .ref (b 0)), (1, .int x1), (2, .int x2)] [] := by
  unfold wj_X9_list_127 at hw
  refine mv_iload_n C dX9_list_127 rfl 1 rfl ?_
  refine mv_iconst (v := (3 : Int32)) C dX9_list_128 (by decide) ?_
  refine mv_icmp_ne (tgt := 150) C dX9_list_129 (by decide) (fun h32 => ?_) (fun h32 => ?_)
  · have hw := hw.1 h32
    refine mv_sub [0] rfl ?_
    exact wj_X9_list_150_ok C hs hlev hw
  · have hw := hw.2 h32
    refine mv_aload_n C dX9_list_132 rfl 0 rfl ?_
    refine mv_get (v := .ref (b 10)) C iw_X9_list_X9 0 rfl rfl 15 (by decide) lk_X9_list_37 rfl rfl dX9_list_133 ?_
    refine mv_iload_n C dX9_list_136 rfl 2 rfl ?_
    refine mv_iald (f := u.2 9) C 10 0 rfl rfl hw.1 dX9_list_137 ?_
    refine mv_topi (fun y33 ey33 => ?_)
    have hw := hw.2 y33 ey33
    refine mv_iconst (v := (3 : Int32)) C dX9_list_138 (by decide) ?_
    refine mv_icmp_ne (tgt := 150) C dX9_list_139 (by decide) (fun h34 => ?_) (fun h34 => ?_)
    · have hw := hw.1 h34
      refine mv_sub [0] rfl ?_
      exact wj_X9_list_150_ok C hs hlev hw
    · have hw := hw.2 h34
      refine mv_aload_n C dX9_list_142 rfl 0 rfl ?_
      refine mv_iload_n C dX9_list_143 rfl 2 rfl ?_
      refine mv_callVv (f := wM cA b) (As := [.int x2]) (rest := []) C eM_ok hs 0 rfl rfl (X9_use_met (l := l) (lev := lev - 1) (by omega) hw) (cwV 1 C.2.2.2.2.1 gX9_list_X9_use rfl rfl rfl (by decide +kernel) (mRm_le (by omega) (by decide))) rfl rfl (Nat.le_of_ble_eq_true rfl) dX9_list_144 ⟨Nat.le_refl 0, Nat.le_refl 0⟩ (fun u36 hw => ?_)
      refine mv_goto (tgt := 174) C dX9_list_147 (by decide) ?_
      exact mv_vret C dX9_list_174 hw
set_option maxHeartbeats 4000000 in
set_option maxRecDepth 100000 in
theorem wj_X9_list_78_ok (C : mC p s m args meth c cX9_list 3 wsX9_list RX9 none (dC, dI) vwCl [(cA, .int)] A) (hs : eM A s) (hlev : 8 ≤ lev) {post : mS → Prop} {x1 z0 : Int32} {u : mS} (hw : wj_X9_list_78 post x1 z0 u) : mV p l e (mRm lev) s m args below meth c 3 (dC, dI) vwCl A 0 0 (mQv below args s (dC, dI) vwCl [(cA, .int)] (wM cA b) A post) (wM cA b u) 78 [(0, .ref (b 0)), (1, .int x1)] [.int z0] := by
  unfold wj_X9_list_78 at hw
  refine mv_istore_n (lv1 := [(2, .int z0), (0, .ref (b 0)), (1, .int x1)]) C dX9_list_78 rfl (by decide) rfl ?_
  refine mv_iload_n C dX9_list_79 rfl 0 rfl ?_
  refine mv_if_ge (tgt := 100) C dX9_list_80 (by decide) (fun h22 => ?_) (fun h22 => ?_)
  · have hw := hw.1 h22
    refine mv_iload_n C dX9_list_100 rfl 2 rfl ?_
    refine mv_iconst (v := (3 : Int32)) C dX9_list_101 (by decide) ?_
    refine mv_icmp_ne (tgt := 127) C dX9_list_102 (by decide) (fun h23 => ?_) (fun h23 => ?_)
    · have hw := hw.1 h23
      refine mv_sub [1, 2, 0] rfl ?_
      exact wj_X9_list_127_ok C hs hlev hw
    · have hw := hw.2 h23
      refine mv_aload_n C dX9_list_105 rfl 1 rfl ?_
      refine mv_get (v := .ref (b 10)) C iw_X9_list_X9 0 rfl rfl 15 (by decide) lk_X9_list_37 rfl rfl dX9_list_106 ?_
      refine mv_iload_n C dX9_list_109 rfl 0 rfl ?_
      refine mv_iald (f := u.2 9) C 10 0 rfl rfl hw.1 dX9_list_110 ?_
      refine mv_topi (fun y24 ey24 => ?_)
      have hw := hw.2 y24 ey24
      refine mv_if_ne (tgt := 127) C dX9_list_111 (by decide) (fun h25 => ?_) (fun h25 => ?_)
      · have hw := hw.1 h25
        refine mv_sub [1, 2, 0] rfl ?_
        exact wj_X9_list_127_ok C hs hlev hw
      · have hw := hw.2 h25
        refine mv_aload_n C dX9_list_114 rfl 1 rfl ?_
        refine mv_aload_n C dX9_list_115 rfl 1 rfl ?_
        refine mv_get (v := .ref (b 11)) C iw_X9_list_X9 0 rfl rfl 16 (by decide) lk_X9_list_40 rfl rfl dX9_list_116 ?_
        refine mv_iload_n C dX9_list_119 rfl 0 rfl ?_
        refine mv_iald (f := u.2 10) C 11 0 rfl rfl hw.1 dX9_list_120 ?_
        refine mv_topi (fun y26 ey26 => ?_)
        have hw := hw.2 y26 ey26
        refine mv_callVv (f := wM cA b) (As := [.int y26]) (rest := []) C eM_ok hs 0 rfl rfl (X9_form_met (l := l) (lev := lev - 1) (by omega) hw) (cwV 1 C.2.2.2.2.1 gX9_list_X9_form rfl rfl rfl (by decide +kernel) (mRm_le (by omega) (by decide))) rfl rfl (Nat.le_of_ble_eq_true rfl) dX9_list_121 ⟨Nat.le_refl 0, Nat.le_refl 0⟩ (fun u28 hw => ?_)
        refine mv_goto (tgt := 174) C dX9_list_124 (by decide) ?_
        exact mv_vret C dX9_list_174 hw
  · have hw := hw.2 h22
    refine mv_aload_n C dX9_list_83 rfl 1 rfl ?_
    refine mv_iload_n C dX9_list_84 rfl 0 rfl ?_
    refine mv_iconst (v := (-1 : Int32)) C dX9_list_85 (by decide) ?_
    refine mv_icmp_ne (tgt := 93) C dX9_list_86 (by decide) (fun h29 => ?_) (fun h29 => ?_)
    · have hw := hw.1 h29
      refine mv_iconst (v := (2 : Int32)) C dX9_list_93 (by decide) ?_
      refine mv_sub [] rfl ?_
      exact wj_X9_list_94_ok C hs hlev hw
    · have hw := hw.2 h29
      refine mv_iconst (v := (1 : Int32)) C dX9_list_89 (by decide) ?_
      refine mv_goto (tgt := 94) C dX9_list_90 (by decide) ?_
      refine mv_sub [] rfl ?_
      exact wj_X9_list_94_ok C hs hlev hw
set_option maxHeartbeats 4000000 in
set_option maxRecDepth 100000 in
theorem X9_list_met (hlev : 8 ≤ lev) {u : mS} {post : mS → Prop} (hw : wp_X9_list  u post) : mKv l yX9_list wsX9_list lev (eM) (dC, dI) vwCl [(cA, .int)] (wM cA b) [.ref (b 0)] u post := by
  refine mKv_of (cc := cX9_list) (maxL := 3) (by decide) rfl rfl (Nat.le_of_ble_eq_true rfl) rfl ?_
  intro p e s m args below meth c A C hs
  unfold wp_X9_list at hw
  refine mv_aload_n C dX9_list_0 rfl 0 rfl ?_
  refine mv_get (v := .int (u.1 11)) C iw_X9_list_X9 0 rfl rfl 31 (by decide) lk_X9_list_271 rfl rfl dX9_list_1 ?_
  refine mv_topi (fun y1 ey1 => ?_)
  have hw := hw y1 ey1
  refine mv_bipush (v := (9 : Int32)) C dX9_list_4 (by decide) ?_
  refine mv_icmp_le (tgt := 16) C dX9_list_6 (by decide) (fun h2 => ?_) (fun h2 => ?_)
  · have hw := hw.1 h2
    refine mv_aload_n C dX9_list_16 rfl 0 rfl ?_
    refine mv_get (v := .ref (b 2)) C iw_X9_list_X9 0 rfl rfl 2 (by decide) lk_X9_list_13 rfl rfl dX9_list_17 ?_
    refine mv_aload_n C dX9_list_20 rfl 0 rfl ?_
    refine mv_get (v := .int (u.1 1)) C iw_X9_list_X9 0 rfl rfl 4 (by decide) lk_X9_list_104 rfl rfl dX9_list_21 ?_
    refine mv_topi (fun y3 ey3 => ?_)
    have hw := hw y3 ey3
    refine mv_iconst (v := (1 : Int32)) C dX9_list_24 (by decide) ?_
    refine mv_iadd C dX9_list_25 ?_
    refine mv_topi (fun y4 ey4 => ?_)
    have hw := hw y4 ey4
    refine mv_callSi (f := wM cA b) (As := [.ref (b 2), .int y4]) (rest := []) C eM_ok hs (X9_kind_2_met (l := l) (lev := lev - 1) (by omega) hw) (va_cwS 2 C.2.2.2.2.1 gX9_list_X9_kind rfl rfl rfl (by decide +kernel) (mRm_le (by omega) (by decide))) rfl rfl (Nat.le_of_ble_eq_true rfl) dX9_list_26 ⟨Nat.le_refl 0, Nat.le_refl 0⟩ (fun r5 u6 hw => ?_)
    refine mv_istore_n (lv1 := [(1, .int r5), (0, .ref (b 0))]) C dX9_list_29 rfl (by decide) rfl ?_
    refine mv_iload_n C dX9_list_30 rfl 0 rfl ?_
    refine mv_iconst (v := (2 : Int32)) C dX9_list_31 (by decide) ?_
    refine mv_icmp_ne (tgt := 41) C dX9_list_32 (by decide) (fun h7 => ?_) (fun h7 => ?_)
    · have hw := hw.1 h7
      refine mv_iload_n C dX9_list_41 rfl 0 rfl ?_
      refine mv_iconst (v := (3 : Int32)) C dX9_list_42 (by decide) ?_
      refine mv_icmp_ne (tgt := 77) C dX9_list_43 (by decide) (fun h8 => ?_) (fun h8 => ?_)
      · have hw := hw.1 h8
        refine mv_iconst (v := (0 : Int32)) C dX9_list_77 (by decide) ?_
        refine mv_sub [1, 0] rfl ?_
        exact wj_X9_list_78_ok C hs hlev hw
      · have hw := hw.2 h8
        refine mv_aload_n C dX9_list_46 rfl 1 rfl ?_
        refine mv_aload_n C dX9_list_47 rfl 1 rfl ?_
        refine mv_get (v := .ref (b 2)) C iw_X9_list_X9 0 rfl rfl 2 (by decide) lk_X9_list_13 rfl rfl dX9_list_48 ?_
        refine mv_aload_n C dX9_list_51 rfl 1 rfl ?_
        refine mv_get (v := .int (u6.1 1)) C iw_X9_list_X9 0 rfl rfl 4 (by decide) lk_X9_list_104 rfl rfl dX9_list_52 ?_
        refine mv_topi (fun y9 ey9 => ?_)
        have hw := hw y9 ey9
        refine mv_iconst (v := (1 : Int32)) C dX9_list_55 (by decide) ?_
        refine mv_iadd C dX9_list_56 ?_
        refine mv_topi (fun y10 ey10 => ?_)
        have hw := hw y10 ey10
        refine mv_callSi (f := wM cA b) (As := [.ref (b 2), .int y10]) (rest := [.ref (b 0)]) C eM_ok hs (X9_what_2_met (l := l) (lev := lev - 1) (by omega) hw) (va_cwS 2 C.2.2.2.2.1 gX9_list_X9_what rfl rfl rfl (by decide +kernel) (mRm_le (by omega) (by decide))) rfl rfl (Nat.le_of_ble_eq_true rfl) dX9_list_57 ⟨Nat.le_refl 0, Nat.le_refl 0⟩ (fun r11 u12 hw => ?_)
        refine mv_aload_n C dX9_list_60 rfl 1 rfl ?_
        refine mv_get (v := .ref (b 3)) C iw_X9_list_X9 0 rfl rfl 3 (by decide) lk_X9_list_16 rfl rfl dX9_list_61 ?_
        refine mv_aload_n C dX9_list_64 rfl 1 rfl ?_
        refine mv_get (v := .int (u12.1 1)) C iw_X9_list_X9 0 rfl rfl 4 (by decide) lk_X9_list_104 rfl rfl dX9_list_65 ?_
        refine mv_topi (fun y13 ey13 => ?_)
        have hw := hw y13 ey13
        refine mv_iconst (v := (1 : Int32)) C dX9_list_68 (by decide) ?_
        refine mv_iadd C dX9_list_69 ?_
        refine mv_topi (fun y14 ey14 => ?_)
        have hw := hw y14 ey14
        refine mv_iald (f := u12.2 2) C 3 0 rfl rfl hw.1 dX9_list_70 ?_
        refine mv_topi (fun y15 ey15 => ?_)
        have hw := hw.2 y15 ey15
        refine mv_callVi (f := wM cA b) (As := [.int r11, .int y15]) (rest := []) C eM_ok hs 0 rfl rfl (X9_means_met (l := l) (lev := lev - 1) (by omega) hw) (cwV 2 C.2.2.2.2.1 gX9_list_X9_means rfl rfl rfl (by decide +kernel) (mRm_le (by omega) (by decide))) rfl rfl (Nat.le_of_ble_eq_true rfl) dX9_list_71 ⟨Nat.le_refl 0, Nat.le_refl 0⟩ (fun r16 u17 hw => ?_)
        refine mv_goto (tgt := 78) C dX9_list_74 (by decide) ?_
        refine mv_sub [1, 0] rfl ?_
        exact wj_X9_list_78_ok C hs hlev hw
    · have hw := hw.2 h7
      refine mv_aload_n C dX9_list_35 rfl 1 rfl ?_
      refine mv_iconst (v := (3 : Int32)) C dX9_list_36 (by decide) ?_
      refine mv_callVv (f := wM cA b) (As := [.int (3 : Int32)]) (rest := []) C eM_ok hs 0 rfl rfl (X9_fails_met (l := l) (lev := lev - 1) (by omega) hw) (cwV 1 C.2.2.2.2.1 gX9_list_X9_fails rfl rfl rfl (by decide +kernel) (mRm_le (by omega) (by decide))) rfl rfl (Nat.le_of_ble_eq_true rfl) dX9_list_37 ⟨Nat.le_refl 0, Nat.le_refl 0⟩ (fun u19 hw => ?_)
      exact mv_vret C dX9_list_40 hw
  · have hw := hw.2 h2
    refine mv_aload_n C dX9_list_9 rfl 0 rfl ?_
    refine mv_bipush (v := (6 : Int32)) C dX9_list_10 (by decide) ?_
    refine mv_callVv (f := wM cA b) (As := [.int (6 : Int32)]) (rest := []) C eM_ok hs 0 rfl rfl (X9_fails_met (l := l) (lev := lev - 1) (by omega) hw) (cwV 1 C.2.2.2.2.1 gX9_list_X9_fails rfl rfl rfl (by decide +kernel) (mRm_le (by omega) (by decide))) rfl rfl (Nat.le_of_ble_eq_true rfl) dX9_list_12 ⟨Nat.le_refl 0, Nat.le_refl 0⟩ (fun u21 hw => ?_)
    exact mv_vret C dX9_list_15 hw
set_option maxHeartbeats 4000000 in
set_option maxRecDepth 100000 in
theorem wj_X9_step_125_ok (C : mC p s m args meth c cX9_step 2 wsX9_step RX9 none (dC, dI) vwCl [(cA, .int)] A) (hs : eM A s) (hlev : 9 ≤ lev) {post : mS → Prop} {u : mS} (hw : wj_X9_step_125 post  u) : mV p l e (mRm lev) s m args below meth c 2 (dC, dI) vwCl A 0 0 (mQv below args s (dC, dI) vwCl [(cA, .int)] (wM cA b) A post) (wM cA b u) 125 [(0, .ref (b 0))] [] := by
  unfold wj_X9_step_125 at hw
  refine mv_aload_n C dX9_step_125 rfl 0 rfl ?_
  refine mv_dup C dX9_step_126 rfl ?_
  refine mv_get (v := .int (u.1 11)) C iw_X9_step_X9 0 rfl rfl 31 (by decide) lk_X9_step_271 rfl rfl dX9_step_127 ?_
  refine mv_topi (fun y34 ey34 => ?_)
  have hw := hw y34 ey34
  refine mv_iconst (v := (1 : Int32)) C dX9_step_130 (by decide) ?_
  refine mv_isub C dX9_step_131 ?_
  refine mv_topi (fun y35 ey35 => ?_)
  have hw := hw y35 ey35
  refine mv_put (ty := .int) (ws1 := wM cA b (mSet u 11 y35)) C iw_X9_step_X9 tyX9 tyX9_ok nmX9 0 rfl rfl 31 (by decide) lk_X9_step_271 rfl rfl rfl rfl rfl (Nat.le_of_ble_eq_true rfl) rfl dX9_step_132 ?_
  refine mv_nm (f := wM cA b) (fun u36 eu36 => ?_)
  have hw := hw u36 eu36
  refine mv_aload_n C dX9_step_135 rfl 0 rfl ?_
  refine mv_dup C dX9_step_136 rfl ?_
  refine mv_get (v := .int (u36.1 1)) C iw_X9_step_X9 0 rfl rfl 4 (by decide) lk_X9_step_104 rfl rfl dX9_step_137 ?_
  refine mv_topi (fun y37 ey37 => ?_)
  have hw := hw y37 ey37
  refine mv_iconst (v := (1 : Int32)) C dX9_step_140 (by decide) ?_
  refine mv_iadd C dX9_step_141 ?_
  refine mv_topi (fun y38 ey38 => ?_)
  have hw := hw y38 ey38
  refine mv_put (ty := .int) (ws1 := wM cA b (mSet u36 1 y38)) C iw_X9_step_X9 tyX9 tyX9_ok nmX9 0 rfl rfl 4 (by decide) lk_X9_step_104 rfl rfl rfl rfl rfl (Nat.le_of_ble_eq_true rfl) rfl dX9_step_142 ?_
  refine mv_nm (f := wM cA b) (fun u39 eu39 => ?_)
  have hw := hw u39 eu39
  refine mv_goto (tgt := 153) C dX9_step_145 (by decide) ?_
  exact mv_vret C dX9_step_153 hw
set_option maxHeartbeats 4000000 in
set_option maxRecDepth 100000 in
theorem wj_X9_step_116_ok (C : mC p s m args meth c cX9_step 2 wsX9_step RX9 none (dC, dI) vwCl [(cA, .int)] A) (hs : eM A s) (hlev : 9 ≤ lev) {post : mS → Prop} {x1 : Int32} {u : mS} (hw : wj_X9_step_116 post x1 u) : mV p l e (mRm lev) s m args below meth c 2 (dC, dI) vwCl A 0 0 (mQv below args s (dC, dI) vwCl [(cA, .int)] (wM cA b) A post) (wM cA b u) 116 [(0, .ref (b 0)), (1, .int x1)] [] := by
  unfold wj_X9_step_116 at hw
  refine mv_iload_n C dX9_step_116 rfl 1 rfl ?_
  refine mv_iconst (v := (2 : Int32)) C dX9_step_117 (by decide) ?_
  refine mv_icmp_ne (tgt := 125) C dX9_step_118 (by decide) (fun h31 => ?_) (fun h31 => ?_)
  · have hw := hw.1 h31
    refine mv_sub [0] rfl ?_
    exact wj_X9_step_125_ok C hs hlev hw
  · have hw := hw.2 h31
    refine mv_aload_n C dX9_step_121 rfl 0 rfl ?_
    refine mv_callVv (f := wM cA b) (As := []) (rest := []) C eM_ok hs 0 rfl rfl (X9_putClose_met (l := l) (lev := lev - 1) (by omega) hw) (cwV 0 C.2.2.2.2.1 gX9_step_X9_putClose rfl rfl rfl (by decide +kernel) (mRm_le (by omega) (by decide))) rfl rfl (Nat.le_of_ble_eq_true rfl) dX9_step_122 ⟨Nat.le_refl 0, Nat.le_refl 0⟩ (fun u33 hw => ?_)
    refine mv_sub [0] rfl ?_
    exact wj_X9_step_125_ok C hs hlev hw
set_option maxHeartbeats 4000000 in
set_option maxRecDepth 100000 in
theorem wj_X9_step_47_ok (C : mC p s m args meth c cX9_step 2 wsX9_step RX9 none (dC, dI) vwCl [(cA, .int)] A) (hs : eM A s) (hlev : 9 ≤ lev) {post : mS → Prop} {x1 : Int32} {u : mS} (hw : wj_X9_step_47 post x1 u) : mV p l e (mRm lev) s m args below meth c 2 (dC, dI) vwCl A 0 0 (mQv below args s (dC, dI) vwCl [(cA, .int)] (wM cA b) A post) (wM cA b u) 47 [(0, .ref (b 0)), (1, .int x1)] [] := by
  unfold wj_X9_step_47 at hw
  refine mv_aload_n C dX9_step_47 rfl 0 rfl ?_
  refine mv_get (v := .int (u.1 12)) C iw_X9_step_X9 0 rfl rfl 32 (by decide) lk_X9_step_178 rfl rfl dX9_step_48 ?_
  refine mv_topi (fun y12 ey12 => ?_)
  have hw := hw y12 ey12
  refine mv_if_eq (tgt := 55) C dX9_step_51 (by decide) (fun h13 => ?_) (fun h13 => ?_)
  · have hw := hw.1 h13
    refine mv_iload_n C dX9_step_55 rfl 1 rfl ?_
    refine mv_iconst (v := (1 : Int32)) C dX9_step_56 (by decide) ?_
    refine mv_icmp_ne (tgt := 67) C dX9_step_57 (by decide) (fun h14 => ?_) (fun h14 => ?_)
    · have hw := hw.1 h14
      refine mv_iload_n C dX9_step_67 rfl 1 rfl ?_
      refine mv_iconst (v := (3 : Int32)) C dX9_step_68 (by decide) ?_
      refine mv_icmp_ne (tgt := 79) C dX9_step_69 (by decide) (fun h15 => ?_) (fun h15 => ?_)
      · have hw := hw.1 h15
        refine mv_iload_n C dX9_step_79 rfl 1 rfl ?_
        refine mv_iconst (v := (4 : Int32)) C dX9_step_80 (by decide) ?_
        refine mv_icmp_ne (tgt := 105) C dX9_step_81 (by decide) (fun h16 => ?_) (fun h16 => ?_)
        · have hw := hw.1 h16
          refine mv_iload_n C dX9_step_105 rfl 1 rfl ?_
          refine mv_iconst (v := (2 : Int32)) C dX9_step_106 (by decide) ?_
          refine mv_icmp_eq (tgt := 116) C dX9_step_107 (by decide) (fun h17 => ?_) (fun h17 => ?_)
          · have hw := hw.1 h17
            exact wj_X9_step_116_ok C hs hlev hw
          · have hw := hw.2 h17
            refine mv_iload_n C dX9_step_110 rfl 1 rfl ?_
            refine mv_bipush (v := (7 : Int32)) C dX9_step_111 (by decide) ?_
            refine mv_icmp_ne (tgt := 148) C dX9_step_113 (by decide) (fun h18 => ?_) (fun h18 => ?_)
            · have hw := hw.1 h18
              refine mv_aload_n C dX9_step_148 rfl 0 rfl ?_
              refine mv_iconst (v := (3 : Int32)) C dX9_step_149 (by decide) ?_
              refine mv_callVv (f := wM cA b) (As := [.int (3 : Int32)]) (rest := []) C eM_ok hs 0 rfl rfl (X9_fails_met (l := l) (lev := lev - 1) (by omega) hw) (cwV 1 C.2.2.2.2.1 gX9_step_X9_fails rfl rfl rfl (by decide +kernel) (mRm_le (by omega) (by decide))) rfl rfl (Nat.le_of_ble_eq_true rfl) dX9_step_150 ⟨Nat.le_refl 0, Nat.le_refl 0⟩ (fun u20 hw => ?_)
              exact mv_vret C dX9_step_153 hw
            · have hw := hw.2 h18
              exact wj_X9_step_116_ok C hs hlev hw
        · have hw := hw.2 h16
          refine mv_aload_n C dX9_step_84 rfl 0 rfl ?_
          refine mv_aload_n C dX9_step_85 rfl 0 rfl ?_
          refine mv_get (v := .int (u.1 1)) C iw_X9_step_X9 0 rfl rfl 4 (by decide) lk_X9_step_104 rfl rfl dX9_step_86 ?_
          refine mv_topi (fun y21 ey21 => ?_)
          have hw := hw y21 ey21
          refine mv_callVv (f := wM cA b) (As := [.int y21]) (rest := []) C eM_ok hs 0 rfl rfl (X9_putToken_met (l := l) (lev := lev - 1) (by omega) hw) (cwV 1 C.2.2.2.2.1 gX9_step_X9_putToken rfl rfl rfl (by decide +kernel) (mRm_le (by omega) (by decide))) rfl rfl (Nat.le_of_ble_eq_true rfl) dX9_step_89 ⟨Nat.le_refl 0, Nat.le_refl 0⟩ (fun u23 hw => ?_)
          refine mv_aload_n C dX9_step_92 rfl 0 rfl ?_
          refine mv_dup C dX9_step_93 rfl ?_
          refine mv_get (v := .int (u23.1 1)) C iw_X9_step_X9 0 rfl rfl 4 (by decide) lk_X9_step_104 rfl rfl dX9_step_94 ?_
          refine mv_topi (fun y24 ey24 => ?_)
          have hw := hw y24 ey24
          refine mv_iconst (v := (1 : Int32)) C dX9_step_97 (by decide) ?_
          refine mv_iadd C dX9_step_98 ?_
          refine mv_topi (fun y25 ey25 => ?_)
          have hw := hw y25 ey25
          refine mv_put (ty := .int) (ws1 := wM cA b (mSet u23 1 y25)) C iw_X9_step_X9 tyX9 tyX9_ok nmX9 0 rfl rfl 4 (by decide) lk_X9_step_104 rfl rfl rfl rfl rfl (Nat.le_of_ble_eq_true rfl) rfl dX9_step_99 ?_
          refine mv_nm (f := wM cA b) (fun u26 eu26 => ?_)
          have hw := hw u26 eu26
          refine mv_goto (tgt := 153) C dX9_step_102 (by decide) ?_
          exact mv_vret C dX9_step_153 hw
      · have hw := hw.2 h15
        refine mv_aload_n C dX9_step_72 rfl 0 rfl ?_
        refine mv_callVv (f := wM cA b) (As := []) (rest := []) C eM_ok hs 0 rfl rfl (X9_word_met (l := l) (lev := lev - 1) (by omega) hw) (cwV 0 C.2.2.2.2.1 gX9_step_X9_word rfl rfl rfl (by decide +kernel) (mRm_le (by omega) (by decide))) rfl rfl (Nat.le_of_ble_eq_true rfl) dX9_step_73 ⟨Nat.le_refl 0, Nat.le_refl 0⟩ (fun u28 hw => ?_)
        refine mv_goto (tgt := 153) C dX9_step_76 (by decide) ?_
        exact mv_vret C dX9_step_153 hw
    · have hw := hw.2 h14
      refine mv_aload_n C dX9_step_60 rfl 0 rfl ?_
      refine mv_callVv (f := wM cA b) (As := []) (rest := []) C eM_ok hs 0 rfl rfl (X9_list_met (l := l) (lev := lev - 1) (by omega) hw) (cwV 0 C.2.2.2.2.1 gX9_step_X9_list rfl rfl rfl (by decide +kernel) (mRm_le (by omega) (by decide))) rfl rfl (Nat.le_of_ble_eq_true rfl) dX9_step_61 ⟨Nat.le_refl 0, Nat.le_refl 0⟩ (fun u30 hw => ?_)
      refine mv_goto (tgt := 153) C dX9_step_64 (by decide) ?_
      exact mv_vret C dX9_step_153 hw
  · have hw := hw.2 h13
    exact mv_vret C dX9_step_54 hw
set_option maxHeartbeats 4000000 in
set_option maxRecDepth 100000 in
theorem X9_step_met (hlev : 9 ≤ lev) {u : mS} {post : mS → Prop} (hw : wp_X9_step  u post) : mKv l yX9_step wsX9_step lev (eM) (dC, dI) vwCl [(cA, .int)] (wM cA b) [.ref (b 0)] u post := by
  refine mKv_of (cc := cX9_step) (maxL := 2) (by decide) rfl rfl (Nat.le_of_ble_eq_true rfl) rfl ?_
  intro p e s m args below meth c A C hs
  unfold wp_X9_step at hw
  refine mv_aload_n C dX9_step_0 rfl 0 rfl ?_
  refine mv_get (v := .ref (b 2)) C iw_X9_step_X9 0 rfl rfl 2 (by decide) lk_X9_step_13 rfl rfl dX9_step_1 ?_
  refine mv_aload_n C dX9_step_4 rfl 0 rfl ?_
  refine mv_get (v := .int (u.1 1)) C iw_X9_step_X9 0 rfl rfl 4 (by decide) lk_X9_step_104 rfl rfl dX9_step_5 ?_
  refine mv_topi (fun y1 ey1 => ?_)
  have hw := hw y1 ey1
  refine mv_callSi (f := wM cA b) (As := [.ref (b 2), .int y1]) (rest := []) C eM_ok hs (X9_kind_2_met (l := l) (lev := lev - 1) (by omega) hw) (va_cwS 2 C.2.2.2.2.1 gX9_step_X9_kind rfl rfl rfl (by decide +kernel) (mRm_le (by omega) (by decide))) rfl rfl (Nat.le_of_ble_eq_true rfl) dX9_step_8 ⟨Nat.le_refl 0, Nat.le_refl 0⟩ (fun r2 u3 hw => ?_)
  refine mv_istore_n (lv1 := [(1, .int r2), (0, .ref (b 0))]) C dX9_step_11 rfl (by decide) rfl ?_
  refine mv_aload_n C dX9_step_12 rfl 1 rfl ?_
  refine mv_get (v := .int (u3.1 10)) C iw_X9_step_X9 0 rfl rfl 30 (by decide) lk_X9_step_187 rfl rfl dX9_step_13 ?_
  refine mv_topi (fun y4 ey4 => ?_)
  have hw := hw y4 ey4
  refine mv_if_eq (tgt := 47) C dX9_step_16 (by decide) (fun h5 => ?_) (fun h5 => ?_)
  · have hw := hw.1 h5
    refine mv_sub [1, 0] rfl ?_
    exact wj_X9_step_47_ok C hs hlev hw
  · have hw := hw.2 h5
    refine mv_iload_n C dX9_step_19 rfl 0 rfl ?_
    refine mv_iconst (v := (2 : Int32)) C dX9_step_20 (by decide) ?_
    refine mv_icmp_eq (tgt := 47) C dX9_step_21 (by decide) (fun h6 => ?_) (fun h6 => ?_)
    · have hw := hw.1 h6
      refine mv_sub [1, 0] rfl ?_
      exact wj_X9_step_47_ok C hs hlev hw
    · have hw := hw.2 h6
      refine mv_iload_n C dX9_step_24 rfl 0 rfl ?_
      refine mv_bipush (v := (7 : Int32)) C dX9_step_25 (by decide) ?_
      refine mv_icmp_eq (tgt := 47) C dX9_step_27 (by decide) (fun h7 => ?_) (fun h7 => ?_)
      · have hw := hw.1 h7
        refine mv_sub [1, 0] rfl ?_
        exact wj_X9_step_47_ok C hs hlev hw
      · have hw := hw.2 h7
        refine mv_iload_n C dX9_step_30 rfl 0 rfl ?_
        refine mv_bipush (v := (6 : Int32)) C dX9_step_31 (by decide) ?_
        refine mv_icmp_eq (tgt := 47) C dX9_step_33 (by decide) (fun h8 => ?_) (fun h8 => ?_)
        · have hw := hw.1 h8
          refine mv_sub [1, 0] rfl ?_
          exact wj_X9_step_47_ok C hs hlev hw
        · have hw := hw.2 h8
          refine mv_aload_n C dX9_step_36 rfl 1 rfl ?_
          refine mv_bipush (v := (32 : Int32)) C dX9_step_37 (by decide) ?_
          refine mv_callVv (f := wM cA b) (As := [.int (32 : Int32)]) (rest := []) C eM_ok hs 0 rfl rfl (X9_put_met (l := l) (lev := lev - 1) (by omega) hw) (cwV 1 C.2.2.2.2.1 gX9_step_X9_put rfl rfl rfl (by decide +kernel) (mRm_le (by omega) (by decide))) rfl rfl (Nat.le_of_ble_eq_true rfl) dX9_step_39 ⟨Nat.le_refl 0, Nat.le_refl 0⟩ (fun u10 hw => ?_)
          refine mv_aload_n C dX9_step_42 rfl 1 rfl ?_
          refine mv_iconst (v := (0 : Int32)) C dX9_step_43 (by decide) ?_
          refine mv_put (ty := .boolean) (ws1 := wM cA b (mSet u10 10 (0 : Int32))) C iw_X9_step_X9 tyX9 tyX9_ok nmX9 0 rfl rfl 30 (by decide) lk_X9_step_187 rfl rfl rfl (by decide) (by decide) (Nat.le_of_ble_eq_true rfl) rfl dX9_step_44 ?_
          refine mv_nm (f := wM cA b) (fun u11 eu11 => ?_)
          have hw := hw u11 eu11
          refine mv_sub [1, 0] rfl ?_
          exact wj_X9_step_47_ok C hs hlev hw
set_option maxHeartbeats 4000000 in
set_option maxRecDepth 100000 in
theorem wj_X9_expand_10_ok (C : mC p s m args meth c cX9_expand 3 wsX9_expand RX9 (some .int) (dC, dI) vwCl [(cA, .int)] A) (hs : eM A s) (hlev : 10 ≤ lev) {post : Int32 → mS → Prop} {u : mS} (hw : wj_X9_expand_10 post  u) : mV p l e (mRm lev) s m args below meth c 3 (dC, dI) vwCl A 0 0 (mQi below args s (dC, dI) vwCl [(cA, .int)] (wM cA b) A post) (wM cA b u) 10 [] [] := by
  unfold wj_X9_expand_10 at hw
  refine mv_sipush (v := (-7000 : Int32)) C dX9_expand_10 (by decide) ?_
  exact mv_iret C dX9_expand_13 hw
set_option maxHeartbeats 4000000 in
set_option maxRecDepth 100000 in
theorem wj_X9_expand_122_ok (C : mC p s m args meth c cX9_expand 3 wsX9_expand RX9 (some .int) (dC, dI) vwCl [(cA, .int)] A) (hs : eM A s) (hlev : 10 ≤ lev) {post : Int32 → mS → Prop} {u : mS} (hw : wj_X9_expand_122 post  u) : mV p l e (mRm lev) s m args below meth c 3 (dC, dI) vwCl A 0 0 (mQi below args s (dC, dI) vwCl [(cA, .int)] (wM cA b) A post) (wM cA b u) 122 [(0, .ref (b 0))] [] := by
  unfold wj_X9_expand_122 at hw
  refine mv_aload_n C dX9_expand_122 rfl 0 rfl ?_
  refine mv_get (v := .int (u.1 12)) C iw_X9_expand_X9 0 rfl rfl 32 (by decide) lk_X9_expand_178 rfl rfl dX9_expand_123 ?_
  refine mv_topi (fun y28 ey28 => ?_)
  have hw := hw y28 ey28
  refine mv_if_eq (tgt := 140) C dX9_expand_126 (by decide) (fun h29 => ?_) (fun h29 => ?_)
  · have hw := hw.1 h29
    refine mv_aload_n C dX9_expand_140 rfl 0 rfl ?_
    refine mv_get (v := .int (u.1 9)) C iw_X9_expand_X9 0 rfl rfl 29 (by decide) lk_X9_expand_184 rfl rfl dX9_expand_141 ?_
    refine mv_topi (fun y30 ey30 => ?_)
    have hw := hw y30 ey30
    exact mv_iret C dX9_expand_144 hw
  · have hw := hw.2 h29
    refine mv_sipush (v := (-1000 : Int32)) C dX9_expand_129 (by decide) ?_
    refine mv_aload_n C dX9_expand_132 rfl 0 rfl ?_
    refine mv_get (v := .int (u.1 12)) C iw_X9_expand_X9 0 rfl rfl 32 (by decide) lk_X9_expand_178 rfl rfl dX9_expand_133 ?_
    refine mv_topi (fun y31 ey31 => ?_)
    have hw := hw y31 ey31
    refine mv_imul C dX9_expand_136 ?_
    refine mv_topi (fun y32 ey32 => ?_)
    have hw := hw y32 ey32
    refine mv_goto (tgt := 144) C dX9_expand_137 (by decide) ?_
    exact mv_iret C dX9_expand_144 hw
set_option maxHeartbeats 4000000 in
set_option maxRecDepth 100000 in
theorem wj_X9_expand_110_ok (C : mC p s m args meth c cX9_expand 3 wsX9_expand RX9 (some .int) (dC, dI) vwCl [(cA, .int)] A) (hs : eM A s) (hlev : 10 ≤ lev) {post : Int32 → mS → Prop} {u : mS} (hw : wj_X9_expand_110 post  u) : mV p l e (mRm lev) s m args below meth c 3 (dC, dI) vwCl A 0 0 (mQi below args s (dC, dI) vwCl [(cA, .int)] (wM cA b) A post) (wM cA b u) 110 [(0, .ref (b 0))] [] := by
  unfold wj_X9_expand_110 at hw
  refine mv_aload_n C dX9_expand_110 rfl 0 rfl ?_
  refine mv_get (v := .int (u.1 12)) C iw_X9_expand_X9 0 rfl rfl 32 (by decide) lk_X9_expand_178 rfl rfl dX9_expand_111 ?_
  refine mv_topi (fun y25 ey25 => ?_)
  have hw := hw y25 ey25
  refine mv_if_eq (tgt := 122) C dX9_expand_114 (by decide) (fun h26 => ?_) (fun h26 => ?_)
  · have hw := hw.1 h26
    exact wj_X9_expand_122_ok C hs hlev hw
  · have hw := hw.2 h26
    refine mv_aload_n C dX9_expand_117 rfl 0 rfl ?_
    refine mv_iconst (v := (0 : Int32)) C dX9_expand_118 (by decide) ?_
    refine mv_put (ty := .int) (ws1 := wM cA b (mSet u 9 (0 : Int32))) C iw_X9_expand_X9 tyX9 tyX9_ok nmX9 0 rfl rfl 29 (by decide) lk_X9_expand_184 rfl rfl rfl rfl rfl (Nat.le_of_ble_eq_true rfl) rfl dX9_expand_119 ?_
    refine mv_nm (f := wM cA b) (fun u27 eu27 => ?_)
    have hw := hw u27 eu27
    exact wj_X9_expand_122_ok C hs hlev hw
set_option maxHeartbeats 4000000 in
set_option maxRecDepth 100000 in
theorem wj_X9_expand_86_ok (C : mC p s m args meth c cX9_expand 3 wsX9_expand RX9 (some .int) (dC, dI) vwCl [(cA, .int)] A) (hs : eM A s) (hlev : 10 ≤ lev) {post : Int32 → mS → Prop} {K86 : mS → Prop} (hK86 : ∀ (u : mS), K86  u → mV p l e (mRm lev) s m args below meth c 3 (dC, dI) vwCl A 0 0 (mQi below args s (dC, dI) vwCl [(cA, .int)] (wM cA b) A post) (wM cA b u) 86 [(0, .ref (b 0))] []) {u : mS} (hw : wj_X9_expand_86 K86 post  u) : mV p l e (mRm lev) s m args below meth c 3 (dC, dI) vwCl A 0 0 (mQi below args s (dC, dI) vwCl [(cA, .int)] (wM cA b) A post) (wM cA b u) 86 [(0, .ref (b 0))] [] := by
  unfold wj_X9_expand_86 at hw
  refine mv_aload_n C dX9_expand_86 rfl 0 rfl ?_
  refine mv_get (v := .int (u.1 1)) C iw_X9_expand_X9 0 rfl rfl 4 (by decide) lk_X9_expand_104 rfl rfl dX9_expand_87 ?_
  refine mv_topi (fun y19 ey19 => ?_)
  have hw := hw y19 ey19
  refine mv_sipush (v := (2600 : Int32)) C dX9_expand_90 (by decide) ?_
  refine mv_icmp_ge (tgt := 110) C dX9_expand_93 (by decide) (fun h20 => ?_) (fun h20 => ?_)
  · have hw := hw.1 h20
    exact wj_X9_expand_110_ok C hs hlev hw
  · have hw := hw.2 h20
    refine mv_aload_n C dX9_expand_96 rfl 0 rfl ?_
    refine mv_get (v := .int (u.1 12)) C iw_X9_expand_X9 0 rfl rfl 32 (by decide) lk_X9_expand_178 rfl rfl dX9_expand_97 ?_
    refine mv_topi (fun y21 ey21 => ?_)
    have hw := hw y21 ey21
    refine mv_if_ne (tgt := 110) C dX9_expand_100 (by decide) (fun h22 => ?_) (fun h22 => ?_)
    · have hw := hw.1 h22
      exact wj_X9_expand_110_ok C hs hlev hw
    · have hw := hw.2 h22
      refine mv_aload_n C dX9_expand_103 rfl 0 rfl ?_
      refine mv_callVv (f := wM cA b) (As := []) (rest := []) C eM_ok hs 0 rfl rfl (X9_step_met (l := l) (lev := lev - 1) (by omega) hw) (cwV 0 C.2.2.2.2.1 gX9_expand_X9_step rfl rfl rfl (by decide +kernel) (mRm_le (by omega) (by decide))) rfl rfl (Nat.le_of_ble_eq_true rfl) dX9_expand_104 ⟨Nat.le_refl 0, Nat.le_refl 0⟩ (fun u24 hw => ?_)
      refine mv_goto (tgt := 86) C dX9_expand_107 (by decide) ?_
      exact hK86 u24 hw
set_option maxHeartbeats 4000000 in
set_option maxRecDepth 100000 in
theorem wj_X9_expand_64_ok (C : mC p s m args meth c cX9_expand 3 wsX9_expand RX9 (some .int) (dC, dI) vwCl [(cA, .int)] A) (hs : eM A s) (hlev : 10 ≤ lev) {post : Int32 → mS → Prop} {x2 z0 : Int32} {u : mS} (hw : wj_X9_expand_64 post x2 z0 u) : mV p l e (mRm lev) s m args below meth c 3 (dC, dI) vwCl A 0 0 (mQi below args s (dC, dI) vwCl [(cA, .int)] (wM cA b) A post) (wM cA b u) 64 [(0, .ref (b 0)), (2, .int x2)] [.int z0, .ref (b 0)] := by
  unfold wj_X9_expand_64 at hw
  refine mv_put (ty := .int) (ws1 := wM cA b (mSet u 15 z0)) C iw_X9_expand_X9 tyX9 tyX9_ok nmX9 0 rfl rfl 35 (by decide) lk_X9_expand_245 rfl rfl rfl rfl rfl (Nat.le_of_ble_eq_true rfl) rfl dX9_expand_64 ?_
  refine mv_nm (f := wM cA b) (fun u13 eu13 => ?_)
  have hw := hw u13 eu13
  refine mv_aload_n C dX9_expand_67 rfl 0 rfl ?_
  refine mv_sipush (v := (480 : Int32)) C dX9_expand_68 (by decide) ?_
  refine mv_put (ty := .int) (ws1 := wM cA b (mSet u13 2 (480 : Int32))) C iw_X9_expand_X9 tyX9 tyX9_ok nmX9 0 rfl rfl 7 (by decide) lk_X9_expand_274 rfl rfl rfl rfl rfl (Nat.le_of_ble_eq_true rfl) rfl dX9_expand_71 ?_
  refine mv_nm (f := wM cA b) (fun u14 eu14 => ?_)
  have hw := hw u14 eu14
  refine mv_aload_n C dX9_expand_74 rfl 0 rfl ?_
  refine mv_callVv (f := wM cA b) (As := []) (rest := []) C eM_ok hs 0 rfl rfl (X9_beginning_met (l := l) (lev := lev - 1) (by omega) hw) (cwV 0 C.2.2.2.2.1 gX9_expand_X9_beginning rfl rfl rfl (by decide +kernel) (mRm_le (by omega) (by decide))) rfl rfl (Nat.le_of_ble_eq_true rfl) dX9_expand_75 ⟨Nat.le_refl 0, Nat.le_refl 0⟩ (fun u16 hw => ?_)
  refine mv_iload_n C dX9_expand_78 rfl 1 rfl ?_
  refine mv_if_lt (tgt := 86) C dX9_expand_79 (by decide) (fun h17 => ?_) (fun h17 => ?_)
  · have hw := hw.1 h17
    refine mv_sub [0] rfl ?_
    obtain ⟨n, hw⟩ := hw
    exact mL1_of (fun K hK b0 hw => wj_X9_expand_86_ok C hs hlev hK hw) n u16 hw
  · have hw := hw.2 h17
    refine mv_iconst (v := (-1 : Int32)) C dX9_expand_82 (by decide) ?_
    refine mv_iload_n C dX9_expand_83 rfl 1 rfl ?_
    refine mv_isub C dX9_expand_84 ?_
    refine mv_topi (fun y18 ey18 => ?_)
    have hw := hw y18 ey18
    exact mv_iret C dX9_expand_85 hw
set_option maxHeartbeats 4000000 in
set_option maxRecDepth 100000 in
theorem X9_expand_met (hlev : 10 ≤ lev) {x1 : Int32} {u : mS} {post : Int32 → mS → Prop} (hw : wp_X9_expand x1 u post) : mKi l yX9_expand wsX9_expand lev (eM) (dC, dI) vwCl [(cA, .int)] (wM cA b) [.ref (b 0), .int x1] u post := by
  refine mKi_of (cc := cX9_expand) (maxL := 3) (by decide) rfl rfl (Nat.le_of_ble_eq_true rfl) rfl ?_
  intro p e s m args below meth c A C hs
  unfold wp_X9_expand at hw
  refine mv_iload_n C dX9_expand_0 rfl 1 rfl ?_
  refine mv_if_lt (tgt := 10) C dX9_expand_1 (by decide) (fun h1 => ?_) (fun h1 => ?_)
  · have hw := hw.1 h1
    refine mv_sub [] rfl ?_
    exact wj_X9_expand_10_ok C hs hlev hw
  · have hw := hw.2 h1
    refine mv_iload_n C dX9_expand_4 rfl 1 rfl ?_
    refine mv_bipush (v := (8 : Int32)) C dX9_expand_5 (by decide) ?_
    refine mv_icmp_le (tgt := 14) C dX9_expand_7 (by decide) (fun h2 => ?_) (fun h2 => ?_)
    · have hw := hw.1 h2
      refine mv_aload_n C dX9_expand_14 rfl 0 rfl ?_
      refine mv_callVi (f := wM cA b) (As := []) (rest := []) C eM_ok hs 0 rfl rfl (X9_read_met (l := l) (lev := lev - 1) (by omega) hw) (cwV 0 C.2.2.2.2.1 gX9_expand_X9_read rfl rfl rfl (by decide +kernel) (mRm_le (by omega) (by decide))) rfl rfl (Nat.le_of_ble_eq_true rfl) dX9_expand_15 ⟨Nat.le_refl 0, Nat.le_refl 0⟩ (fun r3 u4 hw => ?_)
      refine mv_istore_n (lv1 := [(2, .int r3), (0, .ref (b 0)), (1, .int x1)]) C dX9_expand_18 rfl (by decide) rfl ?_
      refine mv_aload_n C dX9_expand_19 rfl 1 rfl ?_
      refine mv_iconst (v := (0 : Int32)) C dX9_expand_20 (by decide) ?_
      refine mv_put (ty := .int) (ws1 := wM cA b (mSet u4 0 (0 : Int32))) C iw_X9_expand_X9 tyX9 tyX9_ok nmX9 0 rfl rfl 1 (by decide) lk_X9_expand_70 rfl rfl rfl rfl rfl (Nat.le_of_ble_eq_true rfl) rfl dX9_expand_21 ?_
      refine mv_nm (f := wM cA b) (fun u5 eu5 => ?_)
      have hw := hw u5 eu5
      refine mv_aload_n C dX9_expand_24 rfl 1 rfl ?_
      refine mv_iconst (v := (0 : Int32)) C dX9_expand_25 (by decide) ?_
      refine mv_put (ty := .int) (ws1 := wM cA b (mSet u5 9 (0 : Int32))) C iw_X9_expand_X9 tyX9 tyX9_ok nmX9 0 rfl rfl 29 (by decide) lk_X9_expand_184 rfl rfl rfl rfl rfl (Nat.le_of_ble_eq_true rfl) rfl dX9_expand_26 ?_
      refine mv_nm (f := wM cA b) (fun u6 eu6 => ?_)
      have hw := hw u6 eu6
      refine mv_aload_n C dX9_expand_29 rfl 1 rfl ?_
      refine mv_iconst (v := (0 : Int32)) C dX9_expand_30 (by decide) ?_
      refine mv_put (ty := .boolean) (ws1 := wM cA b (mSet u6 10 (0 : Int32))) C iw_X9_expand_X9 tyX9 tyX9_ok nmX9 0 rfl rfl 30 (by decide) lk_X9_expand_187 rfl rfl rfl (by decide) (by decide) (Nat.le_of_ble_eq_true rfl) rfl dX9_expand_31 ?_
      refine mv_nm (f := wM cA b) (fun u7 eu7 => ?_)
      have hw := hw u7 eu7
      refine mv_aload_n C dX9_expand_34 rfl 1 rfl ?_
      refine mv_iconst (v := (0 : Int32)) C dX9_expand_35 (by decide) ?_
      refine mv_put (ty := .int) (ws1 := wM cA b (mSet u7 11 (0 : Int32))) C iw_X9_expand_X9 tyX9 tyX9_ok nmX9 0 rfl rfl 31 (by decide) lk_X9_expand_271 rfl rfl rfl rfl rfl (Nat.le_of_ble_eq_true rfl) rfl dX9_expand_36 ?_
      refine mv_nm (f := wM cA b) (fun u8 eu8 => ?_)
      have hw := hw u8 eu8
      refine mv_aload_n C dX9_expand_39 rfl 1 rfl ?_
      refine mv_iconst (v := (0 : Int32)) C dX9_expand_40 (by decide) ?_
      refine mv_put (ty := .int) (ws1 := wM cA b (mSet u8 12 (0 : Int32))) C iw_X9_expand_X9 tyX9 tyX9_ok nmX9 0 rfl rfl 32 (by decide) lk_X9_expand_178 rfl rfl rfl rfl rfl (Nat.le_of_ble_eq_true rfl) rfl dX9_expand_41 ?_
      refine mv_nm (f := wM cA b) (fun u9 eu9 => ?_)
      have hw := hw u9 eu9
      refine mv_aload_n C dX9_expand_44 rfl 1 rfl ?_
      refine mv_iconst (v := (0 : Int32)) C dX9_expand_45 (by decide) ?_
      refine mv_put (ty := .int) (ws1 := wM cA b (mSet u9 13 (0 : Int32))) C iw_X9_expand_X9 tyX9 tyX9_ok nmX9 0 rfl rfl 33 (by decide) lk_X9_expand_181 rfl rfl rfl rfl rfl (Nat.le_of_ble_eq_true rfl) rfl dX9_expand_46 ?_
      refine mv_nm (f := wM cA b) (fun u10 eu10 => ?_)
      have hw := hw u10 eu10
      refine mv_aload_n C dX9_expand_49 rfl 1 rfl ?_
      refine mv_iconst (v := (0 : Int32)) C dX9_expand_50 (by decide) ?_
      refine mv_put (ty := .int) (ws1 := wM cA b (mSet u10 14 (0 : Int32))) C iw_X9_expand_X9 tyX9 tyX9_ok nmX9 0 rfl rfl 34 (by decide) lk_X9_expand_265 rfl rfl rfl rfl rfl (Nat.le_of_ble_eq_true rfl) rfl dX9_expand_51 ?_
      refine mv_nm (f := wM cA b) (fun u11 eu11 => ?_)
      have hw := hw u11 eu11
      refine mv_aload_n C dX9_expand_54 rfl 1 rfl ?_
      refine mv_iload_n C dX9_expand_55 rfl 0 rfl ?_
      refine mv_if_ge (tgt := 63) C dX9_expand_56 (by decide) (fun h12 => ?_) (fun h12 => ?_)
      · have hw := hw.1 h12
        refine mv_iconst (v := (0 : Int32)) C dX9_expand_63 (by decide) ?_
        refine mv_sub [1, 0] rfl ?_
        exact wj_X9_expand_64_ok C hs hlev hw
      · have hw := hw.2 h12
        refine mv_iload_n C dX9_expand_59 rfl 2 rfl ?_
        refine mv_goto (tgt := 64) C dX9_expand_60 (by decide) ?_
        refine mv_sub [1, 0] rfl ?_
        exact wj_X9_expand_64_ok C hs hlev hw
    · have hw := hw.2 h2
      refine mv_sub [] rfl ?_
      exact wj_X9_expand_10_ok C hs hlev hw
set_option maxHeartbeats 4000000 in
set_option maxRecDepth 100000 in
theorem X9_at_met (hlev : 0 ≤ lev) {x1 : Int32} {u : mS} {post : Int32 → mS → Prop} (hw : wp_X9_at x1 u post) : mKi l yX9_at wsX9_at lev (eM) (dC, dI) vwCl [(cA, .int)] (wM cA b) [.ref (b 0), .int x1] u post := by
  refine mKi_of (cc := cX9_at) (maxL := 2) (by decide) rfl rfl (Nat.le_of_ble_eq_true rfl) rfl ?_
  intro p e s m args below meth c A C hs
  unfold wp_X9_at at hw
  refine mv_iload_n C dX9_at_0 rfl 1 rfl ?_
  refine mv_if_lt (tgt := 21) C dX9_at_1 (by decide) (fun h1 => ?_) (fun h1 => ?_)
  · have hw := hw.1 h1
    refine mv_iconst (v := (-1 : Int32)) C dX9_at_21 (by decide) ?_
    exact mv_iret C dX9_at_22 hw
  · have hw := hw.2 h1
    refine mv_iload_n C dX9_at_4 rfl 1 rfl ?_
    refine mv_aload_n C dX9_at_5 rfl 0 rfl ?_
    refine mv_get (v := .int (u.1 9)) C iw_X9_at_X9 0 rfl rfl 29 (by decide) lk_X9_at_184 rfl rfl dX9_at_6 ?_
    refine mv_topi (fun y2 ey2 => ?_)
    have hw := hw y2 ey2
    refine mv_icmp_ge (tgt := 21) C dX9_at_9 (by decide) (fun h3 => ?_) (fun h3 => ?_)
    · have hw := hw.1 h3
      refine mv_iconst (v := (-1 : Int32)) C dX9_at_21 (by decide) ?_
      exact mv_iret C dX9_at_22 hw
    · have hw := hw.2 h3
      refine mv_aload_n C dX9_at_12 rfl 0 rfl ?_
      refine mv_get (v := .ref (b 20)) C iw_X9_at_X9 0 rfl rfl 28 (by decide) lk_X9_at_67 rfl rfl dX9_at_13 ?_
      refine mv_iload_n C dX9_at_16 rfl 1 rfl ?_
      refine mv_iald (f := u.2 19) C 20 0 rfl rfl hw.1 dX9_at_17 ?_
      refine mv_topi (fun y4 ey4 => ?_)
      have hw := hw.2 y4 ey4
      refine mv_goto (tgt := 22) C dX9_at_18 (by decide) ?_
      exact mv_iret C dX9_at_22 hw
set_option maxHeartbeats 4000000 in
set_option maxRecDepth 100000 in
theorem X9_count__met (hlev : 0 ≤ lev) {x1 : Int32} {u : mS} {post : Int32 → mS → Prop} (hw : wp_X9_count_ x1 u post) : mKi l yX9_count_ wsX9_count_ lev (eM) (dC, dI) vwCl [(cA, .int)] (wM cA b) [.ref (b 0), .int x1] u post := by
  refine mKi_of (cc := cX9_count_) (maxL := 2) (by decide) rfl rfl (Nat.le_of_ble_eq_true rfl) rfl ?_
  intro p e s m args below meth c A C hs
  unfold wp_X9_count_ at hw
  refine mv_iload_n C dX9_count__0 rfl 1 rfl ?_
  by_cases hc1_0 : x1 = (0 : Int32)
  · have hw := hw.1 hc1_0
    refine mv_tableIn (tgt := 32) C dX9_count__1 (by rw [hc1_0]; decide) (by rw [hc1_0]; decide) (by rw [hc1_0]; rfl) (by decide) ?_
    refine mv_aload_n C dX9_count__32 rfl 0 rfl ?_
    refine mv_get (v := .int (u.1 13)) C iw_X9_count__X9 0 rfl rfl 33 (by decide) lk_X9_count__181 rfl rfl dX9_count__33 ?_
    refine mv_topi (fun y1 ey1 => ?_)
    have hw := hw y1 ey1
    exact mv_iret C dX9_count__36 hw
  by_cases hc1_1 : x1 = (1 : Int32)
  · have hw := hw.2.1 hc1_1
    refine mv_tableIn (tgt := 37) C dX9_count__1 (by rw [hc1_1]; decide) (by rw [hc1_1]; decide) (by rw [hc1_1]; rfl) (by decide) ?_
    refine mv_aload_n C dX9_count__37 rfl 0 rfl ?_
    refine mv_get (v := .int (u.1 4)) C iw_X9_count__X9 0 rfl rfl 11 (by decide) lk_X9_count__160 rfl rfl dX9_count__38 ?_
    refine mv_topi (fun y2 ey2 => ?_)
    have hw := hw y2 ey2
    refine mv_aload_n C dX9_count__41 rfl 0 rfl ?_
    refine mv_get (v := .int (u.1 5)) C iw_X9_count__X9 0 rfl rfl 12 (by decide) lk_X9_count__175 rfl rfl dX9_count__42 ?_
    refine mv_topi (fun y3 ey3 => ?_)
    have hw := hw y3 ey3
    refine mv_isub C dX9_count__45 ?_
    refine mv_topi (fun y4 ey4 => ?_)
    have hw := hw y4 ey4
    exact mv_iret C dX9_count__46 hw
  by_cases hc1_2 : x1 = (2 : Int32)
  · have hw := hw.2.2.1 hc1_2
    refine mv_tableIn (tgt := 47) C dX9_count__1 (by rw [hc1_2]; decide) (by rw [hc1_2]; decide) (by rw [hc1_2]; rfl) (by decide) ?_
    refine mv_aload_n C dX9_count__47 rfl 0 rfl ?_
    refine mv_get (v := .int (u.1 14)) C iw_X9_count__X9 0 rfl rfl 34 (by decide) lk_X9_count__265 rfl rfl dX9_count__48 ?_
    refine mv_topi (fun y5 ey5 => ?_)
    have hw := hw y5 ey5
    exact mv_iret C dX9_count__51 hw
  by_cases hc1_3 : x1 = (3 : Int32)
  · have hw := hw.2.2.2.1 hc1_3
    refine mv_tableIn (tgt := 52) C dX9_count__1 (by rw [hc1_3]; decide) (by rw [hc1_3]; decide) (by rw [hc1_3]; rfl) (by decide) ?_
    refine mv_aload_n C dX9_count__52 rfl 0 rfl ?_
    refine mv_get (v := .int (u.1 15)) C iw_X9_count__X9 0 rfl rfl 35 (by decide) lk_X9_count__245 rfl rfl dX9_count__53 ?_
    refine mv_topi (fun y6 ey6 => ?_)
    have hw := hw y6 ey6
    exact mv_iret C dX9_count__56 hw
  have hw := hw.2.2.2.2 hc1_0 hc1_1 hc1_2 hc1_3
  have hdft : mV p l e (mRm lev) s m args below meth c 2 (dC, dI) vwCl A 0 0 (mQi below args s (dC, dI) vwCl [(cA, .int)] (wM cA b) A post) (wM cA b u) 57 [(0, .ref (b 0)), (1, .int x1)] [] := by
    refine mv_iconst (v := (-1 : Int32)) C dX9_count__57 (by decide) ?_
    exact mv_iret C dX9_count__58 hw
  exact mv_tableOut (tgt := 57) C dX9_count__1 (by have q0 : ¬ x1.toInt = 0 := mne hc1_0; have q1 : ¬ x1.toInt = 1 := mne hc1_1; have q2 : ¬ x1.toInt = 2 := mne hc1_2; have q3 : ¬ x1.toInt = 3 := mne hc1_3; omega) (by decide) hdft
end
