theorem dX9_means_0 : decode cX9_means 0 = .ok (.iconst (-1), 1) := by decide +kernel
theorem dX9_means_1 : decode cX9_means 1 = .ok (.istore_n 3, 1) := by decide +kernel
theorem dX9_means_2 : decode cX9_means 2 = .ok (.iconst 0, 1) := by decide +kernel
theorem dX9_means_3 : decode cX9_means 3 = .ok (.istore 4, 2) := by decide +kernel
theorem dX9_means_5 : decode cX9_means 5 = .ok (.iload 4, 2) := by decide +kernel
theorem dX9_means_7 : decode cX9_means 7 = .ok (.aload_n 0, 1) := by decide +kernel
theorem dX9_means_8 : decode cX9_means 8 = .ok (.getfield 160, 3) := by decide +kernel
theorem dX9_means_11 : decode cX9_means 11 = .ok (.if_icmp .ge 138, 3) := by decide +kernel
theorem dX9_means_14 : decode cX9_means 14 = .ok (.aload_n 0, 1) := by decide +kernel
theorem dX9_means_15 : decode cX9_means 15 = .ok (.getfield 31, 3) := by decide +kernel
theorem dX9_means_18 : decode cX9_means 18 = .ok (.iload 4, 2) := by decide +kernel
theorem dX9_means_20 : decode cX9_means 20 = .ok (.iaload, 1) := by decide +kernel
theorem dX9_means_21 : decode cX9_means 21 = .ok (.iload_n 1, 1) := by decide +kernel
theorem dX9_means_22 : decode cX9_means 22 = .ok (.if_icmp .ne 121, 3) := by decide +kernel
theorem dX9_means_25 : decode cX9_means 25 = .ok (.aload_n 0, 1) := by decide +kernel
theorem dX9_means_26 : decode cX9_means 26 = .ok (.getfield 34, 3) := by decide +kernel
theorem dX9_means_29 : decode cX9_means 29 = .ok (.iload 4, 2) := by decide +kernel
theorem dX9_means_31 : decode cX9_means 31 = .ok (.iaload, 1) := by decide +kernel
theorem dX9_means_32 : decode cX9_means 32 = .ok (.iload_n 2, 1) := by decide +kernel
theorem dX9_means_33 : decode cX9_means 33 = .ok (.iconst (-1), 1) := by decide +kernel
theorem dX9_means_34 : decode cX9_means 34 = .ok (.ixor, 1) := by decide +kernel
theorem dX9_means_35 : decode cX9_means 35 = .ok (.iand, 1) := by decide +kernel
theorem dX9_means_36 : decode cX9_means 36 = .ok (.ifCond .eq 6, 3) := by decide +kernel
theorem dX9_means_39 : decode cX9_means 39 = .ok (.goto 104, 3) := by decide +kernel
theorem dX9_means_42 : decode cX9_means 42 = .ok (.iconst 1, 1) := by decide +kernel
theorem dX9_means_43 : decode cX9_means 43 = .ok (.istore 5, 2) := by decide +kernel
theorem dX9_means_45 : decode cX9_means 45 = .ok (.iconst 0, 1) := by decide +kernel
theorem dX9_means_46 : decode cX9_means 46 = .ok (.istore 6, 2) := by decide +kernel
theorem dX9_means_48 : decode cX9_means 48 = .ok (.iload 6, 2) := by decide +kernel
theorem dX9_means_50 : decode cX9_means 50 = .ok (.aload_n 0, 1) := by decide +kernel
theorem dX9_means_51 : decode cX9_means 51 = .ok (.getfield 160, 3) := by decide +kernel
theorem dX9_means_54 : decode cX9_means 54 = .ok (.if_icmp .ge 78, 3) := by decide +kernel
theorem dX9_means_57 : decode cX9_means 57 = .ok (.aload_n 0, 1) := by decide +kernel
theorem dX9_means_58 : decode cX9_means 58 = .ok (.getfield 31, 3) := by decide +kernel
theorem dX9_means_61 : decode cX9_means 61 = .ok (.iload 6, 2) := by decide +kernel
theorem dX9_means_63 : decode cX9_means 63 = .ok (.iaload, 1) := by decide +kernel
theorem dX9_means_64 : decode cX9_means 64 = .ok (.iload_n 1, 1) := by decide +kernel
theorem dX9_means_65 : decode cX9_means 65 = .ok (.if_icmp .ne 21, 3) := by decide +kernel
theorem dX9_means_68 : decode cX9_means 68 = .ok (.aload_n 0, 1) := by decide +kernel
theorem dX9_means_69 : decode cX9_means 69 = .ok (.getfield 34, 3) := by decide +kernel
theorem dX9_means_72 : decode cX9_means 72 = .ok (.iload 6, 2) := by decide +kernel
theorem dX9_means_74 : decode cX9_means 74 = .ok (.iaload, 1) := by decide +kernel
theorem dX9_means_75 : decode cX9_means 75 = .ok (.iload_n 2, 1) := by decide +kernel
theorem dX9_means_76 : decode cX9_means 76 = .ok (.iconst (-1), 1) := by decide +kernel
theorem dX9_means_77 : decode cX9_means 77 = .ok (.ixor, 1) := by decide +kernel
theorem dX9_means_78 : decode cX9_means 78 = .ok (.iand, 1) := by decide +kernel
theorem dX9_means_79 : decode cX9_means 79 = .ok (.ifCond .ne 7, 3) := by decide +kernel
theorem dX9_means_82 : decode cX9_means 82 = .ok (.iconst 1, 1) := by decide +kernel
theorem dX9_means_83 : decode cX9_means 83 = .ok (.goto 4, 3) := by decide +kernel
theorem dX9_means_86 : decode cX9_means 86 = .ok (.iconst 0, 1) := by decide +kernel
theorem dX9_means_87 : decode cX9_means 87 = .ok (.istore 7, 2) := by decide +kernel
theorem dX9_means_89 : decode cX9_means 89 = .ok (.iload 5, 2) := by decide +kernel
theorem dX9_means_91 : decode cX9_means 91 = .ok (.ifCond .eq 32, 3) := by decide +kernel
theorem dX9_means_94 : decode cX9_means 94 = .ok (.iload 7, 2) := by decide +kernel
theorem dX9_means_96 : decode cX9_means 96 = .ok (.ifCond .eq 23, 3) := by decide +kernel
theorem dX9_means_99 : decode cX9_means 99 = .ok (.aload_n 0, 1) := by decide +kernel
theorem dX9_means_100 : decode cX9_means 100 = .ok (.getfield 34, 3) := by decide +kernel
theorem dX9_means_103 : decode cX9_means 103 = .ok (.iload 6, 2) := by decide +kernel
theorem dX9_means_105 : decode cX9_means 105 = .ok (.iaload, 1) := by decide +kernel
theorem dX9_means_106 : decode cX9_means 106 = .ok (.aload_n 0, 1) := by decide +kernel
theorem dX9_means_107 : decode cX9_means 107 = .ok (.getfield 34, 3) := by decide +kernel
theorem dX9_means_110 : decode cX9_means 110 = .ok (.iload 4, 2) := by decide +kernel
theorem dX9_means_112 : decode cX9_means 112 = .ok (.iaload, 1) := by decide +kernel
theorem dX9_means_113 : decode cX9_means 113 = .ok (.iconst (-1), 1) := by decide +kernel
theorem dX9_means_114 : decode cX9_means 114 = .ok (.ixor, 1) := by decide +kernel
theorem dX9_means_115 : decode cX9_means 115 = .ok (.iand, 1) := by decide +kernel
theorem dX9_means_116 : decode cX9_means 116 = .ok (.ifCond .ne 7, 3) := by decide +kernel
theorem dX9_means_119 : decode cX9_means 119 = .ok (.iconst 1, 1) := by decide +kernel
theorem dX9_means_120 : decode cX9_means 120 = .ok (.goto 4, 3) := by decide +kernel
theorem dX9_means_123 : decode cX9_means 123 = .ok (.iconst 0, 1) := by decide +kernel
theorem dX9_means_124 : decode cX9_means 124 = .ok (.istore 5, 2) := by decide +kernel
theorem dX9_means_126 : decode cX9_means 126 = .ok (.iinc 6 1, 3) := by decide +kernel
theorem dX9_means_129 : decode cX9_means 129 = .ok (.goto (-81), 3) := by decide +kernel
theorem dX9_means_132 : decode cX9_means 132 = .ok (.iload 5, 2) := by decide +kernel
theorem dX9_means_134 : decode cX9_means 134 = .ok (.ifCond .eq 6, 3) := by decide +kernel
theorem dX9_means_137 : decode cX9_means 137 = .ok (.iload 4, 2) := by decide +kernel
theorem dX9_means_139 : decode cX9_means 139 = .ok (.ireturn, 1) := by decide +kernel
theorem dX9_means_140 : decode cX9_means 140 = .ok (.bipush (-2), 2) := by decide +kernel
theorem dX9_means_142 : decode cX9_means 142 = .ok (.istore_n 3, 1) := by decide +kernel
theorem dX9_means_143 : decode cX9_means 143 = .ok (.iinc 4 1, 3) := by decide +kernel
theorem dX9_means_146 : decode cX9_means 146 = .ok (.goto (-141), 3) := by decide +kernel
theorem dX9_means_149 : decode cX9_means 149 = .ok (.iload_n 3, 1) := by decide +kernel
theorem dX9_means_150 : decode cX9_means 150 = .ok (.ireturn, 1) := by decide +kernel
set_option maxRecDepth 20000 in
theorem ggX9_scope_X9_fails : GoodIn wsX9_scope wsX9_fails := goodIn_r _ [6, 7, 8, 9, 10, 11, 12, 13, 14, 15, 16, 17, 18, 19, 20, 21, 22, 23, 24, 25, 26, 27, 28, 29, 30, 31, 32, 33, 34, 35, 36, 37, 38, 39, 40, 41, 42, 43] (by decide +kernel) (by decide +kernel)
set_option maxRecDepth 20000 in
theorem gX9_scope_X9_fails : GoodIn wsX9_scope (wsV RX9 163 RX9 yX9_fails wsX9_fails) := goodIn_app (goodIn_of _ (by decide +kernel)) ggX9_scope_X9_fails
theorem dX9_scope_0 : decode cX9_scope 0 = .ok (.aload_n 0, 1) := by decide +kernel
theorem dX9_scope_1 : decode cX9_scope 1 = .ok (.getfield 181, 3) := by decide +kernel
theorem dX9_scope_4 : decode cX9_scope 4 = .ok (.bipush 30, 2) := by decide +kernel
theorem dX9_scope_6 : decode cX9_scope 6 = .ok (.if_icmp .ne 11, 3) := by decide +kernel
theorem dX9_scope_9 : decode cX9_scope 9 = .ok (.aload_n 0, 1) := by decide +kernel
theorem dX9_scope_10 : decode cX9_scope 10 = .ok (.bipush 6, 2) := by decide +kernel
theorem dX9_scope_12 : decode cX9_scope 12 = .ok (.invokevirtual 163, 3) := by decide +kernel
theorem dX9_scope_15 : decode cX9_scope 15 = .ok (.iconst 0, 1) := by decide +kernel
theorem dX9_scope_16 : decode cX9_scope 16 = .ok (.ireturn, 1) := by decide +kernel
theorem dX9_scope_17 : decode cX9_scope 17 = .ok (.aload_n 0, 1) := by decide +kernel
theorem dX9_scope_18 : decode cX9_scope 18 = .ok (.dup, 1) := by decide +kernel
theorem dX9_scope_19 : decode cX9_scope 19 = .ok (.getfield 181, 3) := by decide +kernel
theorem dX9_scope_22 : decode cX9_scope 22 = .ok (.iconst 1, 1) := by decide +kernel
theorem dX9_scope_23 : decode cX9_scope 23 = .ok (.iadd, 1) := by decide +kernel
theorem dX9_scope_24 : decode cX9_scope 24 = .ok (.putfield 181, 3) := by decide +kernel
theorem dX9_scope_27 : decode cX9_scope 27 = .ok (.iconst 1, 1) := by decide +kernel
theorem dX9_scope_28 : decode cX9_scope 28 = .ok (.aload_n 0, 1) := by decide +kernel
theorem dX9_scope_29 : decode cX9_scope 29 = .ok (.getfield 181, 3) := by decide +kernel
theorem dX9_scope_32 : decode cX9_scope 32 = .ok (.iconst 1, 1) := by decide +kernel
theorem dX9_scope_33 : decode cX9_scope 33 = .ok (.isub, 1) := by decide +kernel
theorem dX9_scope_34 : decode cX9_scope 34 = .ok (.ishl, 1) := by decide +kernel
theorem dX9_scope_35 : decode cX9_scope 35 = .ok (.ireturn, 1) := by decide +kernel
set_option maxRecDepth 100000 in
theorem gpX9_putVariable_X9_space_0 : GoodIn wsX9_putVariable ([.fieldLink RX9 187 "MarkedNamesModel" "gap" "Z", .methodLink RX9 191 yX9_put, .instanceMethod yX9_put, .selects RX9 yX9_put yX9_put, .initialized RX9, .code yX9_put cX9_put 2 none, .fieldLink RX9 178 "MarkedNamesModel" "error" "I", .fieldLink RX9 184 "MarkedNamesModel" "size" "I", .fieldLink RX9 67 "MarkedNamesModel" "text" "[I", .methodLink RX9 163 yX9_fails, .instanceMethod yX9_fails, .selects RX9 yX9_fails yX9_fails, .code yX9_fails cX9_fails 2 none] : List Cond) := goodIn_r _ [6, 7, 8, 9, 4, 10, 11, 12, 13, 14, 15, 16, 17] (by decide +kernel) (by decide +kernel)
set_option maxRecDepth 100000 in
theorem gpX9_putVariable_X9_space_1 : GoodIn wsX9_putVariable wsX90 := goodIn_r _ [22, 23, 24, 25, 26, 27, 28, 29, 30, 31, 32, 33, 34, 35, 36, 37, 38, 39, 40, 41, 42, 43, 44, 45, 46, 47, 48, 49, 50, 51, 52, 53, 54, 55, 56, 57] (by decide +kernel) (by decide +kernel)
set_option maxRecDepth 100000 in
theorem gpX9_putVariable_X9_space_c : GoodIn wsX9_putVariable [Cond.code yX9_space cX9_space 1 none] := goodIn_r _ [5] (by decide +kernel) (by decide +kernel)
theorem ggX9_putVariable_X9_space : GoodIn wsX9_putVariable wsX9_space := goodIn_cons2 gpX9_putVariable_X9_space_c (goodIn_app gpX9_putVariable_X9_space_0 gpX9_putVariable_X9_space_1)
set_option maxRecDepth 20000 in
theorem gX9_putVariable_X9_space : GoodIn wsX9_putVariable (wsV RX9 194 RX9 yX9_space wsX9_space) := goodIn_app (goodIn_of _ (by decide +kernel)) ggX9_putVariable_X9_space
set_option maxRecDepth 20000 in
theorem ggX9_putVariable_X9_put : GoodIn wsX9_putVariable wsX9_put := goodIn_r _ [10, 11, 12, 13, 14, 15, 16, 4, 17, 22, 23, 24, 25, 26, 27, 28, 29, 30, 31, 32, 33, 34, 35, 36, 37, 38, 39, 40, 41, 42, 43, 44, 45, 46, 47, 48, 49, 50, 51, 52, 53, 54, 55, 56, 57] (by decide +kernel) (by decide +kernel)
set_option maxRecDepth 20000 in
theorem gX9_putVariable_X9_put : GoodIn wsX9_putVariable (wsV RX9 191 RX9 yX9_put wsX9_put) := goodIn_app (goodIn_of _ (by decide +kernel)) ggX9_putVariable_X9_put
set_option maxRecDepth 100000 in
theorem gpX9_putVariable_X9_putNumber_0 : GoodIn wsX9_putVariable ([.methodLink RX9 191 yX9_put, .instanceMethod yX9_put, .selects RX9 yX9_put yX9_put, .initialized RX9, .code yX9_put cX9_put 2 none, .fieldLink RX9 178 "MarkedNamesModel" "error" "I", .fieldLink RX9 184 "MarkedNamesModel" "size" "I", .fieldLink RX9 67 "MarkedNamesModel" "text" "[I", .methodLink RX9 163 yX9_fails, .instanceMethod yX9_fails, .selects RX9 yX9_fails yX9_fails, .code yX9_fails cX9_fails 2 none] : List Cond) := goodIn_r _ [7, 8, 9, 4, 10, 11, 12, 13, 14, 15, 16, 17] (by decide +kernel) (by decide +kernel)
set_option maxRecDepth 100000 in
theorem gpX9_putVariable_X9_putNumber_1 : GoodIn wsX9_putVariable wsX90 := goodIn_r _ [22, 23, 24, 25, 26, 27, 28, 29, 30, 31, 32, 33, 34, 35, 36, 37, 38, 39, 40, 41, 42, 43, 44, 45, 46, 47, 48, 49, 50, 51, 52, 53, 54, 55, 56, 57] (by decide +kernel) (by decide +kernel)
set_option maxRecDepth 100000 in
theorem gpX9_putVariable_X9_putNumber_c : GoodIn wsX9_putVariable [Cond.code yX9_putNumber cX9_putNumber 2 none] := goodIn_r _ [21] (by decide +kernel) (by decide +kernel)
theorem ggX9_putVariable_X9_putNumber : GoodIn wsX9_putVariable wsX9_putNumber := goodIn_cons2 gpX9_putVariable_X9_putNumber_c (goodIn_app gpX9_putVariable_X9_putNumber_0 gpX9_putVariable_X9_putNumber_1)
set_option maxRecDepth 20000 in
theorem gX9_putVariable_X9_putNumber : GoodIn wsX9_putVariable (wsV RX9 197 RX9 yX9_putNumber wsX9_putNumber) := goodIn_app (goodIn_of _ (by decide +kernel)) ggX9_putVariable_X9_putNumber
theorem dX9_putVariable_0 : decode cX9_putVariable 0 = .ok (.aload_n 0, 1) := by decide +kernel
theorem dX9_putVariable_1 : decode cX9_putVariable 1 = .ok (.invokevirtual 194, 3) := by decide +kernel
theorem dX9_putVariable_4 : decode cX9_putVariable 4 = .ok (.aload_n 0, 1) := by decide +kernel
theorem dX9_putVariable_5 : decode cX9_putVariable 5 = .ok (.bipush 118, 2) := by decide +kernel
theorem dX9_putVariable_7 : decode cX9_putVariable 7 = .ok (.invokevirtual 191, 3) := by decide +kernel
theorem dX9_putVariable_10 : decode cX9_putVariable 10 = .ok (.aload_n 0, 1) := by decide +kernel
theorem dX9_putVariable_11 : decode cX9_putVariable 11 = .ok (.iload_n 1, 1) := by decide +kernel
theorem dX9_putVariable_12 : decode cX9_putVariable 12 = .ok (.invokevirtual 197, 3) := by decide +kernel
theorem dX9_putVariable_15 : decode cX9_putVariable 15 = .ok (.return_, 1) := by decide +kernel
set_option maxRecDepth 20000 in
theorem ggX9_word_X9_what : GoodIn wsX9_word wsX9_what := goodIn_r _ [9, 10] (by decide +kernel) (by decide +kernel)
set_option maxRecDepth 20000 in
theorem gX9_word_X9_what : GoodIn wsX9_word (va_wsS RX9 151 yX9_what wsX9_what) := goodIn_app (goodIn_of _ (by decide +kernel)) ggX9_word_X9_what
set_option maxRecDepth 20000 in
theorem ggX9_word_X9_means : GoodIn wsX9_word wsX9_means := goodIn_r _ [14, 15, 16, 17, 47, 48, 49, 50, 51, 52, 53, 54, 55, 56, 57, 58, 59, 60, 61, 62, 63, 64, 65, 66, 67, 68, 69, 70, 71, 72, 73, 74, 75, 76, 77, 78, 79, 80, 81, 82] (by decide +kernel) (by decide +kernel)
set_option maxRecDepth 20000 in
theorem gX9_word_X9_means : GoodIn wsX9_word (wsV RX9 287 RX9 yX9_means wsX9_means) := goodIn_app (goodIn_of _ (by decide +kernel)) ggX9_word_X9_means
set_option maxRecDepth 20000 in
theorem ggX9_word_X9_fails : GoodIn wsX9_word wsX9_fails := goodIn_r _ [21, 22, 47, 48, 49, 50, 51, 52, 53, 54, 55, 56, 57, 58, 59, 60, 61, 62, 63, 64, 65, 66, 67, 68, 69, 70, 71, 72, 73, 74, 75, 76, 77, 78, 79, 80, 81, 82] (by decide +kernel) (by decide +kernel)
set_option maxRecDepth 20000 in
theorem gX9_word_X9_fails : GoodIn wsX9_word (wsV RX9 163 RX9 yX9_fails wsX9_fails) := goodIn_app (goodIn_of _ (by decide +kernel)) ggX9_word_X9_fails
set_option maxRecDepth 100000 in
theorem gpX9_word_X9_space_0 : GoodIn wsX9_word ([.fieldLink RX9 187 "MarkedNamesModel" "gap" "Z", .methodLink RX9 191 yX9_put, .instanceMethod yX9_put, .selects RX9 yX9_put yX9_put, .initialized RX9, .code yX9_put cX9_put 2 none, .fieldLink RX9 178 "MarkedNamesModel" "error" "I", .fieldLink RX9 184 "MarkedNamesModel" "size" "I", .fieldLink RX9 67 "MarkedNamesModel" "text" "[I", .methodLink RX9 163 yX9_fails, .instanceMethod yX9_fails, .selects RX9 yX9_fails yX9_fails, .code yX9_fails cX9_fails 2 none] : List Cond) := goodIn_r _ [27, 28, 29, 30, 8, 31, 22, 32, 33, 18, 19, 20, 21] (by decide +kernel) (by decide +kernel)
set_option maxRecDepth 100000 in
theorem gpX9_word_X9_space_1 : GoodIn wsX9_word wsX90 := goodIn_r _ [47, 48, 49, 50, 51, 52, 53, 54, 55, 56, 57, 58, 59, 60, 61, 62, 63, 64, 65, 66, 67, 68, 69, 70, 71, 72, 73, 74, 75, 76, 77, 78, 79, 80, 81, 82] (by decide +kernel) (by decide +kernel)
set_option maxRecDepth 100000 in
theorem gpX9_word_X9_space_c : GoodIn wsX9_word [Cond.code yX9_space cX9_space 1 none] := goodIn_r _ [26] (by decide +kernel) (by decide +kernel)
theorem ggX9_word_X9_space : GoodIn wsX9_word wsX9_space := goodIn_cons2 gpX9_word_X9_space_c (goodIn_app gpX9_word_X9_space_0 gpX9_word_X9_space_1)
set_option maxRecDepth 20000 in
theorem gX9_word_X9_space : GoodIn wsX9_word (wsV RX9 194 RX9 yX9_space wsX9_space) := goodIn_app (goodIn_of _ (by decide +kernel)) ggX9_word_X9_space
set_option maxRecDepth 100000 in
theorem gpX9_word_X9_putName_0 : GoodIn wsX9_word ([.constant RX9 92 (40000), .methodLink RX9 191 yX9_put, .instanceMethod yX9_put, .selects RX9 yX9_put yX9_put, .initialized RX9, .code yX9_put cX9_put 2 none, .fieldLink RX9 178 "MarkedNamesModel" "error" "I", .fieldLink RX9 184 "MarkedNamesModel" "size" "I", .fieldLink RX9 67 "MarkedNamesModel" "text" "[I", .methodLink RX9 163 yX9_fails, .instanceMethod yX9_fails, .selects RX9 yX9_fails yX9_fails, .code yX9_fails cX9_fails 2 none] : List Cond) := goodIn_r _ [38, 28, 29, 30, 8, 31, 22, 32, 33, 18, 19, 20, 21] (by decide +kernel) (by decide +kernel)
set_option maxRecDepth 100000 in
theorem gpX9_word_X9_putName_1 : GoodIn wsX9_word wsX90 := goodIn_r _ [47, 48, 49, 50, 51, 52, 53, 54, 55, 56, 57, 58, 59, 60, 61, 62, 63, 64, 65, 66, 67, 68, 69, 70, 71, 72, 73, 74, 75, 76, 77, 78, 79, 80, 81, 82] (by decide +kernel) (by decide +kernel)
set_option maxRecDepth 100000 in
theorem gpX9_word_X9_putName_c : GoodIn wsX9_word [Cond.code yX9_putName cX9_putName 2 none] := goodIn_r _ [37] (by decide +kernel) (by decide +kernel)
theorem ggX9_word_X9_putName : GoodIn wsX9_word wsX9_putName := goodIn_cons2 gpX9_word_X9_putName_c (goodIn_app gpX9_word_X9_putName_0 gpX9_word_X9_putName_1)
set_option maxRecDepth 20000 in
theorem gX9_word_X9_putName : GoodIn wsX9_word (wsV RX9 206 RX9 yX9_putName wsX9_putName) := goodIn_app (goodIn_of _ (by decide +kernel)) ggX9_word_X9_putName
set_option maxRecDepth 100000 in
theorem gpX9_word_X9_putVariable_0 : GoodIn wsX9_word ([.methodLink RX9 194 yX9_space, .instanceMethod yX9_space, .selects RX9 yX9_space yX9_space, .initialized RX9, .code yX9_space cX9_space 1 none, .fieldLink RX9 187 "MarkedNamesModel" "gap" "Z", .methodLink RX9 191 yX9_put, .instanceMethod yX9_put, .selects RX9 yX9_put yX9_put, .code yX9_put cX9_put 2 none, .fieldLink RX9 178 "MarkedNamesModel" "error" "I", .fieldLink RX9 184 "MarkedNamesModel" "size" "I", .fieldLink RX9 67 "MarkedNamesModel" "text" "[I", .methodLink RX9 163 yX9_fails, .instanceMethod yX9_fails, .selects RX9 yX9_fails yX9_fails, .code yX9_fails cX9_fails 2 none, .methodLink RX9 197 yX9_putNumber, .instanceMethod yX9_putNumber, .selects RX9 yX9_putNumber yX9_putNumber, .code yX9_putNumber cX9_putNumber 2 none] : List Cond) := goodIn_r _ [23, 24, 25, 8, 26, 27, 28, 29, 30, 31, 22, 32, 33, 18, 19, 20, 21, 43, 44, 45, 46] (by decide +kernel) (by decide +kernel)
set_option maxRecDepth 100000 in
theorem gpX9_word_X9_putVariable_1 : GoodIn wsX9_word wsX90 := goodIn_r _ [47, 48, 49, 50, 51, 52, 53, 54, 55, 56, 57, 58, 59, 60, 61, 62, 63, 64, 65, 66, 67, 68, 69, 70, 71, 72, 73, 74, 75, 76, 77, 78, 79, 80, 81, 82] (by decide +kernel) (by decide +kernel)
set_option maxRecDepth 100000 in
theorem gpX9_word_X9_putVariable_c : GoodIn wsX9_word [Cond.code yX9_putVariable cX9_putVariable 2 none] := goodIn_r _ [42] (by decide +kernel) (by decide +kernel)
theorem ggX9_word_X9_putVariable : GoodIn wsX9_word wsX9_putVariable := goodIn_cons2 gpX9_word_X9_putVariable_c (goodIn_app gpX9_word_X9_putVariable_0 gpX9_word_X9_putVariable_1)
set_option maxRecDepth 20000 in
theorem gX9_word_X9_putVariable : GoodIn wsX9_word (wsV RX9 268 RX9 yX9_putVariable wsX9_putVariable) := goodIn_app (goodIn_of _ (by decide +kernel)) ggX9_word_X9_putVariable
theorem dX9_word_0 : decode cX9_word 0 = .ok (.aload_n 0, 1) := by decide +kernel
theorem dX9_word_1 : decode cX9_word 1 = .ok (.aload_n 0, 1) := by decide +kernel
theorem dX9_word_2 : decode cX9_word 2 = .ok (.getfield 13, 3) := by decide +kernel
theorem dX9_word_5 : decode cX9_word 5 = .ok (.aload_n 0, 1) := by decide +kernel
theorem dX9_word_6 : decode cX9_word 6 = .ok (.getfield 104, 3) := by decide +kernel
theorem dX9_word_9 : decode cX9_word 9 = .ok (.invokestatic 151, 3) := by decide +kernel
theorem dX9_word_12 : decode cX9_word 12 = .ok (.aload_n 0, 1) := by decide +kernel
theorem dX9_word_13 : decode cX9_word 13 = .ok (.getfield 16, 3) := by decide +kernel
theorem dX9_word_16 : decode cX9_word 16 = .ok (.aload_n 0, 1) := by decide +kernel
theorem dX9_word_17 : decode cX9_word 17 = .ok (.getfield 104, 3) := by decide +kernel
theorem dX9_word_20 : decode cX9_word 20 = .ok (.iaload, 1) := by decide +kernel
theorem dX9_word_21 : decode cX9_word 21 = .ok (.invokevirtual 287, 3) := by decide +kernel
theorem dX9_word_24 : decode cX9_word 24 = .ok (.istore_n 1, 1) := by decide +kernel
theorem dX9_word_25 : decode cX9_word 25 = .ok (.iload_n 1, 1) := by decide +kernel
theorem dX9_word_26 : decode cX9_word 26 = .ok (.ifCond .ge 20, 3) := by decide +kernel
theorem dX9_word_29 : decode cX9_word 29 = .ok (.aload_n 0, 1) := by decide +kernel
theorem dX9_word_30 : decode cX9_word 30 = .ok (.iload_n 1, 1) := by decide +kernel
theorem dX9_word_31 : decode cX9_word 31 = .ok (.iconst (-1), 1) := by decide +kernel
theorem dX9_word_32 : decode cX9_word 32 = .ok (.if_icmp .ne 7, 3) := by decide +kernel
theorem dX9_word_35 : decode cX9_word 35 = .ok (.iconst 1, 1) := by decide +kernel
theorem dX9_word_36 : decode cX9_word 36 = .ok (.goto 4, 3) := by decide +kernel
theorem dX9_word_39 : decode cX9_word 39 = .ok (.iconst 2, 1) := by decide +kernel
theorem dX9_word_40 : decode cX9_word 40 = .ok (.invokevirtual 163, 3) := by decide +kernel
theorem dX9_word_43 : decode cX9_word 43 = .ok (.goto 63, 3) := by decide +kernel
theorem dX9_word_46 : decode cX9_word 46 = .ok (.aload_n 0, 1) := by decide +kernel
theorem dX9_word_47 : decode cX9_word 47 = .ok (.getfield 37, 3) := by decide +kernel
theorem dX9_word_50 : decode cX9_word 50 = .ok (.iload_n 1, 1) := by decide +kernel
theorem dX9_word_51 : decode cX9_word 51 = .ok (.iaload, 1) := by decide +kernel
theorem dX9_word_52 : decode cX9_word 52 = .ok (.iconst 1, 1) := by decide +kernel
theorem dX9_word_53 : decode cX9_word 53 = .ok (.if_icmp .ne 25, 3) := by decide +kernel
theorem dX9_word_56 : decode cX9_word 56 = .ok (.aload_n 0, 1) := by decide +kernel
theorem dX9_word_57 : decode cX9_word 57 = .ok (.invokevirtual 194, 3) := by decide +kernel
theorem dX9_word_60 : decode cX9_word 60 = .ok (.aload_n 0, 1) := by decide +kernel
theorem dX9_word_61 : decode cX9_word 61 = .ok (.aload_n 0, 1) := by decide +kernel
theorem dX9_word_62 : decode cX9_word 62 = .ok (.getfield 13, 3) := by decide +kernel
theorem dX9_word_65 : decode cX9_word 65 = .ok (.aload_n 0, 1) := by decide +kernel
theorem dX9_word_66 : decode cX9_word 66 = .ok (.getfield 104, 3) := by decide +kernel
theorem dX9_word_69 : decode cX9_word 69 = .ok (.invokestatic 151, 3) := by decide +kernel
theorem dX9_word_72 : decode cX9_word 72 = .ok (.invokevirtual 206, 3) := by decide +kernel
theorem dX9_word_75 : decode cX9_word 75 = .ok (.goto 31, 3) := by decide +kernel
theorem dX9_word_78 : decode cX9_word 78 = .ok (.aload_n 0, 1) := by decide +kernel
theorem dX9_word_79 : decode cX9_word 79 = .ok (.getfield 37, 3) := by decide +kernel
theorem dX9_word_82 : decode cX9_word 82 = .ok (.iload_n 1, 1) := by decide +kernel
theorem dX9_word_83 : decode cX9_word 83 = .ok (.iaload, 1) := by decide +kernel
theorem dX9_word_84 : decode cX9_word 84 = .ok (.iconst 2, 1) := by decide +kernel
theorem dX9_word_85 : decode cX9_word 85 = .ok (.if_icmp .ne 16, 3) := by decide +kernel
theorem dX9_word_88 : decode cX9_word 88 = .ok (.aload_n 0, 1) := by decide +kernel
theorem dX9_word_89 : decode cX9_word 89 = .ok (.aload_n 0, 1) := by decide +kernel
theorem dX9_word_90 : decode cX9_word 90 = .ok (.getfield 40, 3) := by decide +kernel
theorem dX9_word_93 : decode cX9_word 93 = .ok (.iload_n 1, 1) := by decide +kernel
theorem dX9_word_94 : decode cX9_word 94 = .ok (.iaload, 1) := by decide +kernel
theorem dX9_word_95 : decode cX9_word 95 = .ok (.invokevirtual 268, 3) := by decide +kernel
theorem dX9_word_98 : decode cX9_word 98 = .ok (.goto 8, 3) := by decide +kernel
theorem dX9_word_101 : decode cX9_word 101 = .ok (.aload_n 0, 1) := by decide +kernel
theorem dX9_word_102 : decode cX9_word 102 = .ok (.iconst 3, 1) := by decide +kernel
theorem dX9_word_103 : decode cX9_word 103 = .ok (.invokevirtual 163, 3) := by decide +kernel
theorem dX9_word_106 : decode cX9_word 106 = .ok (.aload_n 0, 1) := by decide +kernel
theorem dX9_word_107 : decode cX9_word 107 = .ok (.dup, 1) := by decide +kernel
theorem dX9_word_108 : decode cX9_word 108 = .ok (.getfield 104, 3) := by decide +kernel
theorem dX9_word_111 : decode cX9_word 111 = .ok (.iconst 1, 1) := by decide +kernel
theorem dX9_word_112 : decode cX9_word 112 = .ok (.iadd, 1) := by decide +kernel
theorem dX9_word_113 : decode cX9_word 113 = .ok (.putfield 104, 3) := by decide +kernel
theorem dX9_word_116 : decode cX9_word 116 = .ok (.return_, 1) := by decide +kernel
theorem iw_X9_word_X9 : ∀ w ∈ wsX90, w ∈ wsX9_word := by decide +kernel
theorem lk_X9_word_13 : Cond.fieldLink RX9 13 "MarkedNamesModel" "row" "[I" ∈ wsX9_word := by decide +kernel
theorem lk_X9_word_104 : Cond.fieldLink RX9 104 "MarkedNamesModel" "head" "I" ∈ wsX9_word := by decide +kernel
theorem lk_X9_word_16 : Cond.fieldLink RX9 16 "MarkedNamesModel" "set" "[I" ∈ wsX9_word := by decide +kernel
theorem iw_X9_means_X9 : ∀ w ∈ wsX90, w ∈ wsX9_means := by decide +kernel
theorem lk_X9_means_160 : Cond.fieldLink RX9 160 "MarkedNamesModel" "bindings" "I" ∈ wsX9_means := by decide +kernel
theorem lk_X9_means_31 : Cond.fieldLink RX9 31 "MarkedNamesModel" "name" "[I" ∈ wsX9_means := by decide +kernel
theorem lk_X9_means_34 : Cond.fieldLink RX9 34 "MarkedNamesModel" "scopes" "[I" ∈ wsX9_means := by decide +kernel
theorem lk_X9_word_37 : Cond.fieldLink RX9 37 "MarkedNamesModel" "meaning" "[I" ∈ wsX9_word := by decide +kernel
theorem lk_X9_word_40 : Cond.fieldLink RX9 40 "MarkedNamesModel" "from" "[I" ∈ wsX9_word := by decide +kernel
theorem iw_X9_scope_X9 : ∀ w ∈ wsX90, w ∈ wsX9_scope := by decide +kernel
theorem lk_X9_scope_181 : Cond.fieldLink RX9 181 "MarkedNamesModel" "scopesMade" "I" ∈ wsX9_scope := by decide +kernel
section
variable {l : Launch} {p : Program} {e : Env} {s : State} {m : MethodId} {args : Array Value} {below : List Frame} {meth : Method} {c : Code} {A : Nat → Prop} {dC : Nat → ClassId} {dI : Nat → Nat → Nat} {cA : ClassId} {a b : Nat → Nat} {lev : Nat}
set_option maxHeartbeats 4000000 in
set_option maxRecDepth 100000 in
theorem wj_X9_means_124_ok (C : mC p s m args meth c cX9_means 8 wsX9_means RX9 (some .int) (dC, dI) vwCl [(cA, .int)] A) (hs : eM A s) (hlev : 0 ≤ lev) {post : Int32 → mS → Prop} {K5 : Int32 → Int32 → Int32 → Int32 → mS → Prop} (hK5 : ∀ (x1 x2 x3 x4 : Int32) (u : mS), K5 x1 x2 x3 x4 u → mV p l e (mRm lev) s m args below meth c 8 (dC, dI) vwCl A 0 0 (mQi below args s (dC, dI) vwCl [(cA, .int)] (wM cA b) A post) (wM cA b u) 5 [(0, .ref (b 0)), (1, .int x1), (2, .int x2), (3, .int x3), (4, .int x4)] []) {K48 : Int32 → Int32 → Int32 → Int32 → Int32 → mS → Prop} (hK48 : ∀ (x1 x2 x4 x5 x6 : Int32) (u : mS), K48 x1 x2 x4 x5 x6 u → mV p l e (mRm lev) s m args below meth c 8 (dC, dI) vwCl A 0 0 (mQi below args s (dC, dI) vwCl [(cA, .int)] (wM cA b) A post) (wM cA b u) 48 [(0, .ref (b 0)), (1, .int x1), (2, .int x2), (4, .int x4), (5, .int x5), (6, .int x6)] []) {x1 x2 x4 x6 z0 : Int32} {u : mS} (hw : wj_X9_means_124 K5 K48 post x1 x2 x4 x6 z0 u) : mV p l e (mRm lev) s m args below meth c 8 (dC, dI) vwCl A 0 0 (mQi below args s (dC, dI) vwCl [(cA, .int)] (wM cA b) A post) (wM cA b u) 124 [(0, .ref (b 0)), (1, .int x1), (2, .int x2), (4, .int x4), (6, .int x6)] [.int z0] := by
  unfold wj_X9_means_124 at hw
  refine mv_istore (lv1 := [(5, .int z0), (0, .ref (b 0)), (1, .int x1), (2, .int x2), (4, .int x4), (6, .int x6)]) C dX9_means_124 (by decide) rfl ?_
  obtain ⟨y25, ey25⟩ : ∃ z : Int32, z = x6 + (1 : Int32) := ⟨_, rfl⟩
  have hw := hw y25 ey25
  refine mv_iinc (v := y25) (lv1 := [(6, .int y25), (5, .int z0), (0, .ref (b 0)), (1, .int x1), (2, .int x2), (4, .int x4)]) C dX9_means_126 5 rfl (by rw [ey25]; rfl) (by decide) rfl ?_
  refine mv_goto (tgt := 48) C dX9_means_129 (by decide) ?_
  refine mv_sub [2, 3, 4, 5, 1, 0] rfl ?_
  exact hK48 x1 x2 x4 z0 y25 u hw
set_option maxHeartbeats 4000000 in
set_option maxRecDepth 100000 in
theorem wj_X9_means_119_ok (C : mC p s m args meth c cX9_means 8 wsX9_means RX9 (some .int) (dC, dI) vwCl [(cA, .int)] A) (hs : eM A s) (hlev : 0 ≤ lev) {post : Int32 → mS → Prop} {K5 : Int32 → Int32 → Int32 → Int32 → mS → Prop} (hK5 : ∀ (x1 x2 x3 x4 : Int32) (u : mS), K5 x1 x2 x3 x4 u → mV p l e (mRm lev) s m args below meth c 8 (dC, dI) vwCl A 0 0 (mQi below args s (dC, dI) vwCl [(cA, .int)] (wM cA b) A post) (wM cA b u) 5 [(0, .ref (b 0)), (1, .int x1), (2, .int x2), (3, .int x3), (4, .int x4)] []) {K48 : Int32 → Int32 → Int32 → Int32 → Int32 → mS → Prop} (hK48 : ∀ (x1 x2 x4 x5 x6 : Int32) (u : mS), K48 x1 x2 x4 x5 x6 u → mV p l e (mRm lev) s m args below meth c 8 (dC, dI) vwCl A 0 0 (mQi below args s (dC, dI) vwCl [(cA, .int)] (wM cA b) A post) (wM cA b u) 48 [(0, .ref (b 0)), (1, .int x1), (2, .int x2), (4, .int x4), (5, .int x5), (6, .int x6)] []) {x1 x2 x4 x6 : Int32} {u : mS} (hw : wj_X9_means_119 K5 K48 post x1 x2 x4 x6 u) : mV p l e (mRm lev) s m args below meth c 8 (dC, dI) vwCl A 0 0 (mQi below args s (dC, dI) vwCl [(cA, .int)] (wM cA b) A post) (wM cA b u) 119 [(0, .ref (b 0)), (1, .int x1), (2, .int x2), (4, .int x4), (6, .int x6)] [] := by
  unfold wj_X9_means_119 at hw
  refine mv_iconst (v := (1 : Int32)) C dX9_means_119 (by decide) ?_
  refine mv_goto (tgt := 124) C dX9_means_120 (by decide) ?_
  exact wj_X9_means_124_ok C hs hlev hK5 hK48 hw
set_option maxHeartbeats 4000000 in
set_option maxRecDepth 100000 in
theorem wj_X9_means_123_ok (C : mC p s m args meth c cX9_means 8 wsX9_means RX9 (some .int) (dC, dI) vwCl [(cA, .int)] A) (hs : eM A s) (hlev : 0 ≤ lev) {post : Int32 → mS → Prop} {K5 : Int32 → Int32 → Int32 → Int32 → mS → Prop} (hK5 : ∀ (x1 x2 x3 x4 : Int32) (u : mS), K5 x1 x2 x3 x4 u → mV p l e (mRm lev) s m args below meth c 8 (dC, dI) vwCl A 0 0 (mQi below args s (dC, dI) vwCl [(cA, .int)] (wM cA b) A post) (wM cA b u) 5 [(0, .ref (b 0)), (1, .int x1), (2, .int x2), (3, .int x3), (4, .int x4)] []) {K48 : Int32 → Int32 → Int32 → Int32 → Int32 → mS → Prop} (hK48 : ∀ (x1 x2 x4 x5 x6 : Int32) (u : mS), K48 x1 x2 x4 x5 x6 u → mV p l e (mRm lev) s m args below meth c 8 (dC, dI) vwCl A 0 0 (mQi below args s (dC, dI) vwCl [(cA, .int)] (wM cA b) A post) (wM cA b u) 48 [(0, .ref (b 0)), (1, .int x1), (2, .int x2), (4, .int x4), (5, .int x5), (6, .int x6)] []) {x1 x2 x4 x6 : Int32} {u : mS} (hw : wj_X9_means_123 K5 K48 post x1 x2 x4 x6 u) : mV p l e (mRm lev) s m args below meth c 8 (dC, dI) vwCl A 0 0 (mQi below args s (dC, dI) vwCl [(cA, .int)] (wM cA b) A post) (wM cA b u) 123 [(0, .ref (b 0)), (1, .int x1), (2, .int x2), (4, .int x4), (6, .int x6)] [] := by
  unfold wj_X9_means_123 at hw
  refine mv_iconst (v := (0 : Int32)) C dX9_means_123 (by decide) ?_
  exact wj_X9_means_124_ok C hs hlev hK5 hK48 hw
set_option maxHeartbeats 4000000 in
set_option maxRecDepth 100000 in
theorem wj_X9_means_87_ok (C : mC p s m args meth c cX9_means 8 wsX9_means RX9 (some .int) (dC, dI) vwCl [(cA, .int)] A) (hs : eM A s) (hlev : 0 ≤ lev) {post : Int32 → mS → Prop} {K5 : Int32 → Int32 → Int32 → Int32 → mS → Prop} (hK5 : ∀ (x1 x2 x3 x4 : Int32) (u : mS), K5 x1 x2 x3 x4 u → mV p l e (mRm lev) s m args below meth c 8 (dC, dI) vwCl A 0 0 (mQi below args s (dC, dI) vwCl [(cA, .int)] (wM cA b) A post) (wM cA b u) 5 [(0, .ref (b 0)), (1, .int x1), (2, .int x2), (3, .int x3), (4, .int x4)] []) {K48 : Int32 → Int32 → Int32 → Int32 → Int32 → mS → Prop} (hK48 : ∀ (x1 x2 x4 x5 x6 : Int32) (u : mS), K48 x1 x2 x4 x5 x6 u → mV p l e (mRm lev) s m args below meth c 8 (dC, dI) vwCl A 0 0 (mQi below args s (dC, dI) vwCl [(cA, .int)] (wM cA b) A post) (wM cA b u) 48 [(0, .ref (b 0)), (1, .int x1), (2, .int x2), (4, .int x4), (5, .int x5), (6, .int x6)] []) {x1 x2 x4 x5 x6 z0 : Int32} {u : mS} (hw : wj_X9_means_87 K5 K48 post x1 x2 x4 x5 x6 z0 u) : mV p l e (mRm lev) s m args below meth c 8 (dC, dI) vwCl A 0 0 (mQi below args s (dC, dI) vwCl [(cA, .int)] (wM cA b) A post) (wM cA b u) 87 [(0, .ref (b 0)), (1, .int x1), (2, .int x2), (4, .int x4), (5, .int x5), (6, .int x6)] [.int z0] := by
  unfold wj_X9_means_87 at hw
  refine mv_istore (lv1 := [(7, .int z0), (0, .ref (b 0)), (1, .int x1), (2, .int x2), (4, .int x4), (5, .int x5), (6, .int x6)]) C dX9_means_87 (by decide) rfl ?_
  refine mv_iload C dX9_means_89 5 rfl ?_
  refine mv_if_eq (tgt := 123) C dX9_means_91 (by decide) (fun h18 => ?_) (fun h18 => ?_)
  · have hw := hw.1 h18
    refine mv_sub [1, 2, 3, 4, 6] rfl ?_
    exact wj_X9_means_123_ok C hs hlev hK5 hK48 hw
  · have hw := hw.2 h18
    refine mv_iload C dX9_means_94 0 rfl ?_
    refine mv_if_eq (tgt := 119) C dX9_means_96 (by decide) (fun h19 => ?_) (fun h19 => ?_)
    · have hw := hw.1 h19
      refine mv_sub [1, 2, 3, 4, 6] rfl ?_
      exact wj_X9_means_119_ok C hs hlev hK5 hK48 hw
    · have hw := hw.2 h19
      refine mv_aload_n C dX9_means_99 rfl 1 rfl ?_
      refine mv_get (v := .ref (b 9)) C iw_X9_means_X9 0 rfl rfl 14 (by decide) lk_X9_means_34 rfl rfl dX9_means_100 ?_
      refine mv_iload C dX9_means_103 6 rfl ?_
      refine mv_iald (f := u.2 8) C 9 0 rfl rfl hw.1 dX9_means_105 ?_
      refine mv_topi (fun y20 ey20 => ?_)
      have hw := hw.2 y20 ey20
      refine mv_aload_n C dX9_means_106 rfl 1 rfl ?_
      refine mv_get (v := .ref (b 9)) C iw_X9_means_X9 0 rfl rfl 14 (by decide) lk_X9_means_34 rfl rfl dX9_means_107 ?_
      refine mv_iload C dX9_means_110 4 rfl ?_
      refine mv_iald (f := u.2 8) C 9 0 rfl rfl hw.1 dX9_means_112 ?_
      refine mv_topi (fun y21 ey21 => ?_)
      have hw := hw.2 y21 ey21
      refine mv_iconst (v := (-1 : Int32)) C dX9_means_113 (by decide) ?_
      refine mv_ixor C dX9_means_114 ?_
      refine mv_topi (fun y22 ey22 => ?_)
      have hw := hw y22 ey22
      refine mv_iand C dX9_means_115 ?_
      refine mv_topi (fun y23 ey23 => ?_)
      have hw := hw y23 ey23
      refine mv_if_ne (tgt := 123) C dX9_means_116 (by decide) (fun h24 => ?_) (fun h24 => ?_)
      · have hw := hw.1 h24
        refine mv_sub [1, 2, 3, 4, 6] rfl ?_
        exact wj_X9_means_123_ok C hs hlev hK5 hK48 hw
      · have hw := hw.2 h24
        refine mv_sub [1, 2, 3, 4, 6] rfl ?_
        exact wj_X9_means_119_ok C hs hlev hK5 hK48 hw
set_option maxHeartbeats 4000000 in
set_option maxRecDepth 100000 in
theorem wj_X9_means_86_ok (C : mC p s m args meth c cX9_means 8 wsX9_means RX9 (some .int) (dC, dI) vwCl [(cA, .int)] A) (hs : eM A s) (hlev : 0 ≤ lev) {post : Int32 → mS → Prop} {K5 : Int32 → Int32 → Int32 → Int32 → mS → Prop} (hK5 : ∀ (x1 x2 x3 x4 : Int32) (u : mS), K5 x1 x2 x3 x4 u → mV p l e (mRm lev) s m args below meth c 8 (dC, dI) vwCl A 0 0 (mQi below args s (dC, dI) vwCl [(cA, .int)] (wM cA b) A post) (wM cA b u) 5 [(0, .ref (b 0)), (1, .int x1), (2, .int x2), (3, .int x3), (4, .int x4)] []) {K48 : Int32 → Int32 → Int32 → Int32 → Int32 → mS → Prop} (hK48 : ∀ (x1 x2 x4 x5 x6 : Int32) (u : mS), K48 x1 x2 x4 x5 x6 u → mV p l e (mRm lev) s m args below meth c 8 (dC, dI) vwCl A 0 0 (mQi below args s (dC, dI) vwCl [(cA, .int)] (wM cA b) A post) (wM cA b u) 48 [(0, .ref (b 0)), (1, .int x1), (2, .int x2), (4, .int x4), (5, .int x5), (6, .int x6)] []) {x1 x2 x4 x5 x6 : Int32} {u : mS} (hw : wj_X9_means_86 K5 K48 post x1 x2 x4 x5 x6 u) : mV p l e (mRm lev) s m args below meth c 8 (dC, dI) vwCl A 0 0 (mQi below args s (dC, dI) vwCl [(cA, .int)] (wM cA b) A post) (wM cA b u) 86 [(0, .ref (b 0)), (1, .int x1), (2, .int x2), (4, .int x4), (5, .int x5), (6, .int x6)] [] := by
  unfold wj_X9_means_86 at hw
  refine mv_iconst (v := (0 : Int32)) C dX9_means_86 (by decide) ?_
  exact wj_X9_means_87_ok C hs hlev hK5 hK48 hw
set_option maxHeartbeats 4000000 in
set_option maxRecDepth 100000 in
theorem wj_X9_means_143_ok (C : mC p s m args meth c cX9_means 8 wsX9_means RX9 (some .int) (dC, dI) vwCl [(cA, .int)] A) (hs : eM A s) (hlev : 0 ≤ lev) {post : Int32 → mS → Prop} {K5 : Int32 → Int32 → Int32 → Int32 → mS → Prop} (hK5 : ∀ (x1 x2 x3 x4 : Int32) (u : mS), K5 x1 x2 x3 x4 u → mV p l e (mRm lev) s m args below meth c 8 (dC, dI) vwCl A 0 0 (mQi below args s (dC, dI) vwCl [(cA, .int)] (wM cA b) A post) (wM cA b u) 5 [(0, .ref (b 0)), (1, .int x1), (2, .int x2), (3, .int x3), (4, .int x4)] []) {x1 x2 x3 x4 : Int32} {u : mS} (hw : wj_X9_means_143 K5 post x1 x2 x3 x4 u) : mV p l e (mRm lev) s m args below meth c 8 (dC, dI) vwCl A 0 0 (mQi below args s (dC, dI) vwCl [(cA, .int)] (wM cA b) A post) (wM cA b u) 143 [(0, .ref (b 0)), (1, .int x1), (2, .int x2), (3, .int x3), (4, .int x4)] [] := by
  unfold wj_X9_means_143 at hw
  obtain ⟨y26, ey26⟩ : ∃ z : Int32, z = x4 + (1 : Int32) := ⟨_, rfl⟩
  have hw := hw y26 ey26
  refine mv_iinc (v := y26) (lv1 := [(4, .int y26), (0, .ref (b 0)), (1, .int x1), (2, .int x2), (3, .int x3)]) C dX9_means_143 4 rfl (by rw [ey26]; rfl) (by decide) rfl ?_
  refine mv_goto (tgt := 5) C dX9_means_146 (by decide) ?_
  refine mv_sub [1, 2, 3, 4, 0] rfl ?_
  exact hK5 x1 x2 x3 y26 u hw
set_option maxHeartbeats 4000000 in
set_option maxRecDepth 100000 in
theorem wj_X9_means_48_ok (C : mC p s m args meth c cX9_means 8 wsX9_means RX9 (some .int) (dC, dI) vwCl [(cA, .int)] A) (hs : eM A s) (hlev : 0 ≤ lev) {post : Int32 → mS → Prop} {K48 : Int32 → Int32 → Int32 → Int32 → Int32 → mS → Prop} (hK48 : ∀ (x1 x2 x4 x5 x6 : Int32) (u : mS), K48 x1 x2 x4 x5 x6 u → mV p l e (mRm lev) s m args below meth c 8 (dC, dI) vwCl A 0 0 (mQi below args s (dC, dI) vwCl [(cA, .int)] (wM cA b) A post) (wM cA b u) 48 [(0, .ref (b 0)), (1, .int x1), (2, .int x2), (4, .int x4), (5, .int x5), (6, .int x6)] []) {K5 : Int32 → Int32 → Int32 → Int32 → mS → Prop} (hK5 : ∀ (x1 x2 x3 x4 : Int32) (u : mS), K5 x1 x2 x3 x4 u → mV p l e (mRm lev) s m args below meth c 8 (dC, dI) vwCl A 0 0 (mQi below args s (dC, dI) vwCl [(cA, .int)] (wM cA b) A post) (wM cA b u) 5 [(0, .ref (b 0)), (1, .int x1), (2, .int x2), (3, .int x3), (4, .int x4)] []) {x1 x2 x4 x5 x6 : Int32} {u : mS} (hw : wj_X9_means_48 K48 K5 post x1 x2 x4 x5 x6 u) : mV p l e (mRm lev) s m args below meth c 8 (dC, dI) vwCl A 0 0 (mQi below args s (dC, dI) vwCl [(cA, .int)] (wM cA b) A post) (wM cA b u) 48 [(0, .ref (b 0)), (1, .int x1), (2, .int x2), (4, .int x4), (5, .int x5), (6, .int x6)] [] := by
  unfold wj_X9_means_48 at hw
  refine mv_iload C dX9_means_48 5 rfl ?_
  refine mv_aload_n C dX9_means_50 rfl 0 rfl ?_
  refine mv_get (v := .int (u.1 4)) C iw_X9_means_X9 0 rfl rfl 11 (by decide) lk_X9_means_160 rfl rfl dX9_means_51 ?_
  refine mv_topi (fun y9 ey9 => ?_)
  have hw := hw y9 ey9
  refine mv_icmp_ge (tgt := 132) C dX9_means_54 (by decide) (fun h10 => ?_) (fun h10 => ?_)
  · have hw := hw.1 h10
    refine mv_iload C dX9_means_132 4 rfl ?_
    refine mv_if_eq (tgt := 140) C dX9_means_134 (by decide) (fun h11 => ?_) (fun h11 => ?_)
    · have hw := hw.1 h11
      refine mv_bipush (v := (-2 : Int32)) C dX9_means_140 (by decide) ?_
      refine mv_istore_n (lv1 := [(3, .int (-2 : Int32)), (0, .ref (b 0)), (1, .int x1), (2, .int x2), (4, .int x4), (5, .int x5), (6, .int x6)]) C dX9_means_142 rfl (by decide) rfl ?_
      refine mv_sub [1, 2, 3, 0, 4] rfl ?_
      exact wj_X9_means_143_ok C hs hlev hK5 hw
    · have hw := hw.2 h11
      refine mv_iload C dX9_means_137 3 rfl ?_
      exact mv_iret C dX9_means_139 hw
  · have hw := hw.2 h10
    refine mv_aload_n C dX9_means_57 rfl 0 rfl ?_
    refine mv_get (v := .ref (b 8)) C iw_X9_means_X9 0 rfl rfl 13 (by decide) lk_X9_means_31 rfl rfl dX9_means_58 ?_
    refine mv_iload C dX9_means_61 5 rfl ?_
    refine mv_iald (f := u.2 7) C 8 0 rfl rfl hw.1 dX9_means_63 ?_
    refine mv_topi (fun y12 ey12 => ?_)
    have hw := hw.2 y12 ey12
    refine mv_iload_n C dX9_means_64 rfl 1 rfl ?_
    refine mv_icmp_ne (tgt := 86) C dX9_means_65 (by decide) (fun h13 => ?_) (fun h13 => ?_)
    · have hw := hw.1 h13
      exact wj_X9_means_86_ok C hs hlev hK5 hK48 hw
    · have hw := hw.2 h13
      refine mv_aload_n C dX9_means_68 rfl 0 rfl ?_
      refine mv_get (v := .ref (b 9)) C iw_X9_means_X9 0 rfl rfl 14 (by decide) lk_X9_means_34 rfl rfl dX9_means_69 ?_
      refine mv_iload C dX9_means_72 5 rfl ?_
      refine mv_iald (f := u.2 8) C 9 0 rfl rfl hw.1 dX9_means_74 ?_
      refine mv_topi (fun y14 ey14 => ?_)
      have hw := hw.2 y14 ey14
      refine mv_iload_n C dX9_means_75 rfl 2 rfl ?_
      refine mv_iconst (v := (-1 : Int32)) C dX9_means_76 (by decide) ?_
      refine mv_ixor C dX9_means_77 ?_
      refine mv_topi (fun y15 ey15 => ?_)
      have hw := hw y15 ey15
      refine mv_iand C dX9_means_78 ?_
      refine mv_topi (fun y16 ey16 => ?_)
      have hw := hw y16 ey16
      refine mv_if_ne (tgt := 86) C dX9_means_79 (by decide) (fun h17 => ?_) (fun h17 => ?_)
      · have hw := hw.1 h17
        exact wj_X9_means_86_ok C hs hlev hK5 hK48 hw
      · have hw := hw.2 h17
        refine mv_iconst (v := (1 : Int32)) C dX9_means_82 (by decide) ?_
        refine mv_goto (tgt := 87) C dX9_means_83 (by decide) ?_
        exact wj_X9_means_87_ok C hs hlev hK5 hK48 hw
set_option maxHeartbeats 4000000 in
set_option maxRecDepth 100000 in
theorem wj_X9_means_5_ok (C : mC p s m args meth c cX9_means 8 wsX9_means RX9 (some .int) (dC, dI) vwCl [(cA, .int)] A) (hs : eM A s) (hlev : 0 ≤ lev) {post : Int32 → mS → Prop} {K5 : Int32 → Int32 → Int32 → Int32 → mS → Prop} (hK5 : ∀ (x1 x2 x3 x4 : Int32) (u : mS), K5 x1 x2 x3 x4 u → mV p l e (mRm lev) s m args below meth c 8 (dC, dI) vwCl A 0 0 (mQi below args s (dC, dI) vwCl [(cA, .int)] (wM cA b) A post) (wM cA b u) 5 [(0, .ref (b 0)), (1, .int x1), (2, .int x2), (3, .int x3), (4, .int x4)] []) {x1 x2 x3 x4 : Int32} {u : mS} (hw : wj_X9_means_5 K5 post x1 x2 x3 x4 u) : mV p l e (mRm lev) s m args below meth c 8 (dC, dI) vwCl A 0 0 (mQi below args s (dC, dI) vwCl [(cA, .int)] (wM cA b) A post) (wM cA b u) 5 [(0, .ref (b 0)), (1, .int x1), (2, .int x2), (3, .int x3), (4, .int x4)] [] := by
  unfold wj_X9_means_5 at hw
  refine mv_iload C dX9_means_5 4 rfl ?_
  refine mv_aload_n C dX9_means_7 rfl 0 rfl ?_
  refine mv_get (v := .int (u.1 4)) C iw_X9_means_X9 0 rfl rfl 11 (by decide) lk_X9_means_160 rfl rfl dX9_means_8 ?_
  refine mv_topi (fun y1 ey1 => ?_)
  have hw := hw y1 ey1
  refine mv_icmp_ge (tgt := 149) C dX9_means_11 (by decide) (fun h2 => ?_) (fun h2 => ?_)
  · have hw := hw.1 h2
    refine mv_iload_n C dX9_means_149 rfl 3 rfl ?_
    exact mv_iret C dX9_means_150 hw
  · have hw := hw.2 h2
    refine mv_aload_n C dX9_means_14 rfl 0 rfl ?_
    refine mv_get (v := .ref (b 8)) C iw_X9_means_X9 0 rfl rfl 13 (by decide) lk_X9_means_31 rfl rfl dX9_means_15 ?_
    refine mv_iload C dX9_means_18 4 rfl ?_
    refine mv_iald (f := u.2 7) C 8 0 rfl rfl hw.1 dX9_means_20 ?_
    refine mv_topi (fun y3 ey3 => ?_)
    have hw := hw.2 y3 ey3
    refine mv_iload_n C dX9_means_21 rfl 1 rfl ?_
    refine mv_icmp_ne (tgt := 143) C dX9_means_22 (by decide) (fun h4 => ?_) (fun h4 => ?_)
    · have hw := hw.1 h4
      exact wj_X9_means_143_ok C hs hlev hK5 hw
    · have hw := hw.2 h4
      refine mv_aload_n C dX9_means_25 rfl 0 rfl ?_
      refine mv_get (v := .ref (b 9)) C iw_X9_means_X9 0 rfl rfl 14 (by decide) lk_X9_means_34 rfl rfl dX9_means_26 ?_
      refine mv_iload C dX9_means_29 4 rfl ?_
      refine mv_iald (f := u.2 8) C 9 0 rfl rfl hw.1 dX9_means_31 ?_
      refine mv_topi (fun y5 ey5 => ?_)
      have hw := hw.2 y5 ey5
      refine mv_iload_n C dX9_means_32 rfl 2 rfl ?_
      refine mv_iconst (v := (-1 : Int32)) C dX9_means_33 (by decide) ?_
      refine mv_ixor C dX9_means_34 ?_
      refine mv_topi (fun y6 ey6 => ?_)
      have hw := hw y6 ey6
      refine mv_iand C dX9_means_35 ?_
      refine mv_topi (fun y7 ey7 => ?_)
      have hw := hw y7 ey7
      refine mv_if_eq (tgt := 42) C dX9_means_36 (by decide) (fun h8 => ?_) (fun h8 => ?_)
      · have hw := hw.1 h8
        refine mv_iconst (v := (1 : Int32)) C dX9_means_42 (by decide) ?_
        refine mv_istore (lv1 := [(5, .int (1 : Int32)), (0, .ref (b 0)), (1, .int x1), (2, .int x2), (3, .int x3), (4, .int x4)]) C dX9_means_43 (by decide) rfl ?_
        refine mv_iconst (v := (0 : Int32)) C dX9_means_45 (by decide) ?_
        refine mv_istore (lv1 := [(6, .int (0 : Int32)), (5, .int (1 : Int32)), (0, .ref (b 0)), (1, .int x1), (2, .int x2), (3, .int x3), (4, .int x4)]) C dX9_means_46 (by decide) rfl ?_
        refine mv_sub [2, 3, 4, 6, 1, 0] rfl ?_
        obtain ⟨n, hw⟩ := hw
        exact mL6_of (fun K hK b0 b1 b2 b3 b4 b5 hw => wj_X9_means_48_ok C hs hlev hK hK5 hw) n x1 x2 x4 (1 : Int32) (0 : Int32) u hw
      · have hw := hw.2 h8
        refine mv_goto (tgt := 143) C dX9_means_39 (by decide) ?_
        exact wj_X9_means_143_ok C hs hlev hK5 hw
set_option maxHeartbeats 4000000 in
set_option maxRecDepth 100000 in
theorem X9_means_met (hlev : 0 ≤ lev) {x1 x2 : Int32} {u : mS} {post : Int32 → mS → Prop} (hw : wp_X9_means x1 x2 u post) : mKi l yX9_means wsX9_means lev (eM) (dC, dI) vwCl [(cA, .int)] (wM cA b) [.ref (b 0), .int x1, .int x2] u post := by
  refine mKi_of (cc := cX9_means) (maxL := 8) (by decide) rfl rfl (Nat.le_of_ble_eq_true rfl) rfl ?_
  intro p e s m args below meth c A C hs
  unfold wp_X9_means at hw
  refine mv_iconst (v := (-1 : Int32)) C dX9_means_0 (by decide) ?_
  refine mv_istore_n (lv1 := [(3, .int (-1 : Int32)), (0, .ref (b 0)), (1, .int x1), (2, .int x2)]) C dX9_means_1 rfl (by decide) rfl ?_
  refine mv_iconst (v := (0 : Int32)) C dX9_means_2 (by decide) ?_
  refine mv_istore (lv1 := [(4, .int (0 : Int32)), (3, .int (-1 : Int32)), (0, .ref (b 0)), (1, .int x1), (2, .int x2)]) C dX9_means_3 (by decide) rfl ?_
  refine mv_sub [2, 3, 4, 1, 0] rfl ?_
  obtain ⟨n, hw⟩ := hw
  exact mL5_of (fun K hK b0 b1 b2 b3 b4 hw => wj_X9_means_5_ok C hs hlev hK hw) n x1 x2 (-1 : Int32) (0 : Int32) u hw
set_option maxHeartbeats 4000000 in
set_option maxRecDepth 100000 in
theorem X9_putVariable_met (hlev : 3 ≤ lev) {x1 : Int32} {u : mS} {post : mS → Prop} (hw : wp_X9_putVariable x1 u post) : mKv l yX9_putVariable wsX9_putVariable lev (eM) (dC, dI) vwCl [(cA, .int)] (wM cA b) [.ref (b 0), .int x1] u post := by
  refine mKv_of (cc := cX9_putVariable) (maxL := 2) (by decide) rfl rfl (Nat.le_of_ble_eq_true rfl) rfl ?_
  intro p e s m args below meth c A C hs
  unfold wp_X9_putVariable at hw
  refine mv_aload_n C dX9_putVariable_0 rfl 0 rfl ?_
  refine mv_callVv (f := wM cA b) (As := []) (rest := []) C eM_ok hs 0 rfl rfl (X9_space_met (l := l) (lev := lev - 1) (by omega) hw) (cwV 0 C.2.2.2.2.1 gX9_putVariable_X9_space rfl rfl rfl (by decide +kernel) (mRm_le (by omega) (by decide))) rfl rfl (Nat.le_of_ble_eq_true rfl) dX9_putVariable_1 ⟨Nat.le_refl 0, Nat.le_refl 0⟩ (fun u2 hw => ?_)
  refine mv_aload_n C dX9_putVariable_4 rfl 0 rfl ?_
  refine mv_bipush (v := (118 : Int32)) C dX9_putVariable_5 (by decide) ?_
  refine mv_callVv (f := wM cA b) (As := [.int (118 : Int32)]) (rest := []) C eM_ok hs 0 rfl rfl (X9_put_met (l := l) (lev := lev - 1) (by omega) hw) (cwV 1 C.2.2.2.2.1 gX9_putVariable_X9_put rfl rfl rfl (by decide +kernel) (mRm_le (by omega) (by decide))) rfl rfl (Nat.le_of_ble_eq_true rfl) dX9_putVariable_7 ⟨Nat.le_refl 0, Nat.le_refl 0⟩ (fun u4 hw => ?_)
  refine mv_aload_n C dX9_putVariable_10 rfl 0 rfl ?_
  refine mv_iload_n C dX9_putVariable_11 rfl 1 rfl ?_
  refine mv_callVv (f := wM cA b) (As := [.int x1]) (rest := []) C eM_ok hs 0 rfl rfl (X9_putNumber_met (l := l) (lev := lev - 1) (by omega) hw) (cwV 1 C.2.2.2.2.1 gX9_putVariable_X9_putNumber rfl rfl rfl (by decide +kernel) (mRm_le (by omega) (by decide))) rfl rfl (Nat.le_of_ble_eq_true rfl) dX9_putVariable_12 ⟨Nat.le_refl 0, Nat.le_refl 0⟩ (fun u6 hw => ?_)
  exact mv_vret C dX9_putVariable_15 hw
set_option maxHeartbeats 4000000 in
set_option maxRecDepth 100000 in
theorem wj_X9_word_106_ok (C : mC p s m args meth c cX9_word 2 wsX9_word RX9 none (dC, dI) vwCl [(cA, .int)] A) (hs : eM A s) (hlev : 4 ≤ lev) {post : mS → Prop} {u : mS} (hw : wj_X9_word_106 post  u) : mV p l e (mRm lev) s m args below meth c 2 (dC, dI) vwCl A 0 0 (mQv below args s (dC, dI) vwCl [(cA, .int)] (wM cA b) A post) (wM cA b u) 106 [(0, .ref (b 0))] [] := by
  unfold wj_X9_word_106 at hw
  refine mv_aload_n C dX9_word_106 rfl 0 rfl ?_
  refine mv_dup C dX9_word_107 rfl ?_
  refine mv_get (v := .int (u.1 1)) C iw_X9_word_X9 0 rfl rfl 4 (by decide) lk_X9_word_104 rfl rfl dX9_word_108 ?_
  refine mv_topi (fun y28 ey28 => ?_)
  have hw := hw y28 ey28
  refine mv_iconst (v := (1 : Int32)) C dX9_word_111 (by decide) ?_
  refine mv_iadd C dX9_word_112 ?_
  refine mv_topi (fun y29 ey29 => ?_)
  have hw := hw y29 ey29
  refine mv_put (ty := .int) (ws1 := wM cA b (mSet u 1 y29)) C iw_X9_word_X9 tyX9 tyX9_ok nmX9 0 rfl rfl 4 (by decide) lk_X9_word_104 rfl rfl rfl rfl rfl (Nat.le_of_ble_eq_true rfl) rfl dX9_word_113 ?_
  refine mv_nm (f := wM cA b) (fun u30 eu30 => ?_)
  have hw := hw u30 eu30
  exact mv_vret C dX9_word_116 hw
set_option maxHeartbeats 4000000 in
set_option maxRecDepth 100000 in
theorem wj_X9_word_40_ok (C : mC p s m args meth c cX9_word 2 wsX9_word RX9 none (dC, dI) vwCl [(cA, .int)] A) (hs : eM A s) (hlev : 4 ≤ lev) {post : mS → Prop} {z0 : Int32} {u : mS} (hw : wj_X9_word_40 post z0 u) : mV p l e (mRm lev) s m args below meth c 2 (dC, dI) vwCl A 0 0 (mQv below args s (dC, dI) vwCl [(cA, .int)] (wM cA b) A post) (wM cA b u) 40 [(0, .ref (b 0))] [.int z0, .ref (b 0)] := by
  unfold wj_X9_word_40 at hw
  refine mv_callVv (f := wM cA b) (As := [.int z0]) (rest := []) C eM_ok hs 0 rfl rfl (X9_fails_met (l := l) (lev := lev - 1) (by omega) hw) (cwV 1 C.2.2.2.2.1 gX9_word_X9_fails rfl rfl rfl (by decide +kernel) (mRm_le (by omega) (by decide))) rfl rfl (Nat.le_of_ble_eq_true rfl) dX9_word_40 ⟨Nat.le_refl 0, Nat.le_refl 0⟩ (fun u27 hw => ?_)
  refine mv_goto (tgt := 106) C dX9_word_43 (by decide) ?_
  exact wj_X9_word_106_ok C hs hlev hw
set_option maxHeartbeats 4000000 in
set_option maxRecDepth 100000 in
theorem X9_word_met (hlev : 4 ≤ lev) {u : mS} {post : mS → Prop} (hw : wp_X9_word  u post) : mKv l yX9_word wsX9_word lev (eM) (dC, dI) vwCl [(cA, .int)] (wM cA b) [.ref (b 0)] u post := by
  refine mKv_of (cc := cX9_word) (maxL := 2) (by decide) rfl rfl (Nat.le_of_ble_eq_true rfl) rfl ?_
  intro p e s m args below meth c A C hs
  unfold wp_X9_word at hw
  refine mv_aload_n C dX9_word_0 rfl 0 rfl ?_
  refine mv_aload_n C dX9_word_1 rfl 0 rfl ?_
  refine mv_get (v := .ref (b 2)) C iw_X9_word_X9 0 rfl rfl 2 (by decide) lk_X9_word_13 rfl rfl dX9_word_2 ?_
  refine mv_aload_n C dX9_word_5 rfl 0 rfl ?_
  refine mv_get (v := .int (u.1 1)) C iw_X9_word_X9 0 rfl rfl 4 (by decide) lk_X9_word_104 rfl rfl dX9_word_6 ?_
  refine mv_topi (fun y1 ey1 => ?_)
  have hw := hw y1 ey1
  refine mv_callSi (f := wM cA b) (As := [.ref (b 2), .int y1]) (rest := [.ref (b 0)]) C eM_ok hs (X9_what_2_met (l := l) (lev := lev - 1) (by omega) hw) (va_cwS 2 C.2.2.2.2.1 gX9_word_X9_what rfl rfl rfl (by decide +kernel) (mRm_le (by omega) (by decide))) rfl rfl (Nat.le_of_ble_eq_true rfl) dX9_word_9 ⟨Nat.le_refl 0, Nat.le_refl 0⟩ (fun r2 u3 hw => ?_)
  refine mv_aload_n C dX9_word_12 rfl 0 rfl ?_
  refine mv_get (v := .ref (b 3)) C iw_X9_word_X9 0 rfl rfl 3 (by decide) lk_X9_word_16 rfl rfl dX9_word_13 ?_
  refine mv_aload_n C dX9_word_16 rfl 0 rfl ?_
  refine mv_get (v := .int (u3.1 1)) C iw_X9_word_X9 0 rfl rfl 4 (by decide) lk_X9_word_104 rfl rfl dX9_word_17 ?_
  refine mv_topi (fun y4 ey4 => ?_)
  have hw := hw y4 ey4
  refine mv_iald (f := u3.2 2) C 3 0 rfl rfl hw.1 dX9_word_20 ?_
  refine mv_topi (fun y5 ey5 => ?_)
  have hw := hw.2 y5 ey5
  refine mv_callVi (f := wM cA b) (As := [.int r2, .int y5]) (rest := []) C eM_ok hs 0 rfl rfl (X9_means_met (l := l) (lev := lev - 1) (by omega) hw) (cwV 2 C.2.2.2.2.1 gX9_word_X9_means rfl rfl rfl (by decide +kernel) (mRm_le (by omega) (by decide))) rfl rfl (Nat.le_of_ble_eq_true rfl) dX9_word_21 ⟨Nat.le_refl 0, Nat.le_refl 0⟩ (fun r6 u7 hw => ?_)
  refine mv_istore_n (lv1 := [(1, .int r6), (0, .ref (b 0))]) C dX9_word_24 rfl (by decide) rfl ?_
  refine mv_iload_n C dX9_word_25 rfl 0 rfl ?_
  refine mv_if_ge (tgt := 46) C dX9_word_26 (by decide) (fun h8 => ?_) (fun h8 => ?_)
  · have hw := hw.1 h8
    refine mv_aload_n C dX9_word_46 rfl 1 rfl ?_
    refine mv_get (v := .ref (b 10)) C iw_X9_word_X9 0 rfl rfl 15 (by decide) lk_X9_word_37 rfl rfl dX9_word_47 ?_
    refine mv_iload_n C dX9_word_50 rfl 0 rfl ?_
    refine mv_iald (f := u7.2 9) C 10 0 rfl rfl hw.1 dX9_word_51 ?_
    refine mv_topi (fun y9 ey9 => ?_)
    have hw := hw.2 y9 ey9
    refine mv_iconst (v := (1 : Int32)) C dX9_word_52 (by decide) ?_
    refine mv_icmp_ne (tgt := 78) C dX9_word_53 (by decide) (fun h10 => ?_) (fun h10 => ?_)
    · have hw := hw.1 h10
      refine mv_aload_n C dX9_word_78 rfl 1 rfl ?_
      refine mv_get (v := .ref (b 10)) C iw_X9_word_X9 0 rfl rfl 15 (by decide) lk_X9_word_37 rfl rfl dX9_word_79 ?_
      refine mv_iload_n C dX9_word_82 rfl 0 rfl ?_
      refine mv_iald (f := u7.2 9) C 10 0 rfl rfl hw.1 dX9_word_83 ?_
      refine mv_topi (fun y11 ey11 => ?_)
      have hw := hw.2 y11 ey11
      refine mv_iconst (v := (2 : Int32)) C dX9_word_84 (by decide) ?_
      refine mv_icmp_ne (tgt := 101) C dX9_word_85 (by decide) (fun h12 => ?_) (fun h12 => ?_)
      · have hw := hw.1 h12
        refine mv_aload_n C dX9_word_101 rfl 1 rfl ?_
        refine mv_iconst (v := (3 : Int32)) C dX9_word_102 (by decide) ?_
        refine mv_callVv (f := wM cA b) (As := [.int (3 : Int32)]) (rest := []) C eM_ok hs 0 rfl rfl (X9_fails_met (l := l) (lev := lev - 1) (by omega) hw) (cwV 1 C.2.2.2.2.1 gX9_word_X9_fails rfl rfl rfl (by decide +kernel) (mRm_le (by omega) (by decide))) rfl rfl (Nat.le_of_ble_eq_true rfl) dX9_word_103 ⟨Nat.le_refl 0, Nat.le_refl 0⟩ (fun u14 hw => ?_)
        refine mv_sub [1] rfl ?_
        exact wj_X9_word_106_ok C hs hlev hw
      · have hw := hw.2 h12
        refine mv_aload_n C dX9_word_88 rfl 1 rfl ?_
        refine mv_aload_n C dX9_word_89 rfl 1 rfl ?_
        refine mv_get (v := .ref (b 11)) C iw_X9_word_X9 0 rfl rfl 16 (by decide) lk_X9_word_40 rfl rfl dX9_word_90 ?_
        refine mv_iload_n C dX9_word_93 rfl 0 rfl ?_
        refine mv_iald (f := u7.2 10) C 11 0 rfl rfl hw.1 dX9_word_94 ?_
        refine mv_topi (fun y15 ey15 => ?_)
        have hw := hw.2 y15 ey15
        refine mv_callVv (f := wM cA b) (As := [.int y15]) (rest := []) C eM_ok hs 0 rfl rfl (X9_putVariable_met (l := l) (lev := lev - 1) (by omega) hw) (cwV 1 C.2.2.2.2.1 gX9_word_X9_putVariable rfl rfl rfl (by decide +kernel) (mRm_le (by omega) (by decide))) rfl rfl (Nat.le_of_ble_eq_true rfl) dX9_word_95 ⟨Nat.le_refl 0, Nat.le_refl 0⟩ (fun u17 hw => ?_)
        refine mv_goto (tgt := 106) C dX9_word_98 (by decide) ?_
        refine mv_sub [1] rfl ?_
        exact wj_X9_word_106_ok C hs hlev hw
    · have hw := hw.2 h10
      refine mv_aload_n C dX9_word_56 rfl 1 rfl ?_
      refine mv_callVv (f := wM cA b) (As := []) (rest := []) C eM_ok hs 0 rfl rfl (X9_space_met (l := l) (lev := lev - 1) (by omega) hw) (cwV 0 C.2.2.2.2.1 gX9_word_X9_space rfl rfl rfl (by decide +kernel) (mRm_le (by omega) (by decide))) rfl rfl (Nat.le_of_ble_eq_true rfl) dX9_word_57 ⟨Nat.le_refl 0, Nat.le_refl 0⟩ (fun u19 hw => ?_)
      refine mv_aload_n C dX9_word_60 rfl 1 rfl ?_
      refine mv_aload_n C dX9_word_61 rfl 1 rfl ?_
      refine mv_get (v := .ref (b 2)) C iw_X9_word_X9 0 rfl rfl 2 (by decide) lk_X9_word_13 rfl rfl dX9_word_62 ?_
      refine mv_aload_n C dX9_word_65 rfl 1 rfl ?_
      refine mv_get (v := .int (u19.1 1)) C iw_X9_word_X9 0 rfl rfl 4 (by decide) lk_X9_word_104 rfl rfl dX9_word_66 ?_
      refine mv_topi (fun y20 ey20 => ?_)
      have hw := hw y20 ey20
      refine mv_callSi (f := wM cA b) (As := [.ref (b 2), .int y20]) (rest := [.ref (b 0)]) C eM_ok hs (X9_what_2_met (l := l) (lev := lev - 1) (by omega) hw) (va_cwS 2 C.2.2.2.2.1 gX9_word_X9_what rfl rfl rfl (by decide +kernel) (mRm_le (by omega) (by decide))) rfl rfl (Nat.le_of_ble_eq_true rfl) dX9_word_69 ⟨Nat.le_refl 0, Nat.le_refl 0⟩ (fun r21 u22 hw => ?_)
      refine mv_callVv (f := wM cA b) (As := [.int r21]) (rest := []) C eM_ok hs 0 rfl rfl (X9_putName_met (l := l) (lev := lev - 1) (by omega) hw) (cwV 1 C.2.2.2.2.1 gX9_word_X9_putName rfl rfl rfl (by decide +kernel) (mRm_le (by omega) (by decide))) rfl rfl (Nat.le_of_ble_eq_true rfl) dX9_word_72 ⟨Nat.le_refl 0, Nat.le_refl 0⟩ (fun u24 hw => ?_)
      refine mv_goto (tgt := 106) C dX9_word_75 (by decide) ?_
      refine mv_sub [1] rfl ?_
      exact wj_X9_word_106_ok C hs hlev hw
  · have hw := hw.2 h8
    refine mv_aload_n C dX9_word_29 rfl 1 rfl ?_
    refine mv_iload_n C dX9_word_30 rfl 0 rfl ?_
    refine mv_iconst (v := (-1 : Int32)) C dX9_word_31 (by decide) ?_
    refine mv_icmp_ne (tgt := 39) C dX9_word_32 (by decide) (fun h25 => ?_) (fun h25 => ?_)
    · have hw := hw.1 h25
      refine mv_iconst (v := (2 : Int32)) C dX9_word_39 (by decide) ?_
      refine mv_sub [1] rfl ?_
      exact wj_X9_word_40_ok C hs hlev hw
    · have hw := hw.2 h25
      refine mv_iconst (v := (1 : Int32)) C dX9_word_35 (by decide) ?_
      refine mv_goto (tgt := 40) C dX9_word_36 (by decide) ?_
      refine mv_sub [1] rfl ?_
      exact wj_X9_word_40_ok C hs hlev hw
set_option maxHeartbeats 4000000 in
set_option maxRecDepth 100000 in
theorem wj_X9_count_2_61_ok (C : mC p s m args meth c cX9_count 5 wsX9_count RX9 (some .int) (dC, dI) vwCl [(cA, .int)] A) (hs : eM A s) (hlev : 2 ≤ lev) {post : Int32 → mS → Prop} {K6 : Int32 → Int32 → mS → Prop} (hK6 : ∀ (x2 x3 : Int32) (u : mS), K6 x2 x3 u → mV p l e (mRm lev) s m args below meth c 5 (dC, dI) vwCl A 0 0 (mQi below args s (dC, dI) vwCl [(cA, .int)] (wM cA b) A post) (wM cA b u) 6 [(0, .ref (b 2)), (2, .int x2), (3, .int x3)] []) {x2 z0 : Int32} {u : mS} (hw : wj_X9_count_2_61 K6 post x2 z0 u) : mV p l e (mRm lev) s m args below meth c 5 (dC, dI) vwCl A 0 0 (mQi below args s (dC, dI) vwCl [(cA, .int)] (wM cA b) A post) (wM cA b u) 61 [(0, .ref (b 2)), (2, .int x2)] [.int z0] := by
  unfold wj_X9_count_2_61 at hw
  refine mv_istore_n (lv1 := [(3, .int z0), (0, .ref (b 2)), (2, .int x2)]) C dX9_count_61 rfl (by decide) rfl ?_
  refine mv_goto (tgt := 6) C dX9_count_62 (by decide) ?_
  refine mv_sub [1, 2, 0] rfl ?_
  exact hK6 x2 z0 u hw
set_option maxHeartbeats 4000000 in
set_option maxRecDepth 100000 in
theorem wj_X9_count_2_44_ok (C : mC p s m args meth c cX9_count 5 wsX9_count RX9 (some .int) (dC, dI) vwCl [(cA, .int)] A) (hs : eM A s) (hlev : 2 ≤ lev) {post : Int32 → mS → Prop} {K6 : Int32 → Int32 → mS → Prop} (hK6 : ∀ (x2 x3 : Int32) (u : mS), K6 x2 x3 u → mV p l e (mRm lev) s m args below meth c 5 (dC, dI) vwCl A 0 0 (mQi below args s (dC, dI) vwCl [(cA, .int)] (wM cA b) A post) (wM cA b u) 6 [(0, .ref (b 2)), (2, .int x2), (3, .int x3)] []) {x3 x4 z0 : Int32} {u : mS} (hw : wj_X9_count_2_44 K6 post x3 x4 z0 u) : mV p l e (mRm lev) s m args below meth c 5 (dC, dI) vwCl A 0 0 (mQi below args s (dC, dI) vwCl [(cA, .int)] (wM cA b) A post) (wM cA b u) 44 [(0, .ref (b 2)), (3, .int x3), (4, .int x4)] [.int z0] := by
  unfold wj_X9_count_2_44 at hw
  refine mv_istore_n (lv1 := [(2, .int z0), (0, .ref (b 2)), (3, .int x3), (4, .int x4)]) C dX9_count_44 rfl (by decide) rfl ?_
  refine mv_iload C dX9_count_45 3 rfl ?_
  refine mv_if_eq (tgt := 56) C dX9_count_47 (by decide) (fun h10 => ?_) (fun h10 => ?_)
  · have hw := hw.1 h10
    refine mv_aload_n C dX9_count_56 rfl 1 rfl ?_
    refine mv_iload_n C dX9_count_57 rfl 2 rfl ?_
    refine mv_callSi (f := wM cA b) (As := [.ref (b 2), .int x3]) (rest := []) C eM_ok hs (X9_end_2_met (l := l) (lev := lev - 1) (by omega) hw) (va_cwS 2 C.2.2.2.2.1 gX9_count_X9_end rfl rfl rfl (by decide +kernel) (mRm_le (by omega) (by decide))) rfl rfl (Nat.le_of_ble_eq_true rfl) dX9_count_58 ⟨Nat.le_refl 0, Nat.le_refl 0⟩ (fun r11 u12 hw => ?_)
    refine mv_sub [1, 0] rfl ?_
    exact wj_X9_count_2_61_ok C hs hlev hK6 hw
  · have hw := hw.2 h10
    refine mv_iload_n C dX9_count_50 rfl 2 rfl ?_
    refine mv_iconst (v := (1 : Int32)) C dX9_count_51 (by decide) ?_
    refine mv_iadd C dX9_count_52 ?_
    refine mv_topi (fun y13 ey13 => ?_)
    have hw := hw y13 ey13
    refine mv_goto (tgt := 61) C dX9_count_53 (by decide) ?_
    refine mv_sub [1, 0] rfl ?_
    exact wj_X9_count_2_61_ok C hs hlev hK6 hw
set_option maxHeartbeats 4000000 in
set_option maxRecDepth 100000 in
theorem wj_X9_count_2_30_ok (C : mC p s m args meth c cX9_count 5 wsX9_count RX9 (some .int) (dC, dI) vwCl [(cA, .int)] A) (hs : eM A s) (hlev : 2 ≤ lev) {post : Int32 → mS → Prop} {K6 : Int32 → Int32 → mS → Prop} (hK6 : ∀ (x2 x3 : Int32) (u : mS), K6 x2 x3 u → mV p l e (mRm lev) s m args below meth c 5 (dC, dI) vwCl A 0 0 (mQi below args s (dC, dI) vwCl [(cA, .int)] (wM cA b) A post) (wM cA b u) 6 [(0, .ref (b 2)), (2, .int x2), (3, .int x3)] []) {x2 x3 z0 : Int32} {u : mS} (hw : wj_X9_count_2_30 K6 post x2 x3 z0 u) : mV p l e (mRm lev) s m args below meth c 5 (dC, dI) vwCl A 0 0 (mQi below args s (dC, dI) vwCl [(cA, .int)] (wM cA b) A post) (wM cA b u) 30 [(0, .ref (b 2)), (2, .int x2), (3, .int x3)] [.int z0] := by
  unfold wj_X9_count_2_30 at hw
  refine mv_istore (lv1 := [(4, .int z0), (0, .ref (b 2)), (2, .int x2), (3, .int x3)]) C dX9_count_30 (by decide) rfl ?_
  refine mv_iload C dX9_count_32 0 rfl ?_
  refine mv_if_eq (tgt := 41) C dX9_count_34 (by decide) (fun h8 => ?_) (fun h8 => ?_)
  · have hw := hw.1 h8
    refine mv_iload_n C dX9_count_41 rfl 2 rfl ?_
    refine mv_iconst (v := (1 : Int32)) C dX9_count_42 (by decide) ?_
    refine mv_iadd C dX9_count_43 ?_
    refine mv_topi (fun y9 ey9 => ?_)
    have hw := hw y9 ey9
    refine mv_sub [1, 3, 0] rfl ?_
    exact wj_X9_count_2_44_ok C hs hlev hK6 hw
  · have hw := hw.2 h8
    refine mv_iload_n C dX9_count_37 rfl 2 rfl ?_
    refine mv_goto (tgt := 44) C dX9_count_38 (by decide) ?_
    refine mv_sub [1, 3, 0] rfl ?_
    exact wj_X9_count_2_44_ok C hs hlev hK6 hw
set_option maxHeartbeats 4000000 in
set_option maxRecDepth 100000 in
theorem wj_X9_count_2_6_ok (C : mC p s m args meth c cX9_count 5 wsX9_count RX9 (some .int) (dC, dI) vwCl [(cA, .int)] A) (hs : eM A s) (hlev : 2 ≤ lev) {post : Int32 → mS → Prop} {K6 : Int32 → Int32 → mS → Prop} (hK6 : ∀ (x2 x3 : Int32) (u : mS), K6 x2 x3 u → mV p l e (mRm lev) s m args below meth c 5 (dC, dI) vwCl A 0 0 (mQi below args s (dC, dI) vwCl [(cA, .int)] (wM cA b) A post) (wM cA b u) 6 [(0, .ref (b 2)), (2, .int x2), (3, .int x3)] []) {x2 x3 : Int32} {u : mS} (hw : wj_X9_count_2_6 K6 post x2 x3 u) : mV p l e (mRm lev) s m args below meth c 5 (dC, dI) vwCl A 0 0 (mQi below args s (dC, dI) vwCl [(cA, .int)] (wM cA b) A post) (wM cA b u) 6 [(0, .ref (b 2)), (2, .int x2), (3, .int x3)] [] := by
  unfold wj_X9_count_2_6 at hw
  refine mv_aload_n C dX9_count_6 rfl 0 rfl ?_
  refine mv_iload_n C dX9_count_7 rfl 2 rfl ?_
  refine mv_callSi (f := wM cA b) (As := [.ref (b 2), .int x3]) (rest := []) C eM_ok hs (X9_kind_2_met (l := l) (lev := lev - 1) (by omega) hw) (va_cwS 2 C.2.2.2.2.1 gX9_count_X9_kind rfl rfl rfl (by decide +kernel) (mRm_le (by omega) (by decide))) rfl rfl (Nat.le_of_ble_eq_true rfl) dX9_count_8 ⟨Nat.le_refl 0, Nat.le_refl 0⟩ (fun r2 u3 hw => ?_)
  refine mv_iconst (v := (2 : Int32)) C dX9_count_11 (by decide) ?_
  refine mv_icmp_eq (tgt := 65) C dX9_count_12 (by decide) (fun h4 => ?_) (fun h4 => ?_)
  · have hw := hw.1 h4
    refine mv_iload_n C dX9_count_65 rfl 1 rfl ?_
    exact mv_iret C dX9_count_66 hw
  · have hw := hw.2 h4
    refine mv_aload_n C dX9_count_15 rfl 0 rfl ?_
    refine mv_iload_n C dX9_count_16 rfl 2 rfl ?_
    refine mv_callSi (f := wM cA b) (As := [.ref (b 2), .int x3]) (rest := []) C eM_ok hs (X9_kind_2_met (l := l) (lev := lev - 1) (by omega) hw) (va_cwS 2 C.2.2.2.2.1 gX9_count_X9_kind rfl rfl rfl (by decide +kernel) (mRm_le (by omega) (by decide))) rfl rfl (Nat.le_of_ble_eq_true rfl) dX9_count_17 ⟨Nat.le_refl 0, Nat.le_refl 0⟩ (fun r5 u6 hw => ?_)
    refine mv_bipush (v := (6 : Int32)) C dX9_count_20 (by decide) ?_
    refine mv_icmp_ne (tgt := 29) C dX9_count_22 (by decide) (fun h7 => ?_) (fun h7 => ?_)
    · have hw := hw.1 h7
      refine mv_iconst (v := (0 : Int32)) C dX9_count_29 (by decide) ?_
      exact wj_X9_count_2_30_ok C hs hlev hK6 hw
    · have hw := hw.2 h7
      refine mv_iconst (v := (1 : Int32)) C dX9_count_25 (by decide) ?_
      refine mv_goto (tgt := 30) C dX9_count_26 (by decide) ?_
      exact wj_X9_count_2_30_ok C hs hlev hK6 hw
set_option maxHeartbeats 4000000 in
set_option maxRecDepth 100000 in
theorem X9_count_2_met (hlev : 2 ≤ lev) {x1 : Int32} {u : mS} {post : Int32 → mS → Prop} (hw : wp_X9_count_2 x1 u post) : mKi l yX9_count wsX9_count lev (eM) (dC, dI) vwCl [(cA, .int)] (wM cA b) [.ref (b 2), .int x1] u post := by
  refine mKi_of (cc := cX9_count) (maxL := 5) (by decide) rfl rfl (Nat.le_of_ble_eq_true rfl) rfl ?_
  intro p e s m args below meth c A C hs
  unfold wp_X9_count_2 at hw
  refine mv_iconst (v := (0 : Int32)) C dX9_count_0 (by decide) ?_
  refine mv_istore_n (lv1 := [(2, .int (0 : Int32)), (0, .ref (b 2)), (1, .int x1)]) C dX9_count_1 rfl (by decide) rfl ?_
  refine mv_iload_n C dX9_count_2 rfl 2 rfl ?_
  refine mv_iconst (v := (1 : Int32)) C dX9_count_3 (by decide) ?_
  refine mv_iadd C dX9_count_4 ?_
  refine mv_topi (fun y1 ey1 => ?_)
  have hw := hw y1 ey1
  refine mv_istore_n (lv1 := [(3, .int y1), (2, .int (0 : Int32)), (0, .ref (b 2)), (1, .int x1)]) C dX9_count_5 rfl (by decide) rfl ?_
  refine mv_sub [2, 1, 0] rfl ?_
  obtain ⟨n, hw⟩ := hw
  exact mL3_of (fun K hK b0 b1 b2 hw => wj_X9_count_2_6_ok C hs hlev hK hw) n (0 : Int32) y1 u hw
set_option maxHeartbeats 4000000 in
set_option maxRecDepth 100000 in
theorem X9_isPlain_2_met (hlev : 3 ≤ lev) {x1 x2 : Int32} {u : mS} {post : Int32 → mS → Prop} (hw : wp_X9_isPlain_2 x1 x2 u post) : mKi l yX9_isPlain wsX9_isPlain lev (eM) (dC, dI) vwCl [(cA, .int)] (wM cA b) [.ref (b 2), .int x1, .int x2] u (fun r w => (r = 0 ∨ r = 1) ∧ post r w) := by
  refine mKz_of (cc := cX9_isPlain) (maxL := 3) (by decide) rfl rfl (Nat.le_of_ble_eq_true rfl) rfl ?_
  intro p e s m args below meth c A C hs
  unfold wp_X9_isPlain_2 at hw
  refine mv_aload_n C dX9_isPlain_0 rfl 0 rfl ?_
  refine mv_iload_n C dX9_isPlain_1 rfl 1 rfl ?_
  refine mv_callSi (f := wM cA b) (As := [.ref (b 2), .int x1]) (rest := []) C eM_ok hs (X9_kind_2_met (l := l) (lev := lev - 1) (by omega) hw) (va_cwS 2 C.2.2.2.2.1 gX9_isPlain_X9_kind rfl rfl rfl (by decide +kernel) (mRm_le (by omega) (by decide))) rfl rfl (Nat.le_of_ble_eq_true rfl) dX9_isPlain_2 ⟨Nat.le_refl 0, Nat.le_refl 0⟩ (fun r1 u2 hw => ?_)
  refine mv_iconst (v := (1 : Int32)) C dX9_isPlain_5 (by decide) ?_
  refine mv_icmp_ne (tgt := 30) C dX9_isPlain_6 (by decide) (fun h3 => ?_) (fun h3 => ?_)
  · have hw := hw.1 h3
    refine mv_iconst (v := (0 : Int32)) C dX9_isPlain_30 (by decide) ?_
    exact mv_zret C dX9_isPlain_31 (Or.inl rfl) hw
  · have hw := hw.2 h3
    refine mv_aload_n C dX9_isPlain_9 rfl 0 rfl ?_
    refine mv_iload_n C dX9_isPlain_10 rfl 1 rfl ?_
    refine mv_callSi (f := wM cA b) (As := [.ref (b 2), .int x1]) (rest := []) C eM_ok hs (X9_count_2_met (l := l) (lev := lev - 1) (by omega) hw) (va_cwS 2 C.2.2.2.2.1 gX9_isPlain_X9_count rfl rfl rfl (by decide +kernel) (mRm_le (by omega) (by decide))) rfl rfl (Nat.le_of_ble_eq_true rfl) dX9_isPlain_11 ⟨Nat.le_refl 0, Nat.le_refl 0⟩ (fun r4 u5 hw => ?_)
    refine mv_iload_n C dX9_isPlain_14 rfl 2 rfl ?_
    refine mv_icmp_ne (tgt := 30) C dX9_isPlain_15 (by decide) (fun h6 => ?_) (fun h6 => ?_)
    · have hw := hw.1 h6
      refine mv_iconst (v := (0 : Int32)) C dX9_isPlain_30 (by decide) ?_
      exact mv_zret C dX9_isPlain_31 (Or.inl rfl) hw
    · have hw := hw.2 h6
      refine mv_aload_n C dX9_isPlain_18 rfl 0 rfl ?_
      refine mv_iload_n C dX9_isPlain_19 rfl 1 rfl ?_
      refine mv_callSi (f := wM cA b) (As := [.ref (b 2), .int x1]) (rest := []) C eM_ok hs (X9_dots_2_met (l := l) (lev := lev - 1) (by omega) hw) (va_cwS 2 C.2.2.2.2.1 gX9_isPlain_X9_dots rfl rfl rfl (by decide +kernel) (mRm_le (by omega) (by decide))) rfl rfl (Nat.le_of_ble_eq_true rfl) dX9_isPlain_20 ⟨Nat.le_refl 0, Nat.le_refl 0⟩ (fun r7 u8 hw => ?_)
      refine mv_if_ne (tgt := 30) C dX9_isPlain_23 (by decide) (fun h9 => ?_) (fun h9 => ?_)
      · have hw := hw.1 h9
        refine mv_iconst (v := (0 : Int32)) C dX9_isPlain_30 (by decide) ?_
        exact mv_zret C dX9_isPlain_31 (Or.inl rfl) hw
      · have hw := hw.2 h9
        refine mv_iconst (v := (1 : Int32)) C dX9_isPlain_26 (by decide) ?_
        refine mv_goto (tgt := 31) C dX9_isPlain_27 (by decide) ?_
        exact mv_zret C dX9_isPlain_31 (Or.inr rfl) hw
set_option maxHeartbeats 4000000 in
set_option maxRecDepth 100000 in
theorem X9_scope_met (hlev : 1 ≤ lev) {u : mS} {post : Int32 → mS → Prop} (hw : wp_X9_scope  u post) : mKi l yX9_scope wsX9_scope lev (eM) (dC, dI) vwCl [(cA, .int)] (wM cA b) [.ref (b 0)] u post := by
  refine mKi_of (cc := cX9_scope) (maxL := 1) (by decide) rfl rfl (Nat.le_of_ble_eq_true rfl) rfl ?_
  intro p e s m args below meth c A C hs
  unfold wp_X9_scope at hw
  refine mv_aload_n C dX9_scope_0 rfl 0 rfl ?_
  refine mv_get (v := .int (u.1 13)) C iw_X9_scope_X9 0 rfl rfl 33 (by decide) lk_X9_scope_181 rfl rfl dX9_scope_1 ?_
  refine mv_topi (fun y1 ey1 => ?_)
  have hw := hw y1 ey1
  refine mv_bipush (v := (30 : Int32)) C dX9_scope_4 (by decide) ?_
  refine mv_icmp_ne (tgt := 17) C dX9_scope_6 (by decide) (fun h2 => ?_) (fun h2 => ?_)
  · have hw := hw.1 h2
    refine mv_aload_n C dX9_scope_17 rfl 0 rfl ?_
    refine mv_dup C dX9_scope_18 rfl ?_
    refine mv_get (v := .int (u.1 13)) C iw_X9_scope_X9 0 rfl rfl 33 (by decide) lk_X9_scope_181 rfl rfl dX9_scope_19 ?_
    refine mv_topi (fun y3 ey3 => ?_)
    have hw := hw y3 ey3
    refine mv_iconst (v := (1 : Int32)) C dX9_scope_22 (by decide) ?_
    refine mv_iadd C dX9_scope_23 ?_
    refine mv_topi (fun y4 ey4 => ?_)
    have hw := hw y4 ey4
    refine mv_put (ty := .int) (ws1 := wM cA b (mSet u 13 y4)) C iw_X9_scope_X9 tyX9 tyX9_ok nmX9 0 rfl rfl 33 (by decide) lk_X9_scope_181 rfl rfl rfl rfl rfl (Nat.le_of_ble_eq_true rfl) rfl dX9_scope_24 ?_
    refine mv_nm (f := wM cA b) (fun u5 eu5 => ?_)
    have hw := hw u5 eu5
    refine mv_iconst (v := (1 : Int32)) C dX9_scope_27 (by decide) ?_
    refine mv_aload_n C dX9_scope_28 rfl 0 rfl ?_
    refine mv_get (v := .int (u5.1 13)) C iw_X9_scope_X9 0 rfl rfl 33 (by decide) lk_X9_scope_181 rfl rfl dX9_scope_29 ?_
    refine mv_topi (fun y6 ey6 => ?_)
    have hw := hw y6 ey6
    refine mv_iconst (v := (1 : Int32)) C dX9_scope_32 (by decide) ?_
    refine mv_isub C dX9_scope_33 ?_
    refine mv_topi (fun y7 ey7 => ?_)
    have hw := hw y7 ey7
    refine mv_ishl C dX9_scope_34 ?_
    refine mv_topi (fun y8 ey8 => ?_)
    have hw := hw y8 ey8
    exact mv_iret C dX9_scope_35 hw
  · have hw := hw.2 h2
    refine mv_aload_n C dX9_scope_9 rfl 0 rfl ?_
    refine mv_bipush (v := (6 : Int32)) C dX9_scope_10 (by decide) ?_
    refine mv_callVv (f := wM cA b) (As := [.int (6 : Int32)]) (rest := []) C eM_ok hs 0 rfl rfl (X9_fails_met (l := l) (lev := lev - 1) (by omega) hw) (cwV 1 C.2.2.2.2.1 gX9_scope_X9_fails rfl rfl rfl (by decide +kernel) (mRm_le (by omega) (by decide))) rfl rfl (Nat.le_of_ble_eq_true rfl) dX9_scope_12 ⟨Nat.le_refl 0, Nat.le_refl 0⟩ (fun u10 hw => ?_)
    refine mv_iconst (v := (0 : Int32)) C dX9_scope_15 (by decide) ?_
    exact mv_iret C dX9_scope_16 hw
end
