theorem dX9_type_0 : decode cX9_type 0 = .ok (.iload_n 2, 1) := by decide +kernel
theorem dX9_type_1 : decode cX9_type 1 = .ok (.iconst 1, 1) := by decide +kernel
theorem dX9_type_2 : decode cX9_type 2 = .ok (.if_icmp .lt 19, 3) := by decide +kernel
theorem dX9_type_5 : decode cX9_type 5 = .ok (.iload_n 2, 1) := by decide +kernel
theorem dX9_type_6 : decode cX9_type 6 = .ok (.iconst 4, 1) := by decide +kernel
theorem dX9_type_7 : decode cX9_type 7 = .ok (.if_icmp .gt 14, 3) := by decide +kernel
theorem dX9_type_10 : decode cX9_type 10 = .ok (.aload_n 0, 1) := by decide +kernel
theorem dX9_type_11 : decode cX9_type 11 = .ok (.getfield 70, 3) := by decide +kernel
theorem dX9_type_14 : decode cX9_type 14 = .ok (.iload_n 2, 1) := by decide +kernel
theorem dX9_type_15 : decode cX9_type 15 = .ok (.iadd, 1) := by decide +kernel
theorem dX9_type_16 : decode cX9_type 16 = .ok (.bipush 120, 2) := by decide +kernel
theorem dX9_type_18 : decode cX9_type 18 = .ok (.if_icmp .le 5, 3) := by decide +kernel
theorem dX9_type_21 : decode cX9_type 21 = .ok (.iconst 0, 1) := by decide +kernel
theorem dX9_type_22 : decode cX9_type 22 = .ok (.ireturn, 1) := by decide +kernel
theorem dX9_type_23 : decode cX9_type 23 = .ok (.iconst 0, 1) := by decide +kernel
theorem dX9_type_24 : decode cX9_type 24 = .ok (.istore_n 3, 1) := by decide +kernel
theorem dX9_type_25 : decode cX9_type 25 = .ok (.iload_n 3, 1) := by decide +kernel
theorem dX9_type_26 : decode cX9_type 26 = .ok (.iload_n 2, 1) := by decide +kernel
theorem dX9_type_27 : decode cX9_type 27 = .ok (.if_icmp .ge 37, 3) := by decide +kernel
theorem dX9_type_30 : decode cX9_type 30 = .ok (.iload_n 1, 1) := by decide +kernel
theorem dX9_type_31 : decode cX9_type 31 = .ok (.bipush 8, 2) := by decide +kernel
theorem dX9_type_33 : decode cX9_type 33 = .ok (.iload_n 3, 1) := by decide +kernel
theorem dX9_type_34 : decode cX9_type 34 = .ok (.imul, 1) := by decide +kernel
theorem dX9_type_35 : decode cX9_type 35 = .ok (.ishr, 1) := by decide +kernel
theorem dX9_type_36 : decode cX9_type 36 = .ok (.sipush 255, 3) := by decide +kernel
theorem dX9_type_39 : decode cX9_type 39 = .ok (.iand, 1) := by decide +kernel
theorem dX9_type_40 : decode cX9_type 40 = .ok (.istore 4, 2) := by decide +kernel
theorem dX9_type_42 : decode cX9_type 42 = .ok (.iload 4, 2) := by decide +kernel
theorem dX9_type_44 : decode cX9_type 44 = .ok (.bipush 32, 2) := by decide +kernel
theorem dX9_type_46 : decode cX9_type 46 = .ok (.if_icmp .lt 10, 3) := by decide +kernel
theorem dX9_type_49 : decode cX9_type 49 = .ok (.iload 4, 2) := by decide +kernel
theorem dX9_type_51 : decode cX9_type 51 = .ok (.bipush 126, 2) := by decide +kernel
theorem dX9_type_53 : decode cX9_type 53 = .ok (.if_icmp .le 5, 3) := by decide +kernel
theorem dX9_type_56 : decode cX9_type 56 = .ok (.iconst 0, 1) := by decide +kernel
theorem dX9_type_57 : decode cX9_type 57 = .ok (.ireturn, 1) := by decide +kernel
theorem dX9_type_58 : decode cX9_type 58 = .ok (.iinc 3 1, 3) := by decide +kernel
theorem dX9_type_61 : decode cX9_type 61 = .ok (.goto (-36), 3) := by decide +kernel
theorem dX9_type_64 : decode cX9_type 64 = .ok (.iload_n 2, 1) := by decide +kernel
theorem dX9_type_65 : decode cX9_type 65 = .ok (.iconst 1, 1) := by decide +kernel
theorem dX9_type_66 : decode cX9_type 66 = .ok (.isub, 1) := by decide +kernel
theorem dX9_type_67 : decode cX9_type 67 = .ok (.istore_n 3, 1) := by decide +kernel
theorem dX9_type_68 : decode cX9_type 68 = .ok (.iload_n 3, 1) := by decide +kernel
theorem dX9_type_69 : decode cX9_type 69 = .ok (.ifCond .lt 38, 3) := by decide +kernel
theorem dX9_type_72 : decode cX9_type 72 = .ok (.aload_n 0, 1) := by decide +kernel
theorem dX9_type_73 : decode cX9_type 73 = .ok (.getfield 7, 3) := by decide +kernel
theorem dX9_type_76 : decode cX9_type 76 = .ok (.aload_n 0, 1) := by decide +kernel
theorem dX9_type_77 : decode cX9_type 77 = .ok (.getfield 70, 3) := by decide +kernel
theorem dX9_type_80 : decode cX9_type 80 = .ok (.iload_n 1, 1) := by decide +kernel
theorem dX9_type_81 : decode cX9_type 81 = .ok (.bipush 8, 2) := by decide +kernel
theorem dX9_type_83 : decode cX9_type 83 = .ok (.iload_n 3, 1) := by decide +kernel
theorem dX9_type_84 : decode cX9_type 84 = .ok (.imul, 1) := by decide +kernel
theorem dX9_type_85 : decode cX9_type 85 = .ok (.ishr, 1) := by decide +kernel
theorem dX9_type_86 : decode cX9_type 86 = .ok (.sipush 255, 3) := by decide +kernel
theorem dX9_type_89 : decode cX9_type 89 = .ok (.iand, 1) := by decide +kernel
theorem dX9_type_90 : decode cX9_type 90 = .ok (.iastore, 1) := by decide +kernel
theorem dX9_type_91 : decode cX9_type 91 = .ok (.aload_n 0, 1) := by decide +kernel
theorem dX9_type_92 : decode cX9_type 92 = .ok (.dup, 1) := by decide +kernel
theorem dX9_type_93 : decode cX9_type 93 = .ok (.getfield 70, 3) := by decide +kernel
theorem dX9_type_96 : decode cX9_type 96 = .ok (.iconst 1, 1) := by decide +kernel
theorem dX9_type_97 : decode cX9_type 97 = .ok (.iadd, 1) := by decide +kernel
theorem dX9_type_98 : decode cX9_type 98 = .ok (.putfield 70, 3) := by decide +kernel
theorem dX9_type_101 : decode cX9_type 101 = .ok (.iinc 3 (-1), 3) := by decide +kernel
theorem dX9_type_104 : decode cX9_type 104 = .ok (.goto (-36), 3) := by decide +kernel
theorem dX9_type_107 : decode cX9_type 107 = .ok (.iconst 1, 1) := by decide +kernel
theorem dX9_type_108 : decode cX9_type 108 = .ok (.ireturn, 1) := by decide +kernel
theorem dX9_look_0 : decode cX9_look 0 = .ok (.iload_n 1, 1) := by decide +kernel
theorem dX9_look_1 : decode cX9_look 1 = .ok (.aload_n 0, 1) := by decide +kernel
theorem dX9_look_2 : decode cX9_look 2 = .ok (.getfield 70, 3) := by decide +kernel
theorem dX9_look_5 : decode cX9_look 5 = .ok (.if_icmp .ge 12, 3) := by decide +kernel
theorem dX9_look_8 : decode cX9_look 8 = .ok (.aload_n 0, 1) := by decide +kernel
theorem dX9_look_9 : decode cX9_look 9 = .ok (.getfield 7, 3) := by decide +kernel
theorem dX9_look_12 : decode cX9_look 12 = .ok (.iload_n 1, 1) := by decide +kernel
theorem dX9_look_13 : decode cX9_look 13 = .ok (.iaload, 1) := by decide +kernel
theorem dX9_look_14 : decode cX9_look 14 = .ok (.goto 4, 3) := by decide +kernel
theorem dX9_look_17 : decode cX9_look 17 = .ok (.iconst 0, 1) := by decide +kernel
theorem dX9_look_18 : decode cX9_look 18 = .ok (.ireturn, 1) := by decide +kernel
theorem dX9_isLetter_0 : decode cX9_isLetter 0 = .ok (.iload_n 0, 1) := by decide +kernel
theorem dX9_isLetter_1 : decode cX9_isLetter 1 = .ok (.bipush 97, 2) := by decide +kernel
theorem dX9_isLetter_3 : decode cX9_isLetter 3 = .ok (.if_icmp .lt 13, 3) := by decide +kernel
theorem dX9_isLetter_6 : decode cX9_isLetter 6 = .ok (.iload_n 0, 1) := by decide +kernel
theorem dX9_isLetter_7 : decode cX9_isLetter 7 = .ok (.bipush 122, 2) := by decide +kernel
theorem dX9_isLetter_9 : decode cX9_isLetter 9 = .ok (.if_icmp .gt 7, 3) := by decide +kernel
theorem dX9_isLetter_12 : decode cX9_isLetter 12 = .ok (.iconst 1, 1) := by decide +kernel
theorem dX9_isLetter_13 : decode cX9_isLetter 13 = .ok (.goto 4, 3) := by decide +kernel
theorem dX9_isLetter_16 : decode cX9_isLetter 16 = .ok (.iconst 0, 1) := by decide +kernel
theorem dX9_isLetter_17 : decode cX9_isLetter 17 = .ok (.ireturn, 1) := by decide +kernel
theorem dX9_isDigit_0 : decode cX9_isDigit 0 = .ok (.iload_n 0, 1) := by decide +kernel
theorem dX9_isDigit_1 : decode cX9_isDigit 1 = .ok (.bipush 48, 2) := by decide +kernel
theorem dX9_isDigit_3 : decode cX9_isDigit 3 = .ok (.if_icmp .lt 13, 3) := by decide +kernel
theorem dX9_isDigit_6 : decode cX9_isDigit 6 = .ok (.iload_n 0, 1) := by decide +kernel
theorem dX9_isDigit_7 : decode cX9_isDigit 7 = .ok (.bipush 57, 2) := by decide +kernel
theorem dX9_isDigit_9 : decode cX9_isDigit 9 = .ok (.if_icmp .gt 7, 3) := by decide +kernel
theorem dX9_isDigit_12 : decode cX9_isDigit 12 = .ok (.iconst 1, 1) := by decide +kernel
theorem dX9_isDigit_13 : decode cX9_isDigit 13 = .ok (.goto 4, 3) := by decide +kernel
theorem dX9_isDigit_16 : decode cX9_isDigit 16 = .ok (.iconst 0, 1) := by decide +kernel
theorem dX9_isDigit_17 : decode cX9_isDigit 17 = .ok (.ireturn, 1) := by decide +kernel
set_option maxRecDepth 20000 in
theorem ggX9_run_X9_look : GoodIn wsX9_run wsX9_look := goodIn_r _ [6, 1, 7, 14, 15, 16, 17, 18, 19, 20, 21, 22, 23, 24, 25, 26, 27, 28, 29, 30, 31, 32, 33, 34, 35, 36, 37, 38, 39, 40, 41, 42, 43, 44, 45, 46, 47, 48, 49] (by decide +kernel) (by decide +kernel)
set_option maxRecDepth 20000 in
theorem gX9_run_X9_look : GoodIn wsX9_run (wsV RX9 74 RX9 yX9_look wsX9_look) := goodIn_app (goodIn_of _ (by decide +kernel)) ggX9_run_X9_look
set_option maxRecDepth 20000 in
theorem ggX9_run_X9_isLetter : GoodIn wsX9_run wsX9_isLetter := goodIn_r _ [10] (by decide +kernel) (by decide +kernel)
set_option maxRecDepth 20000 in
theorem gX9_run_X9_isLetter : GoodIn wsX9_run (va_wsS RX9 78 yX9_isLetter wsX9_isLetter) := goodIn_app (goodIn_of _ (by decide +kernel)) ggX9_run_X9_isLetter
set_option maxRecDepth 20000 in
theorem ggX9_run_X9_isDigit : GoodIn wsX9_run wsX9_isDigit := goodIn_r _ [13] (by decide +kernel) (by decide +kernel)
set_option maxRecDepth 20000 in
theorem gX9_run_X9_isDigit : GoodIn wsX9_run (va_wsS RX9 82 yX9_isDigit wsX9_isDigit) := goodIn_app (goodIn_of _ (by decide +kernel)) ggX9_run_X9_isDigit
theorem dX9_run_0 : decode cX9_run 0 = .ok (.iconst 0, 1) := by decide +kernel
theorem dX9_run_1 : decode cX9_run 1 = .ok (.istore_n 2, 1) := by decide +kernel
theorem dX9_run_2 : decode cX9_run 2 = .ok (.aload_n 0, 1) := by decide +kernel
theorem dX9_run_3 : decode cX9_run 3 = .ok (.iload_n 1, 1) := by decide +kernel
theorem dX9_run_4 : decode cX9_run 4 = .ok (.invokevirtual 74, 3) := by decide +kernel
theorem dX9_run_7 : decode cX9_run 7 = .ok (.invokestatic 78, 3) := by decide +kernel
theorem dX9_run_10 : decode cX9_run 10 = .ok (.istore_n 3, 1) := by decide +kernel
theorem dX9_run_11 : decode cX9_run 11 = .ok (.iload_n 1, 1) := by decide +kernel
theorem dX9_run_12 : decode cX9_run 12 = .ok (.iload_n 2, 1) := by decide +kernel
theorem dX9_run_13 : decode cX9_run 13 = .ok (.iadd, 1) := by decide +kernel
theorem dX9_run_14 : decode cX9_run 14 = .ok (.aload_n 0, 1) := by decide +kernel
theorem dX9_run_15 : decode cX9_run 15 = .ok (.getfield 70, 3) := by decide +kernel
theorem dX9_run_18 : decode cX9_run 18 = .ok (.if_icmp .ge 42, 3) := by decide +kernel
theorem dX9_run_21 : decode cX9_run 21 = .ok (.iload_n 3, 1) := by decide +kernel
theorem dX9_run_22 : decode cX9_run 22 = .ok (.ifCond .eq 19, 3) := by decide +kernel
theorem dX9_run_25 : decode cX9_run 25 = .ok (.aload_n 0, 1) := by decide +kernel
theorem dX9_run_26 : decode cX9_run 26 = .ok (.iload_n 1, 1) := by decide +kernel
theorem dX9_run_27 : decode cX9_run 27 = .ok (.iload_n 2, 1) := by decide +kernel
theorem dX9_run_28 : decode cX9_run 28 = .ok (.iadd, 1) := by decide +kernel
theorem dX9_run_29 : decode cX9_run 29 = .ok (.invokevirtual 74, 3) := by decide +kernel
theorem dX9_run_32 : decode cX9_run 32 = .ok (.invokestatic 78, 3) := by decide +kernel
theorem dX9_run_35 : decode cX9_run 35 = .ok (.ifCond .eq 25, 3) := by decide +kernel
theorem dX9_run_38 : decode cX9_run 38 = .ok (.goto 16, 3) := by decide +kernel
theorem dX9_run_41 : decode cX9_run 41 = .ok (.aload_n 0, 1) := by decide +kernel
theorem dX9_run_42 : decode cX9_run 42 = .ok (.iload_n 1, 1) := by decide +kernel
theorem dX9_run_43 : decode cX9_run 43 = .ok (.iload_n 2, 1) := by decide +kernel
theorem dX9_run_44 : decode cX9_run 44 = .ok (.iadd, 1) := by decide +kernel
theorem dX9_run_45 : decode cX9_run 45 = .ok (.invokevirtual 74, 3) := by decide +kernel
theorem dX9_run_48 : decode cX9_run 48 = .ok (.invokestatic 82, 3) := by decide +kernel
theorem dX9_run_51 : decode cX9_run 51 = .ok (.ifCond .eq 9, 3) := by decide +kernel
theorem dX9_run_54 : decode cX9_run 54 = .ok (.iinc 2 1, 3) := by decide +kernel
theorem dX9_run_57 : decode cX9_run 57 = .ok (.goto (-46), 3) := by decide +kernel
theorem dX9_run_60 : decode cX9_run 60 = .ok (.iload_n 2, 1) := by decide +kernel
theorem dX9_run_61 : decode cX9_run 61 = .ok (.ireturn, 1) := by decide +kernel
set_option maxRecDepth 20000 in
theorem ggX9_token_X9_look : GoodIn wsX9_token wsX9_look := goodIn_r _ [5, 6, 7, 18, 19, 20, 21, 22, 23, 24, 25, 26, 27, 28, 29, 30, 31, 32, 33, 34, 35, 36, 37, 38, 39, 40, 41, 42, 43, 44, 45, 46, 47, 48, 49, 50, 51, 52, 53] (by decide +kernel) (by decide +kernel)
set_option maxRecDepth 20000 in
theorem gX9_token_X9_look : GoodIn wsX9_token (wsV RX9 74 RX9 yX9_look wsX9_look) := goodIn_app (goodIn_of _ (by decide +kernel)) ggX9_token_X9_look
set_option maxRecDepth 20000 in
theorem ggX9_token_X9_isLetter : GoodIn wsX9_token wsX9_isLetter := goodIn_r _ [10] (by decide +kernel) (by decide +kernel)
set_option maxRecDepth 20000 in
theorem gX9_token_X9_isLetter : GoodIn wsX9_token (va_wsS RX9 78 yX9_isLetter wsX9_isLetter) := goodIn_app (goodIn_of _ (by decide +kernel)) ggX9_token_X9_isLetter
set_option maxRecDepth 100000 in
theorem gpX9_token_X9_run_0 : GoodIn wsX9_token ([.fieldLink RX9 70 "MarkedNamesModel" "length" "I", .methodLink RX9 74 yX9_look, .instanceMethod yX9_look, .selects RX9 yX9_look yX9_look, .initialized RX9, .code yX9_look cX9_look 2 (some .int), .fieldLink RX9 7 "MarkedNamesModel" "typed" "[I", .methodLink RX9 78 yX9_isLetter, .static yX9_isLetter, .code yX9_isLetter cX9_isLetter 1 (some .boolean), .methodLink RX9 82 yX9_isDigit, .static yX9_isDigit, .code yX9_isDigit cX9_isDigit 1 (some .boolean)] : List Cond) := goodIn_r _ [6, 1, 2, 3, 4, 5, 7, 8, 9, 10, 15, 16, 17] (by decide +kernel) (by decide +kernel)
set_option maxRecDepth 100000 in
theorem gpX9_token_X9_run_1 : GoodIn wsX9_token wsX90 := goodIn_r _ [18, 19, 20, 21, 22, 23, 24, 25, 26, 27, 28, 29, 30, 31, 32, 33, 34, 35, 36, 37, 38, 39, 40, 41, 42, 43, 44, 45, 46, 47, 48, 49, 50, 51, 52, 53] (by decide +kernel) (by decide +kernel)
set_option maxRecDepth 100000 in
theorem gpX9_token_X9_run_c : GoodIn wsX9_token [Cond.code yX9_run cX9_run 4 (some .int)] := goodIn_r _ [14] (by decide +kernel) (by decide +kernel)
theorem ggX9_token_X9_run : GoodIn wsX9_token wsX9_run := goodIn_cons2 gpX9_token_X9_run_c (goodIn_app gpX9_token_X9_run_0 gpX9_token_X9_run_1)
set_option maxRecDepth 20000 in
theorem gX9_token_X9_run : GoodIn wsX9_token (wsV RX9 85 RX9 yX9_run wsX9_run) := goodIn_app (goodIn_of _ (by decide +kernel)) ggX9_token_X9_run
set_option maxRecDepth 20000 in
theorem ggX9_token_X9_isDigit : GoodIn wsX9_token wsX9_isDigit := goodIn_r _ [17] (by decide +kernel) (by decide +kernel)
set_option maxRecDepth 20000 in
theorem gX9_token_X9_isDigit : GoodIn wsX9_token (va_wsS RX9 82 yX9_isDigit wsX9_isDigit) := goodIn_app (goodIn_of _ (by decide +kernel)) ggX9_token_X9_isDigit
theorem dX9_token_0 : decode cX9_token 0 = .ok (.aload_n 0, 1) := by decide +kernel
theorem dX9_token_1 : decode cX9_token 1 = .ok (.iload_n 1, 1) := by decide +kernel
theorem dX9_token_2 : decode cX9_token 2 = .ok (.invokevirtual 74, 3) := by decide +kernel
theorem dX9_token_5 : decode cX9_token 5 = .ok (.istore_n 2, 1) := by decide +kernel
theorem dX9_token_6 : decode cX9_token 6 = .ok (.iload_n 2, 1) := by decide +kernel
theorem dX9_token_7 : decode cX9_token 7 = .ok (.invokestatic 78, 3) := by decide +kernel
theorem dX9_token_10 : decode cX9_token 10 = .ok (.ifCond .eq 22, 3) := by decide +kernel
theorem dX9_token_13 : decode cX9_token 13 = .ok (.aload_n 0, 1) := by decide +kernel
theorem dX9_token_14 : decode cX9_token 14 = .ok (.iload_n 1, 1) := by decide +kernel
theorem dX9_token_15 : decode cX9_token 15 = .ok (.invokevirtual 85, 3) := by decide +kernel
theorem dX9_token_18 : decode cX9_token 18 = .ok (.iconst 3, 1) := by decide +kernel
theorem dX9_token_19 : decode cX9_token 19 = .ok (.if_icmp .gt 11, 3) := by decide +kernel
theorem dX9_token_22 : decode cX9_token 22 = .ok (.aload_n 0, 1) := by decide +kernel
theorem dX9_token_23 : decode cX9_token 23 = .ok (.iload_n 1, 1) := by decide +kernel
theorem dX9_token_24 : decode cX9_token 24 = .ok (.invokevirtual 85, 3) := by decide +kernel
theorem dX9_token_27 : decode cX9_token 27 = .ok (.goto 4, 3) := by decide +kernel
theorem dX9_token_30 : decode cX9_token 30 = .ok (.iconst 0, 1) := by decide +kernel
theorem dX9_token_31 : decode cX9_token 31 = .ok (.ireturn, 1) := by decide +kernel
theorem dX9_token_32 : decode cX9_token 32 = .ok (.iload_n 2, 1) := by decide +kernel
theorem dX9_token_33 : decode cX9_token 33 = .ok (.invokestatic 82, 3) := by decide +kernel
theorem dX9_token_36 : decode cX9_token 36 = .ok (.ifCond .eq 37, 3) := by decide +kernel
theorem dX9_token_39 : decode cX9_token 39 = .ok (.aload_n 0, 1) := by decide +kernel
theorem dX9_token_40 : decode cX9_token 40 = .ok (.iload_n 1, 1) := by decide +kernel
theorem dX9_token_41 : decode cX9_token 41 = .ok (.invokevirtual 85, 3) := by decide +kernel
theorem dX9_token_44 : decode cX9_token 44 = .ok (.iconst 1, 1) := by decide +kernel
theorem dX9_token_45 : decode cX9_token 45 = .ok (.if_icmp .eq 18, 3) := by decide +kernel
theorem dX9_token_48 : decode cX9_token 48 = .ok (.aload_n 0, 1) := by decide +kernel
theorem dX9_token_49 : decode cX9_token 49 = .ok (.iload_n 1, 1) := by decide +kernel
theorem dX9_token_50 : decode cX9_token 50 = .ok (.invokevirtual 85, 3) := by decide +kernel
theorem dX9_token_53 : decode cX9_token 53 = .ok (.iconst 2, 1) := by decide +kernel
theorem dX9_token_54 : decode cX9_token 54 = .ok (.if_icmp .ne 17, 3) := by decide +kernel
theorem dX9_token_57 : decode cX9_token 57 = .ok (.iload_n 2, 1) := by decide +kernel
theorem dX9_token_58 : decode cX9_token 58 = .ok (.bipush 48, 2) := by decide +kernel
theorem dX9_token_60 : decode cX9_token 60 = .ok (.if_icmp .eq 11, 3) := by decide +kernel
theorem dX9_token_63 : decode cX9_token 63 = .ok (.aload_n 0, 1) := by decide +kernel
theorem dX9_token_64 : decode cX9_token 64 = .ok (.iload_n 1, 1) := by decide +kernel
theorem dX9_token_65 : decode cX9_token 65 = .ok (.invokevirtual 85, 3) := by decide +kernel
theorem dX9_token_68 : decode cX9_token 68 = .ok (.goto 4, 3) := by decide +kernel
theorem dX9_token_71 : decode cX9_token 71 = .ok (.iconst 0, 1) := by decide +kernel
theorem dX9_token_72 : decode cX9_token 72 = .ok (.ireturn, 1) := by decide +kernel
theorem dX9_token_73 : decode cX9_token 73 = .ok (.iload_n 2, 1) := by decide +kernel
theorem dX9_token_74 : decode cX9_token 74 = .ok (.bipush 46, 2) := by decide +kernel
theorem dX9_token_76 : decode cX9_token 76 = .ok (.if_icmp .ne 21, 3) := by decide +kernel
theorem dX9_token_79 : decode cX9_token 79 = .ok (.aload_n 0, 1) := by decide +kernel
theorem dX9_token_80 : decode cX9_token 80 = .ok (.iload_n 1, 1) := by decide +kernel
theorem dX9_token_81 : decode cX9_token 81 = .ok (.iconst 1, 1) := by decide +kernel
theorem dX9_token_82 : decode cX9_token 82 = .ok (.iadd, 1) := by decide +kernel
theorem dX9_token_83 : decode cX9_token 83 = .ok (.invokevirtual 74, 3) := by decide +kernel
theorem dX9_token_86 : decode cX9_token 86 = .ok (.bipush 46, 2) := by decide +kernel
theorem dX9_token_88 : decode cX9_token 88 = .ok (.if_icmp .ne 7, 3) := by decide +kernel
theorem dX9_token_91 : decode cX9_token 91 = .ok (.iconst 2, 1) := by decide +kernel
theorem dX9_token_92 : decode cX9_token 92 = .ok (.goto 4, 3) := by decide +kernel
theorem dX9_token_95 : decode cX9_token 95 = .ok (.iconst 0, 1) := by decide +kernel
theorem dX9_token_96 : decode cX9_token 96 = .ok (.ireturn, 1) := by decide +kernel
theorem dX9_token_97 : decode cX9_token 97 = .ok (.iload_n 2, 1) := by decide +kernel
theorem dX9_token_98 : decode cX9_token 98 = .ok (.bipush 40, 2) := by decide +kernel
theorem dX9_token_100 : decode cX9_token 100 = .ok (.if_icmp .eq 39, 3) := by decide +kernel
theorem dX9_token_103 : decode cX9_token 103 = .ok (.iload_n 2, 1) := by decide +kernel
theorem dX9_token_104 : decode cX9_token 104 = .ok (.bipush 41, 2) := by decide +kernel
theorem dX9_token_106 : decode cX9_token 106 = .ok (.if_icmp .eq 33, 3) := by decide +kernel
theorem dX9_token_109 : decode cX9_token 109 = .ok (.iload_n 2, 1) := by decide +kernel
theorem dX9_token_110 : decode cX9_token 110 = .ok (.bipush 95, 2) := by decide +kernel
theorem dX9_token_112 : decode cX9_token 112 = .ok (.if_icmp .eq 27, 3) := by decide +kernel
theorem dX9_token_115 : decode cX9_token 115 = .ok (.iload_n 2, 1) := by decide +kernel
theorem dX9_token_116 : decode cX9_token 116 = .ok (.bipush 43, 2) := by decide +kernel
theorem dX9_token_118 : decode cX9_token 118 = .ok (.if_icmp .eq 21, 3) := by decide +kernel
theorem dX9_token_121 : decode cX9_token 121 = .ok (.iload_n 2, 1) := by decide +kernel
theorem dX9_token_122 : decode cX9_token 122 = .ok (.bipush 42, 2) := by decide +kernel
theorem dX9_token_124 : decode cX9_token 124 = .ok (.if_icmp .eq 15, 3) := by decide +kernel
theorem dX9_token_127 : decode cX9_token 127 = .ok (.iload_n 2, 1) := by decide +kernel
theorem dX9_token_128 : decode cX9_token 128 = .ok (.bipush 61, 2) := by decide +kernel
theorem dX9_token_130 : decode cX9_token 130 = .ok (.if_icmp .eq 9, 3) := by decide +kernel
theorem dX9_token_133 : decode cX9_token 133 = .ok (.iload_n 2, 1) := by decide +kernel
theorem dX9_token_134 : decode cX9_token 134 = .ok (.bipush 60, 2) := by decide +kernel
theorem dX9_token_136 : decode cX9_token 136 = .ok (.if_icmp .ne 7, 3) := by decide +kernel
theorem dX9_token_139 : decode cX9_token 139 = .ok (.iconst 1, 1) := by decide +kernel
theorem dX9_token_140 : decode cX9_token 140 = .ok (.goto 4, 3) := by decide +kernel
theorem dX9_token_143 : decode cX9_token 143 = .ok (.iconst 0, 1) := by decide +kernel
theorem dX9_token_144 : decode cX9_token 144 = .ok (.ireturn, 1) := by decide +kernel
set_option maxRecDepth 20000 in
theorem ggX9_code_X9_look : GoodIn wsX9_code wsX9_look := goodIn_r _ [10, 11, 12, 19, 20, 21, 22, 23, 24, 25, 26, 27, 28, 29, 30, 31, 32, 33, 34, 35, 36, 37, 38, 39, 40, 41, 42, 43, 44, 45, 46, 47, 48, 49, 50, 51, 52, 53, 54] (by decide +kernel) (by decide +kernel)
set_option maxRecDepth 20000 in
theorem gX9_code_X9_look : GoodIn wsX9_code (wsV RX9 74 RX9 yX9_look wsX9_look) := goodIn_app (goodIn_of _ (by decide +kernel)) ggX9_code_X9_look
set_option maxRecDepth 20000 in
theorem ggX9_code_X9_isDigit : GoodIn wsX9_code wsX9_isDigit := goodIn_r _ [15] (by decide +kernel) (by decide +kernel)
set_option maxRecDepth 20000 in
theorem gX9_code_X9_isDigit : GoodIn wsX9_code (va_wsS RX9 82 yX9_isDigit wsX9_isDigit) := goodIn_app (goodIn_of _ (by decide +kernel)) ggX9_code_X9_isDigit
set_option maxRecDepth 20000 in
theorem ggX9_code_X9_isLetter : GoodIn wsX9_code wsX9_isLetter := goodIn_r _ [18] (by decide +kernel) (by decide +kernel)
set_option maxRecDepth 20000 in
theorem gX9_code_X9_isLetter : GoodIn wsX9_code (va_wsS RX9 78 yX9_isLetter wsX9_isLetter) := goodIn_app (goodIn_of _ (by decide +kernel)) ggX9_code_X9_isLetter
theorem dX9_code_0 : decode cX9_code 0 = .ok (.aload_n 0, 1) := by decide +kernel
theorem dX9_code_1 : decode cX9_code 1 = .ok (.iload_n 1, 1) := by decide +kernel
theorem dX9_code_2 : decode cX9_code 2 = .ok (.invokevirtual 74, 3) := by decide +kernel
theorem dX9_code_5 : decode cX9_code 5 = .ok (.istore_n 3, 1) := by decide +kernel
theorem dX9_code_6 : decode cX9_code 6 = .ok (.iload_n 3, 1) := by decide +kernel
theorem dX9_code_7 : decode cX9_code 7 = .ok (.bipush 40, 2) := by decide +kernel
theorem dX9_code_9 : decode cX9_code 9 = .ok (.if_icmp .ne 6, 3) := by decide +kernel
theorem dX9_code_12 : decode cX9_code 12 = .ok (.ldc 88, 2) := by decide +kernel
theorem dX9_code_14 : decode cX9_code 14 = .ok (.ireturn, 1) := by decide +kernel
theorem dX9_code_15 : decode cX9_code 15 = .ok (.iload_n 3, 1) := by decide +kernel
theorem dX9_code_16 : decode cX9_code 16 = .ok (.bipush 41, 2) := by decide +kernel
theorem dX9_code_18 : decode cX9_code 18 = .ok (.if_icmp .ne 6, 3) := by decide +kernel
theorem dX9_code_21 : decode cX9_code 21 = .ok (.ldc 89, 2) := by decide +kernel
theorem dX9_code_23 : decode cX9_code 23 = .ok (.ireturn, 1) := by decide +kernel
theorem dX9_code_24 : decode cX9_code 24 = .ok (.iload_n 3, 1) := by decide +kernel
theorem dX9_code_25 : decode cX9_code 25 = .ok (.bipush 95, 2) := by decide +kernel
theorem dX9_code_27 : decode cX9_code 27 = .ok (.if_icmp .ne 6, 3) := by decide +kernel
theorem dX9_code_30 : decode cX9_code 30 = .ok (.ldc 90, 2) := by decide +kernel
theorem dX9_code_32 : decode cX9_code 32 = .ok (.ireturn, 1) := by decide +kernel
theorem dX9_code_33 : decode cX9_code 33 = .ok (.iload_n 3, 1) := by decide +kernel
theorem dX9_code_34 : decode cX9_code 34 = .ok (.bipush 46, 2) := by decide +kernel
theorem dX9_code_36 : decode cX9_code 36 = .ok (.if_icmp .ne 6, 3) := by decide +kernel
theorem dX9_code_39 : decode cX9_code 39 = .ok (.ldc 91, 2) := by decide +kernel
theorem dX9_code_41 : decode cX9_code 41 = .ok (.ireturn, 1) := by decide +kernel
theorem dX9_code_42 : decode cX9_code 42 = .ok (.iconst 0, 1) := by decide +kernel
theorem dX9_code_43 : decode cX9_code 43 = .ok (.istore 4, 2) := by decide +kernel
theorem dX9_code_45 : decode cX9_code 45 = .ok (.iload_n 1, 1) := by decide +kernel
theorem dX9_code_46 : decode cX9_code 46 = .ok (.istore 5, 2) := by decide +kernel
theorem dX9_code_48 : decode cX9_code 48 = .ok (.iload 5, 2) := by decide +kernel
theorem dX9_code_50 : decode cX9_code 50 = .ok (.iload_n 1, 1) := by decide +kernel
theorem dX9_code_51 : decode cX9_code 51 = .ok (.iload_n 2, 1) := by decide +kernel
theorem dX9_code_52 : decode cX9_code 52 = .ok (.iadd, 1) := by decide +kernel
theorem dX9_code_53 : decode cX9_code 53 = .ok (.if_icmp .ge 65, 3) := by decide +kernel
theorem dX9_code_56 : decode cX9_code 56 = .ok (.iload_n 3, 1) := by decide +kernel
theorem dX9_code_57 : decode cX9_code 57 = .ok (.invokestatic 82, 3) := by decide +kernel
theorem dX9_code_60 : decode cX9_code 60 = .ok (.ifCond .eq 21, 3) := by decide +kernel
theorem dX9_code_63 : decode cX9_code 63 = .ok (.bipush 10, 2) := by decide +kernel
theorem dX9_code_65 : decode cX9_code 65 = .ok (.iload 4, 2) := by decide +kernel
theorem dX9_code_67 : decode cX9_code 67 = .ok (.imul, 1) := by decide +kernel
theorem dX9_code_68 : decode cX9_code 68 = .ok (.aload_n 0, 1) := by decide +kernel
theorem dX9_code_69 : decode cX9_code 69 = .ok (.iload 5, 2) := by decide +kernel
theorem dX9_code_71 : decode cX9_code 71 = .ok (.invokevirtual 74, 3) := by decide +kernel
theorem dX9_code_74 : decode cX9_code 74 = .ok (.iadd, 1) := by decide +kernel
theorem dX9_code_75 : decode cX9_code 75 = .ok (.bipush 48, 2) := by decide +kernel
theorem dX9_code_77 : decode cX9_code 77 = .ok (.isub, 1) := by decide +kernel
theorem dX9_code_78 : decode cX9_code 78 = .ok (.goto 32, 3) := by decide +kernel
theorem dX9_code_81 : decode cX9_code 81 = .ok (.iload_n 3, 1) := by decide +kernel
theorem dX9_code_82 : decode cX9_code 82 = .ok (.invokestatic 78, 3) := by decide +kernel
theorem dX9_code_85 : decode cX9_code 85 = .ok (.ifCond .eq 21, 3) := by decide +kernel
theorem dX9_code_88 : decode cX9_code 88 = .ok (.bipush 32, 2) := by decide +kernel
theorem dX9_code_90 : decode cX9_code 90 = .ok (.iload 4, 2) := by decide +kernel
theorem dX9_code_92 : decode cX9_code 92 = .ok (.imul, 1) := by decide +kernel
theorem dX9_code_93 : decode cX9_code 93 = .ok (.aload_n 0, 1) := by decide +kernel
theorem dX9_code_94 : decode cX9_code 94 = .ok (.iload 5, 2) := by decide +kernel
theorem dX9_code_96 : decode cX9_code 96 = .ok (.invokevirtual 74, 3) := by decide +kernel
theorem dX9_code_99 : decode cX9_code 99 = .ok (.iadd, 1) := by decide +kernel
theorem dX9_code_100 : decode cX9_code 100 = .ok (.bipush 96, 2) := by decide +kernel
theorem dX9_code_102 : decode cX9_code 102 = .ok (.isub, 1) := by decide +kernel
theorem dX9_code_103 : decode cX9_code 103 = .ok (.goto 7, 3) := by decide +kernel
theorem dX9_code_106 : decode cX9_code 106 = .ok (.ldc 92, 2) := by decide +kernel
theorem dX9_code_108 : decode cX9_code 108 = .ok (.iload_n 3, 1) := by decide +kernel
theorem dX9_code_109 : decode cX9_code 109 = .ok (.iadd, 1) := by decide +kernel
theorem dX9_code_110 : decode cX9_code 110 = .ok (.istore 4, 2) := by decide +kernel
theorem dX9_code_112 : decode cX9_code 112 = .ok (.iinc 5 1, 3) := by decide +kernel
theorem dX9_code_115 : decode cX9_code 115 = .ok (.goto (-67), 3) := by decide +kernel
theorem dX9_code_118 : decode cX9_code 118 = .ok (.ldc 88, 2) := by decide +kernel
theorem dX9_code_120 : decode cX9_code 120 = .ok (.iload_n 3, 1) := by decide +kernel
theorem dX9_code_121 : decode cX9_code 121 = .ok (.invokestatic 82, 3) := by decide +kernel
theorem dX9_code_124 : decode cX9_code 124 = .ok (.ifCond .eq 7, 3) := by decide +kernel
theorem dX9_code_127 : decode cX9_code 127 = .ok (.iconst 4, 1) := by decide +kernel
theorem dX9_code_128 : decode cX9_code 128 = .ok (.goto 4, 3) := by decide +kernel
theorem dX9_code_131 : decode cX9_code 131 = .ok (.iconst 3, 1) := by decide +kernel
theorem dX9_code_132 : decode cX9_code 132 = .ok (.imul, 1) := by decide +kernel
theorem dX9_code_133 : decode cX9_code 133 = .ok (.iload 4, 2) := by decide +kernel
theorem dX9_code_135 : decode cX9_code 135 = .ok (.iadd, 1) := by decide +kernel
theorem dX9_code_136 : decode cX9_code 136 = .ok (.ireturn, 1) := by decide +kernel
theorem dX9_fits_0 : decode cX9_fits 0 = .ok (.iload_n 2, 1) := by decide +kernel
theorem dX9_fits_1 : decode cX9_fits 1 = .ok (.ifCond .eq 7, 3) := by decide +kernel
theorem dX9_fits_4 : decode cX9_fits 4 = .ok (.iconst 1, 1) := by decide +kernel
theorem dX9_fits_5 : decode cX9_fits 5 = .ok (.goto 4, 3) := by decide +kernel
theorem dX9_fits_8 : decode cX9_fits 8 = .ok (.iconst 0, 1) := by decide +kernel
theorem dX9_fits_9 : decode cX9_fits 9 = .ok (.istore_n 3, 1) := by decide +kernel
theorem dX9_fits_10 : decode cX9_fits 10 = .ok (.iload_n 0, 1) := by decide +kernel
theorem dX9_fits_11 : decode cX9_fits 11 = .ok (.iconst 1, 1) := by decide +kernel
theorem dX9_fits_12 : decode cX9_fits 12 = .ok (.if_icmp .ne 23, 3) := by decide +kernel
theorem dX9_fits_15 : decode cX9_fits 15 = .ok (.iload_n 1, 1) := by decide +kernel
theorem dX9_fits_16 : decode cX9_fits 16 = .ok (.ifCond .gt 7, 3) := by decide +kernel
theorem dX9_fits_19 : decode cX9_fits 19 = .ok (.iload_n 3, 1) := by decide +kernel
theorem dX9_fits_20 : decode cX9_fits 20 = .ok (.ifCond .ne 13, 3) := by decide +kernel
theorem dX9_fits_23 : decode cX9_fits 23 = .ok (.iload_n 1, 1) := by decide +kernel
theorem dX9_fits_24 : decode cX9_fits 24 = .ok (.bipush 7, 2) := by decide +kernel
theorem dX9_fits_26 : decode cX9_fits 26 = .ok (.if_icmp .gt 7, 3) := by decide +kernel
theorem dX9_fits_29 : decode cX9_fits 29 = .ok (.iconst 1, 1) := by decide +kernel
theorem dX9_fits_30 : decode cX9_fits 30 = .ok (.goto 4, 3) := by decide +kernel
theorem dX9_fits_33 : decode cX9_fits 33 = .ok (.iconst 0, 1) := by decide +kernel
theorem dX9_fits_34 : decode cX9_fits 34 = .ok (.ireturn, 1) := by decide +kernel
theorem dX9_fits_35 : decode cX9_fits 35 = .ok (.iload_n 0, 1) := by decide +kernel
theorem dX9_fits_36 : decode cX9_fits 36 = .ok (.iconst 2, 1) := by decide +kernel
theorem dX9_fits_37 : decode cX9_fits 37 = .ok (.if_icmp .ne 13, 3) := by decide +kernel
theorem dX9_fits_40 : decode cX9_fits 40 = .ok (.iload_n 1, 1) := by decide +kernel
theorem dX9_fits_41 : decode cX9_fits 41 = .ok (.ifCond .le 7, 3) := by decide +kernel
theorem dX9_fits_44 : decode cX9_fits 44 = .ok (.iconst 1, 1) := by decide +kernel
theorem dX9_fits_45 : decode cX9_fits 45 = .ok (.goto 4, 3) := by decide +kernel
theorem dX9_fits_48 : decode cX9_fits 48 = .ok (.iconst 0, 1) := by decide +kernel
theorem dX9_fits_49 : decode cX9_fits 49 = .ok (.ireturn, 1) := by decide +kernel
theorem dX9_fits_50 : decode cX9_fits 50 = .ok (.iload_n 0, 1) := by decide +kernel
theorem dX9_fits_51 : decode cX9_fits 51 = .ok (.bipush 6, 2) := by decide +kernel
theorem dX9_fits_53 : decode cX9_fits 53 = .ok (.if_icmp .ne 24, 3) := by decide +kernel
theorem dX9_fits_56 : decode cX9_fits 56 = .ok (.iload_n 1, 1) := by decide +kernel
theorem dX9_fits_57 : decode cX9_fits 57 = .ok (.ifCond .le 18, 3) := by decide +kernel
theorem dX9_fits_60 : decode cX9_fits 60 = .ok (.iload_n 2, 1) := by decide +kernel
theorem dX9_fits_61 : decode cX9_fits 61 = .ok (.iconst 1, 1) := by decide +kernel
theorem dX9_fits_62 : decode cX9_fits 62 = .ok (.if_icmp .eq 13, 3) := by decide +kernel
theorem dX9_fits_65 : decode cX9_fits 65 = .ok (.iload_n 2, 1) := by decide +kernel
theorem dX9_fits_66 : decode cX9_fits 66 = .ok (.bipush 6, 2) := by decide +kernel
theorem dX9_fits_68 : decode cX9_fits 68 = .ok (.if_icmp .eq 7, 3) := by decide +kernel
theorem dX9_fits_71 : decode cX9_fits 71 = .ok (.iconst 1, 1) := by decide +kernel
theorem dX9_fits_72 : decode cX9_fits 72 = .ok (.goto 4, 3) := by decide +kernel
theorem dX9_fits_75 : decode cX9_fits 75 = .ok (.iconst 0, 1) := by decide +kernel
theorem dX9_fits_76 : decode cX9_fits 76 = .ok (.ireturn, 1) := by decide +kernel
theorem dX9_fits_77 : decode cX9_fits 77 = .ok (.iload_n 1, 1) := by decide +kernel
theorem dX9_fits_78 : decode cX9_fits 78 = .ok (.ifCond .gt 7, 3) := by decide +kernel
theorem dX9_fits_81 : decode cX9_fits 81 = .ok (.iload_n 3, 1) := by decide +kernel
theorem dX9_fits_82 : decode cX9_fits 82 = .ok (.ifCond .ne 7, 3) := by decide +kernel
theorem dX9_fits_85 : decode cX9_fits 85 = .ok (.iconst 1, 1) := by decide +kernel
theorem dX9_fits_86 : decode cX9_fits 86 = .ok (.goto 4, 3) := by decide +kernel
theorem dX9_fits_89 : decode cX9_fits 89 = .ok (.iconst 0, 1) := by decide +kernel
theorem dX9_fits_90 : decode cX9_fits 90 = .ok (.ireturn, 1) := by decide +kernel
theorem iw_X9_type_X9 : ∀ w ∈ wsX90, w ∈ wsX9_type := by decide +kernel
theorem lk_X9_type_70 : Cond.fieldLink RX9 70 "MarkedNamesModel" "length" "I" ∈ wsX9_type := by decide +kernel
theorem lk_X9_type_7 : Cond.fieldLink RX9 7 "MarkedNamesModel" "typed" "[I" ∈ wsX9_type := by decide +kernel
theorem iw_X9_look_X9 : ∀ w ∈ wsX90, w ∈ wsX9_look := by decide +kernel
theorem lk_X9_look_70 : Cond.fieldLink RX9 70 "MarkedNamesModel" "length" "I" ∈ wsX9_look := by decide +kernel
theorem lk_X9_look_7 : Cond.fieldLink RX9 7 "MarkedNamesModel" "typed" "[I" ∈ wsX9_look := by decide +kernel
theorem iw_X9_run_X9 : ∀ w ∈ wsX90, w ∈ wsX9_run := by decide +kernel
theorem lk_X9_run_70 : Cond.fieldLink RX9 70 "MarkedNamesModel" "length" "I" ∈ wsX9_run := by decide +kernel
theorem mw_X9_code__constant_RX9_91_393216_Int32_ : Cond.constant RX9 91 (393216 : Int32) ∈ wsX9_code := by decide +kernel
theorem mw_X9_code__constant_RX9_90_327680_Int32_ : Cond.constant RX9 90 (327680 : Int32) ∈ wsX9_code := by decide +kernel
theorem mw_X9_code__constant_RX9_89_131072_Int32_ : Cond.constant RX9 89 (131072 : Int32) ∈ wsX9_code := by decide +kernel
theorem mw_X9_code__constant_RX9_88_65536_Int32_ : Cond.constant RX9 88 (65536 : Int32) ∈ wsX9_code := by decide +kernel
theorem mw_X9_code__constant_RX9_92_40000_Int32_ : Cond.constant RX9 92 (40000 : Int32) ∈ wsX9_code := by decide +kernel
section
variable {l : Launch} {p : Program} {e : Env} {s : State} {m : MethodId} {args : Array Value} {below : List Frame} {meth : Method} {c : Code} {A : Nat → Prop} {dC : Nat → ClassId} {dI : Nat → Nat → Nat} {cA : ClassId} {a b : Nat → Nat} {lev : Nat}
set_option maxHeartbeats 4000000 in
set_option maxRecDepth 100000 in
theorem wj_X9_type_68_ok (C : mC p s m args meth c cX9_type 5 wsX9_type RX9 (some .boolean) (dC, dI) vwCl [(cA, .int)] A) (hs : eM A s) (hlev : 0 ≤ lev) {post : Int32 → mS → Prop} {K68 : Int32 → Int32 → mS → Prop} (hK68 : ∀ (x1 x3 : Int32) (u : mS), K68 x1 x3 u → mV p l e (mRm lev) s m args below meth c 5 (dC, dI) vwCl A 0 0 (mQi below args s (dC, dI) vwCl [(cA, .int)] (wM cA b) A (fun r w => (r = 0 ∨ r = 1) ∧ post r w)) (wM cA b u) 68 [(0, .ref (b 0)), (1, .int x1), (3, .int x3)] []) {x1 x3 : Int32} {u : mS} (hw : wj_X9_type_68 K68 post x1 x3 u) : mV p l e (mRm lev) s m args below meth c 5 (dC, dI) vwCl A 0 0 (mQi below args s (dC, dI) vwCl [(cA, .int)] (wM cA b) A (fun r w => (r = 0 ∨ r = 1) ∧ post r w)) (wM cA b u) 68 [(0, .ref (b 0)), (1, .int x1), (3, .int x3)] [] := by
  unfold wj_X9_type_68 at hw
  refine mv_iload_n C dX9_type_68 rfl 2 rfl ?_
  refine mv_if_lt (tgt := 107) C dX9_type_69 (by decide) (fun h14 => ?_) (fun h14 => ?_)
  · have hw := hw.1 h14
    refine mv_iconst (v := (1 : Int32)) C dX9_type_107 (by decide) ?_
    exact mv_zret C dX9_type_108 (Or.inr rfl) hw
  · have hw := hw.2 h14
    refine mv_aload_n C dX9_type_72 rfl 0 rfl ?_
    refine mv_get (v := .ref (b 1)) C iw_X9_type_X9 0 rfl rfl 0 (by decide) lk_X9_type_7 rfl rfl dX9_type_73 ?_
    refine mv_aload_n C dX9_type_76 rfl 0 rfl ?_
    refine mv_get (v := .int (u.1 0)) C iw_X9_type_X9 0 rfl rfl 1 (by decide) lk_X9_type_70 rfl rfl dX9_type_77 ?_
    refine mv_topi (fun y15 ey15 => ?_)
    have hw := hw y15 ey15
    refine mv_iload_n C dX9_type_80 rfl 1 rfl ?_
    refine mv_bipush (v := (8 : Int32)) C dX9_type_81 (by decide) ?_
    refine mv_iload_n C dX9_type_83 rfl 2 rfl ?_
    refine mv_imul C dX9_type_84 ?_
    refine mv_topi (fun y16 ey16 => ?_)
    have hw := hw y16 ey16
    refine mv_ishr C dX9_type_85 ?_
    refine mv_topi (fun y17 ey17 => ?_)
    have hw := hw y17 ey17
    refine mv_sipush (v := (255 : Int32)) C dX9_type_86 (by decide) ?_
    refine mv_iand C dX9_type_89 ?_
    refine mv_topi (fun y18 ey18 => ?_)
    have hw := hw y18 ey18
    refine mv_iast (f := u.2 0) (ws1 := wM cA b (mPut u 0 y15.toNatClampNeg y18)) C 1 0 rfl rfl hw.1 rfl dX9_type_90 ?_
    refine mv_nm (f := wM cA b) (fun u19 eu19 => ?_)
    have hw := hw.2 u19 eu19
    refine mv_aload_n C dX9_type_91 rfl 0 rfl ?_
    refine mv_dup C dX9_type_92 rfl ?_
    refine mv_get (v := .int (u19.1 0)) C iw_X9_type_X9 0 rfl rfl 1 (by decide) lk_X9_type_70 rfl rfl dX9_type_93 ?_
    refine mv_topi (fun y20 ey20 => ?_)
    have hw := hw y20 ey20
    refine mv_iconst (v := (1 : Int32)) C dX9_type_96 (by decide) ?_
    refine mv_iadd C dX9_type_97 ?_
    refine mv_topi (fun y21 ey21 => ?_)
    have hw := hw y21 ey21
    refine mv_put (ty := .int) (ws1 := wM cA b (mSet u19 0 y21)) C iw_X9_type_X9 tyX9 tyX9_ok nmX9 0 rfl rfl 1 (by decide) lk_X9_type_70 rfl rfl rfl rfl rfl (Nat.le_of_ble_eq_true rfl) rfl dX9_type_98 ?_
    refine mv_nm (f := wM cA b) (fun u22 eu22 => ?_)
    have hw := hw u22 eu22
    obtain ⟨y23, ey23⟩ : ∃ z : Int32, z = x3 + (-1 : Int32) := ⟨_, rfl⟩
    have hw := hw y23 ey23
    refine mv_iinc (v := y23) (lv1 := [(3, .int y23), (0, .ref (b 0)), (1, .int x1)]) C dX9_type_101 2 rfl (by rw [ey23]; rfl) (by decide) rfl ?_
    refine mv_goto (tgt := 68) C dX9_type_104 (by decide) ?_
    refine mv_sub [1, 2, 0] rfl ?_
    exact hK68 x1 y23 u22 hw
set_option maxHeartbeats 4000000 in
set_option maxRecDepth 100000 in
theorem wj_X9_type_25_ok (C : mC p s m args meth c cX9_type 5 wsX9_type RX9 (some .boolean) (dC, dI) vwCl [(cA, .int)] A) (hs : eM A s) (hlev : 0 ≤ lev) {post : Int32 → mS → Prop} {K25 : Int32 → Int32 → Int32 → mS → Prop} (hK25 : ∀ (x1 x2 x3 : Int32) (u : mS), K25 x1 x2 x3 u → mV p l e (mRm lev) s m args below meth c 5 (dC, dI) vwCl A 0 0 (mQi below args s (dC, dI) vwCl [(cA, .int)] (wM cA b) A (fun r w => (r = 0 ∨ r = 1) ∧ post r w)) (wM cA b u) 25 [(0, .ref (b 0)), (1, .int x1), (2, .int x2), (3, .int x3)] []) {x1 x2 x3 : Int32} {u : mS} (hw : wj_X9_type_25 K25 post x1 x2 x3 u) : mV p l e (mRm lev) s m args below meth c 5 (dC, dI) vwCl A 0 0 (mQi below args s (dC, dI) vwCl [(cA, .int)] (wM cA b) A (fun r w => (r = 0 ∨ r = 1) ∧ post r w)) (wM cA b u) 25 [(0, .ref (b 0)), (1, .int x1), (2, .int x2), (3, .int x3)] [] := by
  unfold wj_X9_type_25 at hw
  refine mv_iload_n C dX9_type_25 rfl 3 rfl ?_
  refine mv_iload_n C dX9_type_26 rfl 2 rfl ?_
  refine mv_icmp_ge (tgt := 64) C dX9_type_27 (by decide) (fun h6 => ?_) (fun h6 => ?_)
  · have hw := hw.1 h6
    refine mv_iload_n C dX9_type_64 rfl 2 rfl ?_
    refine mv_iconst (v := (1 : Int32)) C dX9_type_65 (by decide) ?_
    refine mv_isub C dX9_type_66 ?_
    refine mv_topi (fun y7 ey7 => ?_)
    have hw := hw y7 ey7
    refine mv_istore_n (lv1 := [(3, .int y7), (0, .ref (b 0)), (1, .int x1), (2, .int x2)]) C dX9_type_67 rfl (by decide) rfl ?_
    refine mv_sub [1, 2, 0] rfl ?_
    obtain ⟨n, hw⟩ := hw
    exact mL3_of (fun K hK b0 b1 b2 hw => wj_X9_type_68_ok C hs hlev hK hw) n x1 y7 u hw
  · have hw := hw.2 h6
    refine mv_iload_n C dX9_type_30 rfl 1 rfl ?_
    refine mv_bipush (v := (8 : Int32)) C dX9_type_31 (by decide) ?_
    refine mv_iload_n C dX9_type_33 rfl 3 rfl ?_
    refine mv_imul C dX9_type_34 ?_
    refine mv_topi (fun y8 ey8 => ?_)
    have hw := hw y8 ey8
    refine mv_ishr C dX9_type_35 ?_
    refine mv_topi (fun y9 ey9 => ?_)
    have hw := hw y9 ey9
    refine mv_sipush (v := (255 : Int32)) C dX9_type_36 (by decide) ?_
    refine mv_iand C dX9_type_39 ?_
    refine mv_topi (fun y10 ey10 => ?_)
    have hw := hw y10 ey10
    refine mv_istore (lv1 := [(4, .int y10), (0, .ref (b 0)), (1, .int x1), (2, .int x2), (3, .int x3)]) C dX9_type_40 (by decide) rfl ?_
    refine mv_iload C dX9_type_42 0 rfl ?_
    refine mv_bipush (v := (32 : Int32)) C dX9_type_44 (by decide) ?_
    refine mv_icmp_lt (tgt := 56) C dX9_type_46 (by decide) (fun h11 => ?_) (fun h11 => ?_)
    · have hw := hw.1 h11
      refine mv_iconst (v := (0 : Int32)) C dX9_type_56 (by decide) ?_
      exact mv_zret C dX9_type_57 (Or.inl rfl) hw
    · have hw := hw.2 h11
      refine mv_iload C dX9_type_49 0 rfl ?_
      refine mv_bipush (v := (126 : Int32)) C dX9_type_51 (by decide) ?_
      refine mv_icmp_le (tgt := 58) C dX9_type_53 (by decide) (fun h12 => ?_) (fun h12 => ?_)
      · have hw := hw.1 h12
        obtain ⟨y13, ey13⟩ : ∃ z : Int32, z = x3 + (1 : Int32) := ⟨_, rfl⟩
        have hw := hw y13 ey13
        refine mv_iinc (v := y13) (lv1 := [(3, .int y13), (4, .int y10), (0, .ref (b 0)), (1, .int x1), (2, .int x2)]) C dX9_type_58 4 rfl (by rw [ey13]; rfl) (by decide) rfl ?_
        refine mv_goto (tgt := 25) C dX9_type_61 (by decide) ?_
        refine mv_sub [2, 3, 4, 0] rfl ?_
        exact hK25 x1 x2 y13 u hw
      · have hw := hw.2 h12
        refine mv_iconst (v := (0 : Int32)) C dX9_type_56 (by decide) ?_
        exact mv_zret C dX9_type_57 (Or.inl rfl) hw
set_option maxHeartbeats 4000000 in
set_option maxRecDepth 100000 in
theorem X9_type_met (hlev : 0 ≤ lev) {x1 x2 : Int32} {u : mS} {post : Int32 → mS → Prop} (hw : wp_X9_type x1 x2 u post) : mKi l yX9_type wsX9_type lev (eM) (dC, dI) vwCl [(cA, .int)] (wM cA b) [.ref (b 0), .int x1, .int x2] u (fun r w => (r = 0 ∨ r = 1) ∧ post r w) := by
  refine mKz_of (cc := cX9_type) (maxL := 5) (by decide) rfl rfl (Nat.le_of_ble_eq_true rfl) rfl ?_
  intro p e s m args below meth c A C hs
  unfold wp_X9_type at hw
  refine mv_iload_n C dX9_type_0 rfl 2 rfl ?_
  refine mv_iconst (v := (1 : Int32)) C dX9_type_1 (by decide) ?_
  refine mv_icmp_lt (tgt := 21) C dX9_type_2 (by decide) (fun h1 => ?_) (fun h1 => ?_)
  · have hw := hw.1 h1
    refine mv_iconst (v := (0 : Int32)) C dX9_type_21 (by decide) ?_
    exact mv_zret C dX9_type_22 (Or.inl rfl) hw
  · have hw := hw.2 h1
    refine mv_iload_n C dX9_type_5 rfl 2 rfl ?_
    refine mv_iconst (v := (4 : Int32)) C dX9_type_6 (by decide) ?_
    refine mv_icmp_gt (tgt := 21) C dX9_type_7 (by decide) (fun h2 => ?_) (fun h2 => ?_)
    · have hw := hw.1 h2
      refine mv_iconst (v := (0 : Int32)) C dX9_type_21 (by decide) ?_
      exact mv_zret C dX9_type_22 (Or.inl rfl) hw
    · have hw := hw.2 h2
      refine mv_aload_n C dX9_type_10 rfl 0 rfl ?_
      refine mv_get (v := .int (u.1 0)) C iw_X9_type_X9 0 rfl rfl 1 (by decide) lk_X9_type_70 rfl rfl dX9_type_11 ?_
      refine mv_topi (fun y3 ey3 => ?_)
      have hw := hw y3 ey3
      refine mv_iload_n C dX9_type_14 rfl 2 rfl ?_
      refine mv_iadd C dX9_type_15 ?_
      refine mv_topi (fun y4 ey4 => ?_)
      have hw := hw y4 ey4
      refine mv_bipush (v := (120 : Int32)) C dX9_type_16 (by decide) ?_
      refine mv_icmp_le (tgt := 23) C dX9_type_18 (by decide) (fun h5 => ?_) (fun h5 => ?_)
      · have hw := hw.1 h5
        refine mv_iconst (v := (0 : Int32)) C dX9_type_23 (by decide) ?_
        refine mv_istore_n (lv1 := [(3, .int (0 : Int32)), (0, .ref (b 0)), (1, .int x1), (2, .int x2)]) C dX9_type_24 rfl (by decide) rfl ?_
        refine mv_sub [1, 2, 3, 0] rfl ?_
        obtain ⟨n, hw⟩ := hw
        exact mL4_of (fun K hK b0 b1 b2 b3 hw => wj_X9_type_25_ok C hs hlev hK hw) n x1 x2 (0 : Int32) u hw
      · have hw := hw.2 h5
        refine mv_iconst (v := (0 : Int32)) C dX9_type_21 (by decide) ?_
        exact mv_zret C dX9_type_22 (Or.inl rfl) hw
set_option maxHeartbeats 4000000 in
set_option maxRecDepth 100000 in
theorem X9_look_met (hlev : 0 ≤ lev) {x1 : Int32} {u : mS} {post : Int32 → mS → Prop} (hw : wp_X9_look x1 u post) : mKi l yX9_look wsX9_look lev (eM) (dC, dI) vwCl [(cA, .int)] (wM cA b) [.ref (b 0), .int x1] u post := by
  refine mKi_of (cc := cX9_look) (maxL := 2) (by decide) rfl rfl (Nat.le_of_ble_eq_true rfl) rfl ?_
  intro p e s m args below meth c A C hs
  unfold wp_X9_look at hw
  refine mv_iload_n C dX9_look_0 rfl 1 rfl ?_
  refine mv_aload_n C dX9_look_1 rfl 0 rfl ?_
  refine mv_get (v := .int (u.1 0)) C iw_X9_look_X9 0 rfl rfl 1 (by decide) lk_X9_look_70 rfl rfl dX9_look_2 ?_
  refine mv_topi (fun y1 ey1 => ?_)
  have hw := hw y1 ey1
  refine mv_icmp_ge (tgt := 17) C dX9_look_5 (by decide) (fun h2 => ?_) (fun h2 => ?_)
  · have hw := hw.1 h2
    refine mv_iconst (v := (0 : Int32)) C dX9_look_17 (by decide) ?_
    exact mv_iret C dX9_look_18 hw
  · have hw := hw.2 h2
    refine mv_aload_n C dX9_look_8 rfl 0 rfl ?_
    refine mv_get (v := .ref (b 1)) C iw_X9_look_X9 0 rfl rfl 0 (by decide) lk_X9_look_7 rfl rfl dX9_look_9 ?_
    refine mv_iload_n C dX9_look_12 rfl 1 rfl ?_
    refine mv_iald (f := u.2 0) C 1 0 rfl rfl hw.1 dX9_look_13 ?_
    refine mv_topi (fun y3 ey3 => ?_)
    have hw := hw.2 y3 ey3
    refine mv_goto (tgt := 18) C dX9_look_14 (by decide) ?_
    exact mv_iret C dX9_look_18 hw
set_option maxHeartbeats 4000000 in
set_option maxRecDepth 100000 in
theorem X9_isLetter_met (hlev : 0 ≤ lev) {x0 : Int32} {u : mS} {post : Int32 → mS → Prop} (hw : wp_X9_isLetter x0 u post) : mKi l yX9_isLetter wsX9_isLetter lev (eM) (dC, dI) vwCl [(cA, .int)] (wM cA b) [.int x0] u (fun r w => (r = 0 ∨ r = 1) ∧ post r w) := by
  refine mKz_of (cc := cX9_isLetter) (maxL := 1) (by decide) rfl rfl (Nat.le_of_ble_eq_true rfl) rfl ?_
  intro p e s m args below meth c A C hs
  unfold wp_X9_isLetter at hw
  refine mv_iload_n C dX9_isLetter_0 rfl 0 rfl ?_
  refine mv_bipush (v := (97 : Int32)) C dX9_isLetter_1 (by decide) ?_
  refine mv_icmp_lt (tgt := 16) C dX9_isLetter_3 (by decide) (fun h1 => ?_) (fun h1 => ?_)
  · have hw := hw.1 h1
    refine mv_iconst (v := (0 : Int32)) C dX9_isLetter_16 (by decide) ?_
    exact mv_zret C dX9_isLetter_17 (Or.inl rfl) hw
  · have hw := hw.2 h1
    refine mv_iload_n C dX9_isLetter_6 rfl 0 rfl ?_
    refine mv_bipush (v := (122 : Int32)) C dX9_isLetter_7 (by decide) ?_
    refine mv_icmp_gt (tgt := 16) C dX9_isLetter_9 (by decide) (fun h2 => ?_) (fun h2 => ?_)
    · have hw := hw.1 h2
      refine mv_iconst (v := (0 : Int32)) C dX9_isLetter_16 (by decide) ?_
      exact mv_zret C dX9_isLetter_17 (Or.inl rfl) hw
    · have hw := hw.2 h2
      refine mv_iconst (v := (1 : Int32)) C dX9_isLetter_12 (by decide) ?_
      refine mv_goto (tgt := 17) C dX9_isLetter_13 (by decide) ?_
      exact mv_zret C dX9_isLetter_17 (Or.inr rfl) hw
set_option maxHeartbeats 4000000 in
set_option maxRecDepth 100000 in
theorem X9_isDigit_met (hlev : 0 ≤ lev) {x0 : Int32} {u : mS} {post : Int32 → mS → Prop} (hw : wp_X9_isDigit x0 u post) : mKi l yX9_isDigit wsX9_isDigit lev (eM) (dC, dI) vwCl [(cA, .int)] (wM cA b) [.int x0] u (fun r w => (r = 0 ∨ r = 1) ∧ post r w) := by
  refine mKz_of (cc := cX9_isDigit) (maxL := 1) (by decide) rfl rfl (Nat.le_of_ble_eq_true rfl) rfl ?_
  intro p e s m args below meth c A C hs
  unfold wp_X9_isDigit at hw
  refine mv_iload_n C dX9_isDigit_0 rfl 0 rfl ?_
  refine mv_bipush (v := (48 : Int32)) C dX9_isDigit_1 (by decide) ?_
  refine mv_icmp_lt (tgt := 16) C dX9_isDigit_3 (by decide) (fun h1 => ?_) (fun h1 => ?_)
  · have hw := hw.1 h1
    refine mv_iconst (v := (0 : Int32)) C dX9_isDigit_16 (by decide) ?_
    exact mv_zret C dX9_isDigit_17 (Or.inl rfl) hw
  · have hw := hw.2 h1
    refine mv_iload_n C dX9_isDigit_6 rfl 0 rfl ?_
    refine mv_bipush (v := (57 : Int32)) C dX9_isDigit_7 (by decide) ?_
    refine mv_icmp_gt (tgt := 16) C dX9_isDigit_9 (by decide) (fun h2 => ?_) (fun h2 => ?_)
    · have hw := hw.1 h2
      refine mv_iconst (v := (0 : Int32)) C dX9_isDigit_16 (by decide) ?_
      exact mv_zret C dX9_isDigit_17 (Or.inl rfl) hw
    · have hw := hw.2 h2
      refine mv_iconst (v := (1 : Int32)) C dX9_isDigit_12 (by decide) ?_
      refine mv_goto (tgt := 17) C dX9_isDigit_13 (by decide) ?_
      exact mv_zret C dX9_isDigit_17 (Or.inr rfl) hw
set_option maxHeartbeats 4000000 in
set_option maxRecDepth 100000 in
theorem wj_X9_run_54_ok (C : mC p s m args meth c cX9_run 4 wsX9_run RX9 (some .int) (dC, dI) vwCl [(cA, .int)] A) (hs : eM A s) (hlev : 1 ≤ lev) {post : Int32 → mS → Prop} {K11 : Int32 → Int32 → Int32 → mS → Prop} (hK11 : ∀ (x1 x2 x3 : Int32) (u : mS), K11 x1 x2 x3 u → mV p l e (mRm lev) s m args below meth c 4 (dC, dI) vwCl A 0 0 (mQi below args s (dC, dI) vwCl [(cA, .int)] (wM cA b) A post) (wM cA b u) 11 [(0, .ref (b 0)), (1, .int x1), (2, .int x2), (3, .int x3)] []) {x1 x2 x3 : Int32} {u : mS} (hw : wj_X9_run_54 K11 post x1 x2 x3 u) : mV p l e (mRm lev) s m args below meth c 4 (dC, dI) vwCl A 0 0 (mQi below args s (dC, dI) vwCl [(cA, .int)] (wM cA b) A post) (wM cA b u) 54 [(0, .ref (b 0)), (1, .int x1), (2, .int x2), (3, .int x3)] [] := by
  unfold wj_X9_run_54 at hw
  obtain ⟨y21, ey21⟩ : ∃ z : Int32, z = x2 + (1 : Int32) := ⟨_, rfl⟩
  have hw := hw y21 ey21
  refine mv_iinc (v := y21) (lv1 := [(2, .int y21), (0, .ref (b 0)), (1, .int x1), (3, .int x3)]) C dX9_run_54 2 rfl (by rw [ey21]; rfl) (by decide) rfl ?_
  refine mv_goto (tgt := 11) C dX9_run_57 (by decide) ?_
  refine mv_sub [1, 2, 0, 3] rfl ?_
  exact hK11 x1 y21 x3 u hw
set_option maxHeartbeats 4000000 in
set_option maxRecDepth 100000 in
theorem wj_X9_run_60_ok (C : mC p s m args meth c cX9_run 4 wsX9_run RX9 (some .int) (dC, dI) vwCl [(cA, .int)] A) (hs : eM A s) (hlev : 1 ≤ lev) {post : Int32 → mS → Prop} {x2 : Int32} {u : mS} (hw : wj_X9_run_60 post x2 u) : mV p l e (mRm lev) s m args below meth c 4 (dC, dI) vwCl A 0 0 (mQi below args s (dC, dI) vwCl [(cA, .int)] (wM cA b) A post) (wM cA b u) 60 [(2, .int x2)] [] := by
  unfold wj_X9_run_60 at hw
  refine mv_iload_n C dX9_run_60 rfl 0 rfl ?_
  exact mv_iret C dX9_run_61 hw
set_option maxHeartbeats 4000000 in
set_option maxRecDepth 100000 in
theorem wj_X9_run_11_ok (C : mC p s m args meth c cX9_run 4 wsX9_run RX9 (some .int) (dC, dI) vwCl [(cA, .int)] A) (hs : eM A s) (hlev : 1 ≤ lev) {post : Int32 → mS → Prop} {K11 : Int32 → Int32 → Int32 → mS → Prop} (hK11 : ∀ (x1 x2 x3 : Int32) (u : mS), K11 x1 x2 x3 u → mV p l e (mRm lev) s m args below meth c 4 (dC, dI) vwCl A 0 0 (mQi below args s (dC, dI) vwCl [(cA, .int)] (wM cA b) A post) (wM cA b u) 11 [(0, .ref (b 0)), (1, .int x1), (2, .int x2), (3, .int x3)] []) {x1 x2 x3 : Int32} {u : mS} (hw : wj_X9_run_11 K11 post x1 x2 x3 u) : mV p l e (mRm lev) s m args below meth c 4 (dC, dI) vwCl A 0 0 (mQi below args s (dC, dI) vwCl [(cA, .int)] (wM cA b) A post) (wM cA b u) 11 [(0, .ref (b 0)), (1, .int x1), (2, .int x2), (3, .int x3)] [] := by
  unfold wj_X9_run_11 at hw
  refine mv_iload_n C dX9_run_11 rfl 1 rfl ?_
  refine mv_iload_n C dX9_run_12 rfl 2 rfl ?_
  refine mv_iadd C dX9_run_13 ?_
  refine mv_topi (fun y5 ey5 => ?_)
  have hw := hw y5 ey5
  refine mv_aload_n C dX9_run_14 rfl 0 rfl ?_
  refine mv_get (v := .int (u.1 0)) C iw_X9_run_X9 0 rfl rfl 1 (by decide) lk_X9_run_70 rfl rfl dX9_run_15 ?_
  refine mv_topi (fun y6 ey6 => ?_)
  have hw := hw y6 ey6
  refine mv_icmp_ge (tgt := 60) C dX9_run_18 (by decide) (fun h7 => ?_) (fun h7 => ?_)
  · have hw := hw.1 h7
    refine mv_sub [2] rfl ?_
    exact wj_X9_run_60_ok C hs hlev hw
  · have hw := hw.2 h7
    refine mv_iload_n C dX9_run_21 rfl 3 rfl ?_
    refine mv_if_eq (tgt := 41) C dX9_run_22 (by decide) (fun h8 => ?_) (fun h8 => ?_)
    · have hw := hw.1 h8
      refine mv_aload_n C dX9_run_41 rfl 0 rfl ?_
      refine mv_iload_n C dX9_run_42 rfl 1 rfl ?_
      refine mv_iload_n C dX9_run_43 rfl 2 rfl ?_
      refine mv_iadd C dX9_run_44 ?_
      refine mv_topi (fun y9 ey9 => ?_)
      have hw := hw y9 ey9
      refine mv_callVi (f := wM cA b) (As := [.int y9]) (rest := []) C eM_ok hs 0 rfl rfl (X9_look_met (l := l) (lev := lev - 1) (by omega) hw) (cwV 1 C.2.2.2.2.1 gX9_run_X9_look rfl rfl rfl (by decide +kernel) (mRm_le (by omega) (by decide))) rfl rfl (Nat.le_of_ble_eq_true rfl) dX9_run_45 ⟨Nat.le_refl 0, Nat.le_refl 0⟩ (fun r10 u11 hw => ?_)
      refine mv_callSi (f := wM cA b) (As := [.int r10]) (rest := []) C eM_ok hs (X9_isDigit_met (l := l) (lev := lev - 1) (by omega) hw) (va_cwS 1 C.2.2.2.2.1 gX9_run_X9_isDigit rfl rfl rfl (by decide +kernel) (mRm_le (by omega) (by decide))) rfl rfl (Nat.le_of_ble_eq_true rfl) dX9_run_48 ⟨Nat.le_refl 0, Nat.le_refl 0⟩ (fun r12 u13 hw => ?_)
      obtain ⟨gr12, hw⟩ := hw
      refine mv_if_eq (tgt := 60) C dX9_run_51 (by decide) (fun h14 => ?_) (fun h14 => ?_)
      · have hw := hw.1 h14
        refine mv_sub [2] rfl ?_
        exact wj_X9_run_60_ok C hs hlev hw
      · have hw := hw.2 h14
        exact wj_X9_run_54_ok C hs hlev hK11 hw
    · have hw := hw.2 h8
      refine mv_aload_n C dX9_run_25 rfl 0 rfl ?_
      refine mv_iload_n C dX9_run_26 rfl 1 rfl ?_
      refine mv_iload_n C dX9_run_27 rfl 2 rfl ?_
      refine mv_iadd C dX9_run_28 ?_
      refine mv_topi (fun y15 ey15 => ?_)
      have hw := hw y15 ey15
      refine mv_callVi (f := wM cA b) (As := [.int y15]) (rest := []) C eM_ok hs 0 rfl rfl (X9_look_met (l := l) (lev := lev - 1) (by omega) hw) (cwV 1 C.2.2.2.2.1 gX9_run_X9_look rfl rfl rfl (by decide +kernel) (mRm_le (by omega) (by decide))) rfl rfl (Nat.le_of_ble_eq_true rfl) dX9_run_29 ⟨Nat.le_refl 0, Nat.le_refl 0⟩ (fun r16 u17 hw => ?_)
      refine mv_callSi (f := wM cA b) (As := [.int r16]) (rest := []) C eM_ok hs (X9_isLetter_met (l := l) (lev := lev - 1) (by omega) hw) (va_cwS 1 C.2.2.2.2.1 gX9_run_X9_isLetter rfl rfl rfl (by decide +kernel) (mRm_le (by omega) (by decide))) rfl rfl (Nat.le_of_ble_eq_true rfl) dX9_run_32 ⟨Nat.le_refl 0, Nat.le_refl 0⟩ (fun r18 u19 hw => ?_)
      obtain ⟨gr18, hw⟩ := hw
      refine mv_if_eq (tgt := 60) C dX9_run_35 (by decide) (fun h20 => ?_) (fun h20 => ?_)
      · have hw := hw.1 h20
        refine mv_sub [2] rfl ?_
        exact wj_X9_run_60_ok C hs hlev hw
      · have hw := hw.2 h20
        refine mv_goto (tgt := 54) C dX9_run_38 (by decide) ?_
        exact wj_X9_run_54_ok C hs hlev hK11 hw
set_option maxHeartbeats 4000000 in
set_option maxRecDepth 100000 in
theorem X9_run_met (hlev : 1 ≤ lev) {x1 : Int32} {u : mS} {post : Int32 → mS → Prop} (hw : wp_X9_run x1 u post) : mKi l yX9_run wsX9_run lev (eM) (dC, dI) vwCl [(cA, .int)] (wM cA b) [.ref (b 0), .int x1] u post := by
  refine mKi_of (cc := cX9_run) (maxL := 4) (by decide) rfl rfl (Nat.le_of_ble_eq_true rfl) rfl ?_
  intro p e s m args below meth c A C hs
  unfold wp_X9_run at hw
  refine mv_iconst (v := (0 : Int32)) C dX9_run_0 (by decide) ?_
  refine mv_istore_n (lv1 := [(2, .int (0 : Int32)), (0, .ref (b 0)), (1, .int x1)]) C dX9_run_1 rfl (by decide) rfl ?_
  refine mv_aload_n C dX9_run_2 rfl 1 rfl ?_
  refine mv_iload_n C dX9_run_3 rfl 2 rfl ?_
  refine mv_callVi (f := wM cA b) (As := [.int x1]) (rest := []) C eM_ok hs 0 rfl rfl (X9_look_met (l := l) (lev := lev - 1) (by omega) hw) (cwV 1 C.2.2.2.2.1 gX9_run_X9_look rfl rfl rfl (by decide +kernel) (mRm_le (by omega) (by decide))) rfl rfl (Nat.le_of_ble_eq_true rfl) dX9_run_4 ⟨Nat.le_refl 0, Nat.le_refl 0⟩ (fun r1 u2 hw => ?_)
  refine mv_callSi (f := wM cA b) (As := [.int r1]) (rest := []) C eM_ok hs (X9_isLetter_met (l := l) (lev := lev - 1) (by omega) hw) (va_cwS 1 C.2.2.2.2.1 gX9_run_X9_isLetter rfl rfl rfl (by decide +kernel) (mRm_le (by omega) (by decide))) rfl rfl (Nat.le_of_ble_eq_true rfl) dX9_run_7 ⟨Nat.le_refl 0, Nat.le_refl 0⟩ (fun r3 u4 hw => ?_)
  obtain ⟨gr3, hw⟩ := hw
  refine mv_istore_n (lv1 := [(3, .int r3), (2, .int (0 : Int32)), (0, .ref (b 0)), (1, .int x1)]) C dX9_run_10 rfl (by decide) rfl ?_
  refine mv_sub [2, 3, 1, 0] rfl ?_
  obtain ⟨n, hw⟩ := hw
  exact mL4_of (fun K hK b0 b1 b2 b3 hw => wj_X9_run_11_ok C hs hlev hK hw) n x1 (0 : Int32) r3 u4 hw
set_option maxHeartbeats 4000000 in
set_option maxRecDepth 100000 in
theorem wj_X9_token_63_ok (C : mC p s m args meth c cX9_token 3 wsX9_token RX9 (some .int) (dC, dI) vwCl [(cA, .int)] A) (hs : eM A s) (hlev : 2 ≤ lev) {post : Int32 → mS → Prop} {x1 : Int32} {u : mS} (hw : wj_X9_token_63 post x1 u) : mV p l e (mRm lev) s m args below meth c 3 (dC, dI) vwCl A 0 0 (mQi below args s (dC, dI) vwCl [(cA, .int)] (wM cA b) A post) (wM cA b u) 63 [(0, .ref (b 0)), (1, .int x1)] [] := by
  unfold wj_X9_token_63 at hw
  refine mv_aload_n C dX9_token_63 rfl 0 rfl ?_
  refine mv_iload_n C dX9_token_64 rfl 1 rfl ?_
  refine mv_callVi (f := wM cA b) (As := [.int x1]) (rest := []) C eM_ok hs 0 rfl rfl (X9_run_met (l := l) (lev := lev - 1) (by omega) hw) (cwV 1 C.2.2.2.2.1 gX9_token_X9_run rfl rfl rfl (by decide +kernel) (mRm_le (by omega) (by decide))) rfl rfl (Nat.le_of_ble_eq_true rfl) dX9_token_65 ⟨Nat.le_refl 0, Nat.le_refl 0⟩ (fun r33 u34 hw => ?_)
  refine mv_goto (tgt := 72) C dX9_token_68 (by decide) ?_
  exact mv_iret C dX9_token_72 hw
set_option maxHeartbeats 4000000 in
set_option maxRecDepth 100000 in
theorem wj_X9_token_139_ok (C : mC p s m args meth c cX9_token 3 wsX9_token RX9 (some .int) (dC, dI) vwCl [(cA, .int)] A) (hs : eM A s) (hlev : 2 ≤ lev) {post : Int32 → mS → Prop} {u : mS} (hw : wj_X9_token_139 post  u) : mV p l e (mRm lev) s m args below meth c 3 (dC, dI) vwCl A 0 0 (mQi below args s (dC, dI) vwCl [(cA, .int)] (wM cA b) A post) (wM cA b u) 139 [] [] := by
  unfold wj_X9_token_139 at hw
  refine mv_iconst (v := (1 : Int32)) C dX9_token_139 (by decide) ?_
  refine mv_goto (tgt := 144) C dX9_token_140 (by decide) ?_
  exact mv_iret C dX9_token_144 hw
set_option maxHeartbeats 4000000 in
set_option maxRecDepth 100000 in
theorem X9_token_met (hlev : 2 ≤ lev) {x1 : Int32} {u : mS} {post : Int32 → mS → Prop} (hw : wp_X9_token x1 u post) : mKi l yX9_token wsX9_token lev (eM) (dC, dI) vwCl [(cA, .int)] (wM cA b) [.ref (b 0), .int x1] u post := by
  refine mKi_of (cc := cX9_token) (maxL := 3) (by decide) rfl rfl (Nat.le_of_ble_eq_true rfl) rfl ?_
  intro p e s m args below meth c A C hs
  unfold wp_X9_token at hw
  refine mv_aload_n C dX9_token_0 rfl 0 rfl ?_
  refine mv_iload_n C dX9_token_1 rfl 1 rfl ?_
  refine mv_callVi (f := wM cA b) (As := [.int x1]) (rest := []) C eM_ok hs 0 rfl rfl (X9_look_met (l := l) (lev := lev - 1) (by omega) hw) (cwV 1 C.2.2.2.2.1 gX9_token_X9_look rfl rfl rfl (by decide +kernel) (mRm_le (by omega) (by decide))) rfl rfl (Nat.le_of_ble_eq_true rfl) dX9_token_2 ⟨Nat.le_refl 0, Nat.le_refl 0⟩ (fun r1 u2 hw => ?_)
  refine mv_istore_n (lv1 := [(2, .int r1), (0, .ref (b 0)), (1, .int x1)]) C dX9_token_5 rfl (by decide) rfl ?_
  refine mv_iload_n C dX9_token_6 rfl 0 rfl ?_
  refine mv_callSi (f := wM cA b) (As := [.int r1]) (rest := []) C eM_ok hs (X9_isLetter_met (l := l) (lev := lev - 1) (by omega) hw) (va_cwS 1 C.2.2.2.2.1 gX9_token_X9_isLetter rfl rfl rfl (by decide +kernel) (mRm_le (by omega) (by decide))) rfl rfl (Nat.le_of_ble_eq_true rfl) dX9_token_7 ⟨Nat.le_refl 0, Nat.le_refl 0⟩ (fun r3 u4 hw => ?_)
  obtain ⟨gr3, hw⟩ := hw
  refine mv_if_eq (tgt := 32) C dX9_token_10 (by decide) (fun h5 => ?_) (fun h5 => ?_)
  · have hw := hw.1 h5
    refine mv_iload_n C dX9_token_32 rfl 0 rfl ?_
    refine mv_callSi (f := wM cA b) (As := [.int r1]) (rest := []) C eM_ok hs (X9_isDigit_met (l := l) (lev := lev - 1) (by omega) hw) (va_cwS 1 C.2.2.2.2.1 gX9_token_X9_isDigit rfl rfl rfl (by decide +kernel) (mRm_le (by omega) (by decide))) rfl rfl (Nat.le_of_ble_eq_true rfl) dX9_token_33 ⟨Nat.le_refl 0, Nat.le_refl 0⟩ (fun r6 u7 hw => ?_)
    obtain ⟨gr6, hw⟩ := hw
    refine mv_if_eq (tgt := 73) C dX9_token_36 (by decide) (fun h8 => ?_) (fun h8 => ?_)
    · have hw := hw.1 h8
      refine mv_iload_n C dX9_token_73 rfl 0 rfl ?_
      refine mv_bipush (v := (46 : Int32)) C dX9_token_74 (by decide) ?_
      refine mv_icmp_ne (tgt := 97) C dX9_token_76 (by decide) (fun h9 => ?_) (fun h9 => ?_)
      · have hw := hw.1 h9
        refine mv_iload_n C dX9_token_97 rfl 0 rfl ?_
        refine mv_bipush (v := (40 : Int32)) C dX9_token_98 (by decide) ?_
        refine mv_icmp_eq (tgt := 139) C dX9_token_100 (by decide) (fun h10 => ?_) (fun h10 => ?_)
        · have hw := hw.1 h10
          refine mv_sub [] rfl ?_
          exact wj_X9_token_139_ok C hs hlev hw
        · have hw := hw.2 h10
          refine mv_iload_n C dX9_token_103 rfl 0 rfl ?_
          refine mv_bipush (v := (41 : Int32)) C dX9_token_104 (by decide) ?_
          refine mv_icmp_eq (tgt := 139) C dX9_token_106 (by decide) (fun h11 => ?_) (fun h11 => ?_)
          · have hw := hw.1 h11
            refine mv_sub [] rfl ?_
            exact wj_X9_token_139_ok C hs hlev hw
          · have hw := hw.2 h11
            refine mv_iload_n C dX9_token_109 rfl 0 rfl ?_
            refine mv_bipush (v := (95 : Int32)) C dX9_token_110 (by decide) ?_
            refine mv_icmp_eq (tgt := 139) C dX9_token_112 (by decide) (fun h12 => ?_) (fun h12 => ?_)
            · have hw := hw.1 h12
              refine mv_sub [] rfl ?_
              exact wj_X9_token_139_ok C hs hlev hw
            · have hw := hw.2 h12
              refine mv_iload_n C dX9_token_115 rfl 0 rfl ?_
              refine mv_bipush (v := (43 : Int32)) C dX9_token_116 (by decide) ?_
              refine mv_icmp_eq (tgt := 139) C dX9_token_118 (by decide) (fun h13 => ?_) (fun h13 => ?_)
              · have hw := hw.1 h13
                refine mv_sub [] rfl ?_
                exact wj_X9_token_139_ok C hs hlev hw
              · have hw := hw.2 h13
                refine mv_iload_n C dX9_token_121 rfl 0 rfl ?_
                refine mv_bipush (v := (42 : Int32)) C dX9_token_122 (by decide) ?_
                refine mv_icmp_eq (tgt := 139) C dX9_token_124 (by decide) (fun h14 => ?_) (fun h14 => ?_)
                · have hw := hw.1 h14
                  refine mv_sub [] rfl ?_
                  exact wj_X9_token_139_ok C hs hlev hw
                · have hw := hw.2 h14
                  refine mv_iload_n C dX9_token_127 rfl 0 rfl ?_
                  refine mv_bipush (v := (61 : Int32)) C dX9_token_128 (by decide) ?_
                  refine mv_icmp_eq (tgt := 139) C dX9_token_130 (by decide) (fun h15 => ?_) (fun h15 => ?_)
                  · have hw := hw.1 h15
                    refine mv_sub [] rfl ?_
                    exact wj_X9_token_139_ok C hs hlev hw
                  · have hw := hw.2 h15
                    refine mv_iload_n C dX9_token_133 rfl 0 rfl ?_
                    refine mv_bipush (v := (60 : Int32)) C dX9_token_134 (by decide) ?_
                    refine mv_icmp_ne (tgt := 143) C dX9_token_136 (by decide) (fun h16 => ?_) (fun h16 => ?_)
                    · have hw := hw.1 h16
                      refine mv_iconst (v := (0 : Int32)) C dX9_token_143 (by decide) ?_
                      exact mv_iret C dX9_token_144 hw
                    · have hw := hw.2 h16
                      refine mv_sub [] rfl ?_
                      exact wj_X9_token_139_ok C hs hlev hw
      · have hw := hw.2 h9
        refine mv_aload_n C dX9_token_79 rfl 1 rfl ?_
        refine mv_iload_n C dX9_token_80 rfl 2 rfl ?_
        refine mv_iconst (v := (1 : Int32)) C dX9_token_81 (by decide) ?_
        refine mv_iadd C dX9_token_82 ?_
        refine mv_topi (fun y17 ey17 => ?_)
        have hw := hw y17 ey17
        refine mv_callVi (f := wM cA b) (As := [.int y17]) (rest := []) C eM_ok hs 0 rfl rfl (X9_look_met (l := l) (lev := lev - 1) (by omega) hw) (cwV 1 C.2.2.2.2.1 gX9_token_X9_look rfl rfl rfl (by decide +kernel) (mRm_le (by omega) (by decide))) rfl rfl (Nat.le_of_ble_eq_true rfl) dX9_token_83 ⟨Nat.le_refl 0, Nat.le_refl 0⟩ (fun r18 u19 hw => ?_)
        refine mv_bipush (v := (46 : Int32)) C dX9_token_86 (by decide) ?_
        refine mv_icmp_ne (tgt := 95) C dX9_token_88 (by decide) (fun h20 => ?_) (fun h20 => ?_)
        · have hw := hw.1 h20
          refine mv_iconst (v := (0 : Int32)) C dX9_token_95 (by decide) ?_
          exact mv_iret C dX9_token_96 hw
        · have hw := hw.2 h20
          refine mv_iconst (v := (2 : Int32)) C dX9_token_91 (by decide) ?_
          refine mv_goto (tgt := 96) C dX9_token_92 (by decide) ?_
          exact mv_iret C dX9_token_96 hw
    · have hw := hw.2 h8
      refine mv_aload_n C dX9_token_39 rfl 1 rfl ?_
      refine mv_iload_n C dX9_token_40 rfl 2 rfl ?_
      refine mv_callVi (f := wM cA b) (As := [.int x1]) (rest := []) C eM_ok hs 0 rfl rfl (X9_run_met (l := l) (lev := lev - 1) (by omega) hw) (cwV 1 C.2.2.2.2.1 gX9_token_X9_run rfl rfl rfl (by decide +kernel) (mRm_le (by omega) (by decide))) rfl rfl (Nat.le_of_ble_eq_true rfl) dX9_token_41 ⟨Nat.le_refl 0, Nat.le_refl 0⟩ (fun r21 u22 hw => ?_)
      refine mv_iconst (v := (1 : Int32)) C dX9_token_44 (by decide) ?_
      refine mv_icmp_eq (tgt := 63) C dX9_token_45 (by decide) (fun h23 => ?_) (fun h23 => ?_)
      · have hw := hw.1 h23
        refine mv_sub [1, 2] rfl ?_
        exact wj_X9_token_63_ok C hs hlev hw
      · have hw := hw.2 h23
        refine mv_aload_n C dX9_token_48 rfl 1 rfl ?_
        refine mv_iload_n C dX9_token_49 rfl 2 rfl ?_
        refine mv_callVi (f := wM cA b) (As := [.int x1]) (rest := []) C eM_ok hs 0 rfl rfl (X9_run_met (l := l) (lev := lev - 1) (by omega) hw) (cwV 1 C.2.2.2.2.1 gX9_token_X9_run rfl rfl rfl (by decide +kernel) (mRm_le (by omega) (by decide))) rfl rfl (Nat.le_of_ble_eq_true rfl) dX9_token_50 ⟨Nat.le_refl 0, Nat.le_refl 0⟩ (fun r24 u25 hw => ?_)
        refine mv_iconst (v := (2 : Int32)) C dX9_token_53 (by decide) ?_
        refine mv_icmp_ne (tgt := 71) C dX9_token_54 (by decide) (fun h26 => ?_) (fun h26 => ?_)
        · have hw := hw.1 h26
          refine mv_iconst (v := (0 : Int32)) C dX9_token_71 (by decide) ?_
          exact mv_iret C dX9_token_72 hw
        · have hw := hw.2 h26
          refine mv_iload_n C dX9_token_57 rfl 0 rfl ?_
          refine mv_bipush (v := (48 : Int32)) C dX9_token_58 (by decide) ?_
          refine mv_icmp_eq (tgt := 71) C dX9_token_60 (by decide) (fun h27 => ?_) (fun h27 => ?_)
          · have hw := hw.1 h27
            refine mv_iconst (v := (0 : Int32)) C dX9_token_71 (by decide) ?_
            exact mv_iret C dX9_token_72 hw
          · have hw := hw.2 h27
            refine mv_sub [1, 2] rfl ?_
            exact wj_X9_token_63_ok C hs hlev hw
  · have hw := hw.2 h5
    refine mv_aload_n C dX9_token_13 rfl 1 rfl ?_
    refine mv_iload_n C dX9_token_14 rfl 2 rfl ?_
    refine mv_callVi (f := wM cA b) (As := [.int x1]) (rest := []) C eM_ok hs 0 rfl rfl (X9_run_met (l := l) (lev := lev - 1) (by omega) hw) (cwV 1 C.2.2.2.2.1 gX9_token_X9_run rfl rfl rfl (by decide +kernel) (mRm_le (by omega) (by decide))) rfl rfl (Nat.le_of_ble_eq_true rfl) dX9_token_15 ⟨Nat.le_refl 0, Nat.le_refl 0⟩ (fun r28 u29 hw => ?_)
    refine mv_iconst (v := (3 : Int32)) C dX9_token_18 (by decide) ?_
    refine mv_icmp_gt (tgt := 30) C dX9_token_19 (by decide) (fun h30 => ?_) (fun h30 => ?_)
    · have hw := hw.1 h30
      refine mv_iconst (v := (0 : Int32)) C dX9_token_30 (by decide) ?_
      exact mv_iret C dX9_token_31 hw
    · have hw := hw.2 h30
      refine mv_aload_n C dX9_token_22 rfl 1 rfl ?_
      refine mv_iload_n C dX9_token_23 rfl 2 rfl ?_
      refine mv_callVi (f := wM cA b) (As := [.int x1]) (rest := []) C eM_ok hs 0 rfl rfl (X9_run_met (l := l) (lev := lev - 1) (by omega) hw) (cwV 1 C.2.2.2.2.1 gX9_token_X9_run rfl rfl rfl (by decide +kernel) (mRm_le (by omega) (by decide))) rfl rfl (Nat.le_of_ble_eq_true rfl) dX9_token_24 ⟨Nat.le_refl 0, Nat.le_refl 0⟩ (fun r31 u32 hw => ?_)
      refine mv_goto (tgt := 31) C dX9_token_27 (by decide) ?_
      exact mv_iret C dX9_token_31 hw
set_option maxHeartbeats 4000000 in
set_option maxRecDepth 100000 in
theorem wj_X9_code_110_ok (C : mC p s m args meth c cX9_code 6 wsX9_code RX9 (some .int) (dC, dI) vwCl [(cA, .int)] A) (hs : eM A s) (hlev : 1 ≤ lev) {post : Int32 → mS → Prop} {K48 : Int32 → Int32 → Int32 → Int32 → Int32 → mS → Prop} (hK48 : ∀ (x1 x2 x3 x4 x5 : Int32) (u : mS), K48 x1 x2 x3 x4 x5 u → mV p l e (mRm lev) s m args below meth c 6 (dC, dI) vwCl A 0 0 (mQi below args s (dC, dI) vwCl [(cA, .int)] (wM cA b) A post) (wM cA b u) 48 [(0, .ref (b 0)), (1, .int x1), (2, .int x2), (3, .int x3), (4, .int x4), (5, .int x5)] []) {x1 x2 x3 x5 z0 : Int32} {u : mS} (hw : wj_X9_code_110 K48 post x1 x2 x3 x5 z0 u) : mV p l e (mRm lev) s m args below meth c 6 (dC, dI) vwCl A 0 0 (mQi below args s (dC, dI) vwCl [(cA, .int)] (wM cA b) A post) (wM cA b u) 110 [(0, .ref (b 0)), (1, .int x1), (2, .int x2), (3, .int x3), (5, .int x5)] [.int z0] := by
  unfold wj_X9_code_110 at hw
  refine mv_istore (lv1 := [(4, .int z0), (0, .ref (b 0)), (1, .int x1), (2, .int x2), (3, .int x3), (5, .int x5)]) C dX9_code_110 (by decide) rfl ?_
  obtain ⟨y29, ey29⟩ : ∃ z : Int32, z = x5 + (1 : Int32) := ⟨_, rfl⟩
  have hw := hw y29 ey29
  refine mv_iinc (v := y29) (lv1 := [(5, .int y29), (4, .int z0), (0, .ref (b 0)), (1, .int x1), (2, .int x2), (3, .int x3)]) C dX9_code_112 5 rfl (by rw [ey29]; rfl) (by decide) rfl ?_
  refine mv_goto (tgt := 48) C dX9_code_115 (by decide) ?_
  refine mv_sub [2, 3, 4, 5, 1, 0] rfl ?_
  exact hK48 x1 x2 x3 z0 y29 u hw
set_option maxHeartbeats 4000000 in
set_option maxRecDepth 100000 in
theorem wj_X9_code_132_ok (C : mC p s m args meth c cX9_code 6 wsX9_code RX9 (some .int) (dC, dI) vwCl [(cA, .int)] A) (hs : eM A s) (hlev : 1 ≤ lev) {post : Int32 → mS → Prop} {x4 z0 z1 : Int32} {u : mS} (hw : wj_X9_code_132 post x4 z0 z1 u) : mV p l e (mRm lev) s m args below meth c 6 (dC, dI) vwCl A 0 0 (mQi below args s (dC, dI) vwCl [(cA, .int)] (wM cA b) A post) (wM cA b u) 132 [(4, .int x4)] [.int z0, .int z1] := by
  unfold wj_X9_code_132 at hw
  refine mv_imul C dX9_code_132 ?_
  refine mv_topi (fun y30 ey30 => ?_)
  have hw := hw y30 ey30
  refine mv_iload C dX9_code_133 0 rfl ?_
  refine mv_iadd C dX9_code_135 ?_
  refine mv_topi (fun y31 ey31 => ?_)
  have hw := hw y31 ey31
  exact mv_iret C dX9_code_136 hw
set_option maxHeartbeats 4000000 in
set_option maxRecDepth 100000 in
theorem wj_X9_code_48_ok (C : mC p s m args meth c cX9_code 6 wsX9_code RX9 (some .int) (dC, dI) vwCl [(cA, .int)] A) (hs : eM A s) (hlev : 1 ≤ lev) {post : Int32 → mS → Prop} {K48 : Int32 → Int32 → Int32 → Int32 → Int32 → mS → Prop} (hK48 : ∀ (x1 x2 x3 x4 x5 : Int32) (u : mS), K48 x1 x2 x3 x4 x5 u → mV p l e (mRm lev) s m args below meth c 6 (dC, dI) vwCl A 0 0 (mQi below args s (dC, dI) vwCl [(cA, .int)] (wM cA b) A post) (wM cA b u) 48 [(0, .ref (b 0)), (1, .int x1), (2, .int x2), (3, .int x3), (4, .int x4), (5, .int x5)] []) {x1 x2 x3 x4 x5 : Int32} {u : mS} (hw : wj_X9_code_48 K48 post x1 x2 x3 x4 x5 u) : mV p l e (mRm lev) s m args below meth c 6 (dC, dI) vwCl A 0 0 (mQi below args s (dC, dI) vwCl [(cA, .int)] (wM cA b) A post) (wM cA b u) 48 [(0, .ref (b 0)), (1, .int x1), (2, .int x2), (3, .int x3), (4, .int x4), (5, .int x5)] [] := by
  unfold wj_X9_code_48 at hw
  refine mv_iload C dX9_code_48 5 rfl ?_
  refine mv_iload_n C dX9_code_50 rfl 1 rfl ?_
  refine mv_iload_n C dX9_code_51 rfl 2 rfl ?_
  refine mv_iadd C dX9_code_52 ?_
  refine mv_topi (fun y7 ey7 => ?_)
  have hw := hw y7 ey7
  refine mv_icmp_ge (tgt := 118) C dX9_code_53 (by decide) (fun h8 => ?_) (fun h8 => ?_)
  · have hw := hw.1 h8
    refine mv_ldc (v := (65536 : Int32)) C mw_X9_code__constant_RX9_88_65536_Int32_ dX9_code_118 ?_
    refine mv_iload_n C dX9_code_120 rfl 3 rfl ?_
    refine mv_callSi (f := wM cA b) (As := [.int x3]) (rest := [.int (65536 : Int32)]) C eM_ok hs (X9_isDigit_met (l := l) (lev := lev - 1) (by omega) hw) (va_cwS 1 C.2.2.2.2.1 gX9_code_X9_isDigit rfl rfl rfl (by decide +kernel) (mRm_le (by omega) (by decide))) rfl rfl (Nat.le_of_ble_eq_true rfl) dX9_code_121 ⟨Nat.le_refl 0, Nat.le_refl 0⟩ (fun r9 u10 hw => ?_)
    obtain ⟨gr9, hw⟩ := hw
    refine mv_if_eq (tgt := 131) C dX9_code_124 (by decide) (fun h11 => ?_) (fun h11 => ?_)
    · have hw := hw.1 h11
      refine mv_iconst (v := (3 : Int32)) C dX9_code_131 (by decide) ?_
      refine mv_sub [4] rfl ?_
      exact wj_X9_code_132_ok C hs hlev hw
    · have hw := hw.2 h11
      refine mv_iconst (v := (4 : Int32)) C dX9_code_127 (by decide) ?_
      refine mv_goto (tgt := 132) C dX9_code_128 (by decide) ?_
      refine mv_sub [4] rfl ?_
      exact wj_X9_code_132_ok C hs hlev hw
  · have hw := hw.2 h8
    refine mv_iload_n C dX9_code_56 rfl 3 rfl ?_
    refine mv_callSi (f := wM cA b) (As := [.int x3]) (rest := []) C eM_ok hs (X9_isDigit_met (l := l) (lev := lev - 1) (by omega) hw) (va_cwS 1 C.2.2.2.2.1 gX9_code_X9_isDigit rfl rfl rfl (by decide +kernel) (mRm_le (by omega) (by decide))) rfl rfl (Nat.le_of_ble_eq_true rfl) dX9_code_57 ⟨Nat.le_refl 0, Nat.le_refl 0⟩ (fun r12 u13 hw => ?_)
    obtain ⟨gr12, hw⟩ := hw
    refine mv_if_eq (tgt := 81) C dX9_code_60 (by decide) (fun h14 => ?_) (fun h14 => ?_)
    · have hw := hw.1 h14
      refine mv_iload_n C dX9_code_81 rfl 3 rfl ?_
      refine mv_callSi (f := wM cA b) (As := [.int x3]) (rest := []) C eM_ok hs (X9_isLetter_met (l := l) (lev := lev - 1) (by omega) hw) (va_cwS 1 C.2.2.2.2.1 gX9_code_X9_isLetter rfl rfl rfl (by decide +kernel) (mRm_le (by omega) (by decide))) rfl rfl (Nat.le_of_ble_eq_true rfl) dX9_code_82 ⟨Nat.le_refl 0, Nat.le_refl 0⟩ (fun r15 u16 hw => ?_)
      obtain ⟨gr15, hw⟩ := hw
      refine mv_if_eq (tgt := 106) C dX9_code_85 (by decide) (fun h17 => ?_) (fun h17 => ?_)
      · have hw := hw.1 h17
        refine mv_ldc (v := (40000 : Int32)) C mw_X9_code__constant_RX9_92_40000_Int32_ dX9_code_106 ?_
        refine mv_iload_n C dX9_code_108 rfl 3 rfl ?_
        refine mv_iadd C dX9_code_109 ?_
        refine mv_topi (fun y18 ey18 => ?_)
        have hw := hw y18 ey18
        refine mv_sub [0, 1, 2, 3, 5] rfl ?_
        exact wj_X9_code_110_ok C hs hlev hK48 hw
      · have hw := hw.2 h17
        refine mv_bipush (v := (32 : Int32)) C dX9_code_88 (by decide) ?_
        refine mv_iload C dX9_code_90 4 rfl ?_
        refine mv_imul C dX9_code_92 ?_
        refine mv_topi (fun y19 ey19 => ?_)
        have hw := hw y19 ey19
        refine mv_aload_n C dX9_code_93 rfl 0 rfl ?_
        refine mv_iload C dX9_code_94 5 rfl ?_
        refine mv_callVi (f := wM cA b) (As := [.int x5]) (rest := [.int y19]) C eM_ok hs 0 rfl rfl (X9_look_met (l := l) (lev := lev - 1) (by omega) hw) (cwV 1 C.2.2.2.2.1 gX9_code_X9_look rfl rfl rfl (by decide +kernel) (mRm_le (by omega) (by decide))) rfl rfl (Nat.le_of_ble_eq_true rfl) dX9_code_96 ⟨Nat.le_refl 0, Nat.le_refl 0⟩ (fun r20 u21 hw => ?_)
        refine mv_iadd C dX9_code_99 ?_
        refine mv_topi (fun y22 ey22 => ?_)
        have hw := hw y22 ey22
        refine mv_bipush (v := (96 : Int32)) C dX9_code_100 (by decide) ?_
        refine mv_isub C dX9_code_102 ?_
        refine mv_topi (fun y23 ey23 => ?_)
        have hw := hw y23 ey23
        refine mv_goto (tgt := 110) C dX9_code_103 (by decide) ?_
        refine mv_sub [0, 1, 2, 3, 5] rfl ?_
        exact wj_X9_code_110_ok C hs hlev hK48 hw
    · have hw := hw.2 h14
      refine mv_bipush (v := (10 : Int32)) C dX9_code_63 (by decide) ?_
      refine mv_iload C dX9_code_65 4 rfl ?_
      refine mv_imul C dX9_code_67 ?_
      refine mv_topi (fun y24 ey24 => ?_)
      have hw := hw y24 ey24
      refine mv_aload_n C dX9_code_68 rfl 0 rfl ?_
      refine mv_iload C dX9_code_69 5 rfl ?_
      refine mv_callVi (f := wM cA b) (As := [.int x5]) (rest := [.int y24]) C eM_ok hs 0 rfl rfl (X9_look_met (l := l) (lev := lev - 1) (by omega) hw) (cwV 1 C.2.2.2.2.1 gX9_code_X9_look rfl rfl rfl (by decide +kernel) (mRm_le (by omega) (by decide))) rfl rfl (Nat.le_of_ble_eq_true rfl) dX9_code_71 ⟨Nat.le_refl 0, Nat.le_refl 0⟩ (fun r25 u26 hw => ?_)
      refine mv_iadd C dX9_code_74 ?_
      refine mv_topi (fun y27 ey27 => ?_)
      have hw := hw y27 ey27
      refine mv_bipush (v := (48 : Int32)) C dX9_code_75 (by decide) ?_
      refine mv_isub C dX9_code_77 ?_
      refine mv_topi (fun y28 ey28 => ?_)
      have hw := hw y28 ey28
      refine mv_goto (tgt := 110) C dX9_code_78 (by decide) ?_
      refine mv_sub [0, 1, 2, 3, 5] rfl ?_
      exact wj_X9_code_110_ok C hs hlev hK48 hw
set_option maxHeartbeats 4000000 in
set_option maxRecDepth 100000 in
theorem X9_code_met (hlev : 1 ≤ lev) {x1 x2 : Int32} {u : mS} {post : Int32 → mS → Prop} (hw : wp_X9_code x1 x2 u post) : mKi l yX9_code wsX9_code lev (eM) (dC, dI) vwCl [(cA, .int)] (wM cA b) [.ref (b 0), .int x1, .int x2] u post := by
  refine mKi_of (cc := cX9_code) (maxL := 6) (by decide) rfl rfl (Nat.le_of_ble_eq_true rfl) rfl ?_
  intro p e s m args below meth c A C hs
  unfold wp_X9_code at hw
  refine mv_aload_n C dX9_code_0 rfl 0 rfl ?_
  refine mv_iload_n C dX9_code_1 rfl 1 rfl ?_
  refine mv_callVi (f := wM cA b) (As := [.int x1]) (rest := []) C eM_ok hs 0 rfl rfl (X9_look_met (l := l) (lev := lev - 1) (by omega) hw) (cwV 1 C.2.2.2.2.1 gX9_code_X9_look rfl rfl rfl (by decide +kernel) (mRm_le (by omega) (by decide))) rfl rfl (Nat.le_of_ble_eq_true rfl) dX9_code_2 ⟨Nat.le_refl 0, Nat.le_refl 0⟩ (fun r1 u2 hw => ?_)
  refine mv_istore_n (lv1 := [(3, .int r1), (0, .ref (b 0)), (1, .int x1), (2, .int x2)]) C dX9_code_5 rfl (by decide) rfl ?_
  refine mv_iload_n C dX9_code_6 rfl 0 rfl ?_
  refine mv_bipush (v := (40 : Int32)) C dX9_code_7 (by decide) ?_
  refine mv_icmp_ne (tgt := 15) C dX9_code_9 (by decide) (fun h3 => ?_) (fun h3 => ?_)
  · have hw := hw.1 h3
    refine mv_iload_n C dX9_code_15 rfl 0 rfl ?_
    refine mv_bipush (v := (41 : Int32)) C dX9_code_16 (by decide) ?_
    refine mv_icmp_ne (tgt := 24) C dX9_code_18 (by decide) (fun h4 => ?_) (fun h4 => ?_)
    · have hw := hw.1 h4
      refine mv_iload_n C dX9_code_24 rfl 0 rfl ?_
      refine mv_bipush (v := (95 : Int32)) C dX9_code_25 (by decide) ?_
      refine mv_icmp_ne (tgt := 33) C dX9_code_27 (by decide) (fun h5 => ?_) (fun h5 => ?_)
      · have hw := hw.1 h5
        refine mv_iload_n C dX9_code_33 rfl 0 rfl ?_
        refine mv_bipush (v := (46 : Int32)) C dX9_code_34 (by decide) ?_
        refine mv_icmp_ne (tgt := 42) C dX9_code_36 (by decide) (fun h6 => ?_) (fun h6 => ?_)
        · have hw := hw.1 h6
          refine mv_iconst (v := (0 : Int32)) C dX9_code_42 (by decide) ?_
          refine mv_istore (lv1 := [(4, .int (0 : Int32)), (3, .int r1), (0, .ref (b 0)), (1, .int x1), (2, .int x2)]) C dX9_code_43 (by decide) rfl ?_
          refine mv_iload_n C dX9_code_45 rfl 3 rfl ?_
          refine mv_istore (lv1 := [(5, .int x1), (4, .int (0 : Int32)), (3, .int r1), (0, .ref (b 0)), (1, .int x1), (2, .int x2)]) C dX9_code_46 (by decide) rfl ?_
          refine mv_sub [3, 4, 5, 2, 1, 0] rfl ?_
          obtain ⟨n, hw⟩ := hw
          exact mL6_of (fun K hK b0 b1 b2 b3 b4 b5 hw => wj_X9_code_48_ok C hs hlev hK hw) n x1 x2 r1 (0 : Int32) x1 u2 hw
        · have hw := hw.2 h6
          refine mv_ldc (v := (393216 : Int32)) C mw_X9_code__constant_RX9_91_393216_Int32_ dX9_code_39 ?_
          exact mv_iret C dX9_code_41 hw
      · have hw := hw.2 h5
        refine mv_ldc (v := (327680 : Int32)) C mw_X9_code__constant_RX9_90_327680_Int32_ dX9_code_30 ?_
        exact mv_iret C dX9_code_32 hw
    · have hw := hw.2 h4
      refine mv_ldc (v := (131072 : Int32)) C mw_X9_code__constant_RX9_89_131072_Int32_ dX9_code_21 ?_
      exact mv_iret C dX9_code_23 hw
  · have hw := hw.2 h3
    refine mv_ldc (v := (65536 : Int32)) C mw_X9_code__constant_RX9_88_65536_Int32_ dX9_code_12 ?_
    exact mv_iret C dX9_code_14 hw
set_option maxHeartbeats 4000000 in
set_option maxRecDepth 100000 in
theorem wj_X9_fits_23_ok (C : mC p s m args meth c cX9_fits 4 wsX9_fits RX9 (some .boolean) (dC, dI) vwCl [(cA, .int)] A) (hs : eM A s) (hlev : 0 ≤ lev) {post : Int32 → mS → Prop} {x1 : Int32} {u : mS} (hw : wj_X9_fits_23 post x1 u) : mV p l e (mRm lev) s m args below meth c 4 (dC, dI) vwCl A 0 0 (mQi below args s (dC, dI) vwCl [(cA, .int)] (wM cA b) A (fun r w => (r = 0 ∨ r = 1) ∧ post r w)) (wM cA b u) 23 [(1, .int x1)] [] := by
  unfold wj_X9_fits_23 at hw
  refine mv_iload_n C dX9_fits_23 rfl 0 rfl ?_
  refine mv_bipush (v := (7 : Int32)) C dX9_fits_24 (by decide) ?_
  refine mv_icmp_gt (tgt := 33) C dX9_fits_26 (by decide) (fun h13 => ?_) (fun h13 => ?_)
  · have hw := hw.1 h13
    refine mv_iconst (v := (0 : Int32)) C dX9_fits_33 (by decide) ?_
    exact mv_zret C dX9_fits_34 (Or.inl rfl) hw
  · have hw := hw.2 h13
    refine mv_iconst (v := (1 : Int32)) C dX9_fits_29 (by decide) ?_
    refine mv_goto (tgt := 34) C dX9_fits_30 (by decide) ?_
    exact mv_zret C dX9_fits_34 (Or.inr rfl) hw
set_option maxHeartbeats 4000000 in
set_option maxRecDepth 100000 in
theorem wj_X9_fits_85_ok (C : mC p s m args meth c cX9_fits 4 wsX9_fits RX9 (some .boolean) (dC, dI) vwCl [(cA, .int)] A) (hs : eM A s) (hlev : 0 ≤ lev) {post : Int32 → mS → Prop} {u : mS} (hw : wj_X9_fits_85 post  u) : mV p l e (mRm lev) s m args below meth c 4 (dC, dI) vwCl A 0 0 (mQi below args s (dC, dI) vwCl [(cA, .int)] (wM cA b) A (fun r w => (r = 0 ∨ r = 1) ∧ post r w)) (wM cA b u) 85 [] [] := by
  unfold wj_X9_fits_85 at hw
  refine mv_iconst (v := (1 : Int32)) C dX9_fits_85 (by decide) ?_
  refine mv_goto (tgt := 90) C dX9_fits_86 (by decide) ?_
  exact mv_zret C dX9_fits_90 (Or.inr rfl) hw
set_option maxHeartbeats 4000000 in
set_option maxRecDepth 100000 in
theorem wj_X9_fits_9_ok (C : mC p s m args meth c cX9_fits 4 wsX9_fits RX9 (some .boolean) (dC, dI) vwCl [(cA, .int)] A) (hs : eM A s) (hlev : 0 ≤ lev) {post : Int32 → mS → Prop} {x0 x1 x2 z0 : Int32} {u : mS} (hw : wj_X9_fits_9 post x0 x1 x2 z0 u) : mV p l e (mRm lev) s m args below meth c 4 (dC, dI) vwCl A 0 0 (mQi below args s (dC, dI) vwCl [(cA, .int)] (wM cA b) A (fun r w => (r = 0 ∨ r = 1) ∧ post r w)) (wM cA b u) 9 [(0, .int x0), (1, .int x1), (2, .int x2)] [.int z0] := by
  unfold wj_X9_fits_9 at hw
  refine mv_istore_n (lv1 := [(3, .int z0), (0, .int x0), (1, .int x1), (2, .int x2)]) C dX9_fits_9 rfl (by decide) rfl ?_
  refine mv_iload_n C dX9_fits_10 rfl 1 rfl ?_
  refine mv_iconst (v := (1 : Int32)) C dX9_fits_11 (by decide) ?_
  refine mv_icmp_ne (tgt := 35) C dX9_fits_12 (by decide) (fun h2 => ?_) (fun h2 => ?_)
  · have hw := hw.1 h2
    refine mv_iload_n C dX9_fits_35 rfl 1 rfl ?_
    refine mv_iconst (v := (2 : Int32)) C dX9_fits_36 (by decide) ?_
    refine mv_icmp_ne (tgt := 50) C dX9_fits_37 (by decide) (fun h3 => ?_) (fun h3 => ?_)
    · have hw := hw.1 h3
      refine mv_iload_n C dX9_fits_50 rfl 1 rfl ?_
      refine mv_bipush (v := (6 : Int32)) C dX9_fits_51 (by decide) ?_
      refine mv_icmp_ne (tgt := 77) C dX9_fits_53 (by decide) (fun h4 => ?_) (fun h4 => ?_)
      · have hw := hw.1 h4
        refine mv_iload_n C dX9_fits_77 rfl 2 rfl ?_
        refine mv_if_gt (tgt := 85) C dX9_fits_78 (by decide) (fun h5 => ?_) (fun h5 => ?_)
        · have hw := hw.1 h5
          refine mv_sub [] rfl ?_
          exact wj_X9_fits_85_ok C hs hlev hw
        · have hw := hw.2 h5
          refine mv_iload_n C dX9_fits_81 rfl 0 rfl ?_
          refine mv_if_ne (tgt := 89) C dX9_fits_82 (by decide) (fun h6 => ?_) (fun h6 => ?_)
          · have hw := hw.1 h6
            refine mv_iconst (v := (0 : Int32)) C dX9_fits_89 (by decide) ?_
            exact mv_zret C dX9_fits_90 (Or.inl rfl) hw
          · have hw := hw.2 h6
            refine mv_sub [] rfl ?_
            exact wj_X9_fits_85_ok C hs hlev hw
      · have hw := hw.2 h4
        refine mv_iload_n C dX9_fits_56 rfl 2 rfl ?_
        refine mv_if_le (tgt := 75) C dX9_fits_57 (by decide) (fun h7 => ?_) (fun h7 => ?_)
        · have hw := hw.1 h7
          refine mv_iconst (v := (0 : Int32)) C dX9_fits_75 (by decide) ?_
          exact mv_zret C dX9_fits_76 (Or.inl rfl) hw
        · have hw := hw.2 h7
          refine mv_iload_n C dX9_fits_60 rfl 3 rfl ?_
          refine mv_iconst (v := (1 : Int32)) C dX9_fits_61 (by decide) ?_
          refine mv_icmp_eq (tgt := 75) C dX9_fits_62 (by decide) (fun h8 => ?_) (fun h8 => ?_)
          · have hw := hw.1 h8
            refine mv_iconst (v := (0 : Int32)) C dX9_fits_75 (by decide) ?_
            exact mv_zret C dX9_fits_76 (Or.inl rfl) hw
          · have hw := hw.2 h8
            refine mv_iload_n C dX9_fits_65 rfl 3 rfl ?_
            refine mv_bipush (v := (6 : Int32)) C dX9_fits_66 (by decide) ?_
            refine mv_icmp_eq (tgt := 75) C dX9_fits_68 (by decide) (fun h9 => ?_) (fun h9 => ?_)
            · have hw := hw.1 h9
              refine mv_iconst (v := (0 : Int32)) C dX9_fits_75 (by decide) ?_
              exact mv_zret C dX9_fits_76 (Or.inl rfl) hw
            · have hw := hw.2 h9
              refine mv_iconst (v := (1 : Int32)) C dX9_fits_71 (by decide) ?_
              refine mv_goto (tgt := 76) C dX9_fits_72 (by decide) ?_
              exact mv_zret C dX9_fits_76 (Or.inr rfl) hw
    · have hw := hw.2 h3
      refine mv_iload_n C dX9_fits_40 rfl 2 rfl ?_
      refine mv_if_le (tgt := 48) C dX9_fits_41 (by decide) (fun h10 => ?_) (fun h10 => ?_)
      · have hw := hw.1 h10
        refine mv_iconst (v := (0 : Int32)) C dX9_fits_48 (by decide) ?_
        exact mv_zret C dX9_fits_49 (Or.inl rfl) hw
      · have hw := hw.2 h10
        refine mv_iconst (v := (1 : Int32)) C dX9_fits_44 (by decide) ?_
        refine mv_goto (tgt := 49) C dX9_fits_45 (by decide) ?_
        exact mv_zret C dX9_fits_49 (Or.inr rfl) hw
  · have hw := hw.2 h2
    refine mv_iload_n C dX9_fits_15 rfl 2 rfl ?_
    refine mv_if_gt (tgt := 23) C dX9_fits_16 (by decide) (fun h11 => ?_) (fun h11 => ?_)
    · have hw := hw.1 h11
      refine mv_sub [2] rfl ?_
      exact wj_X9_fits_23_ok C hs hlev hw
    · have hw := hw.2 h11
      refine mv_iload_n C dX9_fits_19 rfl 0 rfl ?_
      refine mv_if_ne (tgt := 33) C dX9_fits_20 (by decide) (fun h12 => ?_) (fun h12 => ?_)
      · have hw := hw.1 h12
        refine mv_iconst (v := (0 : Int32)) C dX9_fits_33 (by decide) ?_
        exact mv_zret C dX9_fits_34 (Or.inl rfl) hw
      · have hw := hw.2 h12
        refine mv_sub [2] rfl ?_
        exact wj_X9_fits_23_ok C hs hlev hw
set_option maxHeartbeats 4000000 in
set_option maxRecDepth 100000 in
theorem X9_fits_met (hlev : 0 ≤ lev) {x0 x1 x2 : Int32} {u : mS} {post : Int32 → mS → Prop} (hw : wp_X9_fits x0 x1 x2 u post) : mKi l yX9_fits wsX9_fits lev (eM) (dC, dI) vwCl [(cA, .int)] (wM cA b) [.int x0, .int x1, .int x2] u (fun r w => (r = 0 ∨ r = 1) ∧ post r w) := by
  refine mKz_of (cc := cX9_fits) (maxL := 4) (by decide) rfl rfl (Nat.le_of_ble_eq_true rfl) rfl ?_
  intro p e s m args below meth c A C hs
  unfold wp_X9_fits at hw
  refine mv_iload_n C dX9_fits_0 rfl 2 rfl ?_
  refine mv_if_eq (tgt := 8) C dX9_fits_1 (by decide) (fun h1 => ?_) (fun h1 => ?_)
  · have hw := hw.1 h1
    refine mv_iconst (v := (0 : Int32)) C dX9_fits_8 (by decide) ?_
    exact wj_X9_fits_9_ok C hs hlev hw
  · have hw := hw.2 h1
    refine mv_iconst (v := (1 : Int32)) C dX9_fits_4 (by decide) ?_
    refine mv_goto (tgt := 9) C dX9_fits_5 (by decide) ?_
    exact wj_X9_fits_9_ok C hs hlev hw
end
