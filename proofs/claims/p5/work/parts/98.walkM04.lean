set_option maxRecDepth 20000 in
theorem ggX9_bind_X9_fails : GoodIn wsX9_bind wsX9_fails := goodIn_r _ [11, 12, 13, 14, 15, 16, 17, 18, 19, 20, 21, 22, 23, 24, 25, 26, 27, 28, 29, 30, 31, 32, 33, 34, 35, 36, 37, 38, 39, 40, 41, 42, 43, 44, 45, 46, 47, 48] (by decide +kernel) (by decide +kernel)
set_option maxRecDepth 20000 in
theorem gX9_bind_X9_fails : GoodIn wsX9_bind (wsV RX9 163 RX9 yX9_fails wsX9_fails) := goodIn_app (goodIn_of _ (by decide +kernel)) ggX9_bind_X9_fails
theorem dX9_bind_0 : decode cX9_bind 0 = .ok (.aload_n 0, 1) := by decide +kernel
theorem dX9_bind_1 : decode cX9_bind 1 = .ok (.getfield 160, 3) := by decide +kernel
theorem dX9_bind_4 : decode cX9_bind 4 = .ok (.bipush 40, 2) := by decide +kernel
theorem dX9_bind_6 : decode cX9_bind 6 = .ok (.if_icmp .ne 10, 3) := by decide +kernel
theorem dX9_bind_9 : decode cX9_bind 9 = .ok (.aload_n 0, 1) := by decide +kernel
theorem dX9_bind_10 : decode cX9_bind 10 = .ok (.bipush 6, 2) := by decide +kernel
theorem dX9_bind_12 : decode cX9_bind 12 = .ok (.invokevirtual 163, 3) := by decide +kernel
theorem dX9_bind_15 : decode cX9_bind 15 = .ok (.return_, 1) := by decide +kernel
theorem dX9_bind_16 : decode cX9_bind 16 = .ok (.aload_n 0, 1) := by decide +kernel
theorem dX9_bind_17 : decode cX9_bind 17 = .ok (.getfield 31, 3) := by decide +kernel
theorem dX9_bind_20 : decode cX9_bind 20 = .ok (.aload_n 0, 1) := by decide +kernel
theorem dX9_bind_21 : decode cX9_bind 21 = .ok (.getfield 160, 3) := by decide +kernel
theorem dX9_bind_24 : decode cX9_bind 24 = .ok (.iload_n 1, 1) := by decide +kernel
theorem dX9_bind_25 : decode cX9_bind 25 = .ok (.iastore, 1) := by decide +kernel
theorem dX9_bind_26 : decode cX9_bind 26 = .ok (.aload_n 0, 1) := by decide +kernel
theorem dX9_bind_27 : decode cX9_bind 27 = .ok (.getfield 34, 3) := by decide +kernel
theorem dX9_bind_30 : decode cX9_bind 30 = .ok (.aload_n 0, 1) := by decide +kernel
theorem dX9_bind_31 : decode cX9_bind 31 = .ok (.getfield 160, 3) := by decide +kernel
theorem dX9_bind_34 : decode cX9_bind 34 = .ok (.iload_n 2, 1) := by decide +kernel
theorem dX9_bind_35 : decode cX9_bind 35 = .ok (.iastore, 1) := by decide +kernel
theorem dX9_bind_36 : decode cX9_bind 36 = .ok (.aload_n 0, 1) := by decide +kernel
theorem dX9_bind_37 : decode cX9_bind 37 = .ok (.getfield 37, 3) := by decide +kernel
theorem dX9_bind_40 : decode cX9_bind 40 = .ok (.aload_n 0, 1) := by decide +kernel
theorem dX9_bind_41 : decode cX9_bind 41 = .ok (.getfield 160, 3) := by decide +kernel
theorem dX9_bind_44 : decode cX9_bind 44 = .ok (.iload_n 3, 1) := by decide +kernel
theorem dX9_bind_45 : decode cX9_bind 45 = .ok (.iastore, 1) := by decide +kernel
theorem dX9_bind_46 : decode cX9_bind 46 = .ok (.aload_n 0, 1) := by decide +kernel
theorem dX9_bind_47 : decode cX9_bind 47 = .ok (.getfield 40, 3) := by decide +kernel
theorem dX9_bind_50 : decode cX9_bind 50 = .ok (.aload_n 0, 1) := by decide +kernel
theorem dX9_bind_51 : decode cX9_bind 51 = .ok (.getfield 160, 3) := by decide +kernel
theorem dX9_bind_54 : decode cX9_bind 54 = .ok (.iload 4, 2) := by decide +kernel
theorem dX9_bind_56 : decode cX9_bind 56 = .ok (.iastore, 1) := by decide +kernel
theorem dX9_bind_57 : decode cX9_bind 57 = .ok (.aload_n 0, 1) := by decide +kernel
theorem dX9_bind_58 : decode cX9_bind 58 = .ok (.getfield 43, 3) := by decide +kernel
theorem dX9_bind_61 : decode cX9_bind 61 = .ok (.aload_n 0, 1) := by decide +kernel
theorem dX9_bind_62 : decode cX9_bind 62 = .ok (.getfield 160, 3) := by decide +kernel
theorem dX9_bind_65 : decode cX9_bind 65 = .ok (.iload 5, 2) := by decide +kernel
theorem dX9_bind_67 : decode cX9_bind 67 = .ok (.iastore, 1) := by decide +kernel
theorem dX9_bind_68 : decode cX9_bind 68 = .ok (.aload_n 0, 1) := by decide +kernel
theorem dX9_bind_69 : decode cX9_bind 69 = .ok (.dup, 1) := by decide +kernel
theorem dX9_bind_70 : decode cX9_bind 70 = .ok (.getfield 160, 3) := by decide +kernel
theorem dX9_bind_73 : decode cX9_bind 73 = .ok (.iconst 1, 1) := by decide +kernel
theorem dX9_bind_74 : decode cX9_bind 74 = .ok (.iadd, 1) := by decide +kernel
theorem dX9_bind_75 : decode cX9_bind 75 = .ok (.putfield 160, 3) := by decide +kernel
theorem dX9_bind_78 : decode cX9_bind 78 = .ok (.return_, 1) := by decide +kernel
set_option maxRecDepth 100000 in
theorem gpX9_beginning_X9_bind_0 : GoodIn wsX9_beginning ([.fieldLink RX9 160 "MarkedNamesModel" "bindings" "I", .fieldLink RX9 31 "MarkedNamesModel" "name" "[I", .fieldLink RX9 34 "MarkedNamesModel" "scopes" "[I", .fieldLink RX9 37 "MarkedNamesModel" "meaning" "[I", .fieldLink RX9 40 "MarkedNamesModel" "from" "[I", .fieldLink RX9 43 "MarkedNamesModel" "to" "[I", .methodLink RX9 163 yX9_fails, .instanceMethod yX9_fails, .selects RX9 yX9_fails yX9_fails, .initialized RX9, .code yX9_fails cX9_fails 2 none, .fieldLink RX9 178 "MarkedNamesModel" "error" "I"] : List Cond) := goodIn_r _ [1, 15, 16, 17, 18, 19, 20, 21, 22, 13, 23, 24] (by decide +kernel) (by decide +kernel)
set_option maxRecDepth 100000 in
theorem gpX9_beginning_X9_bind_1 : GoodIn wsX9_beginning wsX90 := goodIn_r _ [25, 26, 27, 28, 29, 30, 31, 32, 33, 34, 35, 36, 37, 38, 39, 40, 41, 42, 43, 44, 45, 46, 47, 48, 49, 50, 51, 52, 53, 54, 55, 56, 57, 58, 59, 60] (by decide +kernel) (by decide +kernel)
set_option maxRecDepth 100000 in
theorem gpX9_beginning_X9_bind_c : GoodIn wsX9_beginning [Cond.code yX9_bind cX9_bind 6 none] := goodIn_r _ [14] (by decide +kernel) (by decide +kernel)
theorem ggX9_beginning_X9_bind : GoodIn wsX9_beginning wsX9_bind := goodIn_cons2 gpX9_beginning_X9_bind_c (goodIn_app gpX9_beginning_X9_bind_0 gpX9_beginning_X9_bind_1)
set_option maxRecDepth 20000 in
theorem gX9_beginning_X9_bind : GoodIn wsX9_beginning (wsV RX9 167 RX9 yX9_bind wsX9_bind) := goodIn_app (goodIn_of _ (by decide +kernel)) ggX9_beginning_X9_bind
theorem dX9_beginning_0 : decode cX9_beginning 0 = .ok (.aload_n 0, 1) := by decide +kernel
theorem dX9_beginning_1 : decode cX9_beginning 1 = .ok (.iconst 0, 1) := by decide +kernel
theorem dX9_beginning_2 : decode cX9_beginning 2 = .ok (.putfield 160, 3) := by decide +kernel
theorem dX9_beginning_5 : decode cX9_beginning 5 = .ok (.aload_n 0, 1) := by decide +kernel
theorem dX9_beginning_6 : decode cX9_beginning 6 = .ok (.sipush 206, 3) := by decide +kernel
theorem dX9_beginning_9 : decode cX9_beginning 9 = .ok (.iconst 0, 1) := by decide +kernel
theorem dX9_beginning_10 : decode cX9_beginning 10 = .ok (.iconst 0, 1) := by decide +kernel
theorem dX9_beginning_11 : decode cX9_beginning 11 = .ok (.iconst 0, 1) := by decide +kernel
theorem dX9_beginning_12 : decode cX9_beginning 12 = .ok (.iconst 0, 1) := by decide +kernel
theorem dX9_beginning_13 : decode cX9_beginning 13 = .ok (.invokevirtual 167, 3) := by decide +kernel
theorem dX9_beginning_16 : decode cX9_beginning 16 = .ok (.aload_n 0, 1) := by decide +kernel
theorem dX9_beginning_17 : decode cX9_beginning 17 = .ok (.sipush 294, 3) := by decide +kernel
theorem dX9_beginning_20 : decode cX9_beginning 20 = .ok (.iconst 0, 1) := by decide +kernel
theorem dX9_beginning_21 : decode cX9_beginning 21 = .ok (.iconst 0, 1) := by decide +kernel
theorem dX9_beginning_22 : decode cX9_beginning 22 = .ok (.iconst 1, 1) := by decide +kernel
theorem dX9_beginning_23 : decode cX9_beginning 23 = .ok (.iconst 0, 1) := by decide +kernel
theorem dX9_beginning_24 : decode cX9_beginning 24 = .ok (.invokevirtual 167, 3) := by decide +kernel
theorem dX9_beginning_27 : decode cX9_beginning 27 = .ok (.aload_n 0, 1) := by decide +kernel
theorem dX9_beginning_28 : decode cX9_beginning 28 = .ok (.bipush 17, 2) := by decide +kernel
theorem dX9_beginning_30 : decode cX9_beginning 30 = .ok (.iconst 0, 1) := by decide +kernel
theorem dX9_beginning_31 : decode cX9_beginning 31 = .ok (.iconst 0, 1) := by decide +kernel
theorem dX9_beginning_32 : decode cX9_beginning 32 = .ok (.iconst 2, 1) := by decide +kernel
theorem dX9_beginning_33 : decode cX9_beginning 33 = .ok (.iconst 0, 1) := by decide +kernel
theorem dX9_beginning_34 : decode cX9_beginning 34 = .ok (.invokevirtual 167, 3) := by decide +kernel
theorem dX9_beginning_37 : decode cX9_beginning 37 = .ok (.aload_n 0, 1) := by decide +kernel
theorem dX9_beginning_38 : decode cX9_beginning 38 = .ok (.sipush 403, 3) := by decide +kernel
theorem dX9_beginning_41 : decode cX9_beginning 41 = .ok (.iconst 0, 1) := by decide +kernel
theorem dX9_beginning_42 : decode cX9_beginning 42 = .ok (.iconst 0, 1) := by decide +kernel
theorem dX9_beginning_43 : decode cX9_beginning 43 = .ok (.iconst 3, 1) := by decide +kernel
theorem dX9_beginning_44 : decode cX9_beginning 44 = .ok (.iconst 0, 1) := by decide +kernel
theorem dX9_beginning_45 : decode cX9_beginning 45 = .ok (.invokevirtual 167, 3) := by decide +kernel
theorem dX9_beginning_48 : decode cX9_beginning 48 = .ok (.aload_n 0, 1) := by decide +kernel
theorem dX9_beginning_49 : decode cX9_beginning 49 = .ok (.ldc 171, 2) := by decide +kernel
theorem dX9_beginning_51 : decode cX9_beginning 51 = .ok (.iconst 0, 1) := by decide +kernel
theorem dX9_beginning_52 : decode cX9_beginning 52 = .ok (.iconst 1, 1) := by decide +kernel
theorem dX9_beginning_53 : decode cX9_beginning 53 = .ok (.iconst 0, 1) := by decide +kernel
theorem dX9_beginning_54 : decode cX9_beginning 54 = .ok (.iconst 0, 1) := by decide +kernel
theorem dX9_beginning_55 : decode cX9_beginning 55 = .ok (.invokevirtual 167, 3) := by decide +kernel
theorem dX9_beginning_58 : decode cX9_beginning 58 = .ok (.aload_n 0, 1) := by decide +kernel
theorem dX9_beginning_59 : decode cX9_beginning 59 = .ok (.ldc 172, 2) := by decide +kernel
theorem dX9_beginning_61 : decode cX9_beginning 61 = .ok (.iconst 0, 1) := by decide +kernel
theorem dX9_beginning_62 : decode cX9_beginning 62 = .ok (.iconst 1, 1) := by decide +kernel
theorem dX9_beginning_63 : decode cX9_beginning 63 = .ok (.iconst 0, 1) := by decide +kernel
theorem dX9_beginning_64 : decode cX9_beginning 64 = .ok (.iconst 0, 1) := by decide +kernel
theorem dX9_beginning_65 : decode cX9_beginning 65 = .ok (.invokevirtual 167, 3) := by decide +kernel
theorem dX9_beginning_68 : decode cX9_beginning 68 = .ok (.aload_n 0, 1) := by decide +kernel
theorem dX9_beginning_69 : decode cX9_beginning 69 = .ok (.ldc 173, 2) := by decide +kernel
theorem dX9_beginning_71 : decode cX9_beginning 71 = .ok (.iconst 0, 1) := by decide +kernel
theorem dX9_beginning_72 : decode cX9_beginning 72 = .ok (.iconst 1, 1) := by decide +kernel
theorem dX9_beginning_73 : decode cX9_beginning 73 = .ok (.iconst 0, 1) := by decide +kernel
theorem dX9_beginning_74 : decode cX9_beginning 74 = .ok (.iconst 0, 1) := by decide +kernel
theorem dX9_beginning_75 : decode cX9_beginning 75 = .ok (.invokevirtual 167, 3) := by decide +kernel
theorem dX9_beginning_78 : decode cX9_beginning 78 = .ok (.aload_n 0, 1) := by decide +kernel
theorem dX9_beginning_79 : decode cX9_beginning 79 = .ok (.ldc 174, 2) := by decide +kernel
theorem dX9_beginning_81 : decode cX9_beginning 81 = .ok (.iconst 0, 1) := by decide +kernel
theorem dX9_beginning_82 : decode cX9_beginning 82 = .ok (.iconst 1, 1) := by decide +kernel
theorem dX9_beginning_83 : decode cX9_beginning 83 = .ok (.iconst 0, 1) := by decide +kernel
theorem dX9_beginning_84 : decode cX9_beginning 84 = .ok (.iconst 0, 1) := by decide +kernel
theorem dX9_beginning_85 : decode cX9_beginning 85 = .ok (.invokevirtual 167, 3) := by decide +kernel
theorem dX9_beginning_88 : decode cX9_beginning 88 = .ok (.iconst 0, 1) := by decide +kernel
theorem dX9_beginning_89 : decode cX9_beginning 89 = .ok (.istore_n 1, 1) := by decide +kernel
theorem dX9_beginning_90 : decode cX9_beginning 90 = .ok (.iload_n 1, 1) := by decide +kernel
theorem dX9_beginning_91 : decode cX9_beginning 91 = .ok (.aload_n 0, 1) := by decide +kernel
theorem dX9_beginning_92 : decode cX9_beginning 92 = .ok (.getfield 157, 3) := by decide +kernel
theorem dX9_beginning_95 : decode cX9_beginning 95 = .ok (.if_icmp .ge 31, 3) := by decide +kernel
theorem dX9_beginning_98 : decode cX9_beginning 98 = .ok (.aload_n 0, 1) := by decide +kernel
theorem dX9_beginning_99 : decode cX9_beginning 99 = .ok (.aload_n 0, 1) := by decide +kernel
theorem dX9_beginning_100 : decode cX9_beginning 100 = .ok (.getfield 25, 3) := by decide +kernel
theorem dX9_beginning_103 : decode cX9_beginning 103 = .ok (.iload_n 1, 1) := by decide +kernel
theorem dX9_beginning_104 : decode cX9_beginning 104 = .ok (.iaload, 1) := by decide +kernel
theorem dX9_beginning_105 : decode cX9_beginning 105 = .ok (.iconst 0, 1) := by decide +kernel
theorem dX9_beginning_106 : decode cX9_beginning 106 = .ok (.iconst 3, 1) := by decide +kernel
theorem dX9_beginning_107 : decode cX9_beginning 107 = .ok (.bipush 120, 2) := by decide +kernel
theorem dX9_beginning_109 : decode cX9_beginning 109 = .ok (.iload_n 1, 1) := by decide +kernel
theorem dX9_beginning_110 : decode cX9_beginning 110 = .ok (.imul, 1) := by decide +kernel
theorem dX9_beginning_111 : decode cX9_beginning 111 = .ok (.aload_n 0, 1) := by decide +kernel
theorem dX9_beginning_112 : decode cX9_beginning 112 = .ok (.getfield 28, 3) := by decide +kernel
theorem dX9_beginning_115 : decode cX9_beginning 115 = .ok (.iload_n 1, 1) := by decide +kernel
theorem dX9_beginning_116 : decode cX9_beginning 116 = .ok (.iaload, 1) := by decide +kernel
theorem dX9_beginning_117 : decode cX9_beginning 117 = .ok (.invokevirtual 167, 3) := by decide +kernel
theorem dX9_beginning_120 : decode cX9_beginning 120 = .ok (.iinc 1 1, 3) := by decide +kernel
theorem dX9_beginning_123 : decode cX9_beginning 123 = .ok (.goto (-33), 3) := by decide +kernel
theorem dX9_beginning_126 : decode cX9_beginning 126 = .ok (.aload_n 0, 1) := by decide +kernel
theorem dX9_beginning_127 : decode cX9_beginning 127 = .ok (.aload_n 0, 1) := by decide +kernel
theorem dX9_beginning_128 : decode cX9_beginning 128 = .ok (.getfield 160, 3) := by decide +kernel
theorem dX9_beginning_131 : decode cX9_beginning 131 = .ok (.putfield 175, 3) := by decide +kernel
theorem dX9_beginning_134 : decode cX9_beginning 134 = .ok (.return_, 1) := by decide +kernel
theorem dX9_fails_0 : decode cX9_fails 0 = .ok (.aload_n 0, 1) := by decide +kernel
theorem dX9_fails_1 : decode cX9_fails 1 = .ok (.aload_n 0, 1) := by decide +kernel
theorem dX9_fails_2 : decode cX9_fails 2 = .ok (.getfield 178, 3) := by decide +kernel
theorem dX9_fails_5 : decode cX9_fails 5 = .ok (.ifCond .ne 7, 3) := by decide +kernel
theorem dX9_fails_8 : decode cX9_fails 8 = .ok (.iload_n 1, 1) := by decide +kernel
theorem dX9_fails_9 : decode cX9_fails 9 = .ok (.goto 7, 3) := by decide +kernel
theorem dX9_fails_12 : decode cX9_fails 12 = .ok (.aload_n 0, 1) := by decide +kernel
theorem dX9_fails_13 : decode cX9_fails 13 = .ok (.getfield 178, 3) := by decide +kernel
theorem dX9_fails_16 : decode cX9_fails 16 = .ok (.putfield 178, 3) := by decide +kernel
theorem dX9_fails_19 : decode cX9_fails 19 = .ok (.return_, 1) := by decide +kernel
set_option maxRecDepth 20000 in
theorem ggX9_put_X9_fails : GoodIn wsX9_put wsX9_fails := goodIn_r _ [8, 1, 9, 10, 11, 12, 13, 14, 15, 16, 17, 18, 19, 20, 21, 22, 23, 24, 25, 26, 27, 28, 29, 30, 31, 32, 33, 34, 35, 36, 37, 38, 39, 40, 41, 42, 43, 44] (by decide +kernel) (by decide +kernel)
set_option maxRecDepth 20000 in
theorem gX9_put_X9_fails : GoodIn wsX9_put (wsV RX9 163 RX9 yX9_fails wsX9_fails) := goodIn_app (goodIn_of _ (by decide +kernel)) ggX9_put_X9_fails
theorem dX9_put_0 : decode cX9_put 0 = .ok (.aload_n 0, 1) := by decide +kernel
theorem dX9_put_1 : decode cX9_put 1 = .ok (.getfield 178, 3) := by decide +kernel
theorem dX9_put_4 : decode cX9_put 4 = .ok (.ifCond .eq 4, 3) := by decide +kernel
theorem dX9_put_7 : decode cX9_put 7 = .ok (.return_, 1) := by decide +kernel
theorem dX9_put_8 : decode cX9_put 8 = .ok (.aload_n 0, 1) := by decide +kernel
theorem dX9_put_9 : decode cX9_put 9 = .ok (.getfield 184, 3) := by decide +kernel
theorem dX9_put_12 : decode cX9_put 12 = .ok (.sipush 200, 3) := by decide +kernel
theorem dX9_put_15 : decode cX9_put 15 = .ok (.if_icmp .ne 10, 3) := by decide +kernel
theorem dX9_put_18 : decode cX9_put 18 = .ok (.aload_n 0, 1) := by decide +kernel
theorem dX9_put_19 : decode cX9_put 19 = .ok (.bipush 6, 2) := by decide +kernel
theorem dX9_put_21 : decode cX9_put 21 = .ok (.invokevirtual 163, 3) := by decide +kernel
theorem dX9_put_24 : decode cX9_put 24 = .ok (.return_, 1) := by decide +kernel
theorem dX9_put_25 : decode cX9_put 25 = .ok (.aload_n 0, 1) := by decide +kernel
theorem dX9_put_26 : decode cX9_put 26 = .ok (.getfield 67, 3) := by decide +kernel
theorem dX9_put_29 : decode cX9_put 29 = .ok (.aload_n 0, 1) := by decide +kernel
theorem dX9_put_30 : decode cX9_put 30 = .ok (.getfield 184, 3) := by decide +kernel
theorem dX9_put_33 : decode cX9_put 33 = .ok (.iload_n 1, 1) := by decide +kernel
theorem dX9_put_34 : decode cX9_put 34 = .ok (.iastore, 1) := by decide +kernel
theorem dX9_put_35 : decode cX9_put 35 = .ok (.aload_n 0, 1) := by decide +kernel
theorem dX9_put_36 : decode cX9_put 36 = .ok (.dup, 1) := by decide +kernel
theorem dX9_put_37 : decode cX9_put 37 = .ok (.getfield 184, 3) := by decide +kernel
theorem dX9_put_40 : decode cX9_put 40 = .ok (.iconst 1, 1) := by decide +kernel
theorem dX9_put_41 : decode cX9_put 41 = .ok (.iadd, 1) := by decide +kernel
theorem dX9_put_42 : decode cX9_put 42 = .ok (.putfield 184, 3) := by decide +kernel
theorem dX9_put_45 : decode cX9_put 45 = .ok (.return_, 1) := by decide +kernel
set_option maxRecDepth 20000 in
theorem ggX9_space_X9_put : GoodIn wsX9_space wsX9_put := goodIn_r _ [6, 7, 8, 9, 10, 11, 12, 5, 13, 14, 15, 16, 17, 18, 19, 20, 21, 22, 23, 24, 25, 26, 27, 28, 29, 30, 31, 32, 33, 34, 35, 36, 37, 38, 39, 40, 41, 42, 43, 44, 45, 46, 47, 48, 49] (by decide +kernel) (by decide +kernel)
set_option maxRecDepth 20000 in
theorem gX9_space_X9_put : GoodIn wsX9_space (wsV RX9 191 RX9 yX9_put wsX9_put) := goodIn_app (goodIn_of _ (by decide +kernel)) ggX9_space_X9_put
theorem dX9_space_0 : decode cX9_space 0 = .ok (.aload_n 0, 1) := by decide +kernel
theorem dX9_space_1 : decode cX9_space 1 = .ok (.getfield 187, 3) := by decide +kernel
theorem dX9_space_4 : decode cX9_space 4 = .ok (.ifCond .eq 9, 3) := by decide +kernel
theorem dX9_space_7 : decode cX9_space 7 = .ok (.aload_n 0, 1) := by decide +kernel
theorem dX9_space_8 : decode cX9_space 8 = .ok (.bipush 32, 2) := by decide +kernel
theorem dX9_space_10 : decode cX9_space 10 = .ok (.invokevirtual 191, 3) := by decide +kernel
theorem dX9_space_13 : decode cX9_space 13 = .ok (.aload_n 0, 1) := by decide +kernel
theorem dX9_space_14 : decode cX9_space 14 = .ok (.iconst 1, 1) := by decide +kernel
theorem dX9_space_15 : decode cX9_space 15 = .ok (.putfield 187, 3) := by decide +kernel
theorem dX9_space_18 : decode cX9_space 18 = .ok (.return_, 1) := by decide +kernel
set_option maxRecDepth 20000 in
theorem ggX9_putNumber_X9_put : GoodIn wsX9_putNumber wsX9_put := goodIn_r _ [5, 6, 7, 8, 9, 10, 11, 4, 12, 13, 14, 15, 16, 17, 18, 19, 20, 21, 22, 23, 24, 25, 26, 27, 28, 29, 30, 31, 32, 33, 34, 35, 36, 37, 38, 39, 40, 41, 42, 43, 44, 45, 46, 47, 48] (by decide +kernel) (by decide +kernel)
set_option maxRecDepth 20000 in
theorem gX9_putNumber_X9_put : GoodIn wsX9_putNumber (wsV RX9 191 RX9 yX9_put wsX9_put) := goodIn_app (goodIn_of _ (by decide +kernel)) ggX9_putNumber_X9_put
theorem dX9_putNumber_0 : decode cX9_putNumber 0 = .ok (.iload_n 1, 1) := by decide +kernel
theorem dX9_putNumber_1 : decode cX9_putNumber 1 = .ok (.bipush 9, 2) := by decide +kernel
theorem dX9_putNumber_3 : decode cX9_putNumber 3 = .ok (.if_icmp .le 14, 3) := by decide +kernel
theorem dX9_putNumber_6 : decode cX9_putNumber 6 = .ok (.aload_n 0, 1) := by decide +kernel
theorem dX9_putNumber_7 : decode cX9_putNumber 7 = .ok (.bipush 48, 2) := by decide +kernel
theorem dX9_putNumber_9 : decode cX9_putNumber 9 = .ok (.iload_n 1, 1) := by decide +kernel
theorem dX9_putNumber_10 : decode cX9_putNumber 10 = .ok (.bipush 10, 2) := by decide +kernel
theorem dX9_putNumber_12 : decode cX9_putNumber 12 = .ok (.idiv, 1) := by decide +kernel
theorem dX9_putNumber_13 : decode cX9_putNumber 13 = .ok (.iadd, 1) := by decide +kernel
theorem dX9_putNumber_14 : decode cX9_putNumber 14 = .ok (.invokevirtual 191, 3) := by decide +kernel
theorem dX9_putNumber_17 : decode cX9_putNumber 17 = .ok (.aload_n 0, 1) := by decide +kernel
theorem dX9_putNumber_18 : decode cX9_putNumber 18 = .ok (.bipush 48, 2) := by decide +kernel
theorem dX9_putNumber_20 : decode cX9_putNumber 20 = .ok (.iload_n 1, 1) := by decide +kernel
theorem dX9_putNumber_21 : decode cX9_putNumber 21 = .ok (.bipush 10, 2) := by decide +kernel
theorem dX9_putNumber_23 : decode cX9_putNumber 23 = .ok (.irem, 1) := by decide +kernel
theorem dX9_putNumber_24 : decode cX9_putNumber 24 = .ok (.iadd, 1) := by decide +kernel
theorem dX9_putNumber_25 : decode cX9_putNumber 25 = .ok (.invokevirtual 191, 3) := by decide +kernel
theorem dX9_putNumber_28 : decode cX9_putNumber 28 = .ok (.return_, 1) := by decide +kernel
set_option maxRecDepth 20000 in
theorem ggX9_putName_X9_put : GoodIn wsX9_putName wsX9_put := goodIn_r _ [6, 7, 8, 9, 10, 11, 12, 5, 13, 14, 15, 16, 17, 18, 19, 20, 21, 22, 23, 24, 25, 26, 27, 28, 29, 30, 31, 32, 33, 34, 35, 36, 37, 38, 39, 40, 41, 42, 43, 44, 45, 46, 47, 48, 49] (by decide +kernel) (by decide +kernel)
set_option maxRecDepth 20000 in
theorem gX9_putName_X9_put : GoodIn wsX9_putName (wsV RX9 191 RX9 yX9_put wsX9_put) := goodIn_app (goodIn_of _ (by decide +kernel)) ggX9_putName_X9_put
theorem dX9_putName_0 : decode cX9_putName 0 = .ok (.iload_n 1, 1) := by decide +kernel
theorem dX9_putName_1 : decode cX9_putName 1 = .ok (.ldc 92, 2) := by decide +kernel
theorem dX9_putName_3 : decode cX9_putName 3 = .ok (.if_icmp .lt 12, 3) := by decide +kernel
theorem dX9_putName_6 : decode cX9_putName 6 = .ok (.aload_n 0, 1) := by decide +kernel
theorem dX9_putName_7 : decode cX9_putName 7 = .ok (.iload_n 1, 1) := by decide +kernel
theorem dX9_putName_8 : decode cX9_putName 8 = .ok (.ldc 92, 2) := by decide +kernel
theorem dX9_putName_10 : decode cX9_putName 10 = .ok (.isub, 1) := by decide +kernel
theorem dX9_putName_11 : decode cX9_putName 11 = .ok (.invokevirtual 191, 3) := by decide +kernel
theorem dX9_putName_14 : decode cX9_putName 14 = .ok (.return_, 1) := by decide +kernel
theorem dX9_putName_15 : decode cX9_putName 15 = .ok (.iload_n 1, 1) := by decide +kernel
theorem dX9_putName_16 : decode cX9_putName 16 = .ok (.sipush 1024, 3) := by decide +kernel
theorem dX9_putName_19 : decode cX9_putName 19 = .ok (.if_icmp .lt 15, 3) := by decide +kernel
theorem dX9_putName_22 : decode cX9_putName 22 = .ok (.aload_n 0, 1) := by decide +kernel
theorem dX9_putName_23 : decode cX9_putName 23 = .ok (.bipush 96, 2) := by decide +kernel
theorem dX9_putName_25 : decode cX9_putName 25 = .ok (.iload_n 1, 1) := by decide +kernel
theorem dX9_putName_26 : decode cX9_putName 26 = .ok (.sipush 1024, 3) := by decide +kernel
theorem dX9_putName_29 : decode cX9_putName 29 = .ok (.idiv, 1) := by decide +kernel
theorem dX9_putName_30 : decode cX9_putName 30 = .ok (.iadd, 1) := by decide +kernel
theorem dX9_putName_31 : decode cX9_putName 31 = .ok (.invokevirtual 191, 3) := by decide +kernel
theorem dX9_putName_34 : decode cX9_putName 34 = .ok (.iload_n 1, 1) := by decide +kernel
theorem dX9_putName_35 : decode cX9_putName 35 = .ok (.bipush 32, 2) := by decide +kernel
theorem dX9_putName_37 : decode cX9_putName 37 = .ok (.if_icmp .lt 17, 3) := by decide +kernel
theorem dX9_putName_40 : decode cX9_putName 40 = .ok (.aload_n 0, 1) := by decide +kernel
theorem dX9_putName_41 : decode cX9_putName 41 = .ok (.bipush 96, 2) := by decide +kernel
theorem dX9_putName_43 : decode cX9_putName 43 = .ok (.iload_n 1, 1) := by decide +kernel
theorem dX9_putName_44 : decode cX9_putName 44 = .ok (.bipush 32, 2) := by decide +kernel
theorem dX9_putName_46 : decode cX9_putName 46 = .ok (.idiv, 1) := by decide +kernel
theorem dX9_putName_47 : decode cX9_putName 47 = .ok (.bipush 32, 2) := by decide +kernel
theorem dX9_putName_49 : decode cX9_putName 49 = .ok (.irem, 1) := by decide +kernel
theorem dX9_putName_50 : decode cX9_putName 50 = .ok (.iadd, 1) := by decide +kernel
theorem dX9_putName_51 : decode cX9_putName 51 = .ok (.invokevirtual 191, 3) := by decide +kernel
theorem dX9_putName_54 : decode cX9_putName 54 = .ok (.aload_n 0, 1) := by decide +kernel
theorem dX9_putName_55 : decode cX9_putName 55 = .ok (.bipush 96, 2) := by decide +kernel
theorem dX9_putName_57 : decode cX9_putName 57 = .ok (.iload_n 1, 1) := by decide +kernel
theorem dX9_putName_58 : decode cX9_putName 58 = .ok (.bipush 32, 2) := by decide +kernel
theorem dX9_putName_60 : decode cX9_putName 60 = .ok (.irem, 1) := by decide +kernel
theorem dX9_putName_61 : decode cX9_putName 61 = .ok (.iadd, 1) := by decide +kernel
theorem dX9_putName_62 : decode cX9_putName 62 = .ok (.invokevirtual 191, 3) := by decide +kernel
theorem dX9_putName_65 : decode cX9_putName 65 = .ok (.return_, 1) := by decide +kernel
set_option maxRecDepth 100000 in
theorem gpX9_putOpen_X9_space_0 : GoodIn wsX9_putOpen ([.fieldLink RX9 187 "MarkedNamesModel" "gap" "Z", .methodLink RX9 191 yX9_put, .instanceMethod yX9_put, .selects RX9 yX9_put yX9_put, .initialized RX9, .code yX9_put cX9_put 2 none, .fieldLink RX9 178 "MarkedNamesModel" "error" "I", .fieldLink RX9 184 "MarkedNamesModel" "size" "I", .fieldLink RX9 67 "MarkedNamesModel" "text" "[I", .methodLink RX9 163 yX9_fails, .instanceMethod yX9_fails, .selects RX9 yX9_fails yX9_fails, .code yX9_fails cX9_fails 2 none] : List Cond) := goodIn_r _ [1, 7, 8, 9, 5, 10, 11, 12, 13, 14, 15, 16, 17] (by decide +kernel) (by decide +kernel)
set_option maxRecDepth 100000 in
theorem gpX9_putOpen_X9_space_1 : GoodIn wsX9_putOpen wsX90 := goodIn_r _ [18, 19, 20, 21, 22, 23, 24, 25, 26, 27, 28, 29, 30, 31, 32, 33, 34, 35, 36, 37, 38, 39, 40, 41, 42, 43, 44, 45, 46, 47, 48, 49, 50, 51, 52, 53] (by decide +kernel) (by decide +kernel)
set_option maxRecDepth 100000 in
theorem gpX9_putOpen_X9_space_c : GoodIn wsX9_putOpen [Cond.code yX9_space cX9_space 1 none] := goodIn_r _ [6] (by decide +kernel) (by decide +kernel)
theorem ggX9_putOpen_X9_space : GoodIn wsX9_putOpen wsX9_space := goodIn_cons2 gpX9_putOpen_X9_space_c (goodIn_app gpX9_putOpen_X9_space_0 gpX9_putOpen_X9_space_1)
set_option maxRecDepth 20000 in
theorem gX9_putOpen_X9_space : GoodIn wsX9_putOpen (wsV RX9 194 RX9 yX9_space wsX9_space) := goodIn_app (goodIn_of _ (by decide +kernel)) ggX9_putOpen_X9_space
set_option maxRecDepth 20000 in
theorem ggX9_putOpen_X9_put : GoodIn wsX9_putOpen wsX9_put := goodIn_r _ [10, 11, 12, 13, 14, 15, 16, 5, 17, 18, 19, 20, 21, 22, 23, 24, 25, 26, 27, 28, 29, 30, 31, 32, 33, 34, 35, 36, 37, 38, 39, 40, 41, 42, 43, 44, 45, 46, 47, 48, 49, 50, 51, 52, 53] (by decide +kernel) (by decide +kernel)
set_option maxRecDepth 20000 in
theorem gX9_putOpen_X9_put : GoodIn wsX9_putOpen (wsV RX9 191 RX9 yX9_put wsX9_put) := goodIn_app (goodIn_of _ (by decide +kernel)) ggX9_putOpen_X9_put
theorem dX9_putOpen_0 : decode cX9_putOpen 0 = .ok (.aload_n 0, 1) := by decide +kernel
theorem dX9_putOpen_1 : decode cX9_putOpen 1 = .ok (.invokevirtual 194, 3) := by decide +kernel
theorem dX9_putOpen_4 : decode cX9_putOpen 4 = .ok (.aload_n 0, 1) := by decide +kernel
theorem dX9_putOpen_5 : decode cX9_putOpen 5 = .ok (.bipush 40, 2) := by decide +kernel
theorem dX9_putOpen_7 : decode cX9_putOpen 7 = .ok (.invokevirtual 191, 3) := by decide +kernel
theorem dX9_putOpen_10 : decode cX9_putOpen 10 = .ok (.aload_n 0, 1) := by decide +kernel
theorem dX9_putOpen_11 : decode cX9_putOpen 11 = .ok (.iconst 0, 1) := by decide +kernel
theorem dX9_putOpen_12 : decode cX9_putOpen 12 = .ok (.putfield 187, 3) := by decide +kernel
theorem dX9_putOpen_15 : decode cX9_putOpen 15 = .ok (.return_, 1) := by decide +kernel
set_option maxRecDepth 20000 in
theorem ggX9_putClose_X9_put : GoodIn wsX9_putClose wsX9_put := goodIn_r _ [6, 7, 8, 9, 10, 11, 12, 5, 13, 14, 15, 16, 17, 18, 19, 20, 21, 22, 23, 24, 25, 26, 27, 28, 29, 30, 31, 32, 33, 34, 35, 36, 37, 38, 39, 40, 41, 42, 43, 44, 45, 46, 47, 48, 49] (by decide +kernel) (by decide +kernel)
set_option maxRecDepth 20000 in
theorem gX9_putClose_X9_put : GoodIn wsX9_putClose (wsV RX9 191 RX9 yX9_put wsX9_put) := goodIn_app (goodIn_of _ (by decide +kernel)) ggX9_putClose_X9_put
theorem dX9_putClose_0 : decode cX9_putClose 0 = .ok (.aload_n 0, 1) := by decide +kernel
theorem dX9_putClose_1 : decode cX9_putClose 1 = .ok (.bipush 41, 2) := by decide +kernel
theorem dX9_putClose_3 : decode cX9_putClose 3 = .ok (.invokevirtual 191, 3) := by decide +kernel
theorem dX9_putClose_6 : decode cX9_putClose 6 = .ok (.aload_n 0, 1) := by decide +kernel
theorem dX9_putClose_7 : decode cX9_putClose 7 = .ok (.iconst 1, 1) := by decide +kernel
theorem dX9_putClose_8 : decode cX9_putClose 8 = .ok (.putfield 187, 3) := by decide +kernel
theorem dX9_putClose_11 : decode cX9_putClose 11 = .ok (.return_, 1) := by decide +kernel
set_option maxRecDepth 20000 in
theorem ggX9_putToken_X9_kind : GoodIn wsX9_putToken wsX9_kind := goodIn_r _ [5, 6] (by decide +kernel) (by decide +kernel)
set_option maxRecDepth 20000 in
theorem gX9_putToken_X9_kind : GoodIn wsX9_putToken (va_wsS RX9 107 yX9_kind wsX9_kind) := goodIn_app (goodIn_of _ (by decide +kernel)) ggX9_putToken_X9_kind
set_option maxRecDepth 100000 in
theorem gpX9_putToken_X9_putOpen_0 : GoodIn wsX9_putToken ([.fieldLink RX9 187 "MarkedNamesModel" "gap" "Z", .methodLink RX9 194 yX9_space, .instanceMethod yX9_space, .selects RX9 yX9_space yX9_space, .initialized RX9, .code yX9_space cX9_space 1 none, .methodLink RX9 191 yX9_put, .instanceMethod yX9_put, .selects RX9 yX9_put yX9_put, .code yX9_put cX9_put 2 none, .fieldLink RX9 178 "MarkedNamesModel" "error" "I", .fieldLink RX9 184 "MarkedNamesModel" "size" "I", .fieldLink RX9 67 "MarkedNamesModel" "text" "[I", .methodLink RX9 163 yX9_fails, .instanceMethod yX9_fails, .selects RX9 yX9_fails yX9_fails, .code yX9_fails cX9_fails 2 none] : List Cond) := goodIn_r _ [11, 12, 13, 14, 4, 15, 16, 17, 18, 19, 20, 21, 22, 23, 24, 25, 26] (by decide +kernel) (by decide +kernel)
set_option maxRecDepth 100000 in
theorem gpX9_putToken_X9_putOpen_1 : GoodIn wsX9_putToken wsX90 := goodIn_r _ [43, 44, 45, 46, 47, 48, 49, 50, 51, 52, 53, 54, 55, 56, 57, 58, 59, 60, 61, 62, 63, 64, 65, 66, 67, 68, 69, 70, 71, 72, 73, 74, 75, 76, 77, 78] (by decide +kernel) (by decide +kernel)
set_option maxRecDepth 100000 in
theorem gpX9_putToken_X9_putOpen_c : GoodIn wsX9_putToken [Cond.code yX9_putOpen cX9_putOpen 1 none] := goodIn_r _ [10] (by decide +kernel) (by decide +kernel)
theorem ggX9_putToken_X9_putOpen : GoodIn wsX9_putToken wsX9_putOpen := goodIn_cons2 gpX9_putToken_X9_putOpen_c (goodIn_app gpX9_putToken_X9_putOpen_0 gpX9_putToken_X9_putOpen_1)
set_option maxRecDepth 20000 in
theorem gX9_putToken_X9_putOpen : GoodIn wsX9_putToken (wsV RX9 200 RX9 yX9_putOpen wsX9_putOpen) := goodIn_app (goodIn_of _ (by decide +kernel)) ggX9_putToken_X9_putOpen
set_option maxRecDepth 100000 in
theorem gpX9_putToken_X9_putClose_0 : GoodIn wsX9_putToken ([.fieldLink RX9 187 "MarkedNamesModel" "gap" "Z", .methodLink RX9 191 yX9_put, .instanceMethod yX9_put, .selects RX9 yX9_put yX9_put, .initialized RX9, .code yX9_put cX9_put 2 none, .fieldLink RX9 178 "MarkedNamesModel" "error" "I", .fieldLink RX9 184 "MarkedNamesModel" "size" "I", .fieldLink RX9 67 "MarkedNamesModel" "text" "[I", .methodLink RX9 163 yX9_fails, .instanceMethod yX9_fails, .selects RX9 yX9_fails yX9_fails, .code yX9_fails cX9_fails 2 none] : List Cond) := goodIn_r _ [11, 16, 17, 18, 4, 19, 20, 21, 22, 23, 24, 25, 26] (by decide +kernel) (by decide +kernel)
set_option maxRecDepth 100000 in
theorem gpX9_putToken_X9_putClose_1 : GoodIn wsX9_putToken wsX90 := goodIn_r _ [43, 44, 45, 46, 47, 48, 49, 50, 51, 52, 53, 54, 55, 56, 57, 58, 59, 60, 61, 62, 63, 64, 65, 66, 67, 68, 69, 70, 71, 72, 73, 74, 75, 76, 77, 78] (by decide +kernel) (by decide +kernel)
set_option maxRecDepth 100000 in
theorem gpX9_putToken_X9_putClose_c : GoodIn wsX9_putToken [Cond.code yX9_putClose cX9_putClose 1 none] := goodIn_r _ [30] (by decide +kernel) (by decide +kernel)
theorem ggX9_putToken_X9_putClose : GoodIn wsX9_putToken wsX9_putClose := goodIn_cons2 gpX9_putToken_X9_putClose_c (goodIn_app gpX9_putToken_X9_putClose_0 gpX9_putToken_X9_putClose_1)
set_option maxRecDepth 20000 in
theorem gX9_putToken_X9_putClose : GoodIn wsX9_putToken (wsV RX9 203 RX9 yX9_putClose wsX9_putClose) := goodIn_app (goodIn_of _ (by decide +kernel)) ggX9_putToken_X9_putClose
set_option maxRecDepth 100000 in
theorem gpX9_putToken_X9_space_0 : GoodIn wsX9_putToken ([.fieldLink RX9 187 "MarkedNamesModel" "gap" "Z", .methodLink RX9 191 yX9_put, .instanceMethod yX9_put, .selects RX9 yX9_put yX9_put, .initialized RX9, .code yX9_put cX9_put 2 none, .fieldLink RX9 178 "MarkedNamesModel" "error" "I", .fieldLink RX9 184 "MarkedNamesModel" "size" "I", .fieldLink RX9 67 "MarkedNamesModel" "text" "[I", .methodLink RX9 163 yX9_fails, .instanceMethod yX9_fails, .selects RX9 yX9_fails yX9_fails, .code yX9_fails cX9_fails 2 none] : List Cond) := goodIn_r _ [11, 16, 17, 18, 4, 19, 20, 21, 22, 23, 24, 25, 26] (by decide +kernel) (by decide +kernel)
set_option maxRecDepth 100000 in
theorem gpX9_putToken_X9_space_1 : GoodIn wsX9_putToken wsX90 := goodIn_r _ [43, 44, 45, 46, 47, 48, 49, 50, 51, 52, 53, 54, 55, 56, 57, 58, 59, 60, 61, 62, 63, 64, 65, 66, 67, 68, 69, 70, 71, 72, 73, 74, 75, 76, 77, 78] (by decide +kernel) (by decide +kernel)
set_option maxRecDepth 100000 in
theorem gpX9_putToken_X9_space_c : GoodIn wsX9_putToken [Cond.code yX9_space cX9_space 1 none] := goodIn_r _ [15] (by decide +kernel) (by decide +kernel)
theorem ggX9_putToken_X9_space : GoodIn wsX9_putToken wsX9_space := goodIn_cons2 gpX9_putToken_X9_space_c (goodIn_app gpX9_putToken_X9_space_0 gpX9_putToken_X9_space_1)
set_option maxRecDepth 20000 in
theorem gX9_putToken_X9_space : GoodIn wsX9_putToken (wsV RX9 194 RX9 yX9_space wsX9_space) := goodIn_app (goodIn_of _ (by decide +kernel)) ggX9_putToken_X9_space
set_option maxRecDepth 20000 in
theorem ggX9_putToken_X9_what : GoodIn wsX9_putToken wsX9_what := goodIn_r _ [33, 6] (by decide +kernel) (by decide +kernel)
set_option maxRecDepth 20000 in
theorem gX9_putToken_X9_what : GoodIn wsX9_putToken (va_wsS RX9 151 yX9_what wsX9_what) := goodIn_app (goodIn_of _ (by decide +kernel)) ggX9_putToken_X9_what
set_option maxRecDepth 100000 in
theorem gpX9_putToken_X9_putName_0 : GoodIn wsX9_putToken ([.constant RX9 92 (40000), .methodLink RX9 191 yX9_put, .instanceMethod yX9_put, .selects RX9 yX9_put yX9_put, .initialized RX9, .code yX9_put cX9_put 2 none, .fieldLink RX9 178 "MarkedNamesModel" "error" "I", .fieldLink RX9 184 "MarkedNamesModel" "size" "I", .fieldLink RX9 67 "MarkedNamesModel" "text" "[I", .methodLink RX9 163 yX9_fails, .instanceMethod yX9_fails, .selects RX9 yX9_fails yX9_fails, .code yX9_fails cX9_fails 2 none] : List Cond) := goodIn_r _ [38, 16, 17, 18, 4, 19, 20, 21, 22, 23, 24, 25, 26] (by decide +kernel) (by decide +kernel)
set_option maxRecDepth 100000 in
theorem gpX9_putToken_X9_putName_1 : GoodIn wsX9_putToken wsX90 := goodIn_r _ [43, 44, 45, 46, 47, 48, 49, 50, 51, 52, 53, 54, 55, 56, 57, 58, 59, 60, 61, 62, 63, 64, 65, 66, 67, 68, 69, 70, 71, 72, 73, 74, 75, 76, 77, 78] (by decide +kernel) (by decide +kernel)
set_option maxRecDepth 100000 in
theorem gpX9_putToken_X9_putName_c : GoodIn wsX9_putToken [Cond.code yX9_putName cX9_putName 2 none] := goodIn_r _ [37] (by decide +kernel) (by decide +kernel)
theorem ggX9_putToken_X9_putName : GoodIn wsX9_putToken wsX9_putName := goodIn_cons2 gpX9_putToken_X9_putName_c (goodIn_app gpX9_putToken_X9_putName_0 gpX9_putToken_X9_putName_1)
set_option maxRecDepth 20000 in
theorem gX9_putToken_X9_putName : GoodIn wsX9_putToken (wsV RX9 206 RX9 yX9_putName wsX9_putName) := goodIn_app (goodIn_of _ (by decide +kernel)) ggX9_putToken_X9_putName
set_option maxRecDepth 100000 in
theorem gpX9_putToken_X9_putNumber_0 : GoodIn wsX9_putToken ([.methodLink RX9 191 yX9_put, .instanceMethod yX9_put, .selects RX9 yX9_put yX9_put, .initialized RX9, .code yX9_put cX9_put 2 none, .fieldLink RX9 178 "MarkedNamesModel" "error" "I", .fieldLink RX9 184 "MarkedNamesModel" "size" "I", .fieldLink RX9 67 "MarkedNamesModel" "text" "[I", .methodLink RX9 163 yX9_fails, .instanceMethod yX9_fails, .selects RX9 yX9_fails yX9_fails, .code yX9_fails cX9_fails 2 none] : List Cond) := goodIn_r _ [16, 17, 18, 4, 19, 20, 21, 22, 23, 24, 25, 26] (by decide +kernel) (by decide +kernel)
set_option maxRecDepth 100000 in
theorem gpX9_putToken_X9_putNumber_1 : GoodIn wsX9_putToken wsX90 := goodIn_r _ [43, 44, 45, 46, 47, 48, 49, 50, 51, 52, 53, 54, 55, 56, 57, 58, 59, 60, 61, 62, 63, 64, 65, 66, 67, 68, 69, 70, 71, 72, 73, 74, 75, 76, 77, 78] (by decide +kernel) (by decide +kernel)
set_option maxRecDepth 100000 in
theorem gpX9_putToken_X9_putNumber_c : GoodIn wsX9_putToken [Cond.code yX9_putNumber cX9_putNumber 2 none] := goodIn_r _ [42] (by decide +kernel) (by decide +kernel)
theorem ggX9_putToken_X9_putNumber : GoodIn wsX9_putToken wsX9_putNumber := goodIn_cons2 gpX9_putToken_X9_putNumber_c (goodIn_app gpX9_putToken_X9_putNumber_0 gpX9_putToken_X9_putNumber_1)
set_option maxRecDepth 20000 in
theorem gX9_putToken_X9_putNumber : GoodIn wsX9_putToken (wsV RX9 197 RX9 yX9_putNumber wsX9_putNumber) := goodIn_app (goodIn_of _ (by decide +kernel)) ggX9_putToken_X9_putNumber
set_option maxRecDepth 20000 in
theorem ggX9_putToken_X9_put : GoodIn wsX9_putToken wsX9_put := goodIn_r _ [19, 20, 21, 22, 23, 24, 25, 4, 26, 43, 44, 45, 46, 47, 48, 49, 50, 51, 52, 53, 54, 55, 56, 57, 58, 59, 60, 61, 62, 63, 64, 65, 66, 67, 68, 69, 70, 71, 72, 73, 74, 75, 76, 77, 78] (by decide +kernel) (by decide +kernel)
set_option maxRecDepth 20000 in
theorem gX9_putToken_X9_put : GoodIn wsX9_putToken (wsV RX9 191 RX9 yX9_put wsX9_put) := goodIn_app (goodIn_of _ (by decide +kernel)) ggX9_putToken_X9_put
theorem dX9_putToken_0 : decode cX9_putToken 0 = .ok (.aload_n 0, 1) := by decide +kernel
theorem dX9_putToken_1 : decode cX9_putToken 1 = .ok (.getfield 13, 3) := by decide +kernel
theorem dX9_putToken_4 : decode cX9_putToken 4 = .ok (.iload_n 1, 1) := by decide +kernel
theorem dX9_putToken_5 : decode cX9_putToken 5 = .ok (.invokestatic 107, 3) := by decide +kernel
theorem dX9_putToken_8 : decode cX9_putToken 8 = .ok (.istore_n 2, 1) := by decide +kernel
theorem dX9_putToken_9 : decode cX9_putToken 9 = .ok (.iload_n 2, 1) := by decide +kernel
theorem dX9_putToken_10 : decode cX9_putToken 10 = .ok (.iconst 1, 1) := by decide +kernel
theorem dX9_putToken_11 : decode cX9_putToken 11 = .ok (.if_icmp .ne 10, 3) := by decide +kernel
theorem dX9_putToken_14 : decode cX9_putToken 14 = .ok (.aload_n 0, 1) := by decide +kernel
theorem dX9_putToken_15 : decode cX9_putToken 15 = .ok (.invokevirtual 200, 3) := by decide +kernel
theorem dX9_putToken_18 : decode cX9_putToken 18 = .ok (.goto 82, 3) := by decide +kernel
theorem dX9_putToken_21 : decode cX9_putToken 21 = .ok (.iload_n 2, 1) := by decide +kernel
theorem dX9_putToken_22 : decode cX9_putToken 22 = .ok (.iconst 2, 1) := by decide +kernel
theorem dX9_putToken_23 : decode cX9_putToken 23 = .ok (.if_icmp .ne 10, 3) := by decide +kernel
theorem dX9_putToken_26 : decode cX9_putToken 26 = .ok (.aload_n 0, 1) := by decide +kernel
theorem dX9_putToken_27 : decode cX9_putToken 27 = .ok (.invokevirtual 203, 3) := by decide +kernel
theorem dX9_putToken_30 : decode cX9_putToken 30 = .ok (.goto 70, 3) := by decide +kernel
theorem dX9_putToken_33 : decode cX9_putToken 33 = .ok (.aload_n 0, 1) := by decide +kernel
theorem dX9_putToken_34 : decode cX9_putToken 34 = .ok (.invokevirtual 194, 3) := by decide +kernel
theorem dX9_putToken_37 : decode cX9_putToken 37 = .ok (.iload_n 2, 1) := by decide +kernel
theorem dX9_putToken_38 : decode cX9_putToken 38 = .ok (.iconst 3, 1) := by decide +kernel
theorem dX9_putToken_39 : decode cX9_putToken 39 = .ok (.if_icmp .ne 15, 3) := by decide +kernel
theorem dX9_putToken_42 : decode cX9_putToken 42 = .ok (.aload_n 0, 1) := by decide +kernel
theorem dX9_putToken_43 : decode cX9_putToken 43 = .ok (.aload_n 0, 1) := by decide +kernel
theorem dX9_putToken_44 : decode cX9_putToken 44 = .ok (.getfield 13, 3) := by decide +kernel
theorem dX9_putToken_47 : decode cX9_putToken 47 = .ok (.iload_n 1, 1) := by decide +kernel
theorem dX9_putToken_48 : decode cX9_putToken 48 = .ok (.invokestatic 151, 3) := by decide +kernel
theorem dX9_putToken_51 : decode cX9_putToken 51 = .ok (.invokevirtual 206, 3) := by decide +kernel
theorem dX9_putToken_54 : decode cX9_putToken 54 = .ok (.iload_n 2, 1) := by decide +kernel
theorem dX9_putToken_55 : decode cX9_putToken 55 = .ok (.iconst 4, 1) := by decide +kernel
theorem dX9_putToken_56 : decode cX9_putToken 56 = .ok (.if_icmp .ne 15, 3) := by decide +kernel
theorem dX9_putToken_59 : decode cX9_putToken 59 = .ok (.aload_n 0, 1) := by decide +kernel
theorem dX9_putToken_60 : decode cX9_putToken 60 = .ok (.aload_n 0, 1) := by decide +kernel
theorem dX9_putToken_61 : decode cX9_putToken 61 = .ok (.getfield 13, 3) := by decide +kernel
theorem dX9_putToken_64 : decode cX9_putToken 64 = .ok (.iload_n 1, 1) := by decide +kernel
theorem dX9_putToken_65 : decode cX9_putToken 65 = .ok (.invokestatic 151, 3) := by decide +kernel
theorem dX9_putToken_68 : decode cX9_putToken 68 = .ok (.invokevirtual 197, 3) := by decide +kernel
theorem dX9_putToken_71 : decode cX9_putToken 71 = .ok (.iload_n 2, 1) := by decide +kernel
theorem dX9_putToken_72 : decode cX9_putToken 72 = .ok (.iconst 5, 1) := by decide +kernel
theorem dX9_putToken_73 : decode cX9_putToken 73 = .ok (.if_icmp .ne 9, 3) := by decide +kernel
theorem dX9_putToken_76 : decode cX9_putToken 76 = .ok (.aload_n 0, 1) := by decide +kernel
theorem dX9_putToken_77 : decode cX9_putToken 77 = .ok (.bipush 95, 2) := by decide +kernel
theorem dX9_putToken_79 : decode cX9_putToken 79 = .ok (.invokevirtual 191, 3) := by decide +kernel
theorem dX9_putToken_82 : decode cX9_putToken 82 = .ok (.iload_n 2, 1) := by decide +kernel
theorem dX9_putToken_83 : decode cX9_putToken 83 = .ok (.bipush 6, 2) := by decide +kernel
theorem dX9_putToken_85 : decode cX9_putToken 85 = .ok (.if_icmp .ne 15, 3) := by decide +kernel
theorem dX9_putToken_88 : decode cX9_putToken 88 = .ok (.aload_n 0, 1) := by decide +kernel
theorem dX9_putToken_89 : decode cX9_putToken 89 = .ok (.bipush 46, 2) := by decide +kernel
theorem dX9_putToken_91 : decode cX9_putToken 91 = .ok (.invokevirtual 191, 3) := by decide +kernel
theorem dX9_putToken_94 : decode cX9_putToken 94 = .ok (.aload_n 0, 1) := by decide +kernel
theorem dX9_putToken_95 : decode cX9_putToken 95 = .ok (.bipush 46, 2) := by decide +kernel
theorem dX9_putToken_97 : decode cX9_putToken 97 = .ok (.invokevirtual 191, 3) := by decide +kernel
theorem dX9_putToken_100 : decode cX9_putToken 100 = .ok (.return_, 1) := by decide +kernel
theorem iw_X9_beginning_X9 : ∀ w ∈ wsX90, w ∈ wsX9_beginning := by decide +kernel
theorem lk_X9_beginning_160 : Cond.fieldLink RX9 160 "MarkedNamesModel" "bindings" "I" ∈ wsX9_beginning := by decide +kernel
theorem iw_X9_bind_X9 : ∀ w ∈ wsX90, w ∈ wsX9_bind := by decide +kernel
theorem lk_X9_bind_160 : Cond.fieldLink RX9 160 "MarkedNamesModel" "bindings" "I" ∈ wsX9_bind := by decide +kernel
theorem lk_X9_bind_31 : Cond.fieldLink RX9 31 "MarkedNamesModel" "name" "[I" ∈ wsX9_bind := by decide +kernel
theorem lk_X9_bind_34 : Cond.fieldLink RX9 34 "MarkedNamesModel" "scopes" "[I" ∈ wsX9_bind := by decide +kernel
theorem lk_X9_bind_37 : Cond.fieldLink RX9 37 "MarkedNamesModel" "meaning" "[I" ∈ wsX9_bind := by decide +kernel
theorem lk_X9_bind_40 : Cond.fieldLink RX9 40 "MarkedNamesModel" "from" "[I" ∈ wsX9_bind := by decide +kernel
theorem lk_X9_bind_43 : Cond.fieldLink RX9 43 "MarkedNamesModel" "to" "[I" ∈ wsX9_bind := by decide +kernel
theorem iw_X9_fails_X9 : ∀ w ∈ wsX90, w ∈ wsX9_fails := by decide +kernel
theorem lk_X9_fails_178 : Cond.fieldLink RX9 178 "MarkedNamesModel" "error" "I" ∈ wsX9_fails := by decide +kernel
theorem mw_X9_beginning__constant_RX9_171_40043_Int32_ : Cond.constant RX9 171 (40043 : Int32) ∈ wsX9_beginning := by decide +kernel
theorem mw_X9_beginning__constant_RX9_172_40042_Int32_ : Cond.constant RX9 172 (40042 : Int32) ∈ wsX9_beginning := by decide +kernel
theorem mw_X9_beginning__constant_RX9_173_40061_Int32_ : Cond.constant RX9 173 (40061 : Int32) ∈ wsX9_beginning := by decide +kernel
theorem mw_X9_beginning__constant_RX9_174_40060_Int32_ : Cond.constant RX9 174 (40060 : Int32) ∈ wsX9_beginning := by decide +kernel
theorem lk_X9_beginning_157 : Cond.fieldLink RX9 157 "MarkedNamesModel" "own" "I" ∈ wsX9_beginning := by decide +kernel
theorem lk_X9_beginning_175 : Cond.fieldLink RX9 175 "MarkedNamesModel" "atFirst" "I" ∈ wsX9_beginning := by decide +kernel
theorem lk_X9_beginning_25 : Cond.fieldLink RX9 25 "MarkedNamesModel" "ownName" "[I" ∈ wsX9_beginning := by decide +kernel
theorem lk_X9_beginning_28 : Cond.fieldLink RX9 28 "MarkedNamesModel" "ownEnd" "[I" ∈ wsX9_beginning := by decide +kernel
theorem iw_X9_put_X9 : ∀ w ∈ wsX90, w ∈ wsX9_put := by decide +kernel
theorem lk_X9_put_178 : Cond.fieldLink RX9 178 "MarkedNamesModel" "error" "I" ∈ wsX9_put := by decide +kernel
theorem lk_X9_put_184 : Cond.fieldLink RX9 184 "MarkedNamesModel" "size" "I" ∈ wsX9_put := by decide +kernel
theorem lk_X9_put_67 : Cond.fieldLink RX9 67 "MarkedNamesModel" "text" "[I" ∈ wsX9_put := by decide +kernel
theorem iw_X9_putToken_X9 : ∀ w ∈ wsX90, w ∈ wsX9_putToken := by decide +kernel
theorem lk_X9_putToken_13 : Cond.fieldLink RX9 13 "MarkedNamesModel" "row" "[I" ∈ wsX9_putToken := by decide +kernel
theorem iw_X9_space_X9 : ∀ w ∈ wsX90, w ∈ wsX9_space := by decide +kernel
theorem lk_X9_space_187 : Cond.fieldLink RX9 187 "MarkedNamesModel" "gap" "Z" ∈ wsX9_space := by decide +kernel
theorem mw_X9_putName__constant_RX9_92_40000_Int32_ : Cond.constant RX9 92 (40000 : Int32) ∈ wsX9_putName := by decide +kernel
theorem iw_X9_putClose_X9 : ∀ w ∈ wsX90, w ∈ wsX9_putClose := by decide +kernel
theorem lk_X9_putClose_187 : Cond.fieldLink RX9 187 "MarkedNamesModel" "gap" "Z" ∈ wsX9_putClose := by decide +kernel
theorem iw_X9_putOpen_X9 : ∀ w ∈ wsX90, w ∈ wsX9_putOpen := by decide +kernel
theorem lk_X9_putOpen_187 : Cond.fieldLink RX9 187 "MarkedNamesModel" "gap" "Z" ∈ wsX9_putOpen := by decide +kernel
section
variable {l : Launch} {p : Program} {e : Env} {s : State} {m : MethodId} {args : Array Value} {below : List Frame} {meth : Method} {c : Code} {A : Nat → Prop} {dC : Nat → ClassId} {dI : Nat → Nat → Nat} {cA : ClassId} {a b : Nat → Nat} {lev : Nat}
set_option maxHeartbeats 4000000 in
set_option maxRecDepth 100000 in
theorem wj_X9_fails_16_ok (C : mC p s m args meth c cX9_fails 2 wsX9_fails RX9 none (dC, dI) vwCl [(cA, .int)] A) (hs : eM A s) (hlev : 0 ≤ lev) {post : mS → Prop} {z0 : Int32} {u : mS} (hw : wj_X9_fails_16 post z0 u) : mV p l e (mRm lev) s m args below meth c 2 (dC, dI) vwCl A 0 0 (mQv below args s (dC, dI) vwCl [(cA, .int)] (wM cA b) A post) (wM cA b u) 16 [] [.int z0, .ref (b 0)] := by
  unfold wj_X9_fails_16 at hw
  refine mv_put (ty := .int) (ws1 := wM cA b (mSet u 12 z0)) C iw_X9_fails_X9 tyX9 tyX9_ok nmX9 0 rfl rfl 32 (by decide) lk_X9_fails_178 rfl rfl rfl rfl rfl (Nat.le_of_ble_eq_true rfl) rfl dX9_fails_16 ?_
  refine mv_nm (f := wM cA b) (fun u4 eu4 => ?_)
  have hw := hw u4 eu4
  exact mv_vret C dX9_fails_19 hw
set_option maxHeartbeats 4000000 in
set_option maxRecDepth 100000 in
theorem X9_fails_met (hlev : 0 ≤ lev) {x1 : Int32} {u : mS} {post : mS → Prop} (hw : wp_X9_fails x1 u post) : mKv l yX9_fails wsX9_fails lev (eM) (dC, dI) vwCl [(cA, .int)] (wM cA b) [.ref (b 0), .int x1] u post := by
  refine mKv_of (cc := cX9_fails) (maxL := 2) (by decide) rfl rfl (Nat.le_of_ble_eq_true rfl) rfl ?_
  intro p e s m args below meth c A C hs
  unfold wp_X9_fails at hw
  refine mv_aload_n C dX9_fails_0 rfl 0 rfl ?_
  refine mv_aload_n C dX9_fails_1 rfl 0 rfl ?_
  refine mv_get (v := .int (u.1 12)) C iw_X9_fails_X9 0 rfl rfl 32 (by decide) lk_X9_fails_178 rfl rfl dX9_fails_2 ?_
  refine mv_topi (fun y1 ey1 => ?_)
  have hw := hw y1 ey1
  refine mv_if_ne (tgt := 12) C dX9_fails_5 (by decide) (fun h2 => ?_) (fun h2 => ?_)
  · have hw := hw.1 h2
    refine mv_aload_n C dX9_fails_12 rfl 0 rfl ?_
    refine mv_get (v := .int (u.1 12)) C iw_X9_fails_X9 0 rfl rfl 32 (by decide) lk_X9_fails_178 rfl rfl dX9_fails_13 ?_
    refine mv_topi (fun y3 ey3 => ?_)
    have hw := hw y3 ey3
    refine mv_sub [] rfl ?_
    exact wj_X9_fails_16_ok C hs hlev hw
  · have hw := hw.2 h2
    refine mv_iload_n C dX9_fails_8 rfl 1 rfl ?_
    refine mv_goto (tgt := 16) C dX9_fails_9 (by decide) ?_
    refine mv_sub [] rfl ?_
    exact wj_X9_fails_16_ok C hs hlev hw
set_option maxHeartbeats 4000000 in
set_option maxRecDepth 100000 in
theorem X9_bind_met (hlev : 1 ≤ lev) {x1 x2 x3 x4 x5 : Int32} {u : mS} {post : mS → Prop} (hw : wp_X9_bind x1 x2 x3 x4 x5 u post) : mKv l yX9_bind wsX9_bind lev (eM) (dC, dI) vwCl [(cA, .int)] (wM cA b) [.ref (b 0), .int x1, .int x2, .int x3, .int x4, .int x5] u post := by
  refine mKv_of (cc := cX9_bind) (maxL := 6) (by decide) rfl rfl (Nat.le_of_ble_eq_true rfl) rfl ?_
  intro p e s m args below meth c A C hs
  unfold wp_X9_bind at hw
  refine mv_aload_n C dX9_bind_0 rfl 0 rfl ?_
  refine mv_get (v := .int (u.1 4)) C iw_X9_bind_X9 0 rfl rfl 11 (by decide) lk_X9_bind_160 rfl rfl dX9_bind_1 ?_
  refine mv_topi (fun y1 ey1 => ?_)
  have hw := hw y1 ey1
  refine mv_bipush (v := (40 : Int32)) C dX9_bind_4 (by decide) ?_
  refine mv_icmp_ne (tgt := 16) C dX9_bind_6 (by decide) (fun h2 => ?_) (fun h2 => ?_)
  · have hw := hw.1 h2
    refine mv_aload_n C dX9_bind_16 rfl 0 rfl ?_
    refine mv_get (v := .ref (b 8)) C iw_X9_bind_X9 0 rfl rfl 13 (by decide) lk_X9_bind_31 rfl rfl dX9_bind_17 ?_
    refine mv_aload_n C dX9_bind_20 rfl 0 rfl ?_
    refine mv_get (v := .int (u.1 4)) C iw_X9_bind_X9 0 rfl rfl 11 (by decide) lk_X9_bind_160 rfl rfl dX9_bind_21 ?_
    refine mv_topi (fun y3 ey3 => ?_)
    have hw := hw y3 ey3
    refine mv_iload_n C dX9_bind_24 rfl 1 rfl ?_
    refine mv_iast (f := u.2 7) (ws1 := wM cA b (mPut u 7 y3.toNatClampNeg x1)) C 8 0 rfl rfl hw.1 rfl dX9_bind_25 ?_
    refine mv_nm (f := wM cA b) (fun u4 eu4 => ?_)
    have hw := hw.2 u4 eu4
    refine mv_aload_n C dX9_bind_26 rfl 0 rfl ?_
    refine mv_get (v := .ref (b 9)) C iw_X9_bind_X9 0 rfl rfl 14 (by decide) lk_X9_bind_34 rfl rfl dX9_bind_27 ?_
    refine mv_aload_n C dX9_bind_30 rfl 0 rfl ?_
    refine mv_get (v := .int (u4.1 4)) C iw_X9_bind_X9 0 rfl rfl 11 (by decide) lk_X9_bind_160 rfl rfl dX9_bind_31 ?_
    refine mv_topi (fun y5 ey5 => ?_)
    have hw := hw y5 ey5
    refine mv_iload_n C dX9_bind_34 rfl 2 rfl ?_
    refine mv_iast (f := u4.2 8) (ws1 := wM cA b (mPut u4 8 y5.toNatClampNeg x2)) C 9 0 rfl rfl hw.1 rfl dX9_bind_35 ?_
    refine mv_nm (f := wM cA b) (fun u6 eu6 => ?_)
    have hw := hw.2 u6 eu6
    refine mv_aload_n C dX9_bind_36 rfl 0 rfl ?_
    refine mv_get (v := .ref (b 10)) C iw_X9_bind_X9 0 rfl rfl 15 (by decide) lk_X9_bind_37 rfl rfl dX9_bind_37 ?_
    refine mv_aload_n C dX9_bind_40 rfl 0 rfl ?_
    refine mv_get (v := .int (u6.1 4)) C iw_X9_bind_X9 0 rfl rfl 11 (by decide) lk_X9_bind_160 rfl rfl dX9_bind_41 ?_
    refine mv_topi (fun y7 ey7 => ?_)
    have hw := hw y7 ey7
    refine mv_iload_n C dX9_bind_44 rfl 3 rfl ?_
    refine mv_iast (f := u6.2 9) (ws1 := wM cA b (mPut u6 9 y7.toNatClampNeg x3)) C 10 0 rfl rfl hw.1 rfl dX9_bind_45 ?_
    refine mv_nm (f := wM cA b) (fun u8 eu8 => ?_)
    have hw := hw.2 u8 eu8
    refine mv_aload_n C dX9_bind_46 rfl 0 rfl ?_
    refine mv_get (v := .ref (b 11)) C iw_X9_bind_X9 0 rfl rfl 16 (by decide) lk_X9_bind_40 rfl rfl dX9_bind_47 ?_
    refine mv_aload_n C dX9_bind_50 rfl 0 rfl ?_
    refine mv_get (v := .int (u8.1 4)) C iw_X9_bind_X9 0 rfl rfl 11 (by decide) lk_X9_bind_160 rfl rfl dX9_bind_51 ?_
    refine mv_topi (fun y9 ey9 => ?_)
    have hw := hw y9 ey9
    refine mv_iload C dX9_bind_54 4 rfl ?_
    refine mv_iast (f := u8.2 10) (ws1 := wM cA b (mPut u8 10 y9.toNatClampNeg x4)) C 11 0 rfl rfl hw.1 rfl dX9_bind_56 ?_
    refine mv_nm (f := wM cA b) (fun u10 eu10 => ?_)
    have hw := hw.2 u10 eu10
    refine mv_aload_n C dX9_bind_57 rfl 0 rfl ?_
    refine mv_get (v := .ref (b 12)) C iw_X9_bind_X9 0 rfl rfl 17 (by decide) lk_X9_bind_43 rfl rfl dX9_bind_58 ?_
    refine mv_aload_n C dX9_bind_61 rfl 0 rfl ?_
    refine mv_get (v := .int (u10.1 4)) C iw_X9_bind_X9 0 rfl rfl 11 (by decide) lk_X9_bind_160 rfl rfl dX9_bind_62 ?_
    refine mv_topi (fun y11 ey11 => ?_)
    have hw := hw y11 ey11
    refine mv_iload C dX9_bind_65 5 rfl ?_
    refine mv_iast (f := u10.2 11) (ws1 := wM cA b (mPut u10 11 y11.toNatClampNeg x5)) C 12 0 rfl rfl hw.1 rfl dX9_bind_67 ?_
    refine mv_nm (f := wM cA b) (fun u12 eu12 => ?_)
    have hw := hw.2 u12 eu12
    refine mv_aload_n C dX9_bind_68 rfl 0 rfl ?_
    refine mv_dup C dX9_bind_69 rfl ?_
    refine mv_get (v := .int (u12.1 4)) C iw_X9_bind_X9 0 rfl rfl 11 (by decide) lk_X9_bind_160 rfl rfl dX9_bind_70 ?_
    refine mv_topi (fun y13 ey13 => ?_)
    have hw := hw y13 ey13
    refine mv_iconst (v := (1 : Int32)) C dX9_bind_73 (by decide) ?_
    refine mv_iadd C dX9_bind_74 ?_
    refine mv_topi (fun y14 ey14 => ?_)
    have hw := hw y14 ey14
    refine mv_put (ty := .int) (ws1 := wM cA b (mSet u12 4 y14)) C iw_X9_bind_X9 tyX9 tyX9_ok nmX9 0 rfl rfl 11 (by decide) lk_X9_bind_160 rfl rfl rfl rfl rfl (Nat.le_of_ble_eq_true rfl) rfl dX9_bind_75 ?_
    refine mv_nm (f := wM cA b) (fun u15 eu15 => ?_)
    have hw := hw u15 eu15
    exact mv_vret C dX9_bind_78 hw
  · have hw := hw.2 h2
    refine mv_aload_n C dX9_bind_9 rfl 0 rfl ?_
    refine mv_bipush (v := (6 : Int32)) C dX9_bind_10 (by decide) ?_
    refine mv_callVv (f := wM cA b) (As := [.int (6 : Int32)]) (rest := []) C eM_ok hs 0 rfl rfl (X9_fails_met (l := l) (lev := lev - 1) (by omega) hw) (cwV 1 C.2.2.2.2.1 gX9_bind_X9_fails rfl rfl rfl (by decide +kernel) (mRm_le (by omega) (by decide))) rfl rfl (Nat.le_of_ble_eq_true rfl) dX9_bind_12 ⟨Nat.le_refl 0, Nat.le_refl 0⟩ (fun u17 hw => ?_)
    exact mv_vret C dX9_bind_15 hw
set_option maxHeartbeats 4000000 in
set_option maxRecDepth 100000 in
theorem wj_X9_beginning_90_ok (C : mC p s m args meth c cX9_beginning 2 wsX9_beginning RX9 none (dC, dI) vwCl [(cA, .int)] A) (hs : eM A s) (hlev : 2 ≤ lev) {post : mS → Prop} {K90 : Int32 → mS → Prop} (hK90 : ∀ (x1 : Int32) (u : mS), K90 x1 u → mV p l e (mRm lev) s m args below meth c 2 (dC, dI) vwCl A 0 0 (mQv below args s (dC, dI) vwCl [(cA, .int)] (wM cA b) A post) (wM cA b u) 90 [(0, .ref (b 0)), (1, .int x1)] []) {x1 : Int32} {u : mS} (hw : wj_X9_beginning_90 K90 post x1 u) : mV p l e (mRm lev) s m args below meth c 2 (dC, dI) vwCl A 0 0 (mQv below args s (dC, dI) vwCl [(cA, .int)] (wM cA b) A post) (wM cA b u) 90 [(0, .ref (b 0)), (1, .int x1)] [] := by
  unfold wj_X9_beginning_90 at hw
  refine mv_iload_n C dX9_beginning_90 rfl 1 rfl ?_
  refine mv_aload_n C dX9_beginning_91 rfl 0 rfl ?_
  refine mv_get (v := .int (u.1 3)) C iw_X9_beginning_X9 0 rfl rfl 8 (by decide) lk_X9_beginning_157 rfl rfl dX9_beginning_92 ?_
  refine mv_topi (fun y18 ey18 => ?_)
  have hw := hw y18 ey18
  refine mv_icmp_ge (tgt := 126) C dX9_beginning_95 (by decide) (fun h19 => ?_) (fun h19 => ?_)
  · have hw := hw.1 h19
    refine mv_aload_n C dX9_beginning_126 rfl 0 rfl ?_
    refine mv_aload_n C dX9_beginning_127 rfl 0 rfl ?_
    refine mv_get (v := .int (u.1 4)) C iw_X9_beginning_X9 0 rfl rfl 11 (by decide) lk_X9_beginning_160 rfl rfl dX9_beginning_128 ?_
    refine mv_topi (fun y20 ey20 => ?_)
    have hw := hw y20 ey20
    refine mv_put (ty := .int) (ws1 := wM cA b (mSet u 5 y20)) C iw_X9_beginning_X9 tyX9 tyX9_ok nmX9 0 rfl rfl 12 (by decide) lk_X9_beginning_175 rfl rfl rfl rfl rfl (Nat.le_of_ble_eq_true rfl) rfl dX9_beginning_131 ?_
    refine mv_nm (f := wM cA b) (fun u21 eu21 => ?_)
    have hw := hw u21 eu21
    exact mv_vret C dX9_beginning_134 hw
  · have hw := hw.2 h19
    refine mv_aload_n C dX9_beginning_98 rfl 0 rfl ?_
    refine mv_aload_n C dX9_beginning_99 rfl 0 rfl ?_
    refine mv_get (v := .ref (b 6)) C iw_X9_beginning_X9 0 rfl rfl 9 (by decide) lk_X9_beginning_25 rfl rfl dX9_beginning_100 ?_
    refine mv_iload_n C dX9_beginning_103 rfl 1 rfl ?_
    refine mv_iald (f := u.2 5) C 6 0 rfl rfl hw.1 dX9_beginning_104 ?_
    refine mv_topi (fun y22 ey22 => ?_)
    have hw := hw.2 y22 ey22
    refine mv_iconst (v := (0 : Int32)) C dX9_beginning_105 (by decide) ?_
    refine mv_iconst (v := (3 : Int32)) C dX9_beginning_106 (by decide) ?_
    refine mv_bipush (v := (120 : Int32)) C dX9_beginning_107 (by decide) ?_
    refine mv_iload_n C dX9_beginning_109 rfl 1 rfl ?_
    refine mv_imul C dX9_beginning_110 ?_
    refine mv_topi (fun y23 ey23 => ?_)
    have hw := hw y23 ey23
    refine mv_aload_n C dX9_beginning_111 rfl 0 rfl ?_
    refine mv_get (v := .ref (b 7)) C iw_X9_beginning_X9 0 rfl rfl 10 (by decide) lk_X9_beginning_28 rfl rfl dX9_beginning_112 ?_
    refine mv_iload_n C dX9_beginning_115 rfl 1 rfl ?_
    refine mv_iald (f := u.2 6) C 7 0 rfl rfl hw.1 dX9_beginning_116 ?_
    refine mv_topi (fun y24 ey24 => ?_)
    have hw := hw.2 y24 ey24
    refine mv_callVv (f := wM cA b) (As := [.int y22, .int (0 : Int32), .int (3 : Int32), .int y23, .int y24]) (rest := []) C eM_ok hs 0 rfl rfl (X9_bind_met (l := l) (lev := lev - 1) (by omega) hw) (cwV 5 C.2.2.2.2.1 gX9_beginning_X9_bind rfl rfl rfl (by decide +kernel) (mRm_le (by omega) (by decide))) rfl rfl (Nat.le_of_ble_eq_true rfl) dX9_beginning_117 ⟨Nat.le_refl 0, Nat.le_refl 0⟩ (fun u26 hw => ?_)
    obtain ⟨y27, ey27⟩ : ∃ z : Int32, z = x1 + (1 : Int32) := ⟨_, rfl⟩
    have hw := hw y27 ey27
    refine mv_iinc (v := y27) (lv1 := [(1, .int y27), (0, .ref (b 0))]) C dX9_beginning_120 1 rfl (by rw [ey27]; rfl) (by decide) rfl ?_
    refine mv_goto (tgt := 90) C dX9_beginning_123 (by decide) ?_
    refine mv_sub [1, 0] rfl ?_
    exact hK90 y27 u26 hw
set_option maxHeartbeats 4000000 in
set_option maxRecDepth 100000 in
theorem X9_beginning_met (hlev : 2 ≤ lev) {u : mS} {post : mS → Prop} (hw : wp_X9_beginning  u post) : mKv l yX9_beginning wsX9_beginning lev (eM) (dC, dI) vwCl [(cA, .int)] (wM cA b) [.ref (b 0)] u post := by
  refine mKv_of (cc := cX9_beginning) (maxL := 2) (by decide) rfl rfl (Nat.le_of_ble_eq_true rfl) rfl ?_
  intro p e s m args below meth c A C hs
  unfold wp_X9_beginning at hw
  refine mv_aload_n C dX9_beginning_0 rfl 0 rfl ?_
  refine mv_iconst (v := (0 : Int32)) C dX9_beginning_1 (by decide) ?_
  refine mv_put (ty := .int) (ws1 := wM cA b (mSet u 4 (0 : Int32))) C iw_X9_beginning_X9 tyX9 tyX9_ok nmX9 0 rfl rfl 11 (by decide) lk_X9_beginning_160 rfl rfl rfl rfl rfl (Nat.le_of_ble_eq_true rfl) rfl dX9_beginning_2 ?_
  refine mv_nm (f := wM cA b) (fun u1 eu1 => ?_)
  have hw := hw u1 eu1
  refine mv_aload_n C dX9_beginning_5 rfl 0 rfl ?_
  refine mv_sipush (v := (206 : Int32)) C dX9_beginning_6 (by decide) ?_
  refine mv_iconst (v := (0 : Int32)) C dX9_beginning_9 (by decide) ?_
  refine mv_iconst (v := (0 : Int32)) C dX9_beginning_10 (by decide) ?_
  refine mv_iconst (v := (0 : Int32)) C dX9_beginning_11 (by decide) ?_
  refine mv_iconst (v := (0 : Int32)) C dX9_beginning_12 (by decide) ?_
  refine mv_callVv (f := wM cA b) (As := [.int (206 : Int32), .int (0 : Int32), .int (0 : Int32), .int (0 : Int32), .int (0 : Int32)]) (rest := []) C eM_ok hs 0 rfl rfl (X9_bind_met (l := l) (lev := lev - 1) (by omega) hw) (cwV 5 C.2.2.2.2.1 gX9_beginning_X9_bind rfl rfl rfl (by decide +kernel) (mRm_le (by omega) (by decide))) rfl rfl (Nat.le_of_ble_eq_true rfl) dX9_beginning_13 ⟨Nat.le_refl 0, Nat.le_refl 0⟩ (fun u3 hw => ?_)
  refine mv_aload_n C dX9_beginning_16 rfl 0 rfl ?_
  refine mv_sipush (v := (294 : Int32)) C dX9_beginning_17 (by decide) ?_
  refine mv_iconst (v := (0 : Int32)) C dX9_beginning_20 (by decide) ?_
  refine mv_iconst (v := (0 : Int32)) C dX9_beginning_21 (by decide) ?_
  refine mv_iconst (v := (1 : Int32)) C dX9_beginning_22 (by decide) ?_
  refine mv_iconst (v := (0 : Int32)) C dX9_beginning_23 (by decide) ?_
  refine mv_callVv (f := wM cA b) (As := [.int (294 : Int32), .int (0 : Int32), .int (0 : Int32), .int (1 : Int32), .int (0 : Int32)]) (rest := []) C eM_ok hs 0 rfl rfl (X9_bind_met (l := l) (lev := lev - 1) (by omega) hw) (cwV 5 C.2.2.2.2.1 gX9_beginning_X9_bind rfl rfl rfl (by decide +kernel) (mRm_le (by omega) (by decide))) rfl rfl (Nat.le_of_ble_eq_true rfl) dX9_beginning_24 ⟨Nat.le_refl 0, Nat.le_refl 0⟩ (fun u5 hw => ?_)
  refine mv_aload_n C dX9_beginning_27 rfl 0 rfl ?_
  refine mv_bipush (v := (17 : Int32)) C dX9_beginning_28 (by decide) ?_
  refine mv_iconst (v := (0 : Int32)) C dX9_beginning_30 (by decide) ?_
  refine mv_iconst (v := (0 : Int32)) C dX9_beginning_31 (by decide) ?_
  refine mv_iconst (v := (2 : Int32)) C dX9_beginning_32 (by decide) ?_
  refine mv_iconst (v := (0 : Int32)) C dX9_beginning_33 (by decide) ?_
  refine mv_callVv (f := wM cA b) (As := [.int (17 : Int32), .int (0 : Int32), .int (0 : Int32), .int (2 : Int32), .int (0 : Int32)]) (rest := []) C eM_ok hs 0 rfl rfl (X9_bind_met (l := l) (lev := lev - 1) (by omega) hw) (cwV 5 C.2.2.2.2.1 gX9_beginning_X9_bind rfl rfl rfl (by decide +kernel) (mRm_le (by omega) (by decide))) rfl rfl (Nat.le_of_ble_eq_true rfl) dX9_beginning_34 ⟨Nat.le_refl 0, Nat.le_refl 0⟩ (fun u7 hw => ?_)
  refine mv_aload_n C dX9_beginning_37 rfl 0 rfl ?_
  refine mv_sipush (v := (403 : Int32)) C dX9_beginning_38 (by decide) ?_
  refine mv_iconst (v := (0 : Int32)) C dX9_beginning_41 (by decide) ?_
  refine mv_iconst (v := (0 : Int32)) C dX9_beginning_42 (by decide) ?_
  refine mv_iconst (v := (3 : Int32)) C dX9_beginning_43 (by decide) ?_
  refine mv_iconst (v := (0 : Int32)) C dX9_beginning_44 (by decide) ?_
  refine mv_callVv (f := wM cA b) (As := [.int (403 : Int32), .int (0 : Int32), .int (0 : Int32), .int (3 : Int32), .int (0 : Int32)]) (rest := []) C eM_ok hs 0 rfl rfl (X9_bind_met (l := l) (lev := lev - 1) (by omega) hw) (cwV 5 C.2.2.2.2.1 gX9_beginning_X9_bind rfl rfl rfl (by decide +kernel) (mRm_le (by omega) (by decide))) rfl rfl (Nat.le_of_ble_eq_true rfl) dX9_beginning_45 ⟨Nat.le_refl 0, Nat.le_refl 0⟩ (fun u9 hw => ?_)
  refine mv_aload_n C dX9_beginning_48 rfl 0 rfl ?_
  refine mv_ldc (v := (40043 : Int32)) C mw_X9_beginning__constant_RX9_171_40043_Int32_ dX9_beginning_49 ?_
  refine mv_iconst (v := (0 : Int32)) C dX9_beginning_51 (by decide) ?_
  refine mv_iconst (v := (1 : Int32)) C dX9_beginning_52 (by decide) ?_
  refine mv_iconst (v := (0 : Int32)) C dX9_beginning_53 (by decide) ?_
  refine mv_iconst (v := (0 : Int32)) C dX9_beginning_54 (by decide) ?_
  refine mv_callVv (f := wM cA b) (As := [.int (40043 : Int32), .int (0 : Int32), .int (1 : Int32), .int (0 : Int32), .int (0 : Int32)]) (rest := []) C eM_ok hs 0 rfl rfl (X9_bind_met (l := l) (lev := lev - 1) (by omega) hw) (cwV 5 C.2.2.2.2.1 gX9_beginning_X9_bind rfl rfl rfl (by decide +kernel) (mRm_le (by omega) (by decide))) rfl rfl (Nat.le_of_ble_eq_true rfl) dX9_beginning_55 ⟨Nat.le_refl 0, Nat.le_refl 0⟩ (fun u11 hw => ?_)
  refine mv_aload_n C dX9_beginning_58 rfl 0 rfl ?_
  refine mv_ldc (v := (40042 : Int32)) C mw_X9_beginning__constant_RX9_172_40042_Int32_ dX9_beginning_59 ?_
  refine mv_iconst (v := (0 : Int32)) C dX9_beginning_61 (by decide) ?_
  refine mv_iconst (v := (1 : Int32)) C dX9_beginning_62 (by decide) ?_
  refine mv_iconst (v := (0 : Int32)) C dX9_beginning_63 (by decide) ?_
  refine mv_iconst (v := (0 : Int32)) C dX9_beginning_64 (by decide) ?_
  refine mv_callVv (f := wM cA b) (As := [.int (40042 : Int32), .int (0 : Int32), .int (1 : Int32), .int (0 : Int32), .int (0 : Int32)]) (rest := []) C eM_ok hs 0 rfl rfl (X9_bind_met (l := l) (lev := lev - 1) (by omega) hw) (cwV 5 C.2.2.2.2.1 gX9_beginning_X9_bind rfl rfl rfl (by decide +kernel) (mRm_le (by omega) (by decide))) rfl rfl (Nat.le_of_ble_eq_true rfl) dX9_beginning_65 ⟨Nat.le_refl 0, Nat.le_refl 0⟩ (fun u13 hw => ?_)
  refine mv_aload_n C dX9_beginning_68 rfl 0 rfl ?_
  refine mv_ldc (v := (40061 : Int32)) C mw_X9_beginning__constant_RX9_173_40061_Int32_ dX9_beginning_69 ?_
  refine mv_iconst (v := (0 : Int32)) C dX9_beginning_71 (by decide) ?_
  refine mv_iconst (v := (1 : Int32)) C dX9_beginning_72 (by decide) ?_
  refine mv_iconst (v := (0 : Int32)) C dX9_beginning_73 (by decide) ?_
  refine mv_iconst (v := (0 : Int32)) C dX9_beginning_74 (by decide) ?_
  refine mv_callVv (f := wM cA b) (As := [.int (40061 : Int32), .int (0 : Int32), .int (1 : Int32), .int (0 : Int32), .int (0 : Int32)]) (rest := []) C eM_ok hs 0 rfl rfl (X9_bind_met (l := l) (lev := lev - 1) (by omega) hw) (cwV 5 C.2.2.2.2.1 gX9_beginning_X9_bind rfl rfl rfl (by decide +kernel) (mRm_le (by omega) (by decide))) rfl rfl (Nat.le_of_ble_eq_true rfl) dX9_beginning_75 ⟨Nat.le_refl 0, Nat.le_refl 0⟩ (fun u15 hw => ?_)
  refine mv_aload_n C dX9_beginning_78 rfl 0 rfl ?_
  refine mv_ldc (v := (40060 : Int32)) C mw_X9_beginning__constant_RX9_174_40060_Int32_ dX9_beginning_79 ?_
  refine mv_iconst (v := (0 : Int32)) C dX9_beginning_81 (by decide) ?_
  refine mv_iconst (v := (1 : Int32)) C dX9_beginning_82 (by decide) ?_
  refine mv_iconst (v := (0 : Int32)) C dX9_beginning_83 (by decide) ?_
  refine mv_iconst (v := (0 : Int32)) C dX9_beginning_84 (by decide) ?_
  refine mv_callVv (f := wM cA b) (As := [.int (40060 : Int32), .int (0 : Int32), .int (1 : Int32), .int (0 : Int32), .int (0 : Int32)]) (rest := []) C eM_ok hs 0 rfl rfl (X9_bind_met (l := l) (lev := lev - 1) (by omega) hw) (cwV 5 C.2.2.2.2.1 gX9_beginning_X9_bind rfl rfl rfl (by decide +kernel) (mRm_le (by omega) (by decide))) rfl rfl (Nat.le_of_ble_eq_true rfl) dX9_beginning_85 ⟨Nat.le_refl 0, Nat.le_refl 0⟩ (fun u17 hw => ?_)
  refine mv_iconst (v := (0 : Int32)) C dX9_beginning_88 (by decide) ?_
  refine mv_istore_n (lv1 := [(1, .int (0 : Int32)), (0, .ref (b 0))]) C dX9_beginning_89 rfl (by decide) rfl ?_
  refine mv_sub [1, 0] rfl ?_
  obtain ⟨n, hw⟩ := hw
  exact mL2_of (fun K hK b0 b1 hw => wj_X9_beginning_90_ok C hs hlev hK hw) n (0 : Int32) u17 hw
set_option maxHeartbeats 4000000 in
set_option maxRecDepth 100000 in
theorem X9_put_met (hlev : 1 ≤ lev) {x1 : Int32} {u : mS} {post : mS → Prop} (hw : wp_X9_put x1 u post) : mKv l yX9_put wsX9_put lev (eM) (dC, dI) vwCl [(cA, .int)] (wM cA b) [.ref (b 0), .int x1] u post := by
  refine mKv_of (cc := cX9_put) (maxL := 2) (by decide) rfl rfl (Nat.le_of_ble_eq_true rfl) rfl ?_
  intro p e s m args below meth c A C hs
  unfold wp_X9_put at hw
  refine mv_aload_n C dX9_put_0 rfl 0 rfl ?_
  refine mv_get (v := .int (u.1 12)) C iw_X9_put_X9 0 rfl rfl 32 (by decide) lk_X9_put_178 rfl rfl dX9_put_1 ?_
  refine mv_topi (fun y1 ey1 => ?_)
  have hw := hw y1 ey1
  refine mv_if_eq (tgt := 8) C dX9_put_4 (by decide) (fun h2 => ?_) (fun h2 => ?_)
  · have hw := hw.1 h2
    refine mv_aload_n C dX9_put_8 rfl 0 rfl ?_
    refine mv_get (v := .int (u.1 9)) C iw_X9_put_X9 0 rfl rfl 29 (by decide) lk_X9_put_184 rfl rfl dX9_put_9 ?_
    refine mv_topi (fun y3 ey3 => ?_)
    have hw := hw y3 ey3
    refine mv_sipush (v := (200 : Int32)) C dX9_put_12 (by decide) ?_
    refine mv_icmp_ne (tgt := 25) C dX9_put_15 (by decide) (fun h4 => ?_) (fun h4 => ?_)
    · have hw := hw.1 h4
      refine mv_aload_n C dX9_put_25 rfl 0 rfl ?_
      refine mv_get (v := .ref (b 20)) C iw_X9_put_X9 0 rfl rfl 28 (by decide) lk_X9_put_67 rfl rfl dX9_put_26 ?_
      refine mv_aload_n C dX9_put_29 rfl 0 rfl ?_
      refine mv_get (v := .int (u.1 9)) C iw_X9_put_X9 0 rfl rfl 29 (by decide) lk_X9_put_184 rfl rfl dX9_put_30 ?_
      refine mv_topi (fun y5 ey5 => ?_)
      have hw := hw y5 ey5
      refine mv_iload_n C dX9_put_33 rfl 1 rfl ?_
      refine mv_iast (f := u.2 19) (ws1 := wM cA b (mPut u 19 y5.toNatClampNeg x1)) C 20 0 rfl rfl hw.1 rfl dX9_put_34 ?_
      refine mv_nm (f := wM cA b) (fun u6 eu6 => ?_)
      have hw := hw.2 u6 eu6
      refine mv_aload_n C dX9_put_35 rfl 0 rfl ?_
      refine mv_dup C dX9_put_36 rfl ?_
      refine mv_get (v := .int (u6.1 9)) C iw_X9_put_X9 0 rfl rfl 29 (by decide) lk_X9_put_184 rfl rfl dX9_put_37 ?_
      refine mv_topi (fun y7 ey7 => ?_)
      have hw := hw y7 ey7
      refine mv_iconst (v := (1 : Int32)) C dX9_put_40 (by decide) ?_
      refine mv_iadd C dX9_put_41 ?_
      refine mv_topi (fun y8 ey8 => ?_)
      have hw := hw y8 ey8
      refine mv_put (ty := .int) (ws1 := wM cA b (mSet u6 9 y8)) C iw_X9_put_X9 tyX9 tyX9_ok nmX9 0 rfl rfl 29 (by decide) lk_X9_put_184 rfl rfl rfl rfl rfl (Nat.le_of_ble_eq_true rfl) rfl dX9_put_42 ?_
      refine mv_nm (f := wM cA b) (fun u9 eu9 => ?_)
      have hw := hw u9 eu9
      exact mv_vret C dX9_put_45 hw
    · have hw := hw.2 h4
      refine mv_aload_n C dX9_put_18 rfl 0 rfl ?_
      refine mv_bipush (v := (6 : Int32)) C dX9_put_19 (by decide) ?_
      refine mv_callVv (f := wM cA b) (As := [.int (6 : Int32)]) (rest := []) C eM_ok hs 0 rfl rfl (X9_fails_met (l := l) (lev := lev - 1) (by omega) hw) (cwV 1 C.2.2.2.2.1 gX9_put_X9_fails rfl rfl rfl (by decide +kernel) (mRm_le (by omega) (by decide))) rfl rfl (Nat.le_of_ble_eq_true rfl) dX9_put_21 ⟨Nat.le_refl 0, Nat.le_refl 0⟩ (fun u11 hw => ?_)
      exact mv_vret C dX9_put_24 hw
  · have hw := hw.2 h2
    exact mv_vret C dX9_put_7 hw
set_option maxHeartbeats 4000000 in
set_option maxRecDepth 100000 in
theorem wj_X9_space_13_ok (C : mC p s m args meth c cX9_space 1 wsX9_space RX9 none (dC, dI) vwCl [(cA, .int)] A) (hs : eM A s) (hlev : 2 ≤ lev) {post : mS → Prop} {u : mS} (hw : wj_X9_space_13 post  u) : mV p l e (mRm lev) s m args below meth c 1 (dC, dI) vwCl A 0 0 (mQv below args s (dC, dI) vwCl [(cA, .int)] (wM cA b) A post) (wM cA b u) 13 [(0, .ref (b 0))] [] := by
  unfold wj_X9_space_13 at hw
  refine mv_aload_n C dX9_space_13 rfl 0 rfl ?_
  refine mv_iconst (v := (1 : Int32)) C dX9_space_14 (by decide) ?_
  refine mv_put (ty := .boolean) (ws1 := wM cA b (mSet u 10 (1 : Int32))) C iw_X9_space_X9 tyX9 tyX9_ok nmX9 0 rfl rfl 30 (by decide) lk_X9_space_187 rfl rfl rfl (by decide) (by decide) (Nat.le_of_ble_eq_true rfl) rfl dX9_space_15 ?_
  refine mv_nm (f := wM cA b) (fun u5 eu5 => ?_)
  have hw := hw u5 eu5
  exact mv_vret C dX9_space_18 hw
set_option maxHeartbeats 4000000 in
set_option maxRecDepth 100000 in
theorem X9_space_met (hlev : 2 ≤ lev) {u : mS} {post : mS → Prop} (hw : wp_X9_space  u post) : mKv l yX9_space wsX9_space lev (eM) (dC, dI) vwCl [(cA, .int)] (wM cA b) [.ref (b 0)] u post := by
  refine mKv_of (cc := cX9_space) (maxL := 1) (by decide) rfl rfl (Nat.le_of_ble_eq_true rfl) rfl ?_
  intro p e s m args below meth c A C hs
  unfold wp_X9_space at hw
  refine mv_aload_n C dX9_space_0 rfl 0 rfl ?_
  refine mv_get (v := .int (u.1 10)) C iw_X9_space_X9 0 rfl rfl 30 (by decide) lk_X9_space_187 rfl rfl dX9_space_1 ?_
  refine mv_topi (fun y1 ey1 => ?_)
  have hw := hw y1 ey1
  refine mv_if_eq (tgt := 13) C dX9_space_4 (by decide) (fun h2 => ?_) (fun h2 => ?_)
  · have hw := hw.1 h2
    exact wj_X9_space_13_ok C hs hlev hw
  · have hw := hw.2 h2
    refine mv_aload_n C dX9_space_7 rfl 0 rfl ?_
    refine mv_bipush (v := (32 : Int32)) C dX9_space_8 (by decide) ?_
    refine mv_callVv (f := wM cA b) (As := [.int (32 : Int32)]) (rest := []) C eM_ok hs 0 rfl rfl (X9_put_met (l := l) (lev := lev - 1) (by omega) hw) (cwV 1 C.2.2.2.2.1 gX9_space_X9_put rfl rfl rfl (by decide +kernel) (mRm_le (by omega) (by decide))) rfl rfl (Nat.le_of_ble_eq_true rfl) dX9_space_10 ⟨Nat.le_refl 0, Nat.le_refl 0⟩ (fun u4 hw => ?_)
    exact wj_X9_space_13_ok C hs hlev hw
set_option maxHeartbeats 4000000 in
set_option maxRecDepth 100000 in
theorem wj_X9_putName_54_ok (C : mC p s m args meth c cX9_putName 2 wsX9_putName RX9 none (dC, dI) vwCl [(cA, .int)] A) (hs : eM A s) (hlev : 2 ≤ lev) {post : mS → Prop} {x1 : Int32} {u : mS} (hw : wj_X9_putName_54 post x1 u) : mV p l e (mRm lev) s m args below meth c 2 (dC, dI) vwCl A 0 0 (mQv below args s (dC, dI) vwCl [(cA, .int)] (wM cA b) A post) (wM cA b u) 54 [(0, .ref (b 0)), (1, .int x1)] [] := by
  unfold wj_X9_putName_54 at hw
  refine mv_aload_n C dX9_putName_54 rfl 0 rfl ?_
  refine mv_bipush (v := (96 : Int32)) C dX9_putName_55 (by decide) ?_
  refine mv_iload_n C dX9_putName_57 rfl 1 rfl ?_
  refine mv_bipush (v := (32 : Int32)) C dX9_putName_58 (by decide) ?_
  refine mv_irem C dX9_putName_60 (by decide) ?_
  refine mv_topi (fun y16 ey16 => ?_)
  have hw := hw y16 ey16
  refine mv_iadd C dX9_putName_61 ?_
  refine mv_topi (fun y17 ey17 => ?_)
  have hw := hw y17 ey17
  refine mv_callVv (f := wM cA b) (As := [.int y17]) (rest := []) C eM_ok hs 0 rfl rfl (X9_put_met (l := l) (lev := lev - 1) (by omega) hw) (cwV 1 C.2.2.2.2.1 gX9_putName_X9_put rfl rfl rfl (by decide +kernel) (mRm_le (by omega) (by decide))) rfl rfl (Nat.le_of_ble_eq_true rfl) dX9_putName_62 ⟨Nat.le_refl 0, Nat.le_refl 0⟩ (fun u19 hw => ?_)
  exact mv_vret C dX9_putName_65 hw
set_option maxHeartbeats 4000000 in
set_option maxRecDepth 100000 in
theorem wj_X9_putName_34_ok (C : mC p s m args meth c cX9_putName 2 wsX9_putName RX9 none (dC, dI) vwCl [(cA, .int)] A) (hs : eM A s) (hlev : 2 ≤ lev) {post : mS → Prop} {x1 : Int32} {u : mS} (hw : wj_X9_putName_34 post x1 u) : mV p l e (mRm lev) s m args below meth c 2 (dC, dI) vwCl A 0 0 (mQv below args s (dC, dI) vwCl [(cA, .int)] (wM cA b) A post) (wM cA b u) 34 [(0, .ref (b 0)), (1, .int x1)] [] := by
  unfold wj_X9_putName_34 at hw
  refine mv_iload_n C dX9_putName_34 rfl 1 rfl ?_
  refine mv_bipush (v := (32 : Int32)) C dX9_putName_35 (by decide) ?_
  refine mv_icmp_lt (tgt := 54) C dX9_putName_37 (by decide) (fun h10 => ?_) (fun h10 => ?_)
  · have hw := hw.1 h10
    exact wj_X9_putName_54_ok C hs hlev hw
  · have hw := hw.2 h10
    refine mv_aload_n C dX9_putName_40 rfl 0 rfl ?_
    refine mv_bipush (v := (96 : Int32)) C dX9_putName_41 (by decide) ?_
    refine mv_iload_n C dX9_putName_43 rfl 1 rfl ?_
    refine mv_bipush (v := (32 : Int32)) C dX9_putName_44 (by decide) ?_
    refine mv_idiv C dX9_putName_46 (by decide) ?_
    refine mv_topi (fun y11 ey11 => ?_)
    have hw := hw y11 ey11
    refine mv_bipush (v := (32 : Int32)) C dX9_putName_47 (by decide) ?_
    refine mv_irem C dX9_putName_49 (by decide) ?_
    refine mv_topi (fun y12 ey12 => ?_)
    have hw := hw y12 ey12
    refine mv_iadd C dX9_putName_50 ?_
    refine mv_topi (fun y13 ey13 => ?_)
    have hw := hw y13 ey13
    refine mv_callVv (f := wM cA b) (As := [.int y13]) (rest := []) C eM_ok hs 0 rfl rfl (X9_put_met (l := l) (lev := lev - 1) (by omega) hw) (cwV 1 C.2.2.2.2.1 gX9_putName_X9_put rfl rfl rfl (by decide +kernel) (mRm_le (by omega) (by decide))) rfl rfl (Nat.le_of_ble_eq_true rfl) dX9_putName_51 ⟨Nat.le_refl 0, Nat.le_refl 0⟩ (fun u15 hw => ?_)
    exact wj_X9_putName_54_ok C hs hlev hw
set_option maxHeartbeats 4000000 in
set_option maxRecDepth 100000 in
theorem X9_putName_met (hlev : 2 ≤ lev) {x1 : Int32} {u : mS} {post : mS → Prop} (hw : wp_X9_putName x1 u post) : mKv l yX9_putName wsX9_putName lev (eM) (dC, dI) vwCl [(cA, .int)] (wM cA b) [.ref (b 0), .int x1] u post := by
  refine mKv_of (cc := cX9_putName) (maxL := 2) (by decide) rfl rfl (Nat.le_of_ble_eq_true rfl) rfl ?_
  intro p e s m args below meth c A C hs
  unfold wp_X9_putName at hw
  refine mv_iload_n C dX9_putName_0 rfl 1 rfl ?_
  refine mv_ldc (v := (40000 : Int32)) C mw_X9_putName__constant_RX9_92_40000_Int32_ dX9_putName_1 ?_
  refine mv_icmp_lt (tgt := 15) C dX9_putName_3 (by decide) (fun h1 => ?_) (fun h1 => ?_)
  · have hw := hw.1 h1
    refine mv_iload_n C dX9_putName_15 rfl 1 rfl ?_
    refine mv_sipush (v := (1024 : Int32)) C dX9_putName_16 (by decide) ?_
    refine mv_icmp_lt (tgt := 34) C dX9_putName_19 (by decide) (fun h2 => ?_) (fun h2 => ?_)
    · have hw := hw.1 h2
      exact wj_X9_putName_34_ok C hs hlev hw
    · have hw := hw.2 h2
      refine mv_aload_n C dX9_putName_22 rfl 0 rfl ?_
      refine mv_bipush (v := (96 : Int32)) C dX9_putName_23 (by decide) ?_
      refine mv_iload_n C dX9_putName_25 rfl 1 rfl ?_
      refine mv_sipush (v := (1024 : Int32)) C dX9_putName_26 (by decide) ?_
      refine mv_idiv C dX9_putName_29 (by decide) ?_
      refine mv_topi (fun y3 ey3 => ?_)
      have hw := hw y3 ey3
      refine mv_iadd C dX9_putName_30 ?_
      refine mv_topi (fun y4 ey4 => ?_)
      have hw := hw y4 ey4
      refine mv_callVv (f := wM cA b) (As := [.int y4]) (rest := []) C eM_ok hs 0 rfl rfl (X9_put_met (l := l) (lev := lev - 1) (by omega) hw) (cwV 1 C.2.2.2.2.1 gX9_putName_X9_put rfl rfl rfl (by decide +kernel) (mRm_le (by omega) (by decide))) rfl rfl (Nat.le_of_ble_eq_true rfl) dX9_putName_31 ⟨Nat.le_refl 0, Nat.le_refl 0⟩ (fun u6 hw => ?_)
      exact wj_X9_putName_34_ok C hs hlev hw
  · have hw := hw.2 h1
    refine mv_aload_n C dX9_putName_6 rfl 0 rfl ?_
    refine mv_iload_n C dX9_putName_7 rfl 1 rfl ?_
    refine mv_ldc (v := (40000 : Int32)) C mw_X9_putName__constant_RX9_92_40000_Int32_ dX9_putName_8 ?_
    refine mv_isub C dX9_putName_10 ?_
    refine mv_topi (fun y7 ey7 => ?_)
    have hw := hw y7 ey7
    refine mv_callVv (f := wM cA b) (As := [.int y7]) (rest := []) C eM_ok hs 0 rfl rfl (X9_put_met (l := l) (lev := lev - 1) (by omega) hw) (cwV 1 C.2.2.2.2.1 gX9_putName_X9_put rfl rfl rfl (by decide +kernel) (mRm_le (by omega) (by decide))) rfl rfl (Nat.le_of_ble_eq_true rfl) dX9_putName_11 ⟨Nat.le_refl 0, Nat.le_refl 0⟩ (fun u9 hw => ?_)
    exact mv_vret C dX9_putName_14 hw
set_option maxHeartbeats 4000000 in
set_option maxRecDepth 100000 in
theorem X9_putClose_met (hlev : 2 ≤ lev) {u : mS} {post : mS → Prop} (hw : wp_X9_putClose  u post) : mKv l yX9_putClose wsX9_putClose lev (eM) (dC, dI) vwCl [(cA, .int)] (wM cA b) [.ref (b 0)] u post := by
  refine mKv_of (cc := cX9_putClose) (maxL := 1) (by decide) rfl rfl (Nat.le_of_ble_eq_true rfl) rfl ?_
  intro p e s m args below meth c A C hs
  unfold wp_X9_putClose at hw
  refine mv_aload_n C dX9_putClose_0 rfl 0 rfl ?_
  refine mv_bipush (v := (41 : Int32)) C dX9_putClose_1 (by decide) ?_
  refine mv_callVv (f := wM cA b) (As := [.int (41 : Int32)]) (rest := []) C eM_ok hs 0 rfl rfl (X9_put_met (l := l) (lev := lev - 1) (by omega) hw) (cwV 1 C.2.2.2.2.1 gX9_putClose_X9_put rfl rfl rfl (by decide +kernel) (mRm_le (by omega) (by decide))) rfl rfl (Nat.le_of_ble_eq_true rfl) dX9_putClose_3 ⟨Nat.le_refl 0, Nat.le_refl 0⟩ (fun u2 hw => ?_)
  refine mv_aload_n C dX9_putClose_6 rfl 0 rfl ?_
  refine mv_iconst (v := (1 : Int32)) C dX9_putClose_7 (by decide) ?_
  refine mv_put (ty := .boolean) (ws1 := wM cA b (mSet u2 10 (1 : Int32))) C iw_X9_putClose_X9 tyX9 tyX9_ok nmX9 0 rfl rfl 30 (by decide) lk_X9_putClose_187 rfl rfl rfl (by decide) (by decide) (Nat.le_of_ble_eq_true rfl) rfl dX9_putClose_8 ?_
  refine mv_nm (f := wM cA b) (fun u3 eu3 => ?_)
  have hw := hw u3 eu3
  exact mv_vret C dX9_putClose_11 hw
set_option maxHeartbeats 4000000 in
set_option maxRecDepth 100000 in
theorem X9_putOpen_met (hlev : 3 ≤ lev) {u : mS} {post : mS → Prop} (hw : wp_X9_putOpen  u post) : mKv l yX9_putOpen wsX9_putOpen lev (eM) (dC, dI) vwCl [(cA, .int)] (wM cA b) [.ref (b 0)] u post := by
  refine mKv_of (cc := cX9_putOpen) (maxL := 1) (by decide) rfl rfl (Nat.le_of_ble_eq_true rfl) rfl ?_
  intro p e s m args below meth c A C hs
  unfold wp_X9_putOpen at hw
  refine mv_aload_n C dX9_putOpen_0 rfl 0 rfl ?_
  refine mv_callVv (f := wM cA b) (As := []) (rest := []) C eM_ok hs 0 rfl rfl (X9_space_met (l := l) (lev := lev - 1) (by omega) hw) (cwV 0 C.2.2.2.2.1 gX9_putOpen_X9_space rfl rfl rfl (by decide +kernel) (mRm_le (by omega) (by decide))) rfl rfl (Nat.le_of_ble_eq_true rfl) dX9_putOpen_1 ⟨Nat.le_refl 0, Nat.le_refl 0⟩ (fun u2 hw => ?_)
  refine mv_aload_n C dX9_putOpen_4 rfl 0 rfl ?_
  refine mv_bipush (v := (40 : Int32)) C dX9_putOpen_5 (by decide) ?_
  refine mv_callVv (f := wM cA b) (As := [.int (40 : Int32)]) (rest := []) C eM_ok hs 0 rfl rfl (X9_put_met (l := l) (lev := lev - 1) (by omega) hw) (cwV 1 C.2.2.2.2.1 gX9_putOpen_X9_put rfl rfl rfl (by decide +kernel) (mRm_le (by omega) (by decide))) rfl rfl (Nat.le_of_ble_eq_true rfl) dX9_putOpen_7 ⟨Nat.le_refl 0, Nat.le_refl 0⟩ (fun u4 hw => ?_)
  refine mv_aload_n C dX9_putOpen_10 rfl 0 rfl ?_
  refine mv_iconst (v := (0 : Int32)) C dX9_putOpen_11 (by decide) ?_
  refine mv_put (ty := .boolean) (ws1 := wM cA b (mSet u4 10 (0 : Int32))) C iw_X9_putOpen_X9 tyX9 tyX9_ok nmX9 0 rfl rfl 30 (by decide) lk_X9_putOpen_187 rfl rfl rfl (by decide) (by decide) (Nat.le_of_ble_eq_true rfl) rfl dX9_putOpen_12 ?_
  refine mv_nm (f := wM cA b) (fun u5 eu5 => ?_)
  have hw := hw u5 eu5
  exact mv_vret C dX9_putOpen_15 hw
set_option maxHeartbeats 4000000 in
set_option maxRecDepth 100000 in
theorem wj_X9_putNumber_17_ok (C : mC p s m args meth c cX9_putNumber 2 wsX9_putNumber RX9 none (dC, dI) vwCl [(cA, .int)] A) (hs : eM A s) (hlev : 2 ≤ lev) {post : mS → Prop} {x1 : Int32} {u : mS} (hw : wj_X9_putNumber_17 post x1 u) : mV p l e (mRm lev) s m args below meth c 2 (dC, dI) vwCl A 0 0 (mQv below args s (dC, dI) vwCl [(cA, .int)] (wM cA b) A post) (wM cA b u) 17 [(0, .ref (b 0)), (1, .int x1)] [] := by
  unfold wj_X9_putNumber_17 at hw
  refine mv_aload_n C dX9_putNumber_17 rfl 0 rfl ?_
  refine mv_bipush (v := (48 : Int32)) C dX9_putNumber_18 (by decide) ?_
  refine mv_iload_n C dX9_putNumber_20 rfl 1 rfl ?_
  refine mv_bipush (v := (10 : Int32)) C dX9_putNumber_21 (by decide) ?_
  refine mv_irem C dX9_putNumber_23 (by decide) ?_
  refine mv_topi (fun y6 ey6 => ?_)
  have hw := hw y6 ey6
  refine mv_iadd C dX9_putNumber_24 ?_
  refine mv_topi (fun y7 ey7 => ?_)
  have hw := hw y7 ey7
  refine mv_callVv (f := wM cA b) (As := [.int y7]) (rest := []) C eM_ok hs 0 rfl rfl (X9_put_met (l := l) (lev := lev - 1) (by omega) hw) (cwV 1 C.2.2.2.2.1 gX9_putNumber_X9_put rfl rfl rfl (by decide +kernel) (mRm_le (by omega) (by decide))) rfl rfl (Nat.le_of_ble_eq_true rfl) dX9_putNumber_25 ⟨Nat.le_refl 0, Nat.le_refl 0⟩ (fun u9 hw => ?_)
  exact mv_vret C dX9_putNumber_28 hw
set_option maxHeartbeats 4000000 in
set_option maxRecDepth 100000 in
theorem X9_putNumber_met (hlev : 2 ≤ lev) {x1 : Int32} {u : mS} {post : mS → Prop} (hw : wp_X9_putNumber x1 u post) : mKv l yX9_putNumber wsX9_putNumber lev (eM) (dC, dI) vwCl [(cA, .int)] (wM cA b) [.ref (b 0), .int x1] u post := by
  refine mKv_of (cc := cX9_putNumber) (maxL := 2) (by decide) rfl rfl (Nat.le_of_ble_eq_true rfl) rfl ?_
  intro p e s m args below meth c A C hs
  unfold wp_X9_putNumber at hw
  refine mv_iload_n C dX9_putNumber_0 rfl 1 rfl ?_
  refine mv_bipush (v := (9 : Int32)) C dX9_putNumber_1 (by decide) ?_
  refine mv_icmp_le (tgt := 17) C dX9_putNumber_3 (by decide) (fun h1 => ?_) (fun h1 => ?_)
  · have hw := hw.1 h1
    exact wj_X9_putNumber_17_ok C hs hlev hw
  · have hw := hw.2 h1
    refine mv_aload_n C dX9_putNumber_6 rfl 0 rfl ?_
    refine mv_bipush (v := (48 : Int32)) C dX9_putNumber_7 (by decide) ?_
    refine mv_iload_n C dX9_putNumber_9 rfl 1 rfl ?_
    refine mv_bipush (v := (10 : Int32)) C dX9_putNumber_10 (by decide) ?_
    refine mv_idiv C dX9_putNumber_12 (by decide) ?_
    refine mv_topi (fun y2 ey2 => ?_)
    have hw := hw y2 ey2
    refine mv_iadd C dX9_putNumber_13 ?_
    refine mv_topi (fun y3 ey3 => ?_)
    have hw := hw y3 ey3
    refine mv_callVv (f := wM cA b) (As := [.int y3]) (rest := []) C eM_ok hs 0 rfl rfl (X9_put_met (l := l) (lev := lev - 1) (by omega) hw) (cwV 1 C.2.2.2.2.1 gX9_putNumber_X9_put rfl rfl rfl (by decide +kernel) (mRm_le (by omega) (by decide))) rfl rfl (Nat.le_of_ble_eq_true rfl) dX9_putNumber_14 ⟨Nat.le_refl 0, Nat.le_refl 0⟩ (fun u5 hw => ?_)
    exact wj_X9_putNumber_17_ok C hs hlev hw
set_option maxHeartbeats 4000000 in
set_option maxRecDepth 100000 in
theorem wj_X9_putToken_82_ok (C : mC p s m args meth c cX9_putToken 3 wsX9_putToken RX9 none (dC, dI) vwCl [(cA, .int)] A) (hs : eM A s) (hlev : 4 ≤ lev) {post : mS → Prop} {x2 : Int32} {u : mS} (hw : wj_X9_putToken_82 post x2 u) : mV p l e (mRm lev) s m args below meth c 3 (dC, dI) vwCl A 0 0 (mQv below args s (dC, dI) vwCl [(cA, .int)] (wM cA b) A post) (wM cA b u) 82 [(0, .ref (b 0)), (2, .int x2)] [] := by
  unfold wj_X9_putToken_82 at hw
  refine mv_iload_n C dX9_putToken_82 rfl 1 rfl ?_
  refine mv_bipush (v := (6 : Int32)) C dX9_putToken_83 (by decide) ?_
  refine mv_icmp_ne (tgt := 100) C dX9_putToken_85 (by decide) (fun h24 => ?_) (fun h24 => ?_)
  · have hw := hw.1 h24
    exact mv_vret C dX9_putToken_100 hw
  · have hw := hw.2 h24
    refine mv_aload_n C dX9_putToken_88 rfl 0 rfl ?_
    refine mv_bipush (v := (46 : Int32)) C dX9_putToken_89 (by decide) ?_
    refine mv_callVv (f := wM cA b) (As := [.int (46 : Int32)]) (rest := []) C eM_ok hs 0 rfl rfl (X9_put_met (l := l) (lev := lev - 1) (by omega) hw) (cwV 1 C.2.2.2.2.1 gX9_putToken_X9_put rfl rfl rfl (by decide +kernel) (mRm_le (by omega) (by decide))) rfl rfl (Nat.le_of_ble_eq_true rfl) dX9_putToken_91 ⟨Nat.le_refl 0, Nat.le_refl 0⟩ (fun u26 hw => ?_)
    refine mv_aload_n C dX9_putToken_94 rfl 0 rfl ?_
    refine mv_bipush (v := (46 : Int32)) C dX9_putToken_95 (by decide) ?_
    refine mv_callVv (f := wM cA b) (As := [.int (46 : Int32)]) (rest := []) C eM_ok hs 0 rfl rfl (X9_put_met (l := l) (lev := lev - 1) (by omega) hw) (cwV 1 C.2.2.2.2.1 gX9_putToken_X9_put rfl rfl rfl (by decide +kernel) (mRm_le (by omega) (by decide))) rfl rfl (Nat.le_of_ble_eq_true rfl) dX9_putToken_97 ⟨Nat.le_refl 0, Nat.le_refl 0⟩ (fun u28 hw => ?_)
    exact mv_vret C dX9_putToken_100 hw
set_option maxHeartbeats 4000000 in
set_option maxRecDepth 100000 in
theorem wj_X9_putToken_71_ok (C : mC p s m args meth c cX9_putToken 3 wsX9_putToken RX9 none (dC, dI) vwCl [(cA, .int)] A) (hs : eM A s) (hlev : 4 ≤ lev) {post : mS → Prop} {x2 : Int32} {u : mS} (hw : wj_X9_putToken_71 post x2 u) : mV p l e (mRm lev) s m args below meth c 3 (dC, dI) vwCl A 0 0 (mQv below args s (dC, dI) vwCl [(cA, .int)] (wM cA b) A post) (wM cA b u) 71 [(0, .ref (b 0)), (2, .int x2)] [] := by
  unfold wj_X9_putToken_71 at hw
  refine mv_iload_n C dX9_putToken_71 rfl 1 rfl ?_
  refine mv_iconst (v := (5 : Int32)) C dX9_putToken_72 (by decide) ?_
  refine mv_icmp_ne (tgt := 82) C dX9_putToken_73 (by decide) (fun h21 => ?_) (fun h21 => ?_)
  · have hw := hw.1 h21
    exact wj_X9_putToken_82_ok C hs hlev hw
  · have hw := hw.2 h21
    refine mv_aload_n C dX9_putToken_76 rfl 0 rfl ?_
    refine mv_bipush (v := (95 : Int32)) C dX9_putToken_77 (by decide) ?_
    refine mv_callVv (f := wM cA b) (As := [.int (95 : Int32)]) (rest := []) C eM_ok hs 0 rfl rfl (X9_put_met (l := l) (lev := lev - 1) (by omega) hw) (cwV 1 C.2.2.2.2.1 gX9_putToken_X9_put rfl rfl rfl (by decide +kernel) (mRm_le (by omega) (by decide))) rfl rfl (Nat.le_of_ble_eq_true rfl) dX9_putToken_79 ⟨Nat.le_refl 0, Nat.le_refl 0⟩ (fun u23 hw => ?_)
    exact wj_X9_putToken_82_ok C hs hlev hw
set_option maxHeartbeats 4000000 in
set_option maxRecDepth 100000 in
theorem wj_X9_putToken_54_ok (C : mC p s m args meth c cX9_putToken 3 wsX9_putToken RX9 none (dC, dI) vwCl [(cA, .int)] A) (hs : eM A s) (hlev : 4 ≤ lev) {post : mS → Prop} {x1 x2 : Int32} {u : mS} (hw : wj_X9_putToken_54 post x1 x2 u) : mV p l e (mRm lev) s m args below meth c 3 (dC, dI) vwCl A 0 0 (mQv below args s (dC, dI) vwCl [(cA, .int)] (wM cA b) A post) (wM cA b u) 54 [(0, .ref (b 0)), (1, .int x1), (2, .int x2)] [] := by
  unfold wj_X9_putToken_54 at hw
  refine mv_iload_n C dX9_putToken_54 rfl 2 rfl ?_
  refine mv_iconst (v := (4 : Int32)) C dX9_putToken_55 (by decide) ?_
  refine mv_icmp_ne (tgt := 71) C dX9_putToken_56 (by decide) (fun h16 => ?_) (fun h16 => ?_)
  · have hw := hw.1 h16
    refine mv_sub [0, 2] rfl ?_
    exact wj_X9_putToken_71_ok C hs hlev hw
  · have hw := hw.2 h16
    refine mv_aload_n C dX9_putToken_59 rfl 0 rfl ?_
    refine mv_aload_n C dX9_putToken_60 rfl 0 rfl ?_
    refine mv_get (v := .ref (b 2)) C iw_X9_putToken_X9 0 rfl rfl 2 (by decide) lk_X9_putToken_13 rfl rfl dX9_putToken_61 ?_
    refine mv_iload_n C dX9_putToken_64 rfl 1 rfl ?_
    refine mv_callSi (f := wM cA b) (As := [.ref (b 2), .int x1]) (rest := [.ref (b 0)]) C eM_ok hs (X9_what_2_met (l := l) (lev := lev - 1) (by omega) hw) (va_cwS 2 C.2.2.2.2.1 gX9_putToken_X9_what rfl rfl rfl (by decide +kernel) (mRm_le (by omega) (by decide))) rfl rfl (Nat.le_of_ble_eq_true rfl) dX9_putToken_65 ⟨Nat.le_refl 0, Nat.le_refl 0⟩ (fun r17 u18 hw => ?_)
    refine mv_callVv (f := wM cA b) (As := [.int r17]) (rest := []) C eM_ok hs 0 rfl rfl (X9_putNumber_met (l := l) (lev := lev - 1) (by omega) hw) (cwV 1 C.2.2.2.2.1 gX9_putToken_X9_putNumber rfl rfl rfl (by decide +kernel) (mRm_le (by omega) (by decide))) rfl rfl (Nat.le_of_ble_eq_true rfl) dX9_putToken_68 ⟨Nat.le_refl 0, Nat.le_refl 0⟩ (fun u20 hw => ?_)
    refine mv_sub [0, 2] rfl ?_
    exact wj_X9_putToken_71_ok C hs hlev hw
set_option maxHeartbeats 4000000 in
set_option maxRecDepth 100000 in
theorem X9_putToken_met (hlev : 4 ≤ lev) {x1 : Int32} {u : mS} {post : mS → Prop} (hw : wp_X9_putToken x1 u post) : mKv l yX9_putToken wsX9_putToken lev (eM) (dC, dI) vwCl [(cA, .int)] (wM cA b) [.ref (b 0), .int x1] u post := by
  refine mKv_of (cc := cX9_putToken) (maxL := 3) (by decide) rfl rfl (Nat.le_of_ble_eq_true rfl) rfl ?_
  intro p e s m args below meth c A C hs
  unfold wp_X9_putToken at hw
  refine mv_aload_n C dX9_putToken_0 rfl 0 rfl ?_
  refine mv_get (v := .ref (b 2)) C iw_X9_putToken_X9 0 rfl rfl 2 (by decide) lk_X9_putToken_13 rfl rfl dX9_putToken_1 ?_
  refine mv_iload_n C dX9_putToken_4 rfl 1 rfl ?_
  refine mv_callSi (f := wM cA b) (As := [.ref (b 2), .int x1]) (rest := []) C eM_ok hs (X9_kind_2_met (l := l) (lev := lev - 1) (by omega) hw) (va_cwS 2 C.2.2.2.2.1 gX9_putToken_X9_kind rfl rfl rfl (by decide +kernel) (mRm_le (by omega) (by decide))) rfl rfl (Nat.le_of_ble_eq_true rfl) dX9_putToken_5 ⟨Nat.le_refl 0, Nat.le_refl 0⟩ (fun r1 u2 hw => ?_)
  refine mv_istore_n (lv1 := [(2, .int r1), (0, .ref (b 0)), (1, .int x1)]) C dX9_putToken_8 rfl (by decide) rfl ?_
  refine mv_iload_n C dX9_putToken_9 rfl 0 rfl ?_
  refine mv_iconst (v := (1 : Int32)) C dX9_putToken_10 (by decide) ?_
  refine mv_icmp_ne (tgt := 21) C dX9_putToken_11 (by decide) (fun h3 => ?_) (fun h3 => ?_)
  · have hw := hw.1 h3
    refine mv_iload_n C dX9_putToken_21 rfl 0 rfl ?_
    refine mv_iconst (v := (2 : Int32)) C dX9_putToken_22 (by decide) ?_
    refine mv_icmp_ne (tgt := 33) C dX9_putToken_23 (by decide) (fun h4 => ?_) (fun h4 => ?_)
    · have hw := hw.1 h4
      refine mv_aload_n C dX9_putToken_33 rfl 1 rfl ?_
      refine mv_callVv (f := wM cA b) (As := []) (rest := []) C eM_ok hs 0 rfl rfl (X9_space_met (l := l) (lev := lev - 1) (by omega) hw) (cwV 0 C.2.2.2.2.1 gX9_putToken_X9_space rfl rfl rfl (by decide +kernel) (mRm_le (by omega) (by decide))) rfl rfl (Nat.le_of_ble_eq_true rfl) dX9_putToken_34 ⟨Nat.le_refl 0, Nat.le_refl 0⟩ (fun u6 hw => ?_)
      refine mv_iload_n C dX9_putToken_37 rfl 0 rfl ?_
      refine mv_iconst (v := (3 : Int32)) C dX9_putToken_38 (by decide) ?_
      refine mv_icmp_ne (tgt := 54) C dX9_putToken_39 (by decide) (fun h7 => ?_) (fun h7 => ?_)
      · have hw := hw.1 h7
        refine mv_sub [1, 2, 0] rfl ?_
        exact wj_X9_putToken_54_ok C hs hlev hw
      · have hw := hw.2 h7
        refine mv_aload_n C dX9_putToken_42 rfl 1 rfl ?_
        refine mv_aload_n C dX9_putToken_43 rfl 1 rfl ?_
        refine mv_get (v := .ref (b 2)) C iw_X9_putToken_X9 0 rfl rfl 2 (by decide) lk_X9_putToken_13 rfl rfl dX9_putToken_44 ?_
        refine mv_iload_n C dX9_putToken_47 rfl 2 rfl ?_
        refine mv_callSi (f := wM cA b) (As := [.ref (b 2), .int x1]) (rest := [.ref (b 0)]) C eM_ok hs (X9_what_2_met (l := l) (lev := lev - 1) (by omega) hw) (va_cwS 2 C.2.2.2.2.1 gX9_putToken_X9_what rfl rfl rfl (by decide +kernel) (mRm_le (by omega) (by decide))) rfl rfl (Nat.le_of_ble_eq_true rfl) dX9_putToken_48 ⟨Nat.le_refl 0, Nat.le_refl 0⟩ (fun r8 u9 hw => ?_)
        refine mv_callVv (f := wM cA b) (As := [.int r8]) (rest := []) C eM_ok hs 0 rfl rfl (X9_putName_met (l := l) (lev := lev - 1) (by omega) hw) (cwV 1 C.2.2.2.2.1 gX9_putToken_X9_putName rfl rfl rfl (by decide +kernel) (mRm_le (by omega) (by decide))) rfl rfl (Nat.le_of_ble_eq_true rfl) dX9_putToken_51 ⟨Nat.le_refl 0, Nat.le_refl 0⟩ (fun u11 hw => ?_)
        refine mv_sub [1, 2, 0] rfl ?_
        exact wj_X9_putToken_54_ok C hs hlev hw
    · have hw := hw.2 h4
      refine mv_aload_n C dX9_putToken_26 rfl 1 rfl ?_
      refine mv_callVv (f := wM cA b) (As := []) (rest := []) C eM_ok hs 0 rfl rfl (X9_putClose_met (l := l) (lev := lev - 1) (by omega) hw) (cwV 0 C.2.2.2.2.1 gX9_putToken_X9_putClose rfl rfl rfl (by decide +kernel) (mRm_le (by omega) (by decide))) rfl rfl (Nat.le_of_ble_eq_true rfl) dX9_putToken_27 ⟨Nat.le_refl 0, Nat.le_refl 0⟩ (fun u13 hw => ?_)
      refine mv_goto (tgt := 100) C dX9_putToken_30 (by decide) ?_
      exact mv_vret C dX9_putToken_100 hw
  · have hw := hw.2 h3
    refine mv_aload_n C dX9_putToken_14 rfl 1 rfl ?_
    refine mv_callVv (f := wM cA b) (As := []) (rest := []) C eM_ok hs 0 rfl rfl (X9_putOpen_met (l := l) (lev := lev - 1) (by omega) hw) (cwV 0 C.2.2.2.2.1 gX9_putToken_X9_putOpen rfl rfl rfl (by decide +kernel) (mRm_le (by omega) (by decide))) rfl rfl (Nat.le_of_ble_eq_true rfl) dX9_putToken_15 ⟨Nat.le_refl 0, Nat.le_refl 0⟩ (fun u15 hw => ?_)
    refine mv_goto (tgt := 100) C dX9_putToken_18 (by decide) ?_
    exact mv_vret C dX9_putToken_100 hw
end
