set_option maxRecDepth 20000 in
theorem ggX9_walk_X9_end : GoodIn wsX9_walk wsX9_end := goodIn_r _ [7, 8, 9, 6, 10, 11] (by decide +kernel) (by decide +kernel)
set_option maxRecDepth 20000 in
theorem gX9_walk_X9_end : GoodIn wsX9_walk (va_wsS RX9 111 yX9_end wsX9_end) := goodIn_app (goodIn_of _ (by decide +kernel)) ggX9_walk_X9_end
set_option maxRecDepth 20000 in
theorem ggX9_walk_X9_kind : GoodIn wsX9_walk wsX9_kind := goodIn_r _ [10, 11] (by decide +kernel) (by decide +kernel)
set_option maxRecDepth 20000 in
theorem gX9_walk_X9_kind : GoodIn wsX9_walk (va_wsS RX9 107 yX9_kind wsX9_kind) := goodIn_app (goodIn_of _ (by decide +kernel)) ggX9_walk_X9_kind
theorem dX9_walk_0 : decode cX9_walk 0 = .ok (.iload_n 1, 1) := by decide +kernel
theorem dX9_walk_1 : decode cX9_walk 1 = .ok (.istore 5, 2) := by decide +kernel
theorem dX9_walk_3 : decode cX9_walk 3 = .ok (.iload_n 2, 1) := by decide +kernel
theorem dX9_walk_4 : decode cX9_walk 4 = .ok (.istore 6, 2) := by decide +kernel
theorem dX9_walk_6 : decode cX9_walk 6 = .ok (.iconst 0, 1) := by decide +kernel
theorem dX9_walk_7 : decode cX9_walk 7 = .ok (.istore 7, 2) := by decide +kernel
theorem dX9_walk_9 : decode cX9_walk 9 = .ok (.iload 5, 2) := by decide +kernel
theorem dX9_walk_11 : decode cX9_walk 11 = .ok (.iload_n 3, 1) := by decide +kernel
theorem dX9_walk_12 : decode cX9_walk 12 = .ok (.if_icmp .eq 167, 3) := by decide +kernel
theorem dX9_walk_15 : decode cX9_walk 15 = .ok (.iload 5, 2) := by decide +kernel
theorem dX9_walk_17 : decode cX9_walk 17 = .ok (.iconst 1, 1) := by decide +kernel
theorem dX9_walk_18 : decode cX9_walk 18 = .ok (.iadd, 1) := by decide +kernel
theorem dX9_walk_19 : decode cX9_walk 19 = .ok (.istore 8, 2) := by decide +kernel
theorem dX9_walk_21 : decode cX9_walk 21 = .ok (.iload 6, 2) := by decide +kernel
theorem dX9_walk_23 : decode cX9_walk 23 = .ok (.iconst 1, 1) := by decide +kernel
theorem dX9_walk_24 : decode cX9_walk 24 = .ok (.iadd, 1) := by decide +kernel
theorem dX9_walk_25 : decode cX9_walk 25 = .ok (.istore 9, 2) := by decide +kernel
theorem dX9_walk_27 : decode cX9_walk 27 = .ok (.aload_n 0, 1) := by decide +kernel
theorem dX9_walk_28 : decode cX9_walk 28 = .ok (.getfield 19, 3) := by decide +kernel
theorem dX9_walk_31 : decode cX9_walk 31 = .ok (.iload 8, 2) := by decide +kernel
theorem dX9_walk_33 : decode cX9_walk 33 = .ok (.invokestatic 111, 3) := by decide +kernel
theorem dX9_walk_36 : decode cX9_walk 36 = .ok (.iload_n 3, 1) := by decide +kernel
theorem dX9_walk_37 : decode cX9_walk 37 = .ok (.if_icmp .gt 28, 3) := by decide +kernel
theorem dX9_walk_40 : decode cX9_walk 40 = .ok (.aload_n 0, 1) := by decide +kernel
theorem dX9_walk_41 : decode cX9_walk 41 = .ok (.getfield 19, 3) := by decide +kernel
theorem dX9_walk_44 : decode cX9_walk 44 = .ok (.iload 8, 2) := by decide +kernel
theorem dX9_walk_46 : decode cX9_walk 46 = .ok (.invokestatic 111, 3) := by decide +kernel
theorem dX9_walk_49 : decode cX9_walk 49 = .ok (.istore 8, 2) := by decide +kernel
theorem dX9_walk_51 : decode cX9_walk 51 = .ok (.aload_n 0, 1) := by decide +kernel
theorem dX9_walk_52 : decode cX9_walk 52 = .ok (.getfield 13, 3) := by decide +kernel
theorem dX9_walk_55 : decode cX9_walk 55 = .ok (.iload 9, 2) := by decide +kernel
theorem dX9_walk_57 : decode cX9_walk 57 = .ok (.invokestatic 111, 3) := by decide +kernel
theorem dX9_walk_60 : decode cX9_walk 60 = .ok (.istore 9, 2) := by decide +kernel
theorem dX9_walk_62 : decode cX9_walk 62 = .ok (.goto (-35), 3) := by decide +kernel
theorem dX9_walk_65 : decode cX9_walk 65 = .ok (.aload_n 0, 1) := by decide +kernel
theorem dX9_walk_66 : decode cX9_walk 66 = .ok (.getfield 19, 3) := by decide +kernel
theorem dX9_walk_69 : decode cX9_walk 69 = .ok (.aload_n 0, 1) := by decide +kernel
theorem dX9_walk_70 : decode cX9_walk 70 = .ok (.getfield 19, 3) := by decide +kernel
theorem dX9_walk_73 : decode cX9_walk 73 = .ok (.iload 8, 2) := by decide +kernel
theorem dX9_walk_75 : decode cX9_walk 75 = .ok (.invokestatic 111, 3) := by decide +kernel
theorem dX9_walk_78 : decode cX9_walk 78 = .ok (.invokestatic 107, 3) := by decide +kernel
theorem dX9_walk_81 : decode cX9_walk 81 = .ok (.bipush 6, 2) := by decide +kernel
theorem dX9_walk_83 : decode cX9_walk 83 = .ok (.if_icmp .ne 85, 3) := by decide +kernel
theorem dX9_walk_86 : decode cX9_walk 86 = .ok (.iconst 0, 1) := by decide +kernel
theorem dX9_walk_87 : decode cX9_walk 87 = .ok (.istore 10, 2) := by decide +kernel
theorem dX9_walk_89 : decode cX9_walk 89 = .ok (.iload 9, 2) := by decide +kernel
theorem dX9_walk_91 : decode cX9_walk 91 = .ok (.istore 11, 2) := by decide +kernel
theorem dX9_walk_93 : decode cX9_walk 93 = .ok (.aload_n 0, 1) := by decide +kernel
theorem dX9_walk_94 : decode cX9_walk 94 = .ok (.getfield 13, 3) := by decide +kernel
theorem dX9_walk_97 : decode cX9_walk 97 = .ok (.iload 11, 2) := by decide +kernel
theorem dX9_walk_99 : decode cX9_walk 99 = .ok (.invokestatic 107, 3) := by decide +kernel
theorem dX9_walk_102 : decode cX9_walk 102 = .ok (.iconst 2, 1) := by decide +kernel
theorem dX9_walk_103 : decode cX9_walk 103 = .ok (.if_icmp .eq 20, 3) := by decide +kernel
theorem dX9_walk_106 : decode cX9_walk 106 = .ok (.aload_n 0, 1) := by decide +kernel
theorem dX9_walk_107 : decode cX9_walk 107 = .ok (.getfield 13, 3) := by decide +kernel
theorem dX9_walk_110 : decode cX9_walk 110 = .ok (.iload 11, 2) := by decide +kernel
theorem dX9_walk_112 : decode cX9_walk 112 = .ok (.invokestatic 111, 3) := by decide +kernel
theorem dX9_walk_115 : decode cX9_walk 115 = .ok (.istore 11, 2) := by decide +kernel
theorem dX9_walk_117 : decode cX9_walk 117 = .ok (.iinc 10 1, 3) := by decide +kernel
theorem dX9_walk_120 : decode cX9_walk 120 = .ok (.goto (-27), 3) := by decide +kernel
theorem dX9_walk_123 : decode cX9_walk 123 = .ok (.iload 7, 2) := by decide +kernel
theorem dX9_walk_125 : decode cX9_walk 125 = .ok (.iload 4, 2) := by decide +kernel
theorem dX9_walk_127 : decode cX9_walk 127 = .ok (.if_icmp .ne 6, 3) := by decide +kernel
theorem dX9_walk_130 : decode cX9_walk 130 = .ok (.iload 10, 2) := by decide +kernel
theorem dX9_walk_132 : decode cX9_walk 132 = .ok (.ireturn, 1) := by decide +kernel
theorem dX9_walk_133 : decode cX9_walk 133 = .ok (.iconst 0, 1) := by decide +kernel
theorem dX9_walk_134 : decode cX9_walk 134 = .ok (.istore 12, 2) := by decide +kernel
theorem dX9_walk_136 : decode cX9_walk 136 = .ok (.iload 12, 2) := by decide +kernel
theorem dX9_walk_138 : decode cX9_walk 138 = .ok (.aload_n 0, 1) := by decide +kernel
theorem dX9_walk_139 : decode cX9_walk 139 = .ok (.getfield 64, 3) := by decide +kernel
theorem dX9_walk_142 : decode cX9_walk 142 = .ok (.iload 7, 2) := by decide +kernel
theorem dX9_walk_144 : decode cX9_walk 144 = .ok (.iaload, 1) := by decide +kernel
theorem dX9_walk_145 : decode cX9_walk 145 = .ok (.if_icmp .ge 20, 3) := by decide +kernel
theorem dX9_walk_148 : decode cX9_walk 148 = .ok (.aload_n 0, 1) := by decide +kernel
theorem dX9_walk_149 : decode cX9_walk 149 = .ok (.getfield 13, 3) := by decide +kernel
theorem dX9_walk_152 : decode cX9_walk 152 = .ok (.iload 9, 2) := by decide +kernel
theorem dX9_walk_154 : decode cX9_walk 154 = .ok (.invokestatic 111, 3) := by decide +kernel
theorem dX9_walk_157 : decode cX9_walk 157 = .ok (.istore 9, 2) := by decide +kernel
theorem dX9_walk_159 : decode cX9_walk 159 = .ok (.iinc 12 1, 3) := by decide +kernel
theorem dX9_walk_162 : decode cX9_walk 162 = .ok (.goto (-26), 3) := by decide +kernel
theorem dX9_walk_165 : decode cX9_walk 165 = .ok (.iinc 7 1, 3) := by decide +kernel
theorem dX9_walk_168 : decode cX9_walk 168 = .ok (.iload 8, 2) := by decide +kernel
theorem dX9_walk_170 : decode cX9_walk 170 = .ok (.istore 5, 2) := by decide +kernel
theorem dX9_walk_172 : decode cX9_walk 172 = .ok (.iload 9, 2) := by decide +kernel
theorem dX9_walk_174 : decode cX9_walk 174 = .ok (.istore 6, 2) := by decide +kernel
theorem dX9_walk_176 : decode cX9_walk 176 = .ok (.goto (-167), 3) := by decide +kernel
theorem dX9_walk_179 : decode cX9_walk 179 = .ok (.iload 6, 2) := by decide +kernel
theorem dX9_walk_181 : decode cX9_walk 181 = .ok (.ireturn, 1) := by decide +kernel
set_option maxRecDepth 20000 in
theorem ggX9_add_X9_fails : GoodIn wsX9_add wsX9_fails := goodIn_r _ [10, 11, 12, 13, 14, 15, 16, 17, 18, 19, 20, 21, 22, 23, 24, 25, 26, 27, 28, 29, 30, 31, 32, 33, 34, 35, 36, 37, 38, 39, 40, 41, 42, 43, 44, 45, 46, 47] (by decide +kernel) (by decide +kernel)
set_option maxRecDepth 20000 in
theorem gX9_add_X9_fails : GoodIn wsX9_add (wsV RX9 163 RX9 yX9_fails wsX9_fails) := goodIn_app (goodIn_of _ (by decide +kernel)) ggX9_add_X9_fails
theorem dX9_add_0 : decode cX9_add 0 = .ok (.iload_n 1, 1) := by decide +kernel
theorem dX9_add_1 : decode cX9_add 1 = .ok (.ldc 88, 2) := by decide +kernel
theorem dX9_add_3 : decode cX9_add 3 = .ok (.idiv, 1) := by decide +kernel
theorem dX9_add_4 : decode cX9_add 4 = .ok (.istore_n 3, 1) := by decide +kernel
theorem dX9_add_5 : decode cX9_add 5 = .ok (.iload_n 3, 1) := by decide +kernel
theorem dX9_add_6 : decode cX9_add 6 = .ok (.iconst 2, 1) := by decide +kernel
theorem dX9_add_7 : decode cX9_add 7 = .ok (.if_icmp .eq 19, 3) := by decide +kernel
theorem dX9_add_10 : decode cX9_add 10 = .ok (.iload_n 3, 1) := by decide +kernel
theorem dX9_add_11 : decode cX9_add 11 = .ok (.bipush 6, 2) := by decide +kernel
theorem dX9_add_13 : decode cX9_add 13 = .ok (.if_icmp .eq 13, 3) := by decide +kernel
theorem dX9_add_16 : decode cX9_add 16 = .ok (.aload_n 0, 1) := by decide +kernel
theorem dX9_add_17 : decode cX9_add 17 = .ok (.dup, 1) := by decide +kernel
theorem dX9_add_18 : decode cX9_add 18 = .ok (.getfield 213, 3) := by decide +kernel
theorem dX9_add_21 : decode cX9_add 21 = .ok (.iconst 1, 1) := by decide +kernel
theorem dX9_add_22 : decode cX9_add 22 = .ok (.iadd, 1) := by decide +kernel
theorem dX9_add_23 : decode cX9_add 23 = .ok (.putfield 213, 3) := by decide +kernel
theorem dX9_add_26 : decode cX9_add 26 = .ok (.aload_n 0, 1) := by decide +kernel
theorem dX9_add_27 : decode cX9_add 27 = .ok (.getfield 213, 3) := by decide +kernel
theorem dX9_add_30 : decode cX9_add 30 = .ok (.bipush 100, 2) := by decide +kernel
theorem dX9_add_32 : decode cX9_add 32 = .ok (.if_icmp .le 10, 3) := by decide +kernel
theorem dX9_add_35 : decode cX9_add 35 = .ok (.aload_n 0, 1) := by decide +kernel
theorem dX9_add_36 : decode cX9_add 36 = .ok (.bipush 6, 2) := by decide +kernel
theorem dX9_add_38 : decode cX9_add 38 = .ok (.invokevirtual 163, 3) := by decide +kernel
theorem dX9_add_41 : decode cX9_add 41 = .ok (.return_, 1) := by decide +kernel
theorem dX9_add_42 : decode cX9_add 42 = .ok (.aload_n 0, 1) := by decide +kernel
theorem dX9_add_43 : decode cX9_add 43 = .ok (.getfield 46, 3) := by decide +kernel
theorem dX9_add_46 : decode cX9_add 46 = .ok (.aload_n 0, 1) := by decide +kernel
theorem dX9_add_47 : decode cX9_add 47 = .ok (.getfield 216, 3) := by decide +kernel
theorem dX9_add_50 : decode cX9_add 50 = .ok (.iload_n 1, 1) := by decide +kernel
theorem dX9_add_51 : decode cX9_add 51 = .ok (.iastore, 1) := by decide +kernel
theorem dX9_add_52 : decode cX9_add 52 = .ok (.aload_n 0, 1) := by decide +kernel
theorem dX9_add_53 : decode cX9_add 53 = .ok (.getfield 49, 3) := by decide +kernel
theorem dX9_add_56 : decode cX9_add 56 = .ok (.aload_n 0, 1) := by decide +kernel
theorem dX9_add_57 : decode cX9_add 57 = .ok (.getfield 216, 3) := by decide +kernel
theorem dX9_add_60 : decode cX9_add 60 = .ok (.iload_n 2, 1) := by decide +kernel
theorem dX9_add_61 : decode cX9_add 61 = .ok (.iastore, 1) := by decide +kernel
theorem dX9_add_62 : decode cX9_add 62 = .ok (.aload_n 0, 1) := by decide +kernel
theorem dX9_add_63 : decode cX9_add 63 = .ok (.dup, 1) := by decide +kernel
theorem dX9_add_64 : decode cX9_add 64 = .ok (.getfield 216, 3) := by decide +kernel
theorem dX9_add_67 : decode cX9_add 67 = .ok (.iconst 1, 1) := by decide +kernel
theorem dX9_add_68 : decode cX9_add 68 = .ok (.iadd, 1) := by decide +kernel
theorem dX9_add_69 : decode cX9_add 69 = .ok (.putfield 216, 3) := by decide +kernel
theorem dX9_add_72 : decode cX9_add 72 = .ok (.return_, 1) := by decide +kernel
set_option maxRecDepth 20000 in
theorem ggX9_roundsOf_X9_kind : GoodIn wsX9_roundsOf wsX9_kind := goodIn_r _ [7, 8] (by decide +kernel) (by decide +kernel)
set_option maxRecDepth 20000 in
theorem gX9_roundsOf_X9_kind : GoodIn wsX9_roundsOf (va_wsS RX9 107 yX9_kind wsX9_kind) := goodIn_app (goodIn_of _ (by decide +kernel)) ggX9_roundsOf_X9_kind
set_option maxRecDepth 20000 in
theorem ggX9_roundsOf_X9_variable : GoodIn wsX9_roundsOf wsX9_variable := goodIn_r _ [12, 1, 2, 13, 14, 6, 15, 4, 5, 7, 8, 22, 23, 24, 25, 26, 27, 28, 29, 30, 31, 32, 33, 34, 35, 36, 37, 38, 39, 40, 41, 42, 43, 44, 45, 46, 47, 48, 49, 50, 51, 52, 53, 54, 55, 56, 57] (by decide +kernel) (by decide +kernel)
set_option maxRecDepth 20000 in
theorem gX9_roundsOf_X9_variable : GoodIn wsX9_roundsOf (wsV RX9 124 RX9 yX9_variable wsX9_variable) := goodIn_app (goodIn_of _ (by decide +kernel)) ggX9_roundsOf_X9_variable
set_option maxRecDepth 20000 in
theorem ggX9_roundsOf_X9_walk : GoodIn wsX9_roundsOf wsX9_walk := goodIn_r _ [19, 1, 20, 21, 13, 14, 6, 15, 4, 5, 7, 8, 22, 23, 24, 25, 26, 27, 28, 29, 30, 31, 32, 33, 34, 35, 36, 37, 38, 39, 40, 41, 42, 43, 44, 45, 46, 47, 48, 49, 50, 51, 52, 53, 54, 55, 56, 57] (by decide +kernel) (by decide +kernel)
set_option maxRecDepth 20000 in
theorem gX9_roundsOf_X9_walk : GoodIn wsX9_roundsOf (wsV RX9 222 RX9 yX9_walk wsX9_walk) := goodIn_app (goodIn_of _ (by decide +kernel)) ggX9_roundsOf_X9_walk
theorem dX9_roundsOf_0 : decode cX9_roundsOf 0 = .ok (.bipush (-2), 2) := by decide +kernel
theorem dX9_roundsOf_2 : decode cX9_roundsOf 2 = .ok (.istore 5, 2) := by decide +kernel
theorem dX9_roundsOf_4 : decode cX9_roundsOf 4 = .ok (.iload_n 3, 1) := by decide +kernel
theorem dX9_roundsOf_5 : decode cX9_roundsOf 5 = .ok (.istore 6, 2) := by decide +kernel
theorem dX9_roundsOf_7 : decode cX9_roundsOf 7 = .ok (.iload 6, 2) := by decide +kernel
theorem dX9_roundsOf_9 : decode cX9_roundsOf 9 = .ok (.iload 4, 2) := by decide +kernel
theorem dX9_roundsOf_11 : decode cX9_roundsOf 11 = .ok (.if_icmp .ge 88, 3) := by decide +kernel
theorem dX9_roundsOf_14 : decode cX9_roundsOf 14 = .ok (.aload_n 0, 1) := by decide +kernel
theorem dX9_roundsOf_15 : decode cX9_roundsOf 15 = .ok (.getfield 19, 3) := by decide +kernel
theorem dX9_roundsOf_18 : decode cX9_roundsOf 18 = .ok (.iload 6, 2) := by decide +kernel
theorem dX9_roundsOf_20 : decode cX9_roundsOf 20 = .ok (.invokestatic 107, 3) := by decide +kernel
theorem dX9_roundsOf_23 : decode cX9_roundsOf 23 = .ok (.iconst 3, 1) := by decide +kernel
theorem dX9_roundsOf_24 : decode cX9_roundsOf 24 = .ok (.if_icmp .ne 25, 3) := by decide +kernel
theorem dX9_roundsOf_27 : decode cX9_roundsOf 27 = .ok (.aload_n 0, 1) := by decide +kernel
theorem dX9_roundsOf_28 : decode cX9_roundsOf 28 = .ok (.iload_n 1, 1) := by decide +kernel
theorem dX9_roundsOf_29 : decode cX9_roundsOf 29 = .ok (.aload_n 0, 1) := by decide +kernel
theorem dX9_roundsOf_30 : decode cX9_roundsOf 30 = .ok (.getfield 19, 3) := by decide +kernel
theorem dX9_roundsOf_33 : decode cX9_roundsOf 33 = .ok (.iload 6, 2) := by decide +kernel
theorem dX9_roundsOf_35 : decode cX9_roundsOf 35 = .ok (.iaload, 1) := by decide +kernel
theorem dX9_roundsOf_36 : decode cX9_roundsOf 36 = .ok (.aload_n 0, 1) := by decide +kernel
theorem dX9_roundsOf_37 : decode cX9_roundsOf 37 = .ok (.getfield 22, 3) := by decide +kernel
theorem dX9_roundsOf_40 : decode cX9_roundsOf 40 = .ok (.iload 6, 2) := by decide +kernel
theorem dX9_roundsOf_42 : decode cX9_roundsOf 42 = .ok (.iaload, 1) := by decide +kernel
theorem dX9_roundsOf_43 : decode cX9_roundsOf 43 = .ok (.invokevirtual 124, 3) := by decide +kernel
theorem dX9_roundsOf_46 : decode cX9_roundsOf 46 = .ok (.goto 4, 3) := by decide +kernel
theorem dX9_roundsOf_49 : decode cX9_roundsOf 49 = .ok (.iconst (-1), 1) := by decide +kernel
theorem dX9_roundsOf_50 : decode cX9_roundsOf 50 = .ok (.istore 7, 2) := by decide +kernel
theorem dX9_roundsOf_52 : decode cX9_roundsOf 52 = .ok (.iload 7, 2) := by decide +kernel
theorem dX9_roundsOf_54 : decode cX9_roundsOf 54 = .ok (.ifCond .lt 39, 3) := by decide +kernel
theorem dX9_roundsOf_57 : decode cX9_roundsOf 57 = .ok (.aload_n 0, 1) := by decide +kernel
theorem dX9_roundsOf_58 : decode cX9_roundsOf 58 = .ok (.iload_n 1, 1) := by decide +kernel
theorem dX9_roundsOf_59 : decode cX9_roundsOf 59 = .ok (.iload_n 2, 1) := by decide +kernel
theorem dX9_roundsOf_60 : decode cX9_roundsOf 60 = .ok (.iload 7, 2) := by decide +kernel
theorem dX9_roundsOf_62 : decode cX9_roundsOf 62 = .ok (.aload_n 0, 1) := by decide +kernel
theorem dX9_roundsOf_63 : decode cX9_roundsOf 63 = .ok (.getfield 219, 3) := by decide +kernel
theorem dX9_roundsOf_66 : decode cX9_roundsOf 66 = .ok (.invokevirtual 222, 3) := by decide +kernel
theorem dX9_roundsOf_69 : decode cX9_roundsOf 69 = .ok (.istore 8, 2) := by decide +kernel
theorem dX9_roundsOf_71 : decode cX9_roundsOf 71 = .ok (.iload 5, 2) := by decide +kernel
theorem dX9_roundsOf_73 : decode cX9_roundsOf 73 = .ok (.bipush (-2), 2) := by decide +kernel
theorem dX9_roundsOf_75 : decode cX9_roundsOf 75 = .ok (.if_icmp .eq 10, 3) := by decide +kernel
theorem dX9_roundsOf_78 : decode cX9_roundsOf 78 = .ok (.iload 5, 2) := by decide +kernel
theorem dX9_roundsOf_80 : decode cX9_roundsOf 80 = .ok (.iload 8, 2) := by decide +kernel
theorem dX9_roundsOf_82 : decode cX9_roundsOf 82 = .ok (.if_icmp .ne 8, 3) := by decide +kernel
theorem dX9_roundsOf_85 : decode cX9_roundsOf 85 = .ok (.iload 8, 2) := by decide +kernel
theorem dX9_roundsOf_87 : decode cX9_roundsOf 87 = .ok (.goto 4, 3) := by decide +kernel
theorem dX9_roundsOf_90 : decode cX9_roundsOf 90 = .ok (.iconst (-1), 1) := by decide +kernel
theorem dX9_roundsOf_91 : decode cX9_roundsOf 91 = .ok (.istore 5, 2) := by decide +kernel
theorem dX9_roundsOf_93 : decode cX9_roundsOf 93 = .ok (.iinc 6 1, 3) := by decide +kernel
theorem dX9_roundsOf_96 : decode cX9_roundsOf 96 = .ok (.goto (-89), 3) := by decide +kernel
theorem dX9_roundsOf_99 : decode cX9_roundsOf 99 = .ok (.iload 5, 2) := by decide +kernel
theorem dX9_roundsOf_101 : decode cX9_roundsOf 101 = .ok (.ireturn, 1) := by decide +kernel
set_option maxRecDepth 20000 in
theorem ggX9_hold_X9_end : GoodIn wsX9_hold wsX9_end := goodIn_r _ [9, 10, 11, 8, 12, 13] (by decide +kernel) (by decide +kernel)
set_option maxRecDepth 20000 in
theorem gX9_hold_X9_end : GoodIn wsX9_hold (va_wsS RX9 111 yX9_end wsX9_end) := goodIn_app (goodIn_of _ (by decide +kernel)) ggX9_hold_X9_end
set_option maxRecDepth 100000 in
theorem gpX9_hold_X9_roundsOf_0 : GoodIn wsX9_hold ([.fieldLink RX9 19 "MarkedNamesModel" "kept" "[I", .fieldLink RX9 22 "MarkedNamesModel" "keptSet" "[I", .fieldLink RX9 219 "MarkedNamesModel" "held" "I", .methodLink RX9 107 yX9_kind, .static yX9_kind, .initialized RX9, .code yX9_kind cX9_kind 2 (some .int), .constant RX9 88 (65536), .methodLink RX9 124 yX9_variable, .instanceMethod yX9_variable, .selects RX9 yX9_variable yX9_variable, .code yX9_variable cX9_variable 6 (some .int), .methodLink RX9 111 yX9_end, .static yX9_end, .code yX9_end cX9_end 5 (some .int), .methodLink RX9 222 yX9_walk, .instanceMethod yX9_walk, .selects RX9 yX9_walk yX9_walk, .code yX9_walk cX9_walk 13 (some .int), .fieldLink RX9 13 "MarkedNamesModel" "row" "[I", .fieldLink RX9 64 "MarkedNamesModel" "round" "[I"] : List Cond) := goodIn_r _ [1, 18, 3, 10, 11, 8, 12, 13, 19, 20, 21, 22, 6, 7, 9, 23, 24, 25, 26, 27, 5] (by decide +kernel) (by decide +kernel)
set_option maxRecDepth 100000 in
theorem gpX9_hold_X9_roundsOf_1 : GoodIn wsX9_hold wsX90 := goodIn_r _ [33, 34, 35, 36, 37, 38, 39, 40, 41, 42, 43, 44, 45, 46, 47, 48, 49, 50, 51, 52, 53, 54, 55, 56, 57, 58, 59, 60, 61, 62, 63, 64, 65, 66, 67, 68] (by decide +kernel) (by decide +kernel)
set_option maxRecDepth 100000 in
theorem gpX9_hold_X9_roundsOf_c : GoodIn wsX9_hold [Cond.code yX9_roundsOf cX9_roundsOf 9 (some .int)] := goodIn_r _ [17] (by decide +kernel) (by decide +kernel)
theorem ggX9_hold_X9_roundsOf : GoodIn wsX9_hold wsX9_roundsOf := goodIn_cons2 gpX9_hold_X9_roundsOf_c (goodIn_app gpX9_hold_X9_roundsOf_0 gpX9_hold_X9_roundsOf_1)
set_option maxRecDepth 20000 in
theorem gX9_hold_X9_roundsOf : GoodIn wsX9_hold (wsV RX9 226 RX9 yX9_roundsOf wsX9_roundsOf) := goodIn_app (goodIn_of _ (by decide +kernel)) ggX9_hold_X9_roundsOf
set_option maxRecDepth 20000 in
theorem ggX9_hold_X9_fails : GoodIn wsX9_hold wsX9_fails := goodIn_r _ [31, 32, 33, 34, 35, 36, 37, 38, 39, 40, 41, 42, 43, 44, 45, 46, 47, 48, 49, 50, 51, 52, 53, 54, 55, 56, 57, 58, 59, 60, 61, 62, 63, 64, 65, 66, 67, 68] (by decide +kernel) (by decide +kernel)
set_option maxRecDepth 20000 in
theorem gX9_hold_X9_fails : GoodIn wsX9_hold (wsV RX9 163 RX9 yX9_fails wsX9_fails) := goodIn_app (goodIn_of _ (by decide +kernel)) ggX9_hold_X9_fails
theorem dX9_hold_0 : decode cX9_hold 0 = .ok (.aload_n 0, 1) := by decide +kernel
theorem dX9_hold_1 : decode cX9_hold 1 = .ok (.getfield 19, 3) := by decide +kernel
theorem dX9_hold_4 : decode cX9_hold 4 = .ok (.iload_n 3, 1) := by decide +kernel
theorem dX9_hold_5 : decode cX9_hold 5 = .ok (.invokestatic 111, 3) := by decide +kernel
theorem dX9_hold_8 : decode cX9_hold 8 = .ok (.istore 4, 2) := by decide +kernel
theorem dX9_hold_10 : decode cX9_hold 10 = .ok (.aload_n 0, 1) := by decide +kernel
theorem dX9_hold_11 : decode cX9_hold 11 = .ok (.iload_n 1, 1) := by decide +kernel
theorem dX9_hold_12 : decode cX9_hold 12 = .ok (.iload_n 2, 1) := by decide +kernel
theorem dX9_hold_13 : decode cX9_hold 13 = .ok (.iload_n 3, 1) := by decide +kernel
theorem dX9_hold_14 : decode cX9_hold 14 = .ok (.iload 4, 2) := by decide +kernel
theorem dX9_hold_16 : decode cX9_hold 16 = .ok (.invokevirtual 226, 3) := by decide +kernel
theorem dX9_hold_19 : decode cX9_hold 19 = .ok (.istore 5, 2) := by decide +kernel
theorem dX9_hold_21 : decode cX9_hold 21 = .ok (.iload 5, 2) := by decide +kernel
theorem dX9_hold_23 : decode cX9_hold 23 = .ok (.ifCond .ge 8, 3) := by decide +kernel
theorem dX9_hold_26 : decode cX9_hold 26 = .ok (.aload_n 0, 1) := by decide +kernel
theorem dX9_hold_27 : decode cX9_hold 27 = .ok (.iconst 4, 1) := by decide +kernel
theorem dX9_hold_28 : decode cX9_hold 28 = .ok (.invokevirtual 163, 3) := by decide +kernel
theorem dX9_hold_31 : decode cX9_hold 31 = .ok (.iload 5, 2) := by decide +kernel
theorem dX9_hold_33 : decode cX9_hold 33 = .ok (.ifCond .gt 8, 3) := by decide +kernel
theorem dX9_hold_36 : decode cX9_hold 36 = .ok (.iload 4, 2) := by decide +kernel
theorem dX9_hold_38 : decode cX9_hold 38 = .ok (.iconst 1, 1) := by decide +kernel
theorem dX9_hold_39 : decode cX9_hold 39 = .ok (.iadd, 1) := by decide +kernel
theorem dX9_hold_40 : decode cX9_hold 40 = .ok (.ireturn, 1) := by decide +kernel
theorem dX9_hold_41 : decode cX9_hold 41 = .ok (.aload_n 0, 1) := by decide +kernel
theorem dX9_hold_42 : decode cX9_hold 42 = .ok (.getfield 58, 3) := by decide +kernel
theorem dX9_hold_45 : decode cX9_hold 45 = .ok (.aload_n 0, 1) := by decide +kernel
theorem dX9_hold_46 : decode cX9_hold 46 = .ok (.getfield 219, 3) := by decide +kernel
theorem dX9_hold_49 : decode cX9_hold 49 = .ok (.iload_n 3, 1) := by decide +kernel
theorem dX9_hold_50 : decode cX9_hold 50 = .ok (.iastore, 1) := by decide +kernel
theorem dX9_hold_51 : decode cX9_hold 51 = .ok (.aload_n 0, 1) := by decide +kernel
theorem dX9_hold_52 : decode cX9_hold 52 = .ok (.getfield 61, 3) := by decide +kernel
theorem dX9_hold_55 : decode cX9_hold 55 = .ok (.aload_n 0, 1) := by decide +kernel
theorem dX9_hold_56 : decode cX9_hold 56 = .ok (.getfield 219, 3) := by decide +kernel
theorem dX9_hold_59 : decode cX9_hold 59 = .ok (.iload 5, 2) := by decide +kernel
theorem dX9_hold_61 : decode cX9_hold 61 = .ok (.iastore, 1) := by decide +kernel
theorem dX9_hold_62 : decode cX9_hold 62 = .ok (.aload_n 0, 1) := by decide +kernel
theorem dX9_hold_63 : decode cX9_hold 63 = .ok (.getfield 64, 3) := by decide +kernel
theorem dX9_hold_66 : decode cX9_hold 66 = .ok (.aload_n 0, 1) := by decide +kernel
theorem dX9_hold_67 : decode cX9_hold 67 = .ok (.getfield 219, 3) := by decide +kernel
theorem dX9_hold_70 : decode cX9_hold 70 = .ok (.iconst 0, 1) := by decide +kernel
theorem dX9_hold_71 : decode cX9_hold 71 = .ok (.iastore, 1) := by decide +kernel
theorem dX9_hold_72 : decode cX9_hold 72 = .ok (.aload_n 0, 1) := by decide +kernel
theorem dX9_hold_73 : decode cX9_hold 73 = .ok (.dup, 1) := by decide +kernel
theorem dX9_hold_74 : decode cX9_hold 74 = .ok (.getfield 219, 3) := by decide +kernel
theorem dX9_hold_77 : decode cX9_hold 77 = .ok (.iconst 1, 1) := by decide +kernel
theorem dX9_hold_78 : decode cX9_hold 78 = .ok (.iadd, 1) := by decide +kernel
theorem dX9_hold_79 : decode cX9_hold 79 = .ok (.putfield 219, 3) := by decide +kernel
theorem dX9_hold_82 : decode cX9_hold 82 = .ok (.iload_n 3, 1) := by decide +kernel
theorem dX9_hold_83 : decode cX9_hold 83 = .ok (.ireturn, 1) := by decide +kernel
theorem dX9_isHeld_0 : decode cX9_isHeld 0 = .ok (.aload_n 0, 1) := by decide +kernel
theorem dX9_isHeld_1 : decode cX9_isHeld 1 = .ok (.getfield 219, 3) := by decide +kernel
theorem dX9_isHeld_4 : decode cX9_isHeld 4 = .ok (.ifCond .le 22, 3) := by decide +kernel
theorem dX9_isHeld_7 : decode cX9_isHeld 7 = .ok (.aload_n 0, 1) := by decide +kernel
theorem dX9_isHeld_8 : decode cX9_isHeld 8 = .ok (.getfield 58, 3) := by decide +kernel
theorem dX9_isHeld_11 : decode cX9_isHeld 11 = .ok (.aload_n 0, 1) := by decide +kernel
theorem dX9_isHeld_12 : decode cX9_isHeld 12 = .ok (.getfield 219, 3) := by decide +kernel
theorem dX9_isHeld_15 : decode cX9_isHeld 15 = .ok (.iconst 1, 1) := by decide +kernel
theorem dX9_isHeld_16 : decode cX9_isHeld 16 = .ok (.isub, 1) := by decide +kernel
theorem dX9_isHeld_17 : decode cX9_isHeld 17 = .ok (.iaload, 1) := by decide +kernel
theorem dX9_isHeld_18 : decode cX9_isHeld 18 = .ok (.iload_n 1, 1) := by decide +kernel
theorem dX9_isHeld_19 : decode cX9_isHeld 19 = .ok (.if_icmp .ne 7, 3) := by decide +kernel
theorem dX9_isHeld_22 : decode cX9_isHeld 22 = .ok (.iconst 1, 1) := by decide +kernel
theorem dX9_isHeld_23 : decode cX9_isHeld 23 = .ok (.goto 4, 3) := by decide +kernel
theorem dX9_isHeld_26 : decode cX9_isHeld 26 = .ok (.iconst 0, 1) := by decide +kernel
theorem dX9_isHeld_27 : decode cX9_isHeld 27 = .ok (.ireturn, 1) := by decide +kernel
theorem dX9_again_0 : decode cX9_again 0 = .ok (.aload_n 0, 1) := by decide +kernel
theorem dX9_again_1 : decode cX9_again 1 = .ok (.getfield 64, 3) := by decide +kernel
theorem dX9_again_4 : decode cX9_again 4 = .ok (.aload_n 0, 1) := by decide +kernel
theorem dX9_again_5 : decode cX9_again 5 = .ok (.getfield 219, 3) := by decide +kernel
theorem dX9_again_8 : decode cX9_again 8 = .ok (.iconst 1, 1) := by decide +kernel
theorem dX9_again_9 : decode cX9_again 9 = .ok (.isub, 1) := by decide +kernel
theorem dX9_again_10 : decode cX9_again 10 = .ok (.dup2, 1) := by decide +kernel
theorem dX9_again_11 : decode cX9_again 11 = .ok (.iaload, 1) := by decide +kernel
theorem dX9_again_12 : decode cX9_again 12 = .ok (.iconst 1, 1) := by decide +kernel
theorem dX9_again_13 : decode cX9_again 13 = .ok (.iadd, 1) := by decide +kernel
theorem dX9_again_14 : decode cX9_again 14 = .ok (.iastore, 1) := by decide +kernel
theorem dX9_again_15 : decode cX9_again 15 = .ok (.aload_n 0, 1) := by decide +kernel
theorem dX9_again_16 : decode cX9_again 16 = .ok (.getfield 64, 3) := by decide +kernel
theorem dX9_again_19 : decode cX9_again 19 = .ok (.aload_n 0, 1) := by decide +kernel
theorem dX9_again_20 : decode cX9_again 20 = .ok (.getfield 219, 3) := by decide +kernel
theorem dX9_again_23 : decode cX9_again 23 = .ok (.iconst 1, 1) := by decide +kernel
theorem dX9_again_24 : decode cX9_again 24 = .ok (.isub, 1) := by decide +kernel
theorem dX9_again_25 : decode cX9_again 25 = .ok (.iaload, 1) := by decide +kernel
theorem dX9_again_26 : decode cX9_again 26 = .ok (.aload_n 0, 1) := by decide +kernel
theorem dX9_again_27 : decode cX9_again 27 = .ok (.getfield 61, 3) := by decide +kernel
theorem dX9_again_30 : decode cX9_again 30 = .ok (.aload_n 0, 1) := by decide +kernel
theorem dX9_again_31 : decode cX9_again 31 = .ok (.getfield 219, 3) := by decide +kernel
theorem dX9_again_34 : decode cX9_again 34 = .ok (.iconst 1, 1) := by decide +kernel
theorem dX9_again_35 : decode cX9_again 35 = .ok (.isub, 1) := by decide +kernel
theorem dX9_again_36 : decode cX9_again 36 = .ok (.iaload, 1) := by decide +kernel
theorem dX9_again_37 : decode cX9_again 37 = .ok (.if_icmp .ge 15, 3) := by decide +kernel
theorem dX9_again_40 : decode cX9_again 40 = .ok (.aload_n 0, 1) := by decide +kernel
theorem dX9_again_41 : decode cX9_again 41 = .ok (.getfield 58, 3) := by decide +kernel
theorem dX9_again_44 : decode cX9_again 44 = .ok (.aload_n 0, 1) := by decide +kernel
theorem dX9_again_45 : decode cX9_again 45 = .ok (.getfield 219, 3) := by decide +kernel
theorem dX9_again_48 : decode cX9_again 48 = .ok (.iconst 1, 1) := by decide +kernel
theorem dX9_again_49 : decode cX9_again 49 = .ok (.isub, 1) := by decide +kernel
theorem dX9_again_50 : decode cX9_again 50 = .ok (.iaload, 1) := by decide +kernel
theorem dX9_again_51 : decode cX9_again 51 = .ok (.ireturn, 1) := by decide +kernel
theorem dX9_again_52 : decode cX9_again 52 = .ok (.aload_n 0, 1) := by decide +kernel
theorem dX9_again_53 : decode cX9_again 53 = .ok (.dup, 1) := by decide +kernel
theorem dX9_again_54 : decode cX9_again 54 = .ok (.getfield 219, 3) := by decide +kernel
theorem dX9_again_57 : decode cX9_again 57 = .ok (.iconst 1, 1) := by decide +kernel
theorem dX9_again_58 : decode cX9_again 58 = .ok (.isub, 1) := by decide +kernel
theorem dX9_again_59 : decode cX9_again 59 = .ok (.putfield 219, 3) := by decide +kernel
theorem dX9_again_62 : decode cX9_again 62 = .ok (.iload_n 1, 1) := by decide +kernel
theorem dX9_again_63 : decode cX9_again 63 = .ok (.iconst 1, 1) := by decide +kernel
theorem dX9_again_64 : decode cX9_again 64 = .ok (.iadd, 1) := by decide +kernel
theorem dX9_again_65 : decode cX9_again 65 = .ok (.ireturn, 1) := by decide +kernel
theorem iw_X9_isHeld_X9 : ∀ w ∈ wsX90, w ∈ wsX9_isHeld := by decide +kernel
theorem lk_X9_isHeld_219 : Cond.fieldLink RX9 219 "MarkedNamesModel" "held" "I" ∈ wsX9_isHeld := by decide +kernel
theorem lk_X9_isHeld_58 : Cond.fieldLink RX9 58 "MarkedNamesModel" "begins" "[I" ∈ wsX9_isHeld := by decide +kernel
theorem iw_X9_hold_X9 : ∀ w ∈ wsX90, w ∈ wsX9_hold := by decide +kernel
theorem lk_X9_hold_19 : Cond.fieldLink RX9 19 "MarkedNamesModel" "kept" "[I" ∈ wsX9_hold := by decide +kernel
theorem iw_X9_roundsOf_X9 : ∀ w ∈ wsX90, w ∈ wsX9_roundsOf := by decide +kernel
theorem lk_X9_roundsOf_19 : Cond.fieldLink RX9 19 "MarkedNamesModel" "kept" "[I" ∈ wsX9_roundsOf := by decide +kernel
theorem lk_X9_roundsOf_22 : Cond.fieldLink RX9 22 "MarkedNamesModel" "keptSet" "[I" ∈ wsX9_roundsOf := by decide +kernel
theorem lk_X9_roundsOf_219 : Cond.fieldLink RX9 219 "MarkedNamesModel" "held" "I" ∈ wsX9_roundsOf := by decide +kernel
theorem iw_X9_walk_X9 : ∀ w ∈ wsX90, w ∈ wsX9_walk := by decide +kernel
theorem lk_X9_walk_19 : Cond.fieldLink RX9 19 "MarkedNamesModel" "kept" "[I" ∈ wsX9_walk := by decide +kernel
theorem lk_X9_walk_13 : Cond.fieldLink RX9 13 "MarkedNamesModel" "row" "[I" ∈ wsX9_walk := by decide +kernel
theorem lk_X9_walk_64 : Cond.fieldLink RX9 64 "MarkedNamesModel" "round" "[I" ∈ wsX9_walk := by decide +kernel
theorem lk_X9_hold_58 : Cond.fieldLink RX9 58 "MarkedNamesModel" "begins" "[I" ∈ wsX9_hold := by decide +kernel
theorem lk_X9_hold_219 : Cond.fieldLink RX9 219 "MarkedNamesModel" "held" "I" ∈ wsX9_hold := by decide +kernel
theorem lk_X9_hold_61 : Cond.fieldLink RX9 61 "MarkedNamesModel" "rounds" "[I" ∈ wsX9_hold := by decide +kernel
theorem lk_X9_hold_64 : Cond.fieldLink RX9 64 "MarkedNamesModel" "round" "[I" ∈ wsX9_hold := by decide +kernel
theorem iw_X9_again_X9 : ∀ w ∈ wsX90, w ∈ wsX9_again := by decide +kernel
theorem lk_X9_again_64 : Cond.fieldLink RX9 64 "MarkedNamesModel" "round" "[I" ∈ wsX9_again := by decide +kernel
theorem lk_X9_again_219 : Cond.fieldLink RX9 219 "MarkedNamesModel" "held" "I" ∈ wsX9_again := by decide +kernel
theorem lk_X9_again_61 : Cond.fieldLink RX9 61 "MarkedNamesModel" "rounds" "[I" ∈ wsX9_again := by decide +kernel
theorem lk_X9_again_58 : Cond.fieldLink RX9 58 "MarkedNamesModel" "begins" "[I" ∈ wsX9_again := by decide +kernel
theorem mw_X9_add__constant_RX9_88_65536_Int32_ : Cond.constant RX9 88 (65536 : Int32) ∈ wsX9_add := by decide +kernel
theorem iw_X9_add_X9 : ∀ w ∈ wsX90, w ∈ wsX9_add := by decide +kernel
theorem lk_X9_add_213 : Cond.fieldLink RX9 213 "MarkedNamesModel" "trees" "I" ∈ wsX9_add := by decide +kernel
theorem lk_X9_add_46 : Cond.fieldLink RX9 46 "MarkedNamesModel" "made" "[I" ∈ wsX9_add := by decide +kernel
theorem lk_X9_add_216 : Cond.fieldLink RX9 216 "MarkedNamesModel" "many" "I" ∈ wsX9_add := by decide +kernel
theorem lk_X9_add_49 : Cond.fieldLink RX9 49 "MarkedNamesModel" "madeSet" "[I" ∈ wsX9_add := by decide +kernel
section
variable {l : Launch} {p : Program} {e : Env} {s : State} {m : MethodId} {args : Array Value} {below : List Frame} {meth : Method} {c : Code} {A : Nat → Prop} {dC : Nat → ClassId} {dI : Nat → Nat → Nat} {cA : ClassId} {a b : Nat → Nat} {lev : Nat}
set_option maxHeartbeats 4000000 in
set_option maxRecDepth 100000 in
theorem X9_isHeld_met (hlev : 0 ≤ lev) {x1 : Int32} {u : mS} {post : Int32 → mS → Prop} (hw : wp_X9_isHeld x1 u post) : mKi l yX9_isHeld wsX9_isHeld lev (eM) (dC, dI) vwCl [(cA, .int)] (wM cA b) [.ref (b 0), .int x1] u (fun r w => (r = 0 ∨ r = 1) ∧ post r w) := by
  refine mKz_of (cc := cX9_isHeld) (maxL := 2) (by decide) rfl rfl (Nat.le_of_ble_eq_true rfl) rfl ?_
  intro p e s m args below meth c A C hs
  unfold wp_X9_isHeld at hw
  refine mv_aload_n C dX9_isHeld_0 rfl 0 rfl ?_
  refine mv_get (v := .int (u.1 8)) C iw_X9_isHeld_X9 0 rfl rfl 27 (by decide) lk_X9_isHeld_219 rfl rfl dX9_isHeld_1 ?_
  refine mv_topi (fun y1 ey1 => ?_)
  have hw := hw y1 ey1
  refine mv_if_le (tgt := 26) C dX9_isHeld_4 (by decide) (fun h2 => ?_) (fun h2 => ?_)
  · have hw := hw.1 h2
    refine mv_iconst (v := (0 : Int32)) C dX9_isHeld_26 (by decide) ?_
    exact mv_zret C dX9_isHeld_27 (Or.inl rfl) hw
  · have hw := hw.2 h2
    refine mv_aload_n C dX9_isHeld_7 rfl 0 rfl ?_
    refine mv_get (v := .ref (b 17)) C iw_X9_isHeld_X9 0 rfl rfl 24 (by decide) lk_X9_isHeld_58 rfl rfl dX9_isHeld_8 ?_
    refine mv_aload_n C dX9_isHeld_11 rfl 0 rfl ?_
    refine mv_get (v := .int (u.1 8)) C iw_X9_isHeld_X9 0 rfl rfl 27 (by decide) lk_X9_isHeld_219 rfl rfl dX9_isHeld_12 ?_
    refine mv_topi (fun y3 ey3 => ?_)
    have hw := hw y3 ey3
    refine mv_iconst (v := (1 : Int32)) C dX9_isHeld_15 (by decide) ?_
    refine mv_isub C dX9_isHeld_16 ?_
    refine mv_topi (fun y4 ey4 => ?_)
    have hw := hw y4 ey4
    refine mv_iald (f := u.2 16) C 17 0 rfl rfl hw.1 dX9_isHeld_17 ?_
    refine mv_topi (fun y5 ey5 => ?_)
    have hw := hw.2 y5 ey5
    refine mv_iload_n C dX9_isHeld_18 rfl 1 rfl ?_
    refine mv_icmp_ne (tgt := 26) C dX9_isHeld_19 (by decide) (fun h6 => ?_) (fun h6 => ?_)
    · have hw := hw.1 h6
      refine mv_iconst (v := (0 : Int32)) C dX9_isHeld_26 (by decide) ?_
      exact mv_zret C dX9_isHeld_27 (Or.inl rfl) hw
    · have hw := hw.2 h6
      refine mv_iconst (v := (1 : Int32)) C dX9_isHeld_22 (by decide) ?_
      refine mv_goto (tgt := 27) C dX9_isHeld_23 (by decide) ?_
      exact mv_zret C dX9_isHeld_27 (Or.inr rfl) hw
set_option maxHeartbeats 4000000 in
set_option maxRecDepth 100000 in
theorem wj_X9_walk_168_ok (C : mC p s m args meth c cX9_walk 13 wsX9_walk RX9 (some .int) (dC, dI) vwCl [(cA, .int)] A) (hs : eM A s) (hlev : 2 ≤ lev) {post : Int32 → mS → Prop} {K9 : Int32 → Int32 → Int32 → Int32 → Int32 → mS → Prop} (hK9 : ∀ (x3 x4 x5 x6 x7 : Int32) (u : mS), K9 x3 x4 x5 x6 x7 u → mV p l e (mRm lev) s m args below meth c 13 (dC, dI) vwCl A 0 0 (mQi below args s (dC, dI) vwCl [(cA, .int)] (wM cA b) A post) (wM cA b u) 9 [(0, .ref (b 0)), (3, .int x3), (4, .int x4), (5, .int x5), (6, .int x6), (7, .int x7)] []) {x3 x4 x7 x8 x9 : Int32} {u : mS} (hw : wj_X9_walk_168 K9 post x3 x4 x7 x8 x9 u) : mV p l e (mRm lev) s m args below meth c 13 (dC, dI) vwCl A 0 0 (mQi below args s (dC, dI) vwCl [(cA, .int)] (wM cA b) A post) (wM cA b u) 168 [(0, .ref (b 0)), (3, .int x3), (4, .int x4), (7, .int x7), (8, .int x8), (9, .int x9)] [] := by
  unfold wj_X9_walk_168 at hw
  refine mv_iload C dX9_walk_168 4 rfl ?_
  refine mv_istore (lv1 := [(5, .int x8), (0, .ref (b 0)), (3, .int x3), (4, .int x4), (7, .int x7), (8, .int x8), (9, .int x9)]) C dX9_walk_170 (by decide) rfl ?_
  refine mv_iload C dX9_walk_172 6 rfl ?_
  refine mv_istore (lv1 := [(6, .int x9), (5, .int x8), (0, .ref (b 0)), (3, .int x3), (4, .int x4), (7, .int x7), (8, .int x8), (9, .int x9)]) C dX9_walk_174 (by decide) rfl ?_
  refine mv_goto (tgt := 9) C dX9_walk_176 (by decide) ?_
  refine mv_sub [2, 3, 4, 1, 0, 5] rfl ?_
  exact hK9 x3 x4 x8 x9 x7 u hw
set_option maxHeartbeats 4000000 in
set_option maxRecDepth 100000 in
theorem wj_X9_walk_136_ok (C : mC p s m args meth c cX9_walk 13 wsX9_walk RX9 (some .int) (dC, dI) vwCl [(cA, .int)] A) (hs : eM A s) (hlev : 2 ≤ lev) {post : Int32 → mS → Prop} {K136 : Int32 → Int32 → Int32 → Int32 → Int32 → Int32 → mS → Prop} (hK136 : ∀ (x3 x4 x7 x8 x9 x12 : Int32) (u : mS), K136 x3 x4 x7 x8 x9 x12 u → mV p l e (mRm lev) s m args below meth c 13 (dC, dI) vwCl A 0 0 (mQi below args s (dC, dI) vwCl [(cA, .int)] (wM cA b) A post) (wM cA b u) 136 [(0, .ref (b 0)), (3, .int x3), (4, .int x4), (7, .int x7), (8, .int x8), (9, .int x9), (12, .int x12)] []) {K9 : Int32 → Int32 → Int32 → Int32 → Int32 → mS → Prop} (hK9 : ∀ (x3 x4 x5 x6 x7 : Int32) (u : mS), K9 x3 x4 x5 x6 x7 u → mV p l e (mRm lev) s m args below meth c 13 (dC, dI) vwCl A 0 0 (mQi below args s (dC, dI) vwCl [(cA, .int)] (wM cA b) A post) (wM cA b u) 9 [(0, .ref (b 0)), (3, .int x3), (4, .int x4), (5, .int x5), (6, .int x6), (7, .int x7)] []) {x3 x4 x7 x8 x9 x12 : Int32} {u : mS} (hw : wj_X9_walk_136 K136 K9 post x3 x4 x7 x8 x9 x12 u) : mV p l e (mRm lev) s m args below meth c 13 (dC, dI) vwCl A 0 0 (mQi below args s (dC, dI) vwCl [(cA, .int)] (wM cA b) A post) (wM cA b u) 136 [(0, .ref (b 0)), (3, .int x3), (4, .int x4), (7, .int x7), (8, .int x8), (9, .int x9), (12, .int x12)] [] := by
  unfold wj_X9_walk_136 at hw
  refine mv_iload C dX9_walk_136 6 rfl ?_
  refine mv_aload_n C dX9_walk_138 rfl 0 rfl ?_
  refine mv_get (v := .ref (b 19)) C iw_X9_walk_X9 0 rfl rfl 26 (by decide) lk_X9_walk_64 rfl rfl dX9_walk_139 ?_
  refine mv_iload C dX9_walk_142 3 rfl ?_
  refine mv_iald (f := u.2 18) C 19 0 rfl rfl hw.1 dX9_walk_144 ?_
  refine mv_topi (fun y23 ey23 => ?_)
  have hw := hw.2 y23 ey23
  refine mv_icmp_ge (tgt := 165) C dX9_walk_145 (by decide) (fun h24 => ?_) (fun h24 => ?_)
  · have hw := hw.1 h24
    obtain ⟨y25, ey25⟩ : ∃ z : Int32, z = x7 + (1 : Int32) := ⟨_, rfl⟩
    have hw := hw y25 ey25
    refine mv_iinc (v := y25) (lv1 := [(7, .int y25), (0, .ref (b 0)), (3, .int x3), (4, .int x4), (8, .int x8), (9, .int x9), (12, .int x12)]) C dX9_walk_165 3 rfl (by rw [ey25]; rfl) (by decide) rfl ?_
    refine mv_sub [1, 2, 3, 0, 4, 5] rfl ?_
    exact wj_X9_walk_168_ok C hs hlev hK9 hw
  · have hw := hw.2 h24
    refine mv_aload_n C dX9_walk_148 rfl 0 rfl ?_
    refine mv_get (v := .ref (b 2)) C iw_X9_walk_X9 0 rfl rfl 2 (by decide) lk_X9_walk_13 rfl rfl dX9_walk_149 ?_
    refine mv_iload C dX9_walk_152 5 rfl ?_
    refine mv_callSi (f := wM cA b) (As := [.ref (b 2), .int x9]) (rest := []) C eM_ok hs (X9_end_2_met (l := l) (lev := lev - 1) (by omega) hw) (va_cwS 2 C.2.2.2.2.1 gX9_walk_X9_end rfl rfl rfl (by decide +kernel) (mRm_le (by omega) (by decide))) rfl rfl (Nat.le_of_ble_eq_true rfl) dX9_walk_154 ⟨Nat.le_refl 0, Nat.le_refl 0⟩ (fun r26 u27 hw => ?_)
    refine mv_istore (lv1 := [(9, .int r26), (0, .ref (b 0)), (3, .int x3), (4, .int x4), (7, .int x7), (8, .int x8), (12, .int x12)]) C dX9_walk_157 (by decide) rfl ?_
    obtain ⟨y28, ey28⟩ : ∃ z : Int32, z = x12 + (1 : Int32) := ⟨_, rfl⟩
    have hw := hw y28 ey28
    refine mv_iinc (v := y28) (lv1 := [(12, .int y28), (9, .int r26), (0, .ref (b 0)), (3, .int x3), (4, .int x4), (7, .int x7), (8, .int x8)]) C dX9_walk_159 6 rfl (by rw [ey28]; rfl) (by decide) rfl ?_
    refine mv_goto (tgt := 136) C dX9_walk_162 (by decide) ?_
    refine mv_sub [2, 3, 4, 5, 6, 1, 0] rfl ?_
    exact hK136 x3 x4 x7 x8 r26 y28 u27 hw
set_option maxHeartbeats 4000000 in
set_option maxRecDepth 100000 in
theorem wj_X9_walk_93_ok (C : mC p s m args meth c cX9_walk 13 wsX9_walk RX9 (some .int) (dC, dI) vwCl [(cA, .int)] A) (hs : eM A s) (hlev : 2 ≤ lev) {post : Int32 → mS → Prop} {K93 : Int32 → Int32 → Int32 → Int32 → Int32 → Int32 → Int32 → mS → Prop} (hK93 : ∀ (x3 x4 x7 x8 x9 x10 x11 : Int32) (u : mS), K93 x3 x4 x7 x8 x9 x10 x11 u → mV p l e (mRm lev) s m args below meth c 13 (dC, dI) vwCl A 0 0 (mQi below args s (dC, dI) vwCl [(cA, .int)] (wM cA b) A post) (wM cA b u) 93 [(0, .ref (b 0)), (3, .int x3), (4, .int x4), (7, .int x7), (8, .int x8), (9, .int x9), (10, .int x10), (11, .int x11)] []) {K9 : Int32 → Int32 → Int32 → Int32 → Int32 → mS → Prop} (hK9 : ∀ (x3 x4 x5 x6 x7 : Int32) (u : mS), K9 x3 x4 x5 x6 x7 u → mV p l e (mRm lev) s m args below meth c 13 (dC, dI) vwCl A 0 0 (mQi below args s (dC, dI) vwCl [(cA, .int)] (wM cA b) A post) (wM cA b u) 9 [(0, .ref (b 0)), (3, .int x3), (4, .int x4), (5, .int x5), (6, .int x6), (7, .int x7)] []) {x3 x4 x7 x8 x9 x10 x11 : Int32} {u : mS} (hw : wj_X9_walk_93 K93 K9 post x3 x4 x7 x8 x9 x10 x11 u) : mV p l e (mRm lev) s m args below meth c 13 (dC, dI) vwCl A 0 0 (mQi below args s (dC, dI) vwCl [(cA, .int)] (wM cA b) A post) (wM cA b u) 93 [(0, .ref (b 0)), (3, .int x3), (4, .int x4), (7, .int x7), (8, .int x8), (9, .int x9), (10, .int x10), (11, .int x11)] [] := by
  unfold wj_X9_walk_93 at hw
  refine mv_aload_n C dX9_walk_93 rfl 0 rfl ?_
  refine mv_get (v := .ref (b 2)) C iw_X9_walk_X9 0 rfl rfl 2 (by decide) lk_X9_walk_13 rfl rfl dX9_walk_94 ?_
  refine mv_iload C dX9_walk_97 7 rfl ?_
  refine mv_callSi (f := wM cA b) (As := [.ref (b 2), .int x11]) (rest := []) C eM_ok hs (X9_kind_2_met (l := l) (lev := lev - 1) (by omega) hw) (va_cwS 2 C.2.2.2.2.1 gX9_walk_X9_kind rfl rfl rfl (by decide +kernel) (mRm_le (by omega) (by decide))) rfl rfl (Nat.le_of_ble_eq_true rfl) dX9_walk_99 ⟨Nat.le_refl 0, Nat.le_refl 0⟩ (fun r16 u17 hw => ?_)
  refine mv_iconst (v := (2 : Int32)) C dX9_walk_102 (by decide) ?_
  refine mv_icmp_eq (tgt := 123) C dX9_walk_103 (by decide) (fun h18 => ?_) (fun h18 => ?_)
  · have hw := hw.1 h18
    refine mv_iload C dX9_walk_123 3 rfl ?_
    refine mv_iload C dX9_walk_125 2 rfl ?_
    refine mv_icmp_ne (tgt := 133) C dX9_walk_127 (by decide) (fun h19 => ?_) (fun h19 => ?_)
    · have hw := hw.1 h19
      refine mv_iconst (v := (0 : Int32)) C dX9_walk_133 (by decide) ?_
      refine mv_istore (lv1 := [(12, .int (0 : Int32)), (0, .ref (b 0)), (3, .int x3), (4, .int x4), (7, .int x7), (8, .int x8), (9, .int x9), (10, .int x10), (11, .int x11)]) C dX9_walk_134 (by decide) rfl ?_
      refine mv_sub [1, 2, 3, 4, 5, 6, 0] rfl ?_
      obtain ⟨n, hw⟩ := hw
      exact mL7_of (fun K hK b0 b1 b2 b3 b4 b5 b6 hw => wj_X9_walk_136_ok C hs hlev hK hK9 hw) n x3 x4 x7 x8 x9 (0 : Int32) u17 hw
    · have hw := hw.2 h19
      refine mv_iload C dX9_walk_130 6 rfl ?_
      exact mv_iret C dX9_walk_132 hw
  · have hw := hw.2 h18
    refine mv_aload_n C dX9_walk_106 rfl 0 rfl ?_
    refine mv_get (v := .ref (b 2)) C iw_X9_walk_X9 0 rfl rfl 2 (by decide) lk_X9_walk_13 rfl rfl dX9_walk_107 ?_
    refine mv_iload C dX9_walk_110 7 rfl ?_
    refine mv_callSi (f := wM cA b) (As := [.ref (b 2), .int x11]) (rest := []) C eM_ok hs (X9_end_2_met (l := l) (lev := lev - 1) (by omega) hw) (va_cwS 2 C.2.2.2.2.1 gX9_walk_X9_end rfl rfl rfl (by decide +kernel) (mRm_le (by omega) (by decide))) rfl rfl (Nat.le_of_ble_eq_true rfl) dX9_walk_112 ⟨Nat.le_refl 0, Nat.le_refl 0⟩ (fun r20 u21 hw => ?_)
    refine mv_istore (lv1 := [(11, .int r20), (0, .ref (b 0)), (3, .int x3), (4, .int x4), (7, .int x7), (8, .int x8), (9, .int x9), (10, .int x10)]) C dX9_walk_115 (by decide) rfl ?_
    obtain ⟨y22, ey22⟩ : ∃ z : Int32, z = x10 + (1 : Int32) := ⟨_, rfl⟩
    have hw := hw y22 ey22
    refine mv_iinc (v := y22) (lv1 := [(10, .int y22), (11, .int r20), (0, .ref (b 0)), (3, .int x3), (4, .int x4), (7, .int x7), (8, .int x8), (9, .int x9)]) C dX9_walk_117 7 rfl (by rw [ey22]; rfl) (by decide) rfl ?_
    refine mv_goto (tgt := 93) C dX9_walk_120 (by decide) ?_
    refine mv_sub [2, 3, 4, 5, 6, 7, 0, 1] rfl ?_
    exact hK93 x3 x4 x7 x8 x9 y22 r20 u21 hw
set_option maxHeartbeats 4000000 in
set_option maxRecDepth 100000 in
theorem wj_X9_walk_27_ok (C : mC p s m args meth c cX9_walk 13 wsX9_walk RX9 (some .int) (dC, dI) vwCl [(cA, .int)] A) (hs : eM A s) (hlev : 2 ≤ lev) {post : Int32 → mS → Prop} {K27 : Int32 → Int32 → Int32 → Int32 → Int32 → mS → Prop} (hK27 : ∀ (x3 x4 x7 x8 x9 : Int32) (u : mS), K27 x3 x4 x7 x8 x9 u → mV p l e (mRm lev) s m args below meth c 13 (dC, dI) vwCl A 0 0 (mQi below args s (dC, dI) vwCl [(cA, .int)] (wM cA b) A post) (wM cA b u) 27 [(0, .ref (b 0)), (3, .int x3), (4, .int x4), (7, .int x7), (8, .int x8), (9, .int x9)] []) {K9 : Int32 → Int32 → Int32 → Int32 → Int32 → mS → Prop} (hK9 : ∀ (x3 x4 x5 x6 x7 : Int32) (u : mS), K9 x3 x4 x5 x6 x7 u → mV p l e (mRm lev) s m args below meth c 13 (dC, dI) vwCl A 0 0 (mQi below args s (dC, dI) vwCl [(cA, .int)] (wM cA b) A post) (wM cA b u) 9 [(0, .ref (b 0)), (3, .int x3), (4, .int x4), (5, .int x5), (6, .int x6), (7, .int x7)] []) {x3 x4 x7 x8 x9 : Int32} {u : mS} (hw : wj_X9_walk_27 K27 K9 post x3 x4 x7 x8 x9 u) : mV p l e (mRm lev) s m args below meth c 13 (dC, dI) vwCl A 0 0 (mQi below args s (dC, dI) vwCl [(cA, .int)] (wM cA b) A post) (wM cA b u) 27 [(0, .ref (b 0)), (3, .int x3), (4, .int x4), (7, .int x7), (8, .int x8), (9, .int x9)] [] := by
  unfold wj_X9_walk_27 at hw
  refine mv_aload_n C dX9_walk_27 rfl 0 rfl ?_
  refine mv_get (v := .ref (b 4)) C iw_X9_walk_X9 0 rfl rfl 5 (by decide) lk_X9_walk_19 rfl rfl dX9_walk_28 ?_
  refine mv_iload C dX9_walk_31 4 rfl ?_
  refine mv_callSi (f := wM cA b) (As := [.ref (b 4), .int x8]) (rest := []) C eM_ok hs (X9_end_4_met (l := l) (lev := lev - 1) (by omega) hw) (va_cwS 2 C.2.2.2.2.1 gX9_walk_X9_end rfl rfl rfl (by decide +kernel) (mRm_le (by omega) (by decide))) rfl rfl (Nat.le_of_ble_eq_true rfl) dX9_walk_33 ⟨Nat.le_refl 0, Nat.le_refl 0⟩ (fun r4 u5 hw => ?_)
  refine mv_iload_n C dX9_walk_36 rfl 1 rfl ?_
  refine mv_icmp_gt (tgt := 65) C dX9_walk_37 (by decide) (fun h6 => ?_) (fun h6 => ?_)
  · have hw := hw.1 h6
    refine mv_aload_n C dX9_walk_65 rfl 0 rfl ?_
    refine mv_get (v := .ref (b 4)) C iw_X9_walk_X9 0 rfl rfl 5 (by decide) lk_X9_walk_19 rfl rfl dX9_walk_66 ?_
    refine mv_aload_n C dX9_walk_69 rfl 0 rfl ?_
    refine mv_get (v := .ref (b 4)) C iw_X9_walk_X9 0 rfl rfl 5 (by decide) lk_X9_walk_19 rfl rfl dX9_walk_70 ?_
    refine mv_iload C dX9_walk_73 4 rfl ?_
    refine mv_callSi (f := wM cA b) (As := [.ref (b 4), .int x8]) (rest := [.ref (b 4)]) C eM_ok hs (X9_end_4_met (l := l) (lev := lev - 1) (by omega) hw) (va_cwS 2 C.2.2.2.2.1 gX9_walk_X9_end rfl rfl rfl (by decide +kernel) (mRm_le (by omega) (by decide))) rfl rfl (Nat.le_of_ble_eq_true rfl) dX9_walk_75 ⟨Nat.le_refl 0, Nat.le_refl 0⟩ (fun r7 u8 hw => ?_)
    refine mv_callSi (f := wM cA b) (As := [.ref (b 4), .int r7]) (rest := []) C eM_ok hs (X9_kind_4_met (l := l) (lev := lev - 1) (by omega) hw) (va_cwS 2 C.2.2.2.2.1 gX9_walk_X9_kind rfl rfl rfl (by decide +kernel) (mRm_le (by omega) (by decide))) rfl rfl (Nat.le_of_ble_eq_true rfl) dX9_walk_78 ⟨Nat.le_refl 0, Nat.le_refl 0⟩ (fun r9 u10 hw => ?_)
    refine mv_bipush (v := (6 : Int32)) C dX9_walk_81 (by decide) ?_
    refine mv_icmp_ne (tgt := 168) C dX9_walk_83 (by decide) (fun h11 => ?_) (fun h11 => ?_)
    · have hw := hw.1 h11
      exact wj_X9_walk_168_ok C hs hlev hK9 hw
    · have hw := hw.2 h11
      refine mv_iconst (v := (0 : Int32)) C dX9_walk_86 (by decide) ?_
      refine mv_istore (lv1 := [(10, .int (0 : Int32)), (0, .ref (b 0)), (3, .int x3), (4, .int x4), (7, .int x7), (8, .int x8), (9, .int x9)]) C dX9_walk_87 (by decide) rfl ?_
      refine mv_iload C dX9_walk_89 6 rfl ?_
      refine mv_istore (lv1 := [(11, .int x9), (10, .int (0 : Int32)), (0, .ref (b 0)), (3, .int x3), (4, .int x4), (7, .int x7), (8, .int x8), (9, .int x9)]) C dX9_walk_91 (by decide) rfl ?_
      refine mv_sub [2, 3, 4, 5, 6, 7, 1, 0] rfl ?_
      obtain ⟨n, hw⟩ := hw
      exact mL8_of (fun K hK b0 b1 b2 b3 b4 b5 b6 b7 hw => wj_X9_walk_93_ok C hs hlev hK hK9 hw) n x3 x4 x7 x8 x9 (0 : Int32) x9 u10 hw
  · have hw := hw.2 h6
    refine mv_aload_n C dX9_walk_40 rfl 0 rfl ?_
    refine mv_get (v := .ref (b 4)) C iw_X9_walk_X9 0 rfl rfl 5 (by decide) lk_X9_walk_19 rfl rfl dX9_walk_41 ?_
    refine mv_iload C dX9_walk_44 4 rfl ?_
    refine mv_callSi (f := wM cA b) (As := [.ref (b 4), .int x8]) (rest := []) C eM_ok hs (X9_end_4_met (l := l) (lev := lev - 1) (by omega) hw) (va_cwS 2 C.2.2.2.2.1 gX9_walk_X9_end rfl rfl rfl (by decide +kernel) (mRm_le (by omega) (by decide))) rfl rfl (Nat.le_of_ble_eq_true rfl) dX9_walk_46 ⟨Nat.le_refl 0, Nat.le_refl 0⟩ (fun r12 u13 hw => ?_)
    refine mv_istore (lv1 := [(8, .int r12), (0, .ref (b 0)), (3, .int x3), (4, .int x4), (7, .int x7), (9, .int x9)]) C dX9_walk_49 (by decide) rfl ?_
    refine mv_aload_n C dX9_walk_51 rfl 1 rfl ?_
    refine mv_get (v := .ref (b 2)) C iw_X9_walk_X9 0 rfl rfl 2 (by decide) lk_X9_walk_13 rfl rfl dX9_walk_52 ?_
    refine mv_iload C dX9_walk_55 5 rfl ?_
    refine mv_callSi (f := wM cA b) (As := [.ref (b 2), .int x9]) (rest := []) C eM_ok hs (X9_end_2_met (l := l) (lev := lev - 1) (by omega) hw) (va_cwS 2 C.2.2.2.2.1 gX9_walk_X9_end rfl rfl rfl (by decide +kernel) (mRm_le (by omega) (by decide))) rfl rfl (Nat.le_of_ble_eq_true rfl) dX9_walk_57 ⟨Nat.le_refl 0, Nat.le_refl 0⟩ (fun r14 u15 hw => ?_)
    refine mv_istore (lv1 := [(9, .int r14), (8, .int r12), (0, .ref (b 0)), (3, .int x3), (4, .int x4), (7, .int x7)]) C dX9_walk_60 (by decide) rfl ?_
    refine mv_goto (tgt := 27) C dX9_walk_62 (by decide) ?_
    refine mv_sub [2, 3, 4, 5, 1, 0] rfl ?_
    exact hK27 x3 x4 x7 r12 r14 u15 hw
set_option maxHeartbeats 4000000 in
set_option maxRecDepth 100000 in
theorem wj_X9_walk_9_ok (C : mC p s m args meth c cX9_walk 13 wsX9_walk RX9 (some .int) (dC, dI) vwCl [(cA, .int)] A) (hs : eM A s) (hlev : 2 ≤ lev) {post : Int32 → mS → Prop} {K9 : Int32 → Int32 → Int32 → Int32 → Int32 → mS → Prop} (hK9 : ∀ (x3 x4 x5 x6 x7 : Int32) (u : mS), K9 x3 x4 x5 x6 x7 u → mV p l e (mRm lev) s m args below meth c 13 (dC, dI) vwCl A 0 0 (mQi below args s (dC, dI) vwCl [(cA, .int)] (wM cA b) A post) (wM cA b u) 9 [(0, .ref (b 0)), (3, .int x3), (4, .int x4), (5, .int x5), (6, .int x6), (7, .int x7)] []) {x3 x4 x5 x6 x7 : Int32} {u : mS} (hw : wj_X9_walk_9 K9 post x3 x4 x5 x6 x7 u) : mV p l e (mRm lev) s m args below meth c 13 (dC, dI) vwCl A 0 0 (mQi below args s (dC, dI) vwCl [(cA, .int)] (wM cA b) A post) (wM cA b u) 9 [(0, .ref (b 0)), (3, .int x3), (4, .int x4), (5, .int x5), (6, .int x6), (7, .int x7)] [] := by
  unfold wj_X9_walk_9 at hw
  refine mv_iload C dX9_walk_9 3 rfl ?_
  refine mv_iload_n C dX9_walk_11 rfl 1 rfl ?_
  refine mv_icmp_eq (tgt := 179) C dX9_walk_12 (by decide) (fun h1 => ?_) (fun h1 => ?_)
  · have hw := hw.1 h1
    refine mv_iload C dX9_walk_179 4 rfl ?_
    exact mv_iret C dX9_walk_181 hw
  · have hw := hw.2 h1
    refine mv_iload C dX9_walk_15 3 rfl ?_
    refine mv_iconst (v := (1 : Int32)) C dX9_walk_17 (by decide) ?_
    refine mv_iadd C dX9_walk_18 ?_
    refine mv_topi (fun y2 ey2 => ?_)
    have hw := hw y2 ey2
    refine mv_istore (lv1 := [(8, .int y2), (0, .ref (b 0)), (3, .int x3), (4, .int x4), (5, .int x5), (6, .int x6), (7, .int x7)]) C dX9_walk_19 (by decide) rfl ?_
    refine mv_iload C dX9_walk_21 5 rfl ?_
    refine mv_iconst (v := (1 : Int32)) C dX9_walk_23 (by decide) ?_
    refine mv_iadd C dX9_walk_24 ?_
    refine mv_topi (fun y3 ey3 => ?_)
    have hw := hw y3 ey3
    refine mv_istore (lv1 := [(9, .int y3), (8, .int y2), (0, .ref (b 0)), (3, .int x3), (4, .int x4), (5, .int x5), (6, .int x6), (7, .int x7)]) C dX9_walk_25 (by decide) rfl ?_
    refine mv_sub [2, 3, 4, 7, 1, 0] rfl ?_
    obtain ⟨n, hw⟩ := hw
    exact mL6_of (fun K hK b0 b1 b2 b3 b4 b5 hw => wj_X9_walk_27_ok C hs hlev hK hK9 hw) n x3 x4 x7 y2 y3 u hw
set_option maxHeartbeats 4000000 in
set_option maxRecDepth 100000 in
theorem X9_walk_met (hlev : 2 ≤ lev) {x1 x2 x3 x4 : Int32} {u : mS} {post : Int32 → mS → Prop} (hw : wp_X9_walk x1 x2 x3 x4 u post) : mKi l yX9_walk wsX9_walk lev (eM) (dC, dI) vwCl [(cA, .int)] (wM cA b) [.ref (b 0), .int x1, .int x2, .int x3, .int x4] u post := by
  refine mKi_of (cc := cX9_walk) (maxL := 13) (by decide) rfl rfl (Nat.le_of_ble_eq_true rfl) rfl ?_
  intro p e s m args below meth c A C hs
  unfold wp_X9_walk at hw
  refine mv_iload_n C dX9_walk_0 rfl 1 rfl ?_
  refine mv_istore (lv1 := [(5, .int x1), (0, .ref (b 0)), (1, .int x1), (2, .int x2), (3, .int x3), (4, .int x4)]) C dX9_walk_1 (by decide) rfl ?_
  refine mv_iload_n C dX9_walk_3 rfl 3 rfl ?_
  refine mv_istore (lv1 := [(6, .int x2), (5, .int x1), (0, .ref (b 0)), (1, .int x1), (2, .int x2), (3, .int x3), (4, .int x4)]) C dX9_walk_4 (by decide) rfl ?_
  refine mv_iconst (v := (0 : Int32)) C dX9_walk_6 (by decide) ?_
  refine mv_istore (lv1 := [(7, .int (0 : Int32)), (6, .int x2), (5, .int x1), (0, .ref (b 0)), (1, .int x1), (2, .int x2), (3, .int x3), (4, .int x4)]) C dX9_walk_7 (by decide) rfl ?_
  refine mv_sub [3, 6, 7, 2, 1, 0] rfl ?_
  obtain ⟨n, hw⟩ := hw
  exact mL6_of (fun K hK b0 b1 b2 b3 b4 b5 hw => wj_X9_walk_9_ok C hs hlev hK hw) n x3 x4 x1 x2 (0 : Int32) u hw
set_option maxHeartbeats 4000000 in
set_option maxRecDepth 100000 in
theorem wj_X9_roundsOf_93_ok (C : mC p s m args meth c cX9_roundsOf 9 wsX9_roundsOf RX9 (some .int) (dC, dI) vwCl [(cA, .int)] A) (hs : eM A s) (hlev : 3 ≤ lev) {post : Int32 → mS → Prop} {K7 : Int32 → Int32 → Int32 → Int32 → Int32 → mS → Prop} (hK7 : ∀ (x1 x2 x4 x5 x6 : Int32) (u : mS), K7 x1 x2 x4 x5 x6 u → mV p l e (mRm lev) s m args below meth c 9 (dC, dI) vwCl A 0 0 (mQi below args s (dC, dI) vwCl [(cA, .int)] (wM cA b) A post) (wM cA b u) 7 [(0, .ref (b 0)), (1, .int x1), (2, .int x2), (4, .int x4), (5, .int x5), (6, .int x6)] []) {x1 x2 x4 x5 x6 : Int32} {u : mS} (hw : wj_X9_roundsOf_93 K7 post x1 x2 x4 x5 x6 u) : mV p l e (mRm lev) s m args below meth c 9 (dC, dI) vwCl A 0 0 (mQi below args s (dC, dI) vwCl [(cA, .int)] (wM cA b) A post) (wM cA b u) 93 [(0, .ref (b 0)), (1, .int x1), (2, .int x2), (4, .int x4), (5, .int x5), (6, .int x6)] [] := by
  unfold wj_X9_roundsOf_93 at hw
  obtain ⟨y15, ey15⟩ : ∃ z : Int32, z = x6 + (1 : Int32) := ⟨_, rfl⟩
  have hw := hw y15 ey15
  refine mv_iinc (v := y15) (lv1 := [(6, .int y15), (0, .ref (b 0)), (1, .int x1), (2, .int x2), (4, .int x4), (5, .int x5)]) C dX9_roundsOf_93 5 rfl (by rw [ey15]; rfl) (by decide) rfl ?_
  refine mv_goto (tgt := 7) C dX9_roundsOf_96 (by decide) ?_
  refine mv_sub [1, 2, 3, 4, 5, 0] rfl ?_
  exact hK7 x1 x2 x4 x5 y15 u hw
set_option maxHeartbeats 4000000 in
set_option maxRecDepth 100000 in
theorem wj_X9_roundsOf_91_ok (C : mC p s m args meth c cX9_roundsOf 9 wsX9_roundsOf RX9 (some .int) (dC, dI) vwCl [(cA, .int)] A) (hs : eM A s) (hlev : 3 ≤ lev) {post : Int32 → mS → Prop} {K7 : Int32 → Int32 → Int32 → Int32 → Int32 → mS → Prop} (hK7 : ∀ (x1 x2 x4 x5 x6 : Int32) (u : mS), K7 x1 x2 x4 x5 x6 u → mV p l e (mRm lev) s m args below meth c 9 (dC, dI) vwCl A 0 0 (mQi below args s (dC, dI) vwCl [(cA, .int)] (wM cA b) A post) (wM cA b u) 7 [(0, .ref (b 0)), (1, .int x1), (2, .int x2), (4, .int x4), (5, .int x5), (6, .int x6)] []) {x1 x2 x4 x6 z0 : Int32} {u : mS} (hw : wj_X9_roundsOf_91 K7 post x1 x2 x4 x6 z0 u) : mV p l e (mRm lev) s m args below meth c 9 (dC, dI) vwCl A 0 0 (mQi below args s (dC, dI) vwCl [(cA, .int)] (wM cA b) A post) (wM cA b u) 91 [(0, .ref (b 0)), (1, .int x1), (2, .int x2), (4, .int x4), (6, .int x6)] [.int z0] := by
  unfold wj_X9_roundsOf_91 at hw
  refine mv_istore (lv1 := [(5, .int z0), (0, .ref (b 0)), (1, .int x1), (2, .int x2), (4, .int x4), (6, .int x6)]) C dX9_roundsOf_91 (by decide) rfl ?_
  refine mv_sub [1, 2, 3, 4, 0, 5] rfl ?_
  exact wj_X9_roundsOf_93_ok C hs hlev hK7 hw
set_option maxHeartbeats 4000000 in
set_option maxRecDepth 100000 in
theorem wj_X9_roundsOf_85_ok (C : mC p s m args meth c cX9_roundsOf 9 wsX9_roundsOf RX9 (some .int) (dC, dI) vwCl [(cA, .int)] A) (hs : eM A s) (hlev : 3 ≤ lev) {post : Int32 → mS → Prop} {K7 : Int32 → Int32 → Int32 → Int32 → Int32 → mS → Prop} (hK7 : ∀ (x1 x2 x4 x5 x6 : Int32) (u : mS), K7 x1 x2 x4 x5 x6 u → mV p l e (mRm lev) s m args below meth c 9 (dC, dI) vwCl A 0 0 (mQi below args s (dC, dI) vwCl [(cA, .int)] (wM cA b) A post) (wM cA b u) 7 [(0, .ref (b 0)), (1, .int x1), (2, .int x2), (4, .int x4), (5, .int x5), (6, .int x6)] []) {x1 x2 x4 x6 x8 : Int32} {u : mS} (hw : wj_X9_roundsOf_85 K7 post x1 x2 x4 x6 x8 u) : mV p l e (mRm lev) s m args below meth c 9 (dC, dI) vwCl A 0 0 (mQi below args s (dC, dI) vwCl [(cA, .int)] (wM cA b) A post) (wM cA b u) 85 [(0, .ref (b 0)), (1, .int x1), (2, .int x2), (4, .int x4), (6, .int x6), (8, .int x8)] [] := by
  unfold wj_X9_roundsOf_85 at hw
  refine mv_iload C dX9_roundsOf_85 5 rfl ?_
  refine mv_goto (tgt := 91) C dX9_roundsOf_87 (by decide) ?_
  refine mv_sub [0, 1, 2, 3, 4] rfl ?_
  exact wj_X9_roundsOf_91_ok C hs hlev hK7 hw
set_option maxHeartbeats 4000000 in
set_option maxRecDepth 100000 in
theorem wj_X9_roundsOf_50_ok (C : mC p s m args meth c cX9_roundsOf 9 wsX9_roundsOf RX9 (some .int) (dC, dI) vwCl [(cA, .int)] A) (hs : eM A s) (hlev : 3 ≤ lev) {post : Int32 → mS → Prop} {K7 : Int32 → Int32 → Int32 → Int32 → Int32 → mS → Prop} (hK7 : ∀ (x1 x2 x4 x5 x6 : Int32) (u : mS), K7 x1 x2 x4 x5 x6 u → mV p l e (mRm lev) s m args below meth c 9 (dC, dI) vwCl A 0 0 (mQi below args s (dC, dI) vwCl [(cA, .int)] (wM cA b) A post) (wM cA b u) 7 [(0, .ref (b 0)), (1, .int x1), (2, .int x2), (4, .int x4), (5, .int x5), (6, .int x6)] []) {x1 x2 x4 x5 x6 z0 : Int32} {u : mS} (hw : wj_X9_roundsOf_50 K7 post x1 x2 x4 x5 x6 z0 u) : mV p l e (mRm lev) s m args below meth c 9 (dC, dI) vwCl A 0 0 (mQi below args s (dC, dI) vwCl [(cA, .int)] (wM cA b) A post) (wM cA b u) 50 [(0, .ref (b 0)), (1, .int x1), (2, .int x2), (4, .int x4), (5, .int x5), (6, .int x6)] [.int z0] := by
  unfold wj_X9_roundsOf_50 at hw
  refine mv_istore (lv1 := [(7, .int z0), (0, .ref (b 0)), (1, .int x1), (2, .int x2), (4, .int x4), (5, .int x5), (6, .int x6)]) C dX9_roundsOf_50 (by decide) rfl ?_
  refine mv_iload C dX9_roundsOf_52 0 rfl ?_
  refine mv_if_lt (tgt := 93) C dX9_roundsOf_54 (by decide) (fun h9 => ?_) (fun h9 => ?_)
  · have hw := hw.1 h9
    refine mv_sub [1, 2, 3, 4, 5, 6] rfl ?_
    exact wj_X9_roundsOf_93_ok C hs hlev hK7 hw
  · have hw := hw.2 h9
    refine mv_aload_n C dX9_roundsOf_57 rfl 1 rfl ?_
    refine mv_iload_n C dX9_roundsOf_58 rfl 2 rfl ?_
    refine mv_iload_n C dX9_roundsOf_59 rfl 3 rfl ?_
    refine mv_iload C dX9_roundsOf_60 0 rfl ?_
    refine mv_aload_n C dX9_roundsOf_62 rfl 1 rfl ?_
    refine mv_get (v := .int (u.1 8)) C iw_X9_roundsOf_X9 0 rfl rfl 27 (by decide) lk_X9_roundsOf_219 rfl rfl dX9_roundsOf_63 ?_
    refine mv_topi (fun y10 ey10 => ?_)
    have hw := hw y10 ey10
    refine mv_callVi (f := wM cA b) (As := [.int x1, .int x2, .int z0, .int y10]) (rest := []) C eM_ok hs 0 rfl rfl (X9_walk_met (l := l) (lev := lev - 1) (by omega) hw) (cwV 4 C.2.2.2.2.1 gX9_roundsOf_X9_walk rfl rfl rfl (by decide +kernel) (mRm_le (by omega) (by decide))) rfl rfl (Nat.le_of_ble_eq_true rfl) dX9_roundsOf_66 ⟨Nat.le_refl 0, Nat.le_refl 0⟩ (fun r11 u12 hw => ?_)
    refine mv_istore (lv1 := [(8, .int r11), (7, .int z0), (0, .ref (b 0)), (1, .int x1), (2, .int x2), (4, .int x4), (5, .int x5), (6, .int x6)]) C dX9_roundsOf_69 (by decide) rfl ?_
    refine mv_iload C dX9_roundsOf_71 6 rfl ?_
    refine mv_bipush (v := (-2 : Int32)) C dX9_roundsOf_73 (by decide) ?_
    refine mv_icmp_eq (tgt := 85) C dX9_roundsOf_75 (by decide) (fun h13 => ?_) (fun h13 => ?_)
    · have hw := hw.1 h13
      refine mv_sub [2, 3, 4, 5, 7, 0] rfl ?_
      exact wj_X9_roundsOf_85_ok C hs hlev hK7 hw
    · have hw := hw.2 h13
      refine mv_iload C dX9_roundsOf_78 6 rfl ?_
      refine mv_iload C dX9_roundsOf_80 0 rfl ?_
      refine mv_icmp_ne (tgt := 90) C dX9_roundsOf_82 (by decide) (fun h14 => ?_) (fun h14 => ?_)
      · have hw := hw.1 h14
        refine mv_iconst (v := (-1 : Int32)) C dX9_roundsOf_90 (by decide) ?_
        refine mv_sub [2, 3, 4, 5, 7] rfl ?_
        exact wj_X9_roundsOf_91_ok C hs hlev hK7 hw
      · have hw := hw.2 h14
        refine mv_sub [2, 3, 4, 5, 7, 0] rfl ?_
        exact wj_X9_roundsOf_85_ok C hs hlev hK7 hw
set_option maxHeartbeats 4000000 in
set_option maxRecDepth 100000 in
theorem wj_X9_roundsOf_7_ok (C : mC p s m args meth c cX9_roundsOf 9 wsX9_roundsOf RX9 (some .int) (dC, dI) vwCl [(cA, .int)] A) (hs : eM A s) (hlev : 3 ≤ lev) {post : Int32 → mS → Prop} {K7 : Int32 → Int32 → Int32 → Int32 → Int32 → mS → Prop} (hK7 : ∀ (x1 x2 x4 x5 x6 : Int32) (u : mS), K7 x1 x2 x4 x5 x6 u → mV p l e (mRm lev) s m args below meth c 9 (dC, dI) vwCl A 0 0 (mQi below args s (dC, dI) vwCl [(cA, .int)] (wM cA b) A post) (wM cA b u) 7 [(0, .ref (b 0)), (1, .int x1), (2, .int x2), (4, .int x4), (5, .int x5), (6, .int x6)] []) {x1 x2 x4 x5 x6 : Int32} {u : mS} (hw : wj_X9_roundsOf_7 K7 post x1 x2 x4 x5 x6 u) : mV p l e (mRm lev) s m args below meth c 9 (dC, dI) vwCl A 0 0 (mQi below args s (dC, dI) vwCl [(cA, .int)] (wM cA b) A post) (wM cA b u) 7 [(0, .ref (b 0)), (1, .int x1), (2, .int x2), (4, .int x4), (5, .int x5), (6, .int x6)] [] := by
  unfold wj_X9_roundsOf_7 at hw
  refine mv_iload C dX9_roundsOf_7 5 rfl ?_
  refine mv_iload C dX9_roundsOf_9 3 rfl ?_
  refine mv_icmp_ge (tgt := 99) C dX9_roundsOf_11 (by decide) (fun h1 => ?_) (fun h1 => ?_)
  · have hw := hw.1 h1
    refine mv_iload C dX9_roundsOf_99 4 rfl ?_
    exact mv_iret C dX9_roundsOf_101 hw
  · have hw := hw.2 h1
    refine mv_aload_n C dX9_roundsOf_14 rfl 0 rfl ?_
    refine mv_get (v := .ref (b 4)) C iw_X9_roundsOf_X9 0 rfl rfl 5 (by decide) lk_X9_roundsOf_19 rfl rfl dX9_roundsOf_15 ?_
    refine mv_iload C dX9_roundsOf_18 5 rfl ?_
    refine mv_callSi (f := wM cA b) (As := [.ref (b 4), .int x6]) (rest := []) C eM_ok hs (X9_kind_4_met (l := l) (lev := lev - 1) (by omega) hw) (va_cwS 2 C.2.2.2.2.1 gX9_roundsOf_X9_kind rfl rfl rfl (by decide +kernel) (mRm_le (by omega) (by decide))) rfl rfl (Nat.le_of_ble_eq_true rfl) dX9_roundsOf_20 ⟨Nat.le_refl 0, Nat.le_refl 0⟩ (fun r2 u3 hw => ?_)
    refine mv_iconst (v := (3 : Int32)) C dX9_roundsOf_23 (by decide) ?_
    refine mv_icmp_ne (tgt := 49) C dX9_roundsOf_24 (by decide) (fun h4 => ?_) (fun h4 => ?_)
    · have hw := hw.1 h4
      refine mv_iconst (v := (-1 : Int32)) C dX9_roundsOf_49 (by decide) ?_
      exact wj_X9_roundsOf_50_ok C hs hlev hK7 hw
    · have hw := hw.2 h4
      refine mv_aload_n C dX9_roundsOf_27 rfl 0 rfl ?_
      refine mv_iload_n C dX9_roundsOf_28 rfl 1 rfl ?_
      refine mv_aload_n C dX9_roundsOf_29 rfl 0 rfl ?_
      refine mv_get (v := .ref (b 4)) C iw_X9_roundsOf_X9 0 rfl rfl 5 (by decide) lk_X9_roundsOf_19 rfl rfl dX9_roundsOf_30 ?_
      refine mv_iload C dX9_roundsOf_33 5 rfl ?_
      refine mv_iald (f := u3.2 3) C 4 0 rfl rfl hw.1 dX9_roundsOf_35 ?_
      refine mv_topi (fun y5 ey5 => ?_)
      have hw := hw.2 y5 ey5
      refine mv_aload_n C dX9_roundsOf_36 rfl 0 rfl ?_
      refine mv_get (v := .ref (b 5)) C iw_X9_roundsOf_X9 0 rfl rfl 6 (by decide) lk_X9_roundsOf_22 rfl rfl dX9_roundsOf_37 ?_
      refine mv_iload C dX9_roundsOf_40 5 rfl ?_
      refine mv_iald (f := u3.2 4) C 5 0 rfl rfl hw.1 dX9_roundsOf_42 ?_
      refine mv_topi (fun y6 ey6 => ?_)
      have hw := hw.2 y6 ey6
      refine mv_callVi (f := wM cA b) (As := [.int x1, .int y5, .int y6]) (rest := []) C eM_ok hs 0 rfl rfl (X9_variable_met (l := l) (lev := lev - 1) (by omega) hw) (cwV 3 C.2.2.2.2.1 gX9_roundsOf_X9_variable rfl rfl rfl (by decide +kernel) (mRm_le (by omega) (by decide))) rfl rfl (Nat.le_of_ble_eq_true rfl) dX9_roundsOf_43 ⟨Nat.le_refl 0, Nat.le_refl 0⟩ (fun r7 u8 hw => ?_)
      refine mv_goto (tgt := 50) C dX9_roundsOf_46 (by decide) ?_
      exact wj_X9_roundsOf_50_ok C hs hlev hK7 hw
set_option maxHeartbeats 4000000 in
set_option maxRecDepth 100000 in
theorem X9_roundsOf_met (hlev : 3 ≤ lev) {x1 x2 x3 x4 : Int32} {u : mS} {post : Int32 → mS → Prop} (hw : wp_X9_roundsOf x1 x2 x3 x4 u post) : mKi l yX9_roundsOf wsX9_roundsOf lev (eM) (dC, dI) vwCl [(cA, .int)] (wM cA b) [.ref (b 0), .int x1, .int x2, .int x3, .int x4] u post := by
  refine mKi_of (cc := cX9_roundsOf) (maxL := 9) (by decide) rfl rfl (Nat.le_of_ble_eq_true rfl) rfl ?_
  intro p e s m args below meth c A C hs
  unfold wp_X9_roundsOf at hw
  refine mv_bipush (v := (-2 : Int32)) C dX9_roundsOf_0 (by decide) ?_
  refine mv_istore (lv1 := [(5, .int (-2 : Int32)), (0, .ref (b 0)), (1, .int x1), (2, .int x2), (3, .int x3), (4, .int x4)]) C dX9_roundsOf_2 (by decide) rfl ?_
  refine mv_iload_n C dX9_roundsOf_4 rfl 4 rfl ?_
  refine mv_istore (lv1 := [(6, .int x3), (5, .int (-2 : Int32)), (0, .ref (b 0)), (1, .int x1), (2, .int x2), (3, .int x3), (4, .int x4)]) C dX9_roundsOf_5 (by decide) rfl ?_
  refine mv_sub [2, 3, 4, 6, 1, 0] rfl ?_
  obtain ⟨n, hw⟩ := hw
  exact mL6_of (fun K hK b0 b1 b2 b3 b4 b5 hw => wj_X9_roundsOf_7_ok C hs hlev hK hw) n x1 x2 x4 (-2 : Int32) x3 u hw
set_option maxHeartbeats 4000000 in
set_option maxRecDepth 100000 in
theorem wj_X9_hold_31_ok (C : mC p s m args meth c cX9_hold 6 wsX9_hold RX9 (some .int) (dC, dI) vwCl [(cA, .int)] A) (hs : eM A s) (hlev : 4 ≤ lev) {post : Int32 → mS → Prop} {x3 x4 x5 : Int32} {u : mS} (hw : wj_X9_hold_31 post x3 x4 x5 u) : mV p l e (mRm lev) s m args below meth c 6 (dC, dI) vwCl A 0 0 (mQi below args s (dC, dI) vwCl [(cA, .int)] (wM cA b) A post) (wM cA b u) 31 [(0, .ref (b 0)), (3, .int x3), (4, .int x4), (5, .int x5)] [] := by
  unfold wj_X9_hold_31 at hw
  refine mv_iload C dX9_hold_31 3 rfl ?_
  refine mv_if_gt (tgt := 41) C dX9_hold_33 (by decide) (fun h8 => ?_) (fun h8 => ?_)
  · have hw := hw.1 h8
    refine mv_aload_n C dX9_hold_41 rfl 0 rfl ?_
    refine mv_get (v := .ref (b 17)) C iw_X9_hold_X9 0 rfl rfl 24 (by decide) lk_X9_hold_58 rfl rfl dX9_hold_42 ?_
    refine mv_aload_n C dX9_hold_45 rfl 0 rfl ?_
    refine mv_get (v := .int (u.1 8)) C iw_X9_hold_X9 0 rfl rfl 27 (by decide) lk_X9_hold_219 rfl rfl dX9_hold_46 ?_
    refine mv_topi (fun y9 ey9 => ?_)
    have hw := hw y9 ey9
    refine mv_iload_n C dX9_hold_49 rfl 1 rfl ?_
    refine mv_iast (f := u.2 16) (ws1 := wM cA b (mPut u 16 y9.toNatClampNeg x3)) C 17 0 rfl rfl hw.1 rfl dX9_hold_50 ?_
    refine mv_nm (f := wM cA b) (fun u10 eu10 => ?_)
    have hw := hw.2 u10 eu10
    refine mv_aload_n C dX9_hold_51 rfl 0 rfl ?_
    refine mv_get (v := .ref (b 18)) C iw_X9_hold_X9 0 rfl rfl 25 (by decide) lk_X9_hold_61 rfl rfl dX9_hold_52 ?_
    refine mv_aload_n C dX9_hold_55 rfl 0 rfl ?_
    refine mv_get (v := .int (u10.1 8)) C iw_X9_hold_X9 0 rfl rfl 27 (by decide) lk_X9_hold_219 rfl rfl dX9_hold_56 ?_
    refine mv_topi (fun y11 ey11 => ?_)
    have hw := hw y11 ey11
    refine mv_iload C dX9_hold_59 3 rfl ?_
    refine mv_iast (f := u10.2 17) (ws1 := wM cA b (mPut u10 17 y11.toNatClampNeg x5)) C 18 0 rfl rfl hw.1 rfl dX9_hold_61 ?_
    refine mv_nm (f := wM cA b) (fun u12 eu12 => ?_)
    have hw := hw.2 u12 eu12
    refine mv_aload_n C dX9_hold_62 rfl 0 rfl ?_
    refine mv_get (v := .ref (b 19)) C iw_X9_hold_X9 0 rfl rfl 26 (by decide) lk_X9_hold_64 rfl rfl dX9_hold_63 ?_
    refine mv_aload_n C dX9_hold_66 rfl 0 rfl ?_
    refine mv_get (v := .int (u12.1 8)) C iw_X9_hold_X9 0 rfl rfl 27 (by decide) lk_X9_hold_219 rfl rfl dX9_hold_67 ?_
    refine mv_topi (fun y13 ey13 => ?_)
    have hw := hw y13 ey13
    refine mv_iconst (v := (0 : Int32)) C dX9_hold_70 (by decide) ?_
    refine mv_iast (f := u12.2 18) (ws1 := wM cA b (mPut u12 18 y13.toNatClampNeg (0 : Int32))) C 19 0 rfl rfl hw.1 rfl dX9_hold_71 ?_
    refine mv_nm (f := wM cA b) (fun u14 eu14 => ?_)
    have hw := hw.2 u14 eu14
    refine mv_aload_n C dX9_hold_72 rfl 0 rfl ?_
    refine mv_dup C dX9_hold_73 rfl ?_
    refine mv_get (v := .int (u14.1 8)) C iw_X9_hold_X9 0 rfl rfl 27 (by decide) lk_X9_hold_219 rfl rfl dX9_hold_74 ?_
    refine mv_topi (fun y15 ey15 => ?_)
    have hw := hw y15 ey15
    refine mv_iconst (v := (1 : Int32)) C dX9_hold_77 (by decide) ?_
    refine mv_iadd C dX9_hold_78 ?_
    refine mv_topi (fun y16 ey16 => ?_)
    have hw := hw y16 ey16
    refine mv_put (ty := .int) (ws1 := wM cA b (mSet u14 8 y16)) C iw_X9_hold_X9 tyX9 tyX9_ok nmX9 0 rfl rfl 27 (by decide) lk_X9_hold_219 rfl rfl rfl rfl rfl (Nat.le_of_ble_eq_true rfl) rfl dX9_hold_79 ?_
    refine mv_nm (f := wM cA b) (fun u17 eu17 => ?_)
    have hw := hw u17 eu17
    refine mv_iload_n C dX9_hold_82 rfl 1 rfl ?_
    exact mv_iret C dX9_hold_83 hw
  · have hw := hw.2 h8
    refine mv_iload C dX9_hold_36 2 rfl ?_
    refine mv_iconst (v := (1 : Int32)) C dX9_hold_38 (by decide) ?_
    refine mv_iadd C dX9_hold_39 ?_
    refine mv_topi (fun y18 ey18 => ?_)
    have hw := hw y18 ey18
    exact mv_iret C dX9_hold_40 hw
set_option maxHeartbeats 4000000 in
set_option maxRecDepth 100000 in
theorem X9_hold_met (hlev : 4 ≤ lev) {x1 x2 x3 : Int32} {u : mS} {post : Int32 → mS → Prop} (hw : wp_X9_hold x1 x2 x3 u post) : mKi l yX9_hold wsX9_hold lev (eM) (dC, dI) vwCl [(cA, .int)] (wM cA b) [.ref (b 0), .int x1, .int x2, .int x3] u post := by
  refine mKi_of (cc := cX9_hold) (maxL := 6) (by decide) rfl rfl (Nat.le_of_ble_eq_true rfl) rfl ?_
  intro p e s m args below meth c A C hs
  unfold wp_X9_hold at hw
  refine mv_aload_n C dX9_hold_0 rfl 0 rfl ?_
  refine mv_get (v := .ref (b 4)) C iw_X9_hold_X9 0 rfl rfl 5 (by decide) lk_X9_hold_19 rfl rfl dX9_hold_1 ?_
  refine mv_iload_n C dX9_hold_4 rfl 3 rfl ?_
  refine mv_callSi (f := wM cA b) (As := [.ref (b 4), .int x3]) (rest := []) C eM_ok hs (X9_end_4_met (l := l) (lev := lev - 1) (by omega) hw) (va_cwS 2 C.2.2.2.2.1 gX9_hold_X9_end rfl rfl rfl (by decide +kernel) (mRm_le (by omega) (by decide))) rfl rfl (Nat.le_of_ble_eq_true rfl) dX9_hold_5 ⟨Nat.le_refl 0, Nat.le_refl 0⟩ (fun r1 u2 hw => ?_)
  refine mv_istore (lv1 := [(4, .int r1), (0, .ref (b 0)), (1, .int x1), (2, .int x2), (3, .int x3)]) C dX9_hold_8 (by decide) rfl ?_
  refine mv_aload_n C dX9_hold_10 rfl 1 rfl ?_
  refine mv_iload_n C dX9_hold_11 rfl 2 rfl ?_
  refine mv_iload_n C dX9_hold_12 rfl 3 rfl ?_
  refine mv_iload_n C dX9_hold_13 rfl 4 rfl ?_
  refine mv_iload C dX9_hold_14 0 rfl ?_
  refine mv_callVi (f := wM cA b) (As := [.int x1, .int x2, .int x3, .int r1]) (rest := []) C eM_ok hs 0 rfl rfl (X9_roundsOf_met (l := l) (lev := lev - 1) (by omega) hw) (cwV 4 C.2.2.2.2.1 gX9_hold_X9_roundsOf rfl rfl rfl (by decide +kernel) (mRm_le (by omega) (by decide))) rfl rfl (Nat.le_of_ble_eq_true rfl) dX9_hold_16 ⟨Nat.le_refl 0, Nat.le_refl 0⟩ (fun r3 u4 hw => ?_)
  refine mv_istore (lv1 := [(5, .int r3), (4, .int r1), (0, .ref (b 0)), (1, .int x1), (2, .int x2), (3, .int x3)]) C dX9_hold_19 (by decide) rfl ?_
  refine mv_iload C dX9_hold_21 0 rfl ?_
  refine mv_if_ge (tgt := 31) C dX9_hold_23 (by decide) (fun h5 => ?_) (fun h5 => ?_)
  · have hw := hw.1 h5
    refine mv_sub [2, 5, 1, 0] rfl ?_
    exact wj_X9_hold_31_ok C hs hlev hw
  · have hw := hw.2 h5
    refine mv_aload_n C dX9_hold_26 rfl 2 rfl ?_
    refine mv_iconst (v := (4 : Int32)) C dX9_hold_27 (by decide) ?_
    refine mv_callVv (f := wM cA b) (As := [.int (4 : Int32)]) (rest := []) C eM_ok hs 0 rfl rfl (X9_fails_met (l := l) (lev := lev - 1) (by omega) hw) (cwV 1 C.2.2.2.2.1 gX9_hold_X9_fails rfl rfl rfl (by decide +kernel) (mRm_le (by omega) (by decide))) rfl rfl (Nat.le_of_ble_eq_true rfl) dX9_hold_28 ⟨Nat.le_refl 0, Nat.le_refl 0⟩ (fun u7 hw => ?_)
    refine mv_sub [2, 5, 1, 0] rfl ?_
    exact wj_X9_hold_31_ok C hs hlev hw
set_option maxHeartbeats 4000000 in
set_option maxRecDepth 100000 in
theorem X9_again_met (hlev : 0 ≤ lev) {x1 : Int32} {u : mS} {post : Int32 → mS → Prop} (hw : wp_X9_again x1 u post) : mKi l yX9_again wsX9_again lev (eM) (dC, dI) vwCl [(cA, .int)] (wM cA b) [.ref (b 0), .int x1] u post := by
  refine mKi_of (cc := cX9_again) (maxL := 2) (by decide) rfl rfl (Nat.le_of_ble_eq_true rfl) rfl ?_
  intro p e s m args below meth c A C hs
  unfold wp_X9_again at hw
  refine mv_aload_n C dX9_again_0 rfl 0 rfl ?_
  refine mv_get (v := .ref (b 19)) C iw_X9_again_X9 0 rfl rfl 26 (by decide) lk_X9_again_64 rfl rfl dX9_again_1 ?_
  refine mv_aload_n C dX9_again_4 rfl 0 rfl ?_
  refine mv_get (v := .int (u.1 8)) C iw_X9_again_X9 0 rfl rfl 27 (by decide) lk_X9_again_219 rfl rfl dX9_again_5 ?_
  refine mv_topi (fun y1 ey1 => ?_)
  have hw := hw y1 ey1
  refine mv_iconst (v := (1 : Int32)) C dX9_again_8 (by decide) ?_
  refine mv_isub C dX9_again_9 ?_
  refine mv_topi (fun y2 ey2 => ?_)
  have hw := hw y2 ey2
  refine mv_dup2 C dX9_again_10 rfl rfl ?_
  refine mv_iald (f := u.2 18) C 19 0 rfl rfl hw.1 dX9_again_11 ?_
  refine mv_topi (fun y3 ey3 => ?_)
  have hw := hw.2 y3 ey3
  refine mv_iconst (v := (1 : Int32)) C dX9_again_12 (by decide) ?_
  refine mv_iadd C dX9_again_13 ?_
  refine mv_topi (fun y4 ey4 => ?_)
  have hw := hw y4 ey4
  refine mv_iast (f := u.2 18) (ws1 := wM cA b (mPut u 18 y2.toNatClampNeg y4)) C 19 0 rfl rfl hw.1 rfl dX9_again_14 ?_
  refine mv_nm (f := wM cA b) (fun u5 eu5 => ?_)
  have hw := hw.2 u5 eu5
  refine mv_aload_n C dX9_again_15 rfl 0 rfl ?_
  refine mv_get (v := .ref (b 19)) C iw_X9_again_X9 0 rfl rfl 26 (by decide) lk_X9_again_64 rfl rfl dX9_again_16 ?_
  refine mv_aload_n C dX9_again_19 rfl 0 rfl ?_
  refine mv_get (v := .int (u5.1 8)) C iw_X9_again_X9 0 rfl rfl 27 (by decide) lk_X9_again_219 rfl rfl dX9_again_20 ?_
  refine mv_topi (fun y6 ey6 => ?_)
  have hw := hw y6 ey6
  refine mv_iconst (v := (1 : Int32)) C dX9_again_23 (by decide) ?_
  refine mv_isub C dX9_again_24 ?_
  refine mv_topi (fun y7 ey7 => ?_)
  have hw := hw y7 ey7
  refine mv_iald (f := u5.2 18) C 19 0 rfl rfl hw.1 dX9_again_25 ?_
  refine mv_topi (fun y8 ey8 => ?_)
  have hw := hw.2 y8 ey8
  refine mv_aload_n C dX9_again_26 rfl 0 rfl ?_
  refine mv_get (v := .ref (b 18)) C iw_X9_again_X9 0 rfl rfl 25 (by decide) lk_X9_again_61 rfl rfl dX9_again_27 ?_
  refine mv_aload_n C dX9_again_30 rfl 0 rfl ?_
  refine mv_get (v := .int (u5.1 8)) C iw_X9_again_X9 0 rfl rfl 27 (by decide) lk_X9_again_219 rfl rfl dX9_again_31 ?_
  refine mv_topi (fun y9 ey9 => ?_)
  have hw := hw y9 ey9
  refine mv_iconst (v := (1 : Int32)) C dX9_again_34 (by decide) ?_
  refine mv_isub C dX9_again_35 ?_
  refine mv_topi (fun y10 ey10 => ?_)
  have hw := hw y10 ey10
  refine mv_iald (f := u5.2 17) C 18 0 rfl rfl hw.1 dX9_again_36 ?_
  refine mv_topi (fun y11 ey11 => ?_)
  have hw := hw.2 y11 ey11
  refine mv_icmp_ge (tgt := 52) C dX9_again_37 (by decide) (fun h12 => ?_) (fun h12 => ?_)
  · have hw := hw.1 h12
    refine mv_aload_n C dX9_again_52 rfl 0 rfl ?_
    refine mv_dup C dX9_again_53 rfl ?_
    refine mv_get (v := .int (u5.1 8)) C iw_X9_again_X9 0 rfl rfl 27 (by decide) lk_X9_again_219 rfl rfl dX9_again_54 ?_
    refine mv_topi (fun y13 ey13 => ?_)
    have hw := hw y13 ey13
    refine mv_iconst (v := (1 : Int32)) C dX9_again_57 (by decide) ?_
    refine mv_isub C dX9_again_58 ?_
    refine mv_topi (fun y14 ey14 => ?_)
    have hw := hw y14 ey14
    refine mv_put (ty := .int) (ws1 := wM cA b (mSet u5 8 y14)) C iw_X9_again_X9 tyX9 tyX9_ok nmX9 0 rfl rfl 27 (by decide) lk_X9_again_219 rfl rfl rfl rfl rfl (Nat.le_of_ble_eq_true rfl) rfl dX9_again_59 ?_
    refine mv_nm (f := wM cA b) (fun u15 eu15 => ?_)
    have hw := hw u15 eu15
    refine mv_iload_n C dX9_again_62 rfl 1 rfl ?_
    refine mv_iconst (v := (1 : Int32)) C dX9_again_63 (by decide) ?_
    refine mv_iadd C dX9_again_64 ?_
    refine mv_topi (fun y16 ey16 => ?_)
    have hw := hw y16 ey16
    exact mv_iret C dX9_again_65 hw
  · have hw := hw.2 h12
    refine mv_aload_n C dX9_again_40 rfl 0 rfl ?_
    refine mv_get (v := .ref (b 17)) C iw_X9_again_X9 0 rfl rfl 24 (by decide) lk_X9_again_58 rfl rfl dX9_again_41 ?_
    refine mv_aload_n C dX9_again_44 rfl 0 rfl ?_
    refine mv_get (v := .int (u5.1 8)) C iw_X9_again_X9 0 rfl rfl 27 (by decide) lk_X9_again_219 rfl rfl dX9_again_45 ?_
    refine mv_topi (fun y17 ey17 => ?_)
    have hw := hw y17 ey17
    refine mv_iconst (v := (1 : Int32)) C dX9_again_48 (by decide) ?_
    refine mv_isub C dX9_again_49 ?_
    refine mv_topi (fun y18 ey18 => ?_)
    have hw := hw y18 ey18
    refine mv_iald (f := u5.2 16) C 17 0 rfl rfl hw.1 dX9_again_50 ?_
    refine mv_topi (fun y19 ey19 => ?_)
    have hw := hw.2 y19 ey19
    exact mv_iret C dX9_again_51 hw
set_option maxHeartbeats 4000000 in
set_option maxRecDepth 100000 in
theorem wj_X9_add_26_ok (C : mC p s m args meth c cX9_add 4 wsX9_add RX9 none (dC, dI) vwCl [(cA, .int)] A) (hs : eM A s) (hlev : 1 ≤ lev) {post : mS → Prop} {x1 x2 : Int32} {u : mS} (hw : wj_X9_add_26 post x1 x2 u) : mV p l e (mRm lev) s m args below meth c 4 (dC, dI) vwCl A 0 0 (mQv below args s (dC, dI) vwCl [(cA, .int)] (wM cA b) A post) (wM cA b u) 26 [(0, .ref (b 0)), (1, .int x1), (2, .int x2)] [] := by
  unfold wj_X9_add_26 at hw
  refine mv_aload_n C dX9_add_26 rfl 0 rfl ?_
  refine mv_get (v := .int (u.1 7)) C iw_X9_add_X9 0 rfl rfl 21 (by decide) lk_X9_add_213 rfl rfl dX9_add_27 ?_
  refine mv_topi (fun y7 ey7 => ?_)
  have hw := hw y7 ey7
  refine mv_bipush (v := (100 : Int32)) C dX9_add_30 (by decide) ?_
  refine mv_icmp_le (tgt := 42) C dX9_add_32 (by decide) (fun h8 => ?_) (fun h8 => ?_)
  · have hw := hw.1 h8
    refine mv_aload_n C dX9_add_42 rfl 0 rfl ?_
    refine mv_get (v := .ref (b 13)) C iw_X9_add_X9 0 rfl rfl 18 (by decide) lk_X9_add_46 rfl rfl dX9_add_43 ?_
    refine mv_aload_n C dX9_add_46 rfl 0 rfl ?_
    refine mv_get (v := .int (u.1 6)) C iw_X9_add_X9 0 rfl rfl 20 (by decide) lk_X9_add_216 rfl rfl dX9_add_47 ?_
    refine mv_topi (fun y9 ey9 => ?_)
    have hw := hw y9 ey9
    refine mv_iload_n C dX9_add_50 rfl 1 rfl ?_
    refine mv_iast (f := u.2 12) (ws1 := wM cA b (mPut u 12 y9.toNatClampNeg x1)) C 13 0 rfl rfl hw.1 rfl dX9_add_51 ?_
    refine mv_nm (f := wM cA b) (fun u10 eu10 => ?_)
    have hw := hw.2 u10 eu10
    refine mv_aload_n C dX9_add_52 rfl 0 rfl ?_
    refine mv_get (v := .ref (b 14)) C iw_X9_add_X9 0 rfl rfl 19 (by decide) lk_X9_add_49 rfl rfl dX9_add_53 ?_
    refine mv_aload_n C dX9_add_56 rfl 0 rfl ?_
    refine mv_get (v := .int (u10.1 6)) C iw_X9_add_X9 0 rfl rfl 20 (by decide) lk_X9_add_216 rfl rfl dX9_add_57 ?_
    refine mv_topi (fun y11 ey11 => ?_)
    have hw := hw y11 ey11
    refine mv_iload_n C dX9_add_60 rfl 2 rfl ?_
    refine mv_iast (f := u10.2 13) (ws1 := wM cA b (mPut u10 13 y11.toNatClampNeg x2)) C 14 0 rfl rfl hw.1 rfl dX9_add_61 ?_
    refine mv_nm (f := wM cA b) (fun u12 eu12 => ?_)
    have hw := hw.2 u12 eu12
    refine mv_aload_n C dX9_add_62 rfl 0 rfl ?_
    refine mv_dup C dX9_add_63 rfl ?_
    refine mv_get (v := .int (u12.1 6)) C iw_X9_add_X9 0 rfl rfl 20 (by decide) lk_X9_add_216 rfl rfl dX9_add_64 ?_
    refine mv_topi (fun y13 ey13 => ?_)
    have hw := hw y13 ey13
    refine mv_iconst (v := (1 : Int32)) C dX9_add_67 (by decide) ?_
    refine mv_iadd C dX9_add_68 ?_
    refine mv_topi (fun y14 ey14 => ?_)
    have hw := hw y14 ey14
    refine mv_put (ty := .int) (ws1 := wM cA b (mSet u12 6 y14)) C iw_X9_add_X9 tyX9 tyX9_ok nmX9 0 rfl rfl 20 (by decide) lk_X9_add_216 rfl rfl rfl rfl rfl (Nat.le_of_ble_eq_true rfl) rfl dX9_add_69 ?_
    refine mv_nm (f := wM cA b) (fun u15 eu15 => ?_)
    have hw := hw u15 eu15
    exact mv_vret C dX9_add_72 hw
  · have hw := hw.2 h8
    refine mv_aload_n C dX9_add_35 rfl 0 rfl ?_
    refine mv_bipush (v := (6 : Int32)) C dX9_add_36 (by decide) ?_
    refine mv_callVv (f := wM cA b) (As := [.int (6 : Int32)]) (rest := []) C eM_ok hs 0 rfl rfl (X9_fails_met (l := l) (lev := lev - 1) (by omega) hw) (cwV 1 C.2.2.2.2.1 gX9_add_X9_fails rfl rfl rfl (by decide +kernel) (mRm_le (by omega) (by decide))) rfl rfl (Nat.le_of_ble_eq_true rfl) dX9_add_38 ⟨Nat.le_refl 0, Nat.le_refl 0⟩ (fun u17 hw => ?_)
    exact mv_vret C dX9_add_41 hw
set_option maxHeartbeats 4000000 in
set_option maxRecDepth 100000 in
theorem X9_add_met (hlev : 1 ≤ lev) {x1 x2 : Int32} {u : mS} {post : mS → Prop} (hw : wp_X9_add x1 x2 u post) : mKv l yX9_add wsX9_add lev (eM) (dC, dI) vwCl [(cA, .int)] (wM cA b) [.ref (b 0), .int x1, .int x2] u post := by
  refine mKv_of (cc := cX9_add) (maxL := 4) (by decide) rfl rfl (Nat.le_of_ble_eq_true rfl) rfl ?_
  intro p e s m args below meth c A C hs
  unfold wp_X9_add at hw
  refine mv_iload_n C dX9_add_0 rfl 1 rfl ?_
  refine mv_ldc (v := (65536 : Int32)) C mw_X9_add__constant_RX9_88_65536_Int32_ dX9_add_1 ?_
  refine mv_idiv C dX9_add_3 (by decide) ?_
  refine mv_topi (fun y1 ey1 => ?_)
  have hw := hw y1 ey1
  refine mv_istore_n (lv1 := [(3, .int y1), (0, .ref (b 0)), (1, .int x1), (2, .int x2)]) C dX9_add_4 rfl (by decide) rfl ?_
  refine mv_iload_n C dX9_add_5 rfl 0 rfl ?_
  refine mv_iconst (v := (2 : Int32)) C dX9_add_6 (by decide) ?_
  refine mv_icmp_eq (tgt := 26) C dX9_add_7 (by decide) (fun h2 => ?_) (fun h2 => ?_)
  · have hw := hw.1 h2
    refine mv_sub [1, 2, 3] rfl ?_
    exact wj_X9_add_26_ok C hs hlev hw
  · have hw := hw.2 h2
    refine mv_iload_n C dX9_add_10 rfl 0 rfl ?_
    refine mv_bipush (v := (6 : Int32)) C dX9_add_11 (by decide) ?_
    refine mv_icmp_eq (tgt := 26) C dX9_add_13 (by decide) (fun h3 => ?_) (fun h3 => ?_)
    · have hw := hw.1 h3
      refine mv_sub [1, 2, 3] rfl ?_
      exact wj_X9_add_26_ok C hs hlev hw
    · have hw := hw.2 h3
      refine mv_aload_n C dX9_add_16 rfl 1 rfl ?_
      refine mv_dup C dX9_add_17 rfl ?_
      refine mv_get (v := .int (u.1 7)) C iw_X9_add_X9 0 rfl rfl 21 (by decide) lk_X9_add_213 rfl rfl dX9_add_18 ?_
      refine mv_topi (fun y4 ey4 => ?_)
      have hw := hw y4 ey4
      refine mv_iconst (v := (1 : Int32)) C dX9_add_21 (by decide) ?_
      refine mv_iadd C dX9_add_22 ?_
      refine mv_topi (fun y5 ey5 => ?_)
      have hw := hw y5 ey5
      refine mv_put (ty := .int) (ws1 := wM cA b (mSet u 7 y5)) C iw_X9_add_X9 tyX9 tyX9_ok nmX9 0 rfl rfl 21 (by decide) lk_X9_add_213 rfl rfl rfl rfl rfl (Nat.le_of_ble_eq_true rfl) rfl dX9_add_23 ?_
      refine mv_nm (f := wM cA b) (fun u6 eu6 => ?_)
      have hw := hw u6 eu6
      refine mv_sub [1, 2, 3] rfl ?_
      exact wj_X9_add_26_ok C hs hlev hw
end
