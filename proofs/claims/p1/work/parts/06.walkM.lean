theorem dX9_type_0 : decode cX9_type 0 = .ok (.iload_n 2, 1) := by decide +kernel
theorem dX9_type_1 : decode cX9_type 1 = .ok (.iconst 1, 1) := by decide +kernel
theorem dX9_type_2 : decode cX9_type 2 = .ok (.if_icmp .lt 19, 3) := by decide +kernel
theorem dX9_type_5 : decode cX9_type 5 = .ok (.iload_n 2, 1) := by decide +kernel
theorem dX9_type_6 : decode cX9_type 6 = .ok (.iconst 4, 1) := by decide +kernel
theorem dX9_type_7 : decode cX9_type 7 = .ok (.if_icmp .gt 14, 3) := by decide +kernel
theorem dX9_type_10 : decode cX9_type 10 = .ok (.aload_n 0, 1) := by decide +kernel
theorem dX9_type_11 : decode cX9_type 11 = .ok (.getfield 70, 3) := by decide +kernel
theorem dX9_type_14 : decode cX9_type 14 = .ok (.iload_n 2, 1) := by decide +kernel
theorem dX9_type_15 : decode cX9_type 15 = .ok (.iadd, 1) := by decide +kernel
theorem dX9_type_16 : decode cX9_type 16 = .ok (.bipush 120, 2) := by decide +kernel
theorem dX9_type_18 : decode cX9_type 18 = .ok (.if_icmp .le 5, 3) := by decide +kernel
theorem dX9_type_21 : decode cX9_type 21 = .ok (.iconst 0, 1) := by decide +kernel
theorem dX9_type_22 : decode cX9_type 22 = .ok (.ireturn, 1) := by decide +kernel
theorem dX9_type_23 : decode cX9_type 23 = .ok (.iconst 0, 1) := by decide +kernel
theorem dX9_type_24 : decode cX9_type 24 = .ok (.istore_n 3, 1) := by decide +kernel
theorem dX9_type_25 : decode cX9_type 25 = .ok (.iload_n 3, 1) := by decide +kernel
theorem dX9_type_26 : decode cX9_type 26 = .ok (.iload_n 2, 1) := by decide +kernel
theorem dX9_type_27 : decode cX9_type 27 = .ok (.if_icmp .ge 37, 3) := by decide +kernel
theorem dX9_type_30 : decode cX9_type 30 = .ok (.iload_n 1, 1) := by decide +kernel
theorem dX9_type_31 : decode cX9_type 31 = .ok (.bipush 8, 2) := by decide +kernel
theorem dX9_type_33 : decode cX9_type 33 = .ok (.iload_n 3, 1) := by decide +kernel
theorem dX9_type_34 : decode cX9_type 34 = .ok (.imul, 1) := by decide +kernel
theorem dX9_type_35 : decode cX9_type 35 = .ok (.ishr, 1) := by decide +kernel
theorem dX9_type_36 : decode cX9_type 36 = .ok (.sipush 255, 3) := by decide +kernel
theorem dX9_type_39 : decode cX9_type 39 = .ok (.iand, 1) := by decide +kernel
theorem dX9_type_40 : decode cX9_type 40 = .ok (.istore 4, 2) := by decide +kernel
theorem dX9_type_42 : decode cX9_type 42 = .ok (.iload 4, 2) := by decide +kernel
theorem dX9_type_44 : decode cX9_type 44 = .ok (.bipush 32, 2) := by decide +kernel
theorem dX9_type_46 : decode cX9_type 46 = .ok (.if_icmp .lt 10, 3) := by decide +kernel
theorem dX9_type_49 : decode cX9_type 49 = .ok (.iload 4, 2) := by decide +kernel
theorem dX9_type_51 : decode cX9_type 51 = .ok (.bipush 126, 2) := by decide +kernel
theorem dX9_type_53 : decode cX9_type 53 = .ok (.if_icmp .le 5, 3) := by decide +kernel
theorem dX9_type_56 : decode cX9_type 56 = .ok (.iconst 0, 1) := by decide +kernel
theorem dX9_type_57 : decode cX9_type 57 = .ok (.ireturn, 1) := by decide +kernel
theorem dX9_type_58 : decode cX9_type 58 = .ok (.iinc 3 1, 3) := by decide +kernel
theorem dX9_type_61 : decode cX9_type 61 = .ok (.goto (-36), 3) := by decide +kernel
theorem dX9_type_64 : decode cX9_type 64 = .ok (.iload_n 2, 1) := by decide +kernel
theorem dX9_type_65 : decode cX9_type 65 = .ok (.iconst 1, 1) := by decide +kernel
theorem dX9_type_66 : decode cX9_type 66 = .ok (.isub, 1) := by decide +kernel
theorem dX9_type_67 : decode cX9_type 67 = .ok (.istore_n 3, 1) := by decide +kernel
theorem dX9_type_68 : decode cX9_type 68 = .ok (.iload_n 3, 1) := by decide +kernel
theorem dX9_type_69 : decode cX9_type 69 = .ok (.ifCond .lt 38, 3) := by decide +kernel
theorem dX9_type_72 : decode cX9_type 72 = .ok (.aload_n 0, 1) := by decide +kernel
theorem dX9_type_73 : decode cX9_type 73 = .ok (.getfield 7, 3) := by decide +kernel
theorem dX9_type_76 : decode cX9_type 76 = .ok (.aload_n 0, 1) := by decide +kernel
theorem dX9_type_77 : decode cX9_type 77 = .ok (.getfield 70, 3) := by decide +kernel
theorem dX9_type_80 : decode cX9_type 80 = .ok (.iload_n 1, 1) := by decide +kernel
theorem dX9_type_81 : decode cX9_type 81 = .ok (.bipush 8, 2) := by decide +kernel
theorem dX9_type_83 : decode cX9_type 83 = .ok (.iload_n 3, 1) := by decide +kernel
theorem dX9_type_84 : decode cX9_type 84 = .ok (.imul, 1) := by decide +kernel
theorem dX9_type_85 : decode cX9_type 85 = .ok (.ishr, 1) := by decide +kernel
theorem dX9_type_86 : decode cX9_type 86 = .ok (.sipush 255, 3) := by decide +kernel
theorem dX9_type_89 : decode cX9_type 89 = .ok (.iand, 1) := by decide +kernel
theorem dX9_type_90 : decode cX9_type 90 = .ok (.iastore, 1) := by decide +kernel
theorem dX9_type_91 : decode cX9_type 91 = .ok (.aload_n 0, 1) := by decide +kernel
theorem dX9_type_92 : decode cX9_type 92 = .ok (.dup, 1) := by decide +kernel
theorem dX9_type_93 : decode cX9_type 93 = .ok (.getfield 70, 3) := by decide +kernel
theorem dX9_type_96 : decode cX9_type 96 = .ok (.iconst 1, 1) := by decide +kernel
theorem dX9_type_97 : decode cX9_type 97 = .ok (.iadd, 1) := by decide +kernel
theorem dX9_type_98 : decode cX9_type 98 = .ok (.putfield 70, 3) := by decide +kernel
theorem dX9_type_101 : decode cX9_type 101 = .ok (.iinc 3 (-1), 3) := by decide +kernel
theorem dX9_type_104 : decode cX9_type 104 = .ok (.goto (-36), 3) := by decide +kernel
theorem dX9_type_107 : decode cX9_type 107 = .ok (.iconst 1, 1) := by decide +kernel
theorem dX9_type_108 : decode cX9_type 108 = .ok (.ireturn, 1) := by decide +kernel
theorem dX9_read_0 : decode cX9_read 0 = .ok (.iconst 0, 1) := by decide +kernel
theorem dX9_read_1 : decode cX9_read 1 = .ok (.istore_n 1, 1) := by decide +kernel
theorem dX9_read_2 : decode cX9_read 2 = .ok (.iconst 0, 1) := by decide +kernel
theorem dX9_read_3 : decode cX9_read 3 = .ok (.istore_n 2, 1) := by decide +kernel
theorem dX9_read_4 : decode cX9_read 4 = .ok (.iconst 0, 1) := by decide +kernel
theorem dX9_read_5 : decode cX9_read 5 = .ok (.istore_n 3, 1) := by decide +kernel
theorem dX9_read_6 : decode cX9_read 6 = .ok (.iconst 0, 1) := by decide +kernel
theorem dX9_read_7 : decode cX9_read 7 = .ok (.istore 4, 2) := by decide +kernel
theorem dX9_read_9 : decode cX9_read 9 = .ok (.iload 4, 2) := by decide +kernel
theorem dX9_read_11 : decode cX9_read 11 = .ok (.aload_n 0, 1) := by decide +kernel
theorem dX9_read_12 : decode cX9_read 12 = .ok (.getfield 70, 3) := by decide +kernel
theorem dX9_read_15 : decode cX9_read 15 = .ok (.if_icmp .ge 122, 3) := by decide +kernel
theorem dX9_read_18 : decode cX9_read 18 = .ok (.aload_n 0, 1) := by decide +kernel
theorem dX9_read_19 : decode cX9_read 19 = .ok (.iload 4, 2) := by decide +kernel
theorem dX9_read_137 : decode cX9_read 137 = .ok (.iload_n 2, 1) := by decide +kernel
theorem dX9_read_138 : decode cX9_read 138 = .ok (.ifCond .gt 7, 3) := by decide +kernel
theorem dX9_read_141 : decode cX9_read 141 = .ok (.iload_n 3, 1) := by decide +kernel
theorem dX9_read_142 : decode cX9_read 142 = .ok (.ifCond .ne 8, 3) := by decide +kernel
theorem dX9_read_145 : decode cX9_read 145 = .ok (.aload_n 0, 1) := by decide +kernel
theorem dX9_read_146 : decode cX9_read 146 = .ok (.getfield 70, 3) := by decide +kernel
theorem dX9_read_149 : decode cX9_read 149 = .ok (.ireturn, 1) := by decide +kernel
theorem dX9_read_150 : decode cX9_read 150 = .ok (.aload_n 0, 1) := by decide +kernel
theorem dX9_read_151 : decode cX9_read 151 = .ok (.sipush 2600, 3) := by decide +kernel
theorem dX9_read_154 : decode cX9_read 154 = .ok (.iload_n 1, 1) := by decide +kernel
theorem dX9_read_155 : decode cX9_read 155 = .ok (.isub, 1) := by decide +kernel
theorem dX9_read_156 : decode cX9_read 156 = .ok (.putfield 104, 3) := by decide +kernel
theorem dX9_read_159 : decode cX9_read 159 = .ok (.iload_n 1, 1) := by decide +kernel
theorem dX9_read_160 : decode cX9_read 160 = .ok (.iconst 1, 1) := by decide +kernel
theorem dX9_read_161 : decode cX9_read 161 = .ok (.isub, 1) := by decide +kernel
theorem dX9_read_162 : decode cX9_read 162 = .ok (.istore 5, 2) := by decide +kernel
theorem dX9_read_164 : decode cX9_read 164 = .ok (.iload 5, 2) := by decide +kernel
theorem dX9_read_166 : decode cX9_read 166 = .ok (.ifCond .lt 41, 3) := by decide +kernel
theorem dX9_read_169 : decode cX9_read 169 = .ok (.aload_n 0, 1) := by decide +kernel
theorem dX9_read_170 : decode cX9_read 170 = .ok (.getfield 13, 3) := by decide +kernel
theorem dX9_read_173 : decode cX9_read 173 = .ok (.aload_n 0, 1) := by decide +kernel
theorem dX9_read_174 : decode cX9_read 174 = .ok (.getfield 104, 3) := by decide +kernel
theorem dX9_read_177 : decode cX9_read 177 = .ok (.iload 5, 2) := by decide +kernel
theorem dX9_read_179 : decode cX9_read 179 = .ok (.iadd, 1) := by decide +kernel
theorem dX9_read_180 : decode cX9_read 180 = .ok (.aload_n 0, 1) := by decide +kernel
theorem dX9_read_181 : decode cX9_read 181 = .ok (.getfield 13, 3) := by decide +kernel
theorem dX9_read_184 : decode cX9_read 184 = .ok (.iload 5, 2) := by decide +kernel
theorem dX9_read_186 : decode cX9_read 186 = .ok (.iaload, 1) := by decide +kernel
theorem dX9_read_187 : decode cX9_read 187 = .ok (.iastore, 1) := by decide +kernel
theorem dX9_read_188 : decode cX9_read 188 = .ok (.aload_n 0, 1) := by decide +kernel
theorem dX9_read_189 : decode cX9_read 189 = .ok (.getfield 16, 3) := by decide +kernel
theorem dX9_read_192 : decode cX9_read 192 = .ok (.aload_n 0, 1) := by decide +kernel
theorem dX9_read_193 : decode cX9_read 193 = .ok (.getfield 104, 3) := by decide +kernel
theorem dX9_read_196 : decode cX9_read 196 = .ok (.iload 5, 2) := by decide +kernel
theorem dX9_read_198 : decode cX9_read 198 = .ok (.iadd, 1) := by decide +kernel
theorem dX9_read_199 : decode cX9_read 199 = .ok (.iconst 0, 1) := by decide +kernel
theorem dX9_read_200 : decode cX9_read 200 = .ok (.iastore, 1) := by decide +kernel
theorem dX9_read_201 : decode cX9_read 201 = .ok (.iinc 5 (-1), 3) := by decide +kernel
theorem dX9_read_204 : decode cX9_read 204 = .ok (.goto (-40), 3) := by decide +kernel
theorem dX9_read_207 : decode cX9_read 207 = .ok (.iconst (-1), 1) := by decide +kernel
theorem dX9_read_208 : decode cX9_read 208 = .ok (.ireturn, 1) := by decide +kernel
set_option maxRecDepth 20000 in
theorem ggX9_rules_X9_read : GoodIn wsX9_rules wsX9_read := goodIn_r _ [12, 1, 13, 2, 3, 14, 15, 16, 17, 11, 18, 19, 20, 21, 22, 23, 24, 25, 26, 27, 28, 29, 30, 31, 32, 33, 34, 35, 36, 37, 38, 39, 40, 4, 41, 42, 43, 95, 96, 97, 98, 99, 100, 101, 102, 103, 104, 105, 106, 107, 108, 109, 110, 111, 112, 113, 114, 115, 116, 117, 118, 119, 120, 121, 122, 123, 124, 125, 126, 127, 128, 129, 130] (by decide +kernel) (by decide +kernel)
set_option maxRecDepth 20000 in
theorem gX9_rules_X9_read : GoodIn wsX9_rules (wsV RX9 141 RX9 yX9_read wsX9_read) := goodIn_app (goodIn_of _ (by decide +kernel)) ggX9_rules_X9_read
theorem dX9_rules_0 : decode cX9_rules 0 = .ok (.aload_n 0, 1) := by decide +kernel
theorem dX9_rules_1 : decode cX9_rules 1 = .ok (.invokevirtual 141, 3) := by decide +kernel
theorem dX9_rules_4 : decode cX9_rules 4 = .ok (.istore_n 1, 1) := by decide +kernel
theorem dX9_rules_5 : decode cX9_rules 5 = .ok (.aload_n 0, 1) := by decide +kernel
theorem dX9_rules_6 : decode cX9_rules 6 = .ok (.iconst 0, 1) := by decide +kernel
theorem dX9_rules_7 : decode cX9_rules 7 = .ok (.putfield 70, 3) := by decide +kernel
theorem dX9_rules_10 : decode cX9_rules 10 = .ok (.iload_n 1, 1) := by decide +kernel
theorem dX9_rules_11 : decode cX9_rules 11 = .ok (.ifCond .lt 7, 3) := by decide +kernel
theorem dX9_rules_14 : decode cX9_rules 14 = .ok (.iconst (-1), 1) := by decide +kernel
theorem dX9_rules_15 : decode cX9_rules 15 = .ok (.iload_n 1, 1) := by decide +kernel
theorem dX9_rules_16 : decode cX9_rules 16 = .ok (.isub, 1) := by decide +kernel
theorem dX9_rules_17 : decode cX9_rules 17 = .ok (.ireturn, 1) := by decide +kernel
theorem dX9_rules_18 : decode cX9_rules 18 = .ok (.aload_n 0, 1) := by decide +kernel
theorem dX9_rules_19 : decode cX9_rules 19 = .ok (.getfield 13, 3) := by decide +kernel
theorem dX9_rules_22 : decode cX9_rules 22 = .ok (.aload_n 0, 1) := by decide +kernel
theorem dX9_rules_23 : decode cX9_rules 23 = .ok (.getfield 104, 3) := by decide +kernel
theorem dX9_bind_0 : decode cX9_bind 0 = .ok (.aload_n 0, 1) := by decide +kernel
theorem dX9_bind_1 : decode cX9_bind 1 = .ok (.getfield 160, 3) := by decide +kernel
theorem dX9_bind_4 : decode cX9_bind 4 = .ok (.bipush 40, 2) := by decide +kernel
theorem dX9_bind_6 : decode cX9_bind 6 = .ok (.if_icmp .ne 10, 3) := by decide +kernel
theorem dX9_bind_9 : decode cX9_bind 9 = .ok (.aload_n 0, 1) := by decide +kernel
theorem dX9_bind_10 : decode cX9_bind 10 = .ok (.bipush 6, 2) := by decide +kernel
theorem dX9_bind_16 : decode cX9_bind 16 = .ok (.aload_n 0, 1) := by decide +kernel
theorem dX9_bind_17 : decode cX9_bind 17 = .ok (.getfield 31, 3) := by decide +kernel
theorem dX9_bind_20 : decode cX9_bind 20 = .ok (.aload_n 0, 1) := by decide +kernel
theorem dX9_bind_21 : decode cX9_bind 21 = .ok (.getfield 160, 3) := by decide +kernel
theorem dX9_bind_24 : decode cX9_bind 24 = .ok (.iload_n 1, 1) := by decide +kernel
theorem dX9_bind_25 : decode cX9_bind 25 = .ok (.iastore, 1) := by decide +kernel
theorem dX9_bind_26 : decode cX9_bind 26 = .ok (.aload_n 0, 1) := by decide +kernel
theorem dX9_bind_27 : decode cX9_bind 27 = .ok (.getfield 34, 3) := by decide +kernel
theorem dX9_bind_30 : decode cX9_bind 30 = .ok (.aload_n 0, 1) := by decide +kernel
theorem dX9_bind_31 : decode cX9_bind 31 = .ok (.getfield 160, 3) := by decide +kernel
theorem dX9_bind_34 : decode cX9_bind 34 = .ok (.iload_n 2, 1) := by decide +kernel
theorem dX9_bind_35 : decode cX9_bind 35 = .ok (.iastore, 1) := by decide +kernel
theorem dX9_bind_36 : decode cX9_bind 36 = .ok (.aload_n 0, 1) := by decide +kernel
theorem dX9_bind_37 : decode cX9_bind 37 = .ok (.getfield 37, 3) := by decide +kernel
theorem dX9_bind_40 : decode cX9_bind 40 = .ok (.aload_n 0, 1) := by decide +kernel
theorem dX9_bind_41 : decode cX9_bind 41 = .ok (.getfield 160, 3) := by decide +kernel
theorem dX9_bind_44 : decode cX9_bind 44 = .ok (.iload_n 3, 1) := by decide +kernel
theorem dX9_bind_45 : decode cX9_bind 45 = .ok (.iastore, 1) := by decide +kernel
theorem dX9_bind_46 : decode cX9_bind 46 = .ok (.aload_n 0, 1) := by decide +kernel
theorem dX9_bind_47 : decode cX9_bind 47 = .ok (.getfield 40, 3) := by decide +kernel
theorem dX9_bind_50 : decode cX9_bind 50 = .ok (.aload_n 0, 1) := by decide +kernel
theorem dX9_bind_51 : decode cX9_bind 51 = .ok (.getfield 160, 3) := by decide +kernel
theorem dX9_bind_54 : decode cX9_bind 54 = .ok (.iload 4, 2) := by decide +kernel
theorem dX9_bind_56 : decode cX9_bind 56 = .ok (.iastore, 1) := by decide +kernel
theorem dX9_bind_57 : decode cX9_bind 57 = .ok (.aload_n 0, 1) := by decide +kernel
theorem dX9_bind_58 : decode cX9_bind 58 = .ok (.getfield 43, 3) := by decide +kernel
theorem dX9_bind_61 : decode cX9_bind 61 = .ok (.aload_n 0, 1) := by decide +kernel
theorem dX9_bind_62 : decode cX9_bind 62 = .ok (.getfield 160, 3) := by decide +kernel
theorem dX9_bind_65 : decode cX9_bind 65 = .ok (.iload 5, 2) := by decide +kernel
theorem dX9_bind_67 : decode cX9_bind 67 = .ok (.iastore, 1) := by decide +kernel
theorem dX9_bind_68 : decode cX9_bind 68 = .ok (.aload_n 0, 1) := by decide +kernel
theorem dX9_bind_69 : decode cX9_bind 69 = .ok (.dup, 1) := by decide +kernel
theorem dX9_bind_70 : decode cX9_bind 70 = .ok (.getfield 160, 3) := by decide +kernel
theorem dX9_bind_73 : decode cX9_bind 73 = .ok (.iconst 1, 1) := by decide +kernel
theorem dX9_bind_74 : decode cX9_bind 74 = .ok (.iadd, 1) := by decide +kernel
theorem dX9_bind_75 : decode cX9_bind 75 = .ok (.putfield 160, 3) := by decide +kernel
theorem dX9_bind_78 : decode cX9_bind 78 = .ok (.return_, 1) := by decide +kernel
set_option maxRecDepth 20000 in
theorem ggX9_beginning_X9_bind : GoodIn wsX9_beginning wsX9_bind := goodIn_r _ [14, 1, 15, 16, 17, 18, 19, 20, 21, 22, 13, 23, 24, 25, 26, 27, 28, 29, 30, 31, 32, 33, 34, 35, 36, 37, 38, 39, 40, 41, 42, 43, 44, 45, 46, 47, 48, 49, 50, 51, 52, 53, 54, 55, 56, 57, 58, 59, 60] (by decide +kernel) (by decide +kernel)
set_option maxRecDepth 20000 in
theorem gX9_beginning_X9_bind : GoodIn wsX9_beginning (wsV RX9 167 RX9 yX9_bind wsX9_bind) := goodIn_app (goodIn_of _ (by decide +kernel)) ggX9_beginning_X9_bind
theorem dX9_beginning_0 : decode cX9_beginning 0 = .ok (.aload_n 0, 1) := by decide +kernel
theorem dX9_beginning_1 : decode cX9_beginning 1 = .ok (.iconst 0, 1) := by decide +kernel
theorem dX9_beginning_2 : decode cX9_beginning 2 = .ok (.putfield 160, 3) := by decide +kernel
theorem dX9_beginning_5 : decode cX9_beginning 5 = .ok (.aload_n 0, 1) := by decide +kernel
theorem dX9_beginning_6 : decode cX9_beginning 6 = .ok (.sipush 206, 3) := by decide +kernel
theorem dX9_beginning_9 : decode cX9_beginning 9 = .ok (.iconst 0, 1) := by decide +kernel
theorem dX9_beginning_10 : decode cX9_beginning 10 = .ok (.iconst 0, 1) := by decide +kernel
theorem dX9_beginning_11 : decode cX9_beginning 11 = .ok (.iconst 0, 1) := by decide +kernel
theorem dX9_beginning_12 : decode cX9_beginning 12 = .ok (.iconst 0, 1) := by decide +kernel
theorem dX9_beginning_13 : decode cX9_beginning 13 = .ok (.invokevirtual 167, 3) := by decide +kernel
theorem dX9_beginning_16 : decode cX9_beginning 16 = .ok (.aload_n 0, 1) := by decide +kernel
theorem dX9_beginning_17 : decode cX9_beginning 17 = .ok (.sipush 294, 3) := by decide +kernel
theorem dX9_beginning_20 : decode cX9_beginning 20 = .ok (.iconst 0, 1) := by decide +kernel
theorem dX9_beginning_21 : decode cX9_beginning 21 = .ok (.iconst 0, 1) := by decide +kernel
theorem dX9_beginning_22 : decode cX9_beginning 22 = .ok (.iconst 1, 1) := by decide +kernel
theorem dX9_beginning_23 : decode cX9_beginning 23 = .ok (.iconst 0, 1) := by decide +kernel
theorem dX9_beginning_24 : decode cX9_beginning 24 = .ok (.invokevirtual 167, 3) := by decide +kernel
theorem dX9_beginning_27 : decode cX9_beginning 27 = .ok (.aload_n 0, 1) := by decide +kernel
theorem dX9_beginning_28 : decode cX9_beginning 28 = .ok (.bipush 17, 2) := by decide +kernel
theorem dX9_beginning_30 : decode cX9_beginning 30 = .ok (.iconst 0, 1) := by decide +kernel
theorem dX9_beginning_31 : decode cX9_beginning 31 = .ok (.iconst 0, 1) := by decide +kernel
theorem dX9_beginning_32 : decode cX9_beginning 32 = .ok (.iconst 2, 1) := by decide +kernel
theorem dX9_beginning_33 : decode cX9_beginning 33 = .ok (.iconst 0, 1) := by decide +kernel
theorem dX9_beginning_34 : decode cX9_beginning 34 = .ok (.invokevirtual 167, 3) := by decide +kernel
theorem dX9_beginning_37 : decode cX9_beginning 37 = .ok (.aload_n 0, 1) := by decide +kernel
theorem dX9_beginning_38 : decode cX9_beginning 38 = .ok (.sipush 403, 3) := by decide +kernel
theorem dX9_beginning_41 : decode cX9_beginning 41 = .ok (.iconst 0, 1) := by decide +kernel
theorem dX9_beginning_42 : decode cX9_beginning 42 = .ok (.iconst 0, 1) := by decide +kernel
theorem dX9_beginning_43 : decode cX9_beginning 43 = .ok (.iconst 3, 1) := by decide +kernel
theorem dX9_beginning_44 : decode cX9_beginning 44 = .ok (.iconst 0, 1) := by decide +kernel
theorem dX9_beginning_45 : decode cX9_beginning 45 = .ok (.invokevirtual 167, 3) := by decide +kernel
theorem dX9_beginning_48 : decode cX9_beginning 48 = .ok (.aload_n 0, 1) := by decide +kernel
theorem dX9_beginning_49 : decode cX9_beginning 49 = .ok (.ldc 171, 2) := by decide +kernel
theorem dX9_beginning_51 : decode cX9_beginning 51 = .ok (.iconst 0, 1) := by decide +kernel
theorem dX9_beginning_52 : decode cX9_beginning 52 = .ok (.iconst 1, 1) := by decide +kernel
theorem dX9_beginning_53 : decode cX9_beginning 53 = .ok (.iconst 0, 1) := by decide +kernel
theorem dX9_beginning_54 : decode cX9_beginning 54 = .ok (.iconst 0, 1) := by decide +kernel
theorem dX9_beginning_55 : decode cX9_beginning 55 = .ok (.invokevirtual 167, 3) := by decide +kernel
theorem dX9_beginning_58 : decode cX9_beginning 58 = .ok (.aload_n 0, 1) := by decide +kernel
theorem dX9_beginning_59 : decode cX9_beginning 59 = .ok (.ldc 172, 2) := by decide +kernel
theorem dX9_beginning_61 : decode cX9_beginning 61 = .ok (.iconst 0, 1) := by decide +kernel
theorem dX9_beginning_62 : decode cX9_beginning 62 = .ok (.iconst 1, 1) := by decide +kernel
theorem dX9_beginning_63 : decode cX9_beginning 63 = .ok (.iconst 0, 1) := by decide +kernel
theorem dX9_beginning_64 : decode cX9_beginning 64 = .ok (.iconst 0, 1) := by decide +kernel
theorem dX9_beginning_65 : decode cX9_beginning 65 = .ok (.invokevirtual 167, 3) := by decide +kernel
theorem dX9_beginning_68 : decode cX9_beginning 68 = .ok (.aload_n 0, 1) := by decide +kernel
theorem dX9_beginning_69 : decode cX9_beginning 69 = .ok (.ldc 173, 2) := by decide +kernel
theorem dX9_beginning_71 : decode cX9_beginning 71 = .ok (.iconst 0, 1) := by decide +kernel
theorem dX9_beginning_72 : decode cX9_beginning 72 = .ok (.iconst 1, 1) := by decide +kernel
theorem dX9_beginning_73 : decode cX9_beginning 73 = .ok (.iconst 0, 1) := by decide +kernel
theorem dX9_beginning_74 : decode cX9_beginning 74 = .ok (.iconst 0, 1) := by decide +kernel
theorem dX9_beginning_75 : decode cX9_beginning 75 = .ok (.invokevirtual 167, 3) := by decide +kernel
theorem dX9_beginning_78 : decode cX9_beginning 78 = .ok (.aload_n 0, 1) := by decide +kernel
theorem dX9_beginning_79 : decode cX9_beginning 79 = .ok (.ldc 174, 2) := by decide +kernel
theorem dX9_beginning_81 : decode cX9_beginning 81 = .ok (.iconst 0, 1) := by decide +kernel
theorem dX9_beginning_82 : decode cX9_beginning 82 = .ok (.iconst 1, 1) := by decide +kernel
theorem dX9_beginning_83 : decode cX9_beginning 83 = .ok (.iconst 0, 1) := by decide +kernel
theorem dX9_beginning_84 : decode cX9_beginning 84 = .ok (.iconst 0, 1) := by decide +kernel
theorem dX9_beginning_85 : decode cX9_beginning 85 = .ok (.invokevirtual 167, 3) := by decide +kernel
theorem dX9_beginning_88 : decode cX9_beginning 88 = .ok (.iconst 0, 1) := by decide +kernel
theorem dX9_beginning_89 : decode cX9_beginning 89 = .ok (.istore_n 1, 1) := by decide +kernel
theorem dX9_beginning_90 : decode cX9_beginning 90 = .ok (.iload_n 1, 1) := by decide +kernel
theorem dX9_beginning_91 : decode cX9_beginning 91 = .ok (.aload_n 0, 1) := by decide +kernel
theorem dX9_beginning_92 : decode cX9_beginning 92 = .ok (.getfield 157, 3) := by decide +kernel
theorem dX9_beginning_95 : decode cX9_beginning 95 = .ok (.if_icmp .ge 31, 3) := by decide +kernel
theorem dX9_beginning_98 : decode cX9_beginning 98 = .ok (.aload_n 0, 1) := by decide +kernel
theorem dX9_beginning_99 : decode cX9_beginning 99 = .ok (.aload_n 0, 1) := by decide +kernel
theorem dX9_beginning_100 : decode cX9_beginning 100 = .ok (.getfield 25, 3) := by decide +kernel
theorem dX9_beginning_103 : decode cX9_beginning 103 = .ok (.iload_n 1, 1) := by decide +kernel
theorem dX9_beginning_104 : decode cX9_beginning 104 = .ok (.iaload, 1) := by decide +kernel
theorem dX9_beginning_105 : decode cX9_beginning 105 = .ok (.iconst 0, 1) := by decide +kernel
theorem dX9_beginning_106 : decode cX9_beginning 106 = .ok (.iconst 3, 1) := by decide +kernel
theorem dX9_beginning_107 : decode cX9_beginning 107 = .ok (.bipush 120, 2) := by decide +kernel
theorem dX9_beginning_109 : decode cX9_beginning 109 = .ok (.iload_n 1, 1) := by decide +kernel
theorem dX9_beginning_110 : decode cX9_beginning 110 = .ok (.imul, 1) := by decide +kernel
theorem dX9_beginning_111 : decode cX9_beginning 111 = .ok (.aload_n 0, 1) := by decide +kernel
theorem dX9_beginning_112 : decode cX9_beginning 112 = .ok (.getfield 28, 3) := by decide +kernel
theorem dX9_beginning_115 : decode cX9_beginning 115 = .ok (.iload_n 1, 1) := by decide +kernel
theorem dX9_beginning_116 : decode cX9_beginning 116 = .ok (.iaload, 1) := by decide +kernel
theorem dX9_beginning_117 : decode cX9_beginning 117 = .ok (.invokevirtual 167, 3) := by decide +kernel
theorem dX9_beginning_120 : decode cX9_beginning 120 = .ok (.iinc 1 1, 3) := by decide +kernel
theorem dX9_beginning_123 : decode cX9_beginning 123 = .ok (.goto (-33), 3) := by decide +kernel
theorem dX9_beginning_126 : decode cX9_beginning 126 = .ok (.aload_n 0, 1) := by decide +kernel
theorem dX9_beginning_127 : decode cX9_beginning 127 = .ok (.aload_n 0, 1) := by decide +kernel
theorem dX9_beginning_128 : decode cX9_beginning 128 = .ok (.getfield 160, 3) := by decide +kernel
theorem dX9_beginning_131 : decode cX9_beginning 131 = .ok (.putfield 175, 3) := by decide +kernel
theorem dX9_beginning_134 : decode cX9_beginning 134 = .ok (.return_, 1) := by decide +kernel
set_option maxRecDepth 20000 in
theorem ggX9_expand_X9_read : GoodIn wsX9_expand wsX9_read := goodIn_r _ [15, 1, 16, 17, 10, 18, 19, 20, 21, 14, 22, 23, 24, 25, 26, 27, 28, 29, 30, 31, 32, 33, 34, 35, 36, 37, 38, 39, 40, 41, 42, 43, 44, 45, 46, 47, 48, 251, 252, 253, 254, 255, 256, 257, 258, 259, 260, 261, 262, 263, 264, 265, 266, 267, 268, 269, 270, 271, 272, 273, 274, 275, 276, 277, 278, 279, 280, 281, 282, 283, 284, 285, 286] (by decide +kernel) (by decide +kernel)
set_option maxRecDepth 20000 in
theorem gX9_expand_X9_read : GoodIn wsX9_expand (wsV RX9 141 RX9 yX9_read wsX9_read) := goodIn_app (goodIn_of _ (by decide +kernel)) ggX9_expand_X9_read
set_option maxRecDepth 20000 in
theorem ggX9_expand_X9_beginning : GoodIn wsX9_expand wsX9_beginning := goodIn_r _ [52, 53, 54, 55, 56, 57, 58, 59, 60, 61, 62, 63, 64, 14, 65, 66, 67, 68, 69, 70, 71, 72, 73, 74, 5, 251, 252, 253, 254, 255, 256, 257, 258, 259, 260, 261, 262, 263, 264, 265, 266, 267, 268, 269, 270, 271, 272, 273, 274, 275, 276, 277, 278, 279, 280, 281, 282, 283, 284, 285, 286] (by decide +kernel) (by decide +kernel)
set_option maxRecDepth 20000 in
theorem gX9_expand_X9_beginning : GoodIn wsX9_expand (wsV RX9 302 RX9 yX9_beginning wsX9_beginning) := goodIn_app (goodIn_of _ (by decide +kernel)) ggX9_expand_X9_beginning
theorem dX9_expand_0 : decode cX9_expand 0 = .ok (.iload_n 1, 1) := by decide +kernel
theorem dX9_expand_1 : decode cX9_expand 1 = .ok (.ifCond .lt 9, 3) := by decide +kernel
theorem dX9_expand_4 : decode cX9_expand 4 = .ok (.iload_n 1, 1) := by decide +kernel
theorem dX9_expand_5 : decode cX9_expand 5 = .ok (.bipush 8, 2) := by decide +kernel
theorem dX9_expand_7 : decode cX9_expand 7 = .ok (.if_icmp .le 7, 3) := by decide +kernel
theorem dX9_expand_10 : decode cX9_expand 10 = .ok (.sipush (-7000), 3) := by decide +kernel
theorem dX9_expand_13 : decode cX9_expand 13 = .ok (.ireturn, 1) := by decide +kernel
theorem dX9_expand_14 : decode cX9_expand 14 = .ok (.aload_n 0, 1) := by decide +kernel
theorem dX9_expand_15 : decode cX9_expand 15 = .ok (.invokevirtual 141, 3) := by decide +kernel
theorem dX9_expand_18 : decode cX9_expand 18 = .ok (.istore_n 2, 1) := by decide +kernel
theorem dX9_expand_19 : decode cX9_expand 19 = .ok (.aload_n 0, 1) := by decide +kernel
theorem dX9_expand_20 : decode cX9_expand 20 = .ok (.iconst 0, 1) := by decide +kernel
theorem dX9_expand_21 : decode cX9_expand 21 = .ok (.putfield 70, 3) := by decide +kernel
theorem dX9_expand_24 : decode cX9_expand 24 = .ok (.aload_n 0, 1) := by decide +kernel
theorem dX9_expand_25 : decode cX9_expand 25 = .ok (.iconst 0, 1) := by decide +kernel
theorem dX9_expand_26 : decode cX9_expand 26 = .ok (.putfield 184, 3) := by decide +kernel
theorem dX9_expand_29 : decode cX9_expand 29 = .ok (.aload_n 0, 1) := by decide +kernel
theorem dX9_expand_30 : decode cX9_expand 30 = .ok (.iconst 0, 1) := by decide +kernel
theorem dX9_expand_31 : decode cX9_expand 31 = .ok (.putfield 187, 3) := by decide +kernel
theorem dX9_expand_34 : decode cX9_expand 34 = .ok (.aload_n 0, 1) := by decide +kernel
theorem dX9_expand_35 : decode cX9_expand 35 = .ok (.iconst 0, 1) := by decide +kernel
theorem dX9_expand_36 : decode cX9_expand 36 = .ok (.putfield 271, 3) := by decide +kernel
theorem dX9_expand_39 : decode cX9_expand 39 = .ok (.aload_n 0, 1) := by decide +kernel
theorem dX9_expand_40 : decode cX9_expand 40 = .ok (.iconst 0, 1) := by decide +kernel
theorem dX9_expand_41 : decode cX9_expand 41 = .ok (.putfield 178, 3) := by decide +kernel
theorem dX9_expand_44 : decode cX9_expand 44 = .ok (.aload_n 0, 1) := by decide +kernel
theorem dX9_expand_45 : decode cX9_expand 45 = .ok (.iconst 0, 1) := by decide +kernel
theorem dX9_expand_46 : decode cX9_expand 46 = .ok (.putfield 181, 3) := by decide +kernel
theorem dX9_expand_49 : decode cX9_expand 49 = .ok (.aload_n 0, 1) := by decide +kernel
theorem dX9_expand_50 : decode cX9_expand 50 = .ok (.iconst 0, 1) := by decide +kernel
theorem dX9_expand_51 : decode cX9_expand 51 = .ok (.putfield 265, 3) := by decide +kernel
theorem dX9_expand_54 : decode cX9_expand 54 = .ok (.aload_n 0, 1) := by decide +kernel
theorem dX9_expand_55 : decode cX9_expand 55 = .ok (.iload_n 2, 1) := by decide +kernel
theorem dX9_expand_56 : decode cX9_expand 56 = .ok (.ifCond .ge 7, 3) := by decide +kernel
theorem dX9_expand_59 : decode cX9_expand 59 = .ok (.iload_n 1, 1) := by decide +kernel
theorem dX9_expand_60 : decode cX9_expand 60 = .ok (.goto 4, 3) := by decide +kernel
theorem dX9_expand_63 : decode cX9_expand 63 = .ok (.iconst 0, 1) := by decide +kernel
theorem dX9_expand_64 : decode cX9_expand 64 = .ok (.putfield 245, 3) := by decide +kernel
theorem dX9_expand_67 : decode cX9_expand 67 = .ok (.aload_n 0, 1) := by decide +kernel
theorem dX9_expand_68 : decode cX9_expand 68 = .ok (.sipush 480, 3) := by decide +kernel
theorem dX9_expand_71 : decode cX9_expand 71 = .ok (.putfield 274, 3) := by decide +kernel
theorem dX9_expand_74 : decode cX9_expand 74 = .ok (.aload_n 0, 1) := by decide +kernel
theorem dX9_expand_75 : decode cX9_expand 75 = .ok (.invokevirtual 302, 3) := by decide +kernel
theorem dX9_expand_78 : decode cX9_expand 78 = .ok (.iload_n 2, 1) := by decide +kernel
theorem dX9_expand_79 : decode cX9_expand 79 = .ok (.ifCond .lt 7, 3) := by decide +kernel
theorem dX9_expand_82 : decode cX9_expand 82 = .ok (.iconst (-1), 1) := by decide +kernel
theorem dX9_expand_83 : decode cX9_expand 83 = .ok (.iload_n 2, 1) := by decide +kernel
theorem dX9_expand_84 : decode cX9_expand 84 = .ok (.isub, 1) := by decide +kernel
theorem dX9_expand_85 : decode cX9_expand 85 = .ok (.ireturn, 1) := by decide +kernel
theorem dX9_expand_86 : decode cX9_expand 86 = .ok (.aload_n 0, 1) := by decide +kernel
theorem dX9_expand_87 : decode cX9_expand 87 = .ok (.getfield 104, 3) := by decide +kernel
theorem dX9_expand_90 : decode cX9_expand 90 = .ok (.sipush 2600, 3) := by decide +kernel
theorem dX9_expand_93 : decode cX9_expand 93 = .ok (.if_icmp .ge 17, 3) := by decide +kernel
theorem dX9_expand_96 : decode cX9_expand 96 = .ok (.aload_n 0, 1) := by decide +kernel
theorem dX9_expand_97 : decode cX9_expand 97 = .ok (.getfield 178, 3) := by decide +kernel
theorem dX9_expand_100 : decode cX9_expand 100 = .ok (.ifCond .ne 10, 3) := by decide +kernel
theorem dX9_expand_103 : decode cX9_expand 103 = .ok (.aload_n 0, 1) := by decide +kernel
theorem dX9_expand_110 : decode cX9_expand 110 = .ok (.aload_n 0, 1) := by decide +kernel
theorem dX9_expand_111 : decode cX9_expand 111 = .ok (.getfield 178, 3) := by decide +kernel
theorem dX9_expand_114 : decode cX9_expand 114 = .ok (.ifCond .eq 8, 3) := by decide +kernel
theorem dX9_expand_117 : decode cX9_expand 117 = .ok (.aload_n 0, 1) := by decide +kernel
theorem dX9_expand_118 : decode cX9_expand 118 = .ok (.iconst 0, 1) := by decide +kernel
theorem dX9_expand_119 : decode cX9_expand 119 = .ok (.putfield 184, 3) := by decide +kernel
theorem dX9_expand_122 : decode cX9_expand 122 = .ok (.aload_n 0, 1) := by decide +kernel
theorem dX9_expand_123 : decode cX9_expand 123 = .ok (.getfield 178, 3) := by decide +kernel
theorem dX9_expand_126 : decode cX9_expand 126 = .ok (.ifCond .eq 14, 3) := by decide +kernel
theorem dX9_expand_129 : decode cX9_expand 129 = .ok (.sipush (-1000), 3) := by decide +kernel
theorem dX9_expand_132 : decode cX9_expand 132 = .ok (.aload_n 0, 1) := by decide +kernel
theorem dX9_expand_133 : decode cX9_expand 133 = .ok (.getfield 178, 3) := by decide +kernel
theorem dX9_expand_136 : decode cX9_expand 136 = .ok (.imul, 1) := by decide +kernel
theorem dX9_expand_137 : decode cX9_expand 137 = .ok (.goto 7, 3) := by decide +kernel
theorem dX9_expand_140 : decode cX9_expand 140 = .ok (.aload_n 0, 1) := by decide +kernel
theorem dX9_expand_141 : decode cX9_expand 141 = .ok (.getfield 184, 3) := by decide +kernel
theorem dX9_expand_144 : decode cX9_expand 144 = .ok (.ireturn, 1) := by decide +kernel
theorem dX9_at_0 : decode cX9_at 0 = .ok (.iload_n 1, 1) := by decide +kernel
theorem dX9_at_1 : decode cX9_at 1 = .ok (.ifCond .lt 20, 3) := by decide +kernel
theorem dX9_at_4 : decode cX9_at 4 = .ok (.iload_n 1, 1) := by decide +kernel
theorem dX9_at_5 : decode cX9_at 5 = .ok (.aload_n 0, 1) := by decide +kernel
theorem dX9_at_6 : decode cX9_at 6 = .ok (.getfield 184, 3) := by decide +kernel
theorem dX9_at_9 : decode cX9_at 9 = .ok (.if_icmp .ge 12, 3) := by decide +kernel
theorem dX9_at_12 : decode cX9_at 12 = .ok (.aload_n 0, 1) := by decide +kernel
theorem dX9_at_13 : decode cX9_at 13 = .ok (.getfield 67, 3) := by decide +kernel
theorem dX9_at_16 : decode cX9_at 16 = .ok (.iload_n 1, 1) := by decide +kernel
theorem dX9_at_17 : decode cX9_at 17 = .ok (.iaload, 1) := by decide +kernel
theorem dX9_at_18 : decode cX9_at 18 = .ok (.goto 4, 3) := by decide +kernel
theorem dX9_at_21 : decode cX9_at 21 = .ok (.iconst (-1), 1) := by decide +kernel
theorem dX9_at_22 : decode cX9_at 22 = .ok (.ireturn, 1) := by decide +kernel
theorem dX9_count__0 : decode cX9_count_ 0 = .ok (.iload_n 1, 1) := by decide +kernel
theorem dX9_count__1 : decode cX9_count_ 1 = .ok (.tableswitch 56 0 3 #[31, 36, 46, 51], 31) := by decide +kernel
theorem dX9_count__32 : decode cX9_count_ 32 = .ok (.aload_n 0, 1) := by decide +kernel
theorem dX9_count__33 : decode cX9_count_ 33 = .ok (.getfield 181, 3) := by decide +kernel
theorem dX9_count__36 : decode cX9_count_ 36 = .ok (.ireturn, 1) := by decide +kernel
theorem dX9_count__37 : decode cX9_count_ 37 = .ok (.aload_n 0, 1) := by decide +kernel
theorem dX9_count__38 : decode cX9_count_ 38 = .ok (.getfield 160, 3) := by decide +kernel
theorem dX9_count__41 : decode cX9_count_ 41 = .ok (.aload_n 0, 1) := by decide +kernel
theorem dX9_count__42 : decode cX9_count_ 42 = .ok (.getfield 175, 3) := by decide +kernel
theorem dX9_count__45 : decode cX9_count_ 45 = .ok (.isub, 1) := by decide +kernel
theorem dX9_count__46 : decode cX9_count_ 46 = .ok (.ireturn, 1) := by decide +kernel
theorem dX9_count__47 : decode cX9_count_ 47 = .ok (.aload_n 0, 1) := by decide +kernel
theorem dX9_count__48 : decode cX9_count_ 48 = .ok (.getfield 265, 3) := by decide +kernel
theorem dX9_count__51 : decode cX9_count_ 51 = .ok (.ireturn, 1) := by decide +kernel
theorem dX9_count__52 : decode cX9_count_ 52 = .ok (.aload_n 0, 1) := by decide +kernel
theorem dX9_count__53 : decode cX9_count_ 53 = .ok (.getfield 245, 3) := by decide +kernel
theorem dX9_count__56 : decode cX9_count_ 56 = .ok (.ireturn, 1) := by decide +kernel
theorem dX9_count__57 : decode cX9_count_ 57 = .ok (.iconst (-1), 1) := by decide +kernel
theorem dX9_count__58 : decode cX9_count_ 58 = .ok (.ireturn, 1) := by decide +kernel
theorem iw_X9_type_X9 : ∀ w ∈ wsX90, w ∈ wsX9_type := by decide +kernel
theorem lk_X9_type_70 : Cond.fieldLink RX9 70 "MarkedNamesModel" "length" "I" ∈ wsX9_type := by decide +kernel
theorem lk_X9_type_7 : Cond.fieldLink RX9 7 "MarkedNamesModel" "typed" "[I" ∈ wsX9_type := by decide +kernel
theorem iw_X9_read_X9 : ∀ w ∈ wsX90, w ∈ wsX9_read := by decide +kernel
theorem lk_X9_read_70 : Cond.fieldLink RX9 70 "MarkedNamesModel" "length" "I" ∈ wsX9_read := by decide +kernel
theorem lk_X9_read_104 : Cond.fieldLink RX9 104 "MarkedNamesModel" "head" "I" ∈ wsX9_read := by decide +kernel
theorem lk_X9_read_13 : Cond.fieldLink RX9 13 "MarkedNamesModel" "row" "[I" ∈ wsX9_read := by decide +kernel
theorem lk_X9_read_16 : Cond.fieldLink RX9 16 "MarkedNamesModel" "set" "[I" ∈ wsX9_read := by decide +kernel
theorem iw_X9_rules_X9 : ∀ w ∈ wsX90, w ∈ wsX9_rules := by decide +kernel
theorem lk_X9_rules_70 : Cond.fieldLink RX9 70 "MarkedNamesModel" "length" "I" ∈ wsX9_rules := by decide +kernel
theorem lk_X9_rules_13 : Cond.fieldLink RX9 13 "MarkedNamesModel" "row" "[I" ∈ wsX9_rules := by decide +kernel
theorem lk_X9_rules_104 : Cond.fieldLink RX9 104 "MarkedNamesModel" "head" "I" ∈ wsX9_rules := by decide +kernel
theorem iw_X9_expand_X9 : ∀ w ∈ wsX90, w ∈ wsX9_expand := by decide +kernel
theorem lk_X9_expand_70 : Cond.fieldLink RX9 70 "MarkedNamesModel" "length" "I" ∈ wsX9_expand := by decide +kernel
theorem lk_X9_expand_184 : Cond.fieldLink RX9 184 "MarkedNamesModel" "size" "I" ∈ wsX9_expand := by decide +kernel
theorem lk_X9_expand_187 : Cond.fieldLink RX9 187 "MarkedNamesModel" "gap" "Z" ∈ wsX9_expand := by decide +kernel
theorem lk_X9_expand_271 : Cond.fieldLink RX9 271 "MarkedNamesModel" "deep" "I" ∈ wsX9_expand := by decide +kernel
theorem lk_X9_expand_178 : Cond.fieldLink RX9 178 "MarkedNamesModel" "error" "I" ∈ wsX9_expand := by decide +kernel
theorem lk_X9_expand_181 : Cond.fieldLink RX9 181 "MarkedNamesModel" "scopesMade" "I" ∈ wsX9_expand := by decide +kernel
theorem lk_X9_expand_265 : Cond.fieldLink RX9 265 "MarkedNamesModel" "variables" "I" ∈ wsX9_expand := by decide +kernel
theorem lk_X9_expand_245 : Cond.fieldLink RX9 245 "MarkedNamesModel" "fuelLeft" "I" ∈ wsX9_expand := by decide +kernel
theorem lk_X9_expand_274 : Cond.fieldLink RX9 274 "MarkedNamesModel" "keptEnd" "I" ∈ wsX9_expand := by decide +kernel
theorem iw_X9_beginning_X9 : ∀ w ∈ wsX90, w ∈ wsX9_beginning := by decide +kernel
theorem lk_X9_beginning_160 : Cond.fieldLink RX9 160 "MarkedNamesModel" "bindings" "I" ∈ wsX9_beginning := by decide +kernel
theorem iw_X9_bind_X9 : ∀ w ∈ wsX90, w ∈ wsX9_bind := by decide +kernel
theorem lk_X9_bind_160 : Cond.fieldLink RX9 160 "MarkedNamesModel" "bindings" "I" ∈ wsX9_bind := by decide +kernel
theorem lk_X9_bind_31 : Cond.fieldLink RX9 31 "MarkedNamesModel" "name" "[I" ∈ wsX9_bind := by decide +kernel
theorem lk_X9_bind_34 : Cond.fieldLink RX9 34 "MarkedNamesModel" "scopes" "[I" ∈ wsX9_bind := by decide +kernel
theorem lk_X9_bind_37 : Cond.fieldLink RX9 37 "MarkedNamesModel" "meaning" "[I" ∈ wsX9_bind := by decide +kernel
theorem lk_X9_bind_40 : Cond.fieldLink RX9 40 "MarkedNamesModel" "from" "[I" ∈ wsX9_bind := by decide +kernel
theorem lk_X9_bind_43 : Cond.fieldLink RX9 43 "MarkedNamesModel" "to" "[I" ∈ wsX9_bind := by decide +kernel
theorem mw_X9_beginning__constant_RX9_171_40043_Int32_ : Cond.constant RX9 171 (40043 : Int32) ∈ wsX9_beginning := by decide +kernel
theorem mw_X9_beginning__constant_RX9_172_40042_Int32_ : Cond.constant RX9 172 (40042 : Int32) ∈ wsX9_beginning := by decide +kernel
theorem mw_X9_beginning__constant_RX9_173_40061_Int32_ : Cond.constant RX9 173 (40061 : Int32) ∈ wsX9_beginning := by decide +kernel
theorem mw_X9_beginning__constant_RX9_174_40060_Int32_ : Cond.constant RX9 174 (40060 : Int32) ∈ wsX9_beginning := by decide +kernel
theorem lk_X9_beginning_157 : Cond.fieldLink RX9 157 "MarkedNamesModel" "own" "I" ∈ wsX9_beginning := by decide +kernel
theorem lk_X9_beginning_175 : Cond.fieldLink RX9 175 "MarkedNamesModel" "atFirst" "I" ∈ wsX9_beginning := by decide +kernel
theorem lk_X9_beginning_25 : Cond.fieldLink RX9 25 "MarkedNamesModel" "ownName" "[I" ∈ wsX9_beginning := by decide +kernel
theorem lk_X9_beginning_28 : Cond.fieldLink RX9 28 "MarkedNamesModel" "ownEnd" "[I" ∈ wsX9_beginning := by decide +kernel
theorem lk_X9_expand_104 : Cond.fieldLink RX9 104 "MarkedNamesModel" "head" "I" ∈ wsX9_expand := by decide +kernel
theorem iw_X9_at_X9 : ∀ w ∈ wsX90, w ∈ wsX9_at := by decide +kernel
theorem lk_X9_at_184 : Cond.fieldLink RX9 184 "MarkedNamesModel" "size" "I" ∈ wsX9_at := by decide +kernel
theorem lk_X9_at_67 : Cond.fieldLink RX9 67 "MarkedNamesModel" "text" "[I" ∈ wsX9_at := by decide +kernel
theorem iw_X9_count__X9 : ∀ w ∈ wsX90, w ∈ wsX9_count_ := by decide +kernel
theorem lk_X9_count__181 : Cond.fieldLink RX9 181 "MarkedNamesModel" "scopesMade" "I" ∈ wsX9_count_ := by decide +kernel
theorem lk_X9_count__160 : Cond.fieldLink RX9 160 "MarkedNamesModel" "bindings" "I" ∈ wsX9_count_ := by decide +kernel
theorem lk_X9_count__175 : Cond.fieldLink RX9 175 "MarkedNamesModel" "atFirst" "I" ∈ wsX9_count_ := by decide +kernel
theorem lk_X9_count__265 : Cond.fieldLink RX9 265 "MarkedNamesModel" "variables" "I" ∈ wsX9_count_ := by decide +kernel
theorem lk_X9_count__245 : Cond.fieldLink RX9 245 "MarkedNamesModel" "fuelLeft" "I" ∈ wsX9_count_ := by decide +kernel
section
variable {l : Launch} {p : Program} {e : Env} {s : State} {m : MethodId} {args : Array Value} {below : List Frame} {meth : Method} {c : Code} {A : Nat → Prop} {dC : Nat → ClassId} {dI : Nat → Nat → Nat} {cA : ClassId} {a b : Nat → Nat} {lev : Nat}
set_option maxHeartbeats 4000000 in
set_option maxRecDepth 100000 in
theorem wj_X9_type_68_ok (C : mC p s m args meth c cX9_type 5 wsX9_type RX9 (some .boolean) (dC, dI) vwCl [(cA, .int)] A) (hs : eM A s) (hlev : 0 ≤ lev) {post : Int32 → mS → Prop} {K68 : Int32 → Int32 → mS → Prop} (hK68 : ∀ (x1 x3 : Int32) (u : mS), K68 x1 x3 u → mV p l e (mRm lev) s m args below meth c 5 (dC, dI) vwCl A 0 0 (mQi below args s (dC, dI) vwCl [(cA, .int)] (wM cA b) A (fun r w => (r = 0 ∨ r = 1) ∧ post r w)) (wM cA b u) 68 [(0, .ref (b 0)), (1, .int x1), (3, .int x3)] []) {x1 x3 : Int32} {u : mS} (hw : wj_X9_type_68 K68 post x1 x3 u) : mV p l e (mRm lev) s m args below meth c 5 (dC, dI) vwCl A 0 0 (mQi below args s (dC, dI) vwCl [(cA, .int)] (wM cA b) A (fun r w => (r = 0 ∨ r = 1) ∧ post r w)) (wM cA b u) 68 [(0, .ref (b 0)), (1, .int x1), (3, .int x3)] [] := by
  unfold wj_X9_type_68 at hw
  refine mv_iload_n C dX9_type_68 rfl 2 rfl ?_
  refine mv_if_lt (tgt := 107) C dX9_type_69 (by decide) (fun h14 => ?_) (fun h14 => ?_)
  · have hw := hw.1 h14
    refine mv_iconst (v := (1 : Int32)) C dX9_type_107 (by decide) ?_
    exact mv_zret C dX9_type_108 (Or.inr rfl) hw
  · have hw := hw.2 h14
    refine mv_aload_n C dX9_type_72 rfl 0 rfl ?_
    refine mv_get (v := .ref (b 1)) C iw_X9_type_X9 0 rfl rfl 0 (by decide) lk_X9_type_7 rfl rfl dX9_type_73 ?_
    refine mv_aload_n C dX9_type_76 rfl 0 rfl ?_
    refine mv_get (v := .int (u.1 0)) C iw_X9_type_X9 0 rfl rfl 1 (by decide) lk_X9_type_70 rfl rfl dX9_type_77 ?_
    refine mv_topi (fun y15 ey15 => ?_)
    have hw := hw y15 ey15
    refine mv_iload_n C dX9_type_80 rfl 1 rfl ?_
    refine mv_bipush (v := (8 : Int32)) C dX9_type_81 (by decide) ?_
    refine mv_iload_n C dX9_type_83 rfl 2 rfl ?_
    refine mv_imul C dX9_type_84 ?_
    refine mv_topi (fun y16 ey16 => ?_)
    have hw := hw y16 ey16
    refine mv_ishr C dX9_type_85 ?_
    refine mv_topi (fun y17 ey17 => ?_)
    have hw := hw y17 ey17
    refine mv_sipush (v := (255 : Int32)) C dX9_type_86 (by decide) ?_
    refine mv_iand C dX9_type_89 ?_
    refine mv_topi (fun y18 ey18 => ?_)
    have hw := hw y18 ey18
    refine mv_iast (f := u.2 0) (ws1 := wM cA b (mPut u 0 y15.toNatClampNeg y18)) C 1 0 rfl rfl hw.1 rfl dX9_type_90 ?_
    refine mv_nm (f := wM cA b) (fun u19 eu19 => ?_)
    have hw := hw.2 u19 eu19
    refine mv_aload_n C dX9_type_91 rfl 0 rfl ?_
    refine mv_dup C dX9_type_92 rfl ?_
    refine mv_get (v := .int (u19.1 0)) C iw_X9_type_X9 0 rfl rfl 1 (by decide) lk_X9_type_70 rfl rfl dX9_type_93 ?_
    refine mv_topi (fun y20 ey20 => ?_)
    have hw := hw y20 ey20
    refine mv_iconst (v := (1 : Int32)) C dX9_type_96 (by decide) ?_
    refine mv_iadd C dX9_type_97 ?_
    refine mv_topi (fun y21 ey21 => ?_)
    have hw := hw y21 ey21
    refine mv_put (ty := .int) (ws1 := wM cA b (mSet u19 0 y21)) C iw_X9_type_X9 tyX9 tyX9_ok nmX9 0 rfl rfl 1 (by decide) lk_X9_type_70 rfl rfl rfl rfl rfl (Nat.le_of_ble_eq_true rfl) rfl dX9_type_98 ?_
    refine mv_nm (f := wM cA b) (fun u22 eu22 => ?_)
    have hw := hw u22 eu22
    obtain ⟨y23, ey23⟩ : ∃ z : Int32, z = x3 + (-1 : Int32) := ⟨_, rfl⟩
    have hw := hw y23 ey23
    refine mv_iinc (v := y23) (lv1 := [(3, .int y23), (0, .ref (b 0)), (1, .int x1)]) C dX9_type_101 2 rfl (by rw [ey23]; rfl) (by decide) rfl ?_
    refine mv_goto (tgt := 68) C dX9_type_104 (by decide) ?_
    refine mv_sub [1, 2, 0] rfl ?_
    exact hK68 x1 y23 u22 hw
set_option maxHeartbeats 4000000 in
set_option maxRecDepth 100000 in
theorem wj_X9_type_25_ok (C : mC p s m args meth c cX9_type 5 wsX9_type RX9 (some .boolean) (dC, dI) vwCl [(cA, .int)] A) (hs : eM A s) (hlev : 0 ≤ lev) {post : Int32 → mS → Prop} {K25 : Int32 → Int32 → Int32 → mS → Prop} (hK25 : ∀ (x1 x2 x3 : Int32) (u : mS), K25 x1 x2 x3 u → mV p l e (mRm lev) s m args below meth c 5 (dC, dI) vwCl A 0 0 (mQi below args s (dC, dI) vwCl [(cA, .int)] (wM cA b) A (fun r w => (r = 0 ∨ r = 1) ∧ post r w)) (wM cA b u) 25 [(0, .ref (b 0)), (1, .int x1), (2, .int x2), (3, .int x3)] []) {x1 x2 x3 : Int32} {u : mS} (hw : wj_X9_type_25 K25 post x1 x2 x3 u) : mV p l e (mRm lev) s m args below meth c 5 (dC, dI) vwCl A 0 0 (mQi below args s (dC, dI) vwCl [(cA, .int)] (wM cA b) A (fun r w => (r = 0 ∨ r = 1) ∧ post r w)) (wM cA b u) 25 [(0, .ref (b 0)), (1, .int x1), (2, .int x2), (3, .int x3)] [] := by
  unfold wj_X9_type_25 at hw
  refine mv_iload_n C dX9_type_25 rfl 3 rfl ?_
  refine mv_iload_n C dX9_type_26 rfl 2 rfl ?_
  refine mv_icmp_ge (tgt := 64) C dX9_type_27 (by decide) (fun h6 => ?_) (fun h6 => ?_)
  · have hw := hw.1 h6
    refine mv_iload_n C dX9_type_64 rfl 2 rfl ?_
    refine mv_iconst (v := (1 : Int32)) C dX9_type_65 (by decide) ?_
    refine mv_isub C dX9_type_66 ?_
    refine mv_topi (fun y7 ey7 => ?_)
    have hw := hw y7 ey7
    refine mv_istore_n (lv1 := [(3, .int y7), (0, .ref (b 0)), (1, .int x1), (2, .int x2)]) C dX9_type_67 rfl (by decide) rfl ?_
    refine mv_sub [1, 2, 0] rfl ?_
    obtain ⟨n, hw⟩ := hw
    exact mL3_of (fun K hK b0 b1 b2 hw => wj_X9_type_68_ok C hs hlev hK hw) n x1 y7 u hw
  · have hw := hw.2 h6
    refine mv_iload_n C dX9_type_30 rfl 1 rfl ?_
    refine mv_bipush (v := (8 : Int32)) C dX9_type_31 (by decide) ?_
    refine mv_iload_n C dX9_type_33 rfl 3 rfl ?_
    refine mv_imul C dX9_type_34 ?_
    refine mv_topi (fun y8 ey8 => ?_)
    have hw := hw y8 ey8
    refine mv_ishr C dX9_type_35 ?_
    refine mv_topi (fun y9 ey9 => ?_)
    have hw := hw y9 ey9
    refine mv_sipush (v := (255 : Int32)) C dX9_type_36 (by decide) ?_
    refine mv_iand C dX9_type_39 ?_
    refine mv_topi (fun y10 ey10 => ?_)
    have hw := hw y10 ey10
    refine mv_istore (lv1 := [(4, .int y10), (0, .ref (b 0)), (1, .int x1), (2, .int x2), (3, .int x3)]) C dX9_type_40 (by decide) rfl ?_
    refine mv_iload C dX9_type_42 0 rfl ?_
    refine mv_bipush (v := (32 : Int32)) C dX9_type_44 (by decide) ?_
    refine mv_icmp_lt (tgt := 56) C dX9_type_46 (by decide) (fun h11 => ?_) (fun h11 => ?_)
    · have hw := hw.1 h11
      refine mv_iconst (v := (0 : Int32)) C dX9_type_56 (by decide) ?_
      exact mv_zret C dX9_type_57 (Or.inl rfl) hw
    · have hw := hw.2 h11
      refine mv_iload C dX9_type_49 0 rfl ?_
      refine mv_bipush (v := (126 : Int32)) C dX9_type_51 (by decide) ?_
      refine mv_icmp_le (tgt := 58) C dX9_type_53 (by decide) (fun h12 => ?_) (fun h12 => ?_)
      · have hw := hw.1 h12
        obtain ⟨y13, ey13⟩ : ∃ z : Int32, z = x3 + (1 : Int32) := ⟨_, rfl⟩
        have hw := hw y13 ey13
        refine mv_iinc (v := y13) (lv1 := [(3, .int y13), (4, .int y10), (0, .ref (b 0)), (1, .int x1), (2, .int x2)]) C dX9_type_58 4 rfl (by rw [ey13]; rfl) (by decide) rfl ?_
        refine mv_goto (tgt := 25) C dX9_type_61 (by decide) ?_
        refine mv_sub [2, 3, 4, 0] rfl ?_
        exact hK25 x1 x2 y13 u hw
      · have hw := hw.2 h12
        refine mv_iconst (v := (0 : Int32)) C dX9_type_56 (by decide) ?_
        exact mv_zret C dX9_type_57 (Or.inl rfl) hw
set_option maxHeartbeats 4000000 in
set_option maxRecDepth 100000 in
theorem X9_type_met (hlev : 0 ≤ lev) {x1 x2 : Int32} {u : mS} {post : Int32 → mS → Prop} (hw : wp_X9_type x1 x2 u post) : mKi l yX9_type wsX9_type lev (eM) (dC, dI) vwCl [(cA, .int)] (wM cA b) [.ref (b 0), .int x1, .int x2] u (fun r w => (r = 0 ∨ r = 1) ∧ post r w) := by
  refine mKz_of (cc := cX9_type) (maxL := 5) (by decide) rfl rfl (Nat.le_of_ble_eq_true rfl) rfl ?_
  intro p e s m args below meth c A C hs
  unfold wp_X9_type at hw
  refine mv_iload_n C dX9_type_0 rfl 2 rfl ?_
  refine mv_iconst (v := (1 : Int32)) C dX9_type_1 (by decide) ?_
  refine mv_icmp_lt (tgt := 21) C dX9_type_2 (by decide) (fun h1 => ?_) (fun h1 => ?_)
  · have hw := hw.1 h1
    refine mv_iconst (v := (0 : Int32)) C dX9_type_21 (by decide) ?_
    exact mv_zret C dX9_type_22 (Or.inl rfl) hw
  · have hw := hw.2 h1
    refine mv_iload_n C dX9_type_5 rfl 2 rfl ?_
    refine mv_iconst (v := (4 : Int32)) C dX9_type_6 (by decide) ?_
    refine mv_icmp_gt (tgt := 21) C dX9_type_7 (by decide) (fun h2 => ?_) (fun h2 => ?_)
    · have hw := hw.1 h2
      refine mv_iconst (v := (0 : Int32)) C dX9_type_21 (by decide) ?_
      exact mv_zret C dX9_type_22 (Or.inl rfl) hw
    · have hw := hw.2 h2
      refine mv_aload_n C dX9_type_10 rfl 0 rfl ?_
      refine mv_get (v := .int (u.1 0)) C iw_X9_type_X9 0 rfl rfl 1 (by decide) lk_X9_type_70 rfl rfl dX9_type_11 ?_
      refine mv_topi (fun y3 ey3 => ?_)
      have hw := hw y3 ey3
      refine mv_iload_n C dX9_type_14 rfl 2 rfl ?_
      refine mv_iadd C dX9_type_15 ?_
      refine mv_topi (fun y4 ey4 => ?_)
      have hw := hw y4 ey4
      refine mv_bipush (v := (120 : Int32)) C dX9_type_16 (by decide) ?_
      refine mv_icmp_le (tgt := 23) C dX9_type_18 (by decide) (fun h5 => ?_) (fun h5 => ?_)
      · have hw := hw.1 h5
        refine mv_iconst (v := (0 : Int32)) C dX9_type_23 (by decide) ?_
        refine mv_istore_n (lv1 := [(3, .int (0 : Int32)), (0, .ref (b 0)), (1, .int x1), (2, .int x2)]) C dX9_type_24 rfl (by decide) rfl ?_
        refine mv_sub [1, 2, 3, 0] rfl ?_
        obtain ⟨n, hw⟩ := hw
        exact mL4_of (fun K hK b0 b1 b2 b3 hw => wj_X9_type_25_ok C hs hlev hK hw) n x1 x2 (0 : Int32) u hw
      · have hw := hw.2 h5
        refine mv_iconst (v := (0 : Int32)) C dX9_type_21 (by decide) ?_
        exact mv_zret C dX9_type_22 (Or.inl rfl) hw
set_option maxHeartbeats 4000000 in
set_option maxRecDepth 100000 in
theorem wj_X9_read_145_ok (C : mC p s m args meth c cX9_read 8 wsX9_read RX9 (some .int) (dC, dI) vwCl [(cA, .int)] A) (hs : eM A s) (hlev : 0 ≤ lev) {post : Int32 → mS → Prop} {u : mS} (hw : wj_X9_read_145 post  u) : mV p l e (mRm lev) s m args below meth c 8 (dC, dI) vwCl A 0 0 (mQi below args s (dC, dI) vwCl [(cA, .int)] (wM cA b) A post) (wM cA b u) 145 [(0, .ref (b 0))] [] := by
  unfold wj_X9_read_145 at hw
  refine mv_aload_n C dX9_read_145 rfl 0 rfl ?_
  refine mv_get (v := .int (u.1 0)) C iw_X9_read_X9 0 rfl rfl 1 (by decide) lk_X9_read_70 rfl rfl dX9_read_146 ?_
  refine mv_topi (fun y17 ey17 => ?_)
  have hw := hw y17 ey17
  exact mv_iret C dX9_read_149 hw
set_option maxHeartbeats 4000000 in
set_option maxRecDepth 100000 in
theorem wj_X9_read_164_ok (C : mC p s m args meth c cX9_read 8 wsX9_read RX9 (some .int) (dC, dI) vwCl [(cA, .int)] A) (hs : eM A s) (hlev : 0 ≤ lev) {post : Int32 → mS → Prop} {K164 : Int32 → mS → Prop} (hK164 : ∀ (x5 : Int32) (u : mS), K164 x5 u → mV p l e (mRm lev) s m args below meth c 8 (dC, dI) vwCl A 0 0 (mQi below args s (dC, dI) vwCl [(cA, .int)] (wM cA b) A post) (wM cA b u) 164 [(0, .ref (b 0)), (5, .int x5)] []) {x5 : Int32} {u : mS} (hw : wj_X9_read_164 K164 post x5 u) : mV p l e (mRm lev) s m args below meth c 8 (dC, dI) vwCl A 0 0 (mQi below args s (dC, dI) vwCl [(cA, .int)] (wM cA b) A post) (wM cA b u) 164 [(0, .ref (b 0)), (5, .int x5)] [] := by
  unfold wj_X9_read_164 at hw
  refine mv_iload C dX9_read_164 1 rfl ?_
  refine mv_if_lt (tgt := 207) C dX9_read_166 (by decide) (fun h8 => ?_) (fun h8 => ?_)
  · have hw := hw.1 h8
    refine mv_iconst (v := (-1 : Int32)) C dX9_read_207 (by decide) ?_
    exact mv_iret C dX9_read_208 hw
  · have hw := hw.2 h8
    refine mv_aload_n C dX9_read_169 rfl 0 rfl ?_
    refine mv_get (v := .ref (b 2)) C iw_X9_read_X9 0 rfl rfl 2 (by decide) lk_X9_read_13 rfl rfl dX9_read_170 ?_
    refine mv_aload_n C dX9_read_173 rfl 0 rfl ?_
    refine mv_get (v := .int (u.1 1)) C iw_X9_read_X9 0 rfl rfl 4 (by decide) lk_X9_read_104 rfl rfl dX9_read_174 ?_
    refine mv_topi (fun y9 ey9 => ?_)
    have hw := hw y9 ey9
    refine mv_iload C dX9_read_177 1 rfl ?_
    refine mv_iadd C dX9_read_179 ?_
    refine mv_topi (fun y10 ey10 => ?_)
    have hw := hw y10 ey10
    refine mv_aload_n C dX9_read_180 rfl 0 rfl ?_
    refine mv_get (v := .ref (b 2)) C iw_X9_read_X9 0 rfl rfl 2 (by decide) lk_X9_read_13 rfl rfl dX9_read_181 ?_
    refine mv_iload C dX9_read_184 1 rfl ?_
    refine mv_iald (f := u.2 1) C 2 0 rfl rfl hw.1 dX9_read_186 ?_
    refine mv_topi (fun y11 ey11 => ?_)
    have hw := hw.2 y11 ey11
    refine mv_iast (f := u.2 1) (ws1 := wM cA b (mPut u 1 y10.toNatClampNeg y11)) C 2 0 rfl rfl hw.1 rfl dX9_read_187 ?_
    refine mv_nm (f := wM cA b) (fun u12 eu12 => ?_)
    have hw := hw.2 u12 eu12
    refine mv_aload_n C dX9_read_188 rfl 0 rfl ?_
    refine mv_get (v := .ref (b 3)) C iw_X9_read_X9 0 rfl rfl 3 (by decide) lk_X9_read_16 rfl rfl dX9_read_189 ?_
    refine mv_aload_n C dX9_read_192 rfl 0 rfl ?_
    refine mv_get (v := .int (u12.1 1)) C iw_X9_read_X9 0 rfl rfl 4 (by decide) lk_X9_read_104 rfl rfl dX9_read_193 ?_
    refine mv_topi (fun y13 ey13 => ?_)
    have hw := hw y13 ey13
    refine mv_iload C dX9_read_196 1 rfl ?_
    refine mv_iadd C dX9_read_198 ?_
    refine mv_topi (fun y14 ey14 => ?_)
    have hw := hw y14 ey14
    refine mv_iconst (v := (0 : Int32)) C dX9_read_199 (by decide) ?_
    refine mv_iast (f := u12.2 2) (ws1 := wM cA b (mPut u12 2 y14.toNatClampNeg (0 : Int32))) C 3 0 rfl rfl hw.1 rfl dX9_read_200 ?_
    refine mv_nm (f := wM cA b) (fun u15 eu15 => ?_)
    have hw := hw.2 u15 eu15
    obtain ⟨y16, ey16⟩ : ∃ z : Int32, z = x5 + (-1 : Int32) := ⟨_, rfl⟩
    have hw := hw y16 ey16
    refine mv_iinc (v := y16) (lv1 := [(5, .int y16), (0, .ref (b 0))]) C dX9_read_201 1 rfl (by rw [ey16]; rfl) (by decide) rfl ?_
    refine mv_goto (tgt := 164) C dX9_read_204 (by decide) ?_
    refine mv_sub [1, 0] rfl ?_
    exact hK164 y16 u15 hw
set_option maxHeartbeats 4000000 in
set_option maxRecDepth 100000 in
theorem wj_X9_read_9_ok (C : mC p s m args meth c cX9_read 8 wsX9_read RX9 (some .int) (dC, dI) vwCl [(cA, .int)] A) (hs : eM A s) (hlev : 0 ≤ lev) {post : Int32 → mS → Prop} {K9 : Int32 → Int32 → Int32 → Int32 → mS → Prop} (hK9 : ∀ (x1 x2 x3 x4 : Int32) (u : mS), K9 x1 x2 x3 x4 u → mV p l e (mRm lev) s m args below meth c 8 (dC, dI) vwCl A 0 0 (mQi below args s (dC, dI) vwCl [(cA, .int)] (wM cA b) A post) (wM cA b u) 9 [(0, .ref (b 0)), (1, .int x1), (2, .int x2), (3, .int x3), (4, .int x4)] []) {x1 x2 x3 x4 : Int32} {u : mS} (hw : wj_X9_read_9 K9 post x1 x2 x3 x4 u) : mV p l e (mRm lev) s m args below meth c 8 (dC, dI) vwCl A 0 0 (mQi below args s (dC, dI) vwCl [(cA, .int)] (wM cA b) A post) (wM cA b u) 9 [(0, .ref (b 0)), (1, .int x1), (2, .int x2), (3, .int x3), (4, .int x4)] [] := by
  unfold wj_X9_read_9 at hw
  refine mv_iload C dX9_read_9 4 rfl ?_
  refine mv_aload_n C dX9_read_11 rfl 0 rfl ?_
  refine mv_get (v := .int (u.1 0)) C iw_X9_read_X9 0 rfl rfl 1 (by decide) lk_X9_read_70 rfl rfl dX9_read_12 ?_
  refine mv_topi (fun y1 ey1 => ?_)
  have hw := hw y1 ey1
  refine mv_icmp_ge (tgt := 137) C dX9_read_15 (by decide) (fun h2 => ?_) (fun h2 => ?_)
  · have hw := hw.1 h2
    refine mv_iload_n C dX9_read_137 rfl 2 rfl ?_
    refine mv_if_gt (tgt := 145) C dX9_read_138 (by decide) (fun h3 => ?_) (fun h3 => ?_)
    · have hw := hw.1 h3
      refine mv_sub [0] rfl ?_
      exact wj_X9_read_145_ok C hs hlev hw
    · have hw := hw.2 h3
      refine mv_iload_n C dX9_read_141 rfl 3 rfl ?_
      refine mv_if_ne (tgt := 150) C dX9_read_142 (by decide) (fun h4 => ?_) (fun h4 => ?_)
      · have hw := hw.1 h4
        refine mv_aload_n C dX9_read_150 rfl 0 rfl ?_
        refine mv_sipush (v := (2600 : Int32)) C dX9_read_151 (by decide) ?_
        refine mv_iload_n C dX9_read_154 rfl 1 rfl ?_
        refine mv_isub C dX9_read_155 ?_
        refine mv_topi (fun y5 ey5 => ?_)
        have hw := hw y5 ey5
        refine mv_put (ty := .int) (ws1 := wM cA b (mSet u 1 y5)) C iw_X9_read_X9 tyX9 tyX9_ok nmX9 0 rfl rfl 4 (by decide) lk_X9_read_104 rfl rfl rfl rfl rfl (Nat.le_of_ble_eq_true rfl) rfl dX9_read_156 ?_
        refine mv_nm (f := wM cA b) (fun u6 eu6 => ?_)
        have hw := hw u6 eu6
        refine mv_iload_n C dX9_read_159 rfl 1 rfl ?_
        refine mv_iconst (v := (1 : Int32)) C dX9_read_160 (by decide) ?_
        refine mv_isub C dX9_read_161 ?_
        refine mv_topi (fun y7 ey7 => ?_)
        have hw := hw y7 ey7
        refine mv_istore (lv1 := [(5, .int y7), (0, .ref (b 0)), (1, .int x1), (2, .int x2), (3, .int x3), (4, .int x4)]) C dX9_read_162 (by decide) rfl ?_
        refine mv_sub [1, 0] rfl ?_
        obtain ⟨n, hw⟩ := hw
        exact mL2_of (fun K hK b0 b1 hw => wj_X9_read_164_ok C hs hlev hK hw) n y7 u6 hw
      · have hw := hw.2 h4
        refine mv_sub [0] rfl ?_
        exact wj_X9_read_145_ok C hs hlev hw
  · have hw := hw.2 h2
    refine mv_aload_n C dX9_read_18 rfl 0 rfl ?_
    refine mv_iload C dX9_read_19 4 rfl ?_
    exact hw.elim
set_option maxHeartbeats 4000000 in
set_option maxRecDepth 100000 in
theorem X9_read_met (hlev : 0 ≤ lev) {u : mS} {post : Int32 → mS → Prop} (hw : wp_X9_read  u post) : mKi l yX9_read wsX9_read lev (eM) (dC, dI) vwCl [(cA, .int)] (wM cA b) [.ref (b 0)] u post := by
  refine mKi_of (cc := cX9_read) (maxL := 8) (by decide) rfl rfl (Nat.le_of_ble_eq_true rfl) rfl ?_
  intro p e s m args below meth c A C hs
  unfold wp_X9_read at hw
  refine mv_iconst (v := (0 : Int32)) C dX9_read_0 (by decide) ?_
  refine mv_istore_n (lv1 := [(1, .int (0 : Int32)), (0, .ref (b 0))]) C dX9_read_1 rfl (by decide) rfl ?_
  refine mv_iconst (v := (0 : Int32)) C dX9_read_2 (by decide) ?_
  refine mv_istore_n (lv1 := [(2, .int (0 : Int32)), (1, .int (0 : Int32)), (0, .ref (b 0))]) C dX9_read_3 rfl (by decide) rfl ?_
  refine mv_iconst (v := (0 : Int32)) C dX9_read_4 (by decide) ?_
  refine mv_istore_n (lv1 := [(3, .int (0 : Int32)), (2, .int (0 : Int32)), (1, .int (0 : Int32)), (0, .ref (b 0))]) C dX9_read_5 rfl (by decide) rfl ?_
  refine mv_iconst (v := (0 : Int32)) C dX9_read_6 (by decide) ?_
  refine mv_istore (lv1 := [(4, .int (0 : Int32)), (3, .int (0 : Int32)), (2, .int (0 : Int32)), (1, .int (0 : Int32)), (0, .ref (b 0))]) C dX9_read_7 (by decide) rfl ?_
  refine mv_sub [4, 3, 2, 1, 0] rfl ?_
  obtain ⟨n, hw⟩ := hw
  exact mL5_of (fun K hK b0 b1 b2 b3 b4 hw => wj_X9_read_9_ok C hs hlev hK hw) n (0 : Int32) (0 : Int32) (0 : Int32) (0 : Int32) u hw
set_option maxHeartbeats 4000000 in
set_option maxRecDepth 100000 in
theorem X9_rules_met (hlev : 1 ≤ lev) {u : mS} {post : Int32 → mS → Prop} (hw : wp_X9_rules  u post) : mKi l yX9_rules wsX9_rules lev (eM) (dC, dI) vwCl [(cA, .int)] (wM cA b) [.ref (b 0)] u post := by
  refine mKi_of (cc := cX9_rules) (maxL := 5) (by decide) rfl rfl (Nat.le_of_ble_eq_true rfl) rfl ?_
  intro p e s m args below meth c A C hs
  unfold wp_X9_rules at hw
  refine mv_aload_n C dX9_rules_0 rfl 0 rfl ?_
  refine mv_callVi (f := wM cA b) (As := []) (rest := []) C eM_ok hs 0 rfl rfl (X9_read_met (l := l) (lev := lev - 1) (by omega) hw) (cwV 0 C.2.2.2.2.1 gX9_rules_X9_read rfl rfl rfl (by decide +kernel) (mRm_le (by omega) (by decide))) rfl rfl (Nat.le_of_ble_eq_true rfl) dX9_rules_1 ⟨Nat.le_refl 0, Nat.le_refl 0⟩ (fun r1 u2 hw => ?_)
  refine mv_istore_n (lv1 := [(1, .int r1), (0, .ref (b 0))]) C dX9_rules_4 rfl (by decide) rfl ?_
  refine mv_aload_n C dX9_rules_5 rfl 1 rfl ?_
  refine mv_iconst (v := (0 : Int32)) C dX9_rules_6 (by decide) ?_
  refine mv_put (ty := .int) (ws1 := wM cA b (mSet u2 0 (0 : Int32))) C iw_X9_rules_X9 tyX9 tyX9_ok nmX9 0 rfl rfl 1 (by decide) lk_X9_rules_70 rfl rfl rfl rfl rfl (Nat.le_of_ble_eq_true rfl) rfl dX9_rules_7 ?_
  refine mv_nm (f := wM cA b) (fun u3 eu3 => ?_)
  have hw := hw u3 eu3
  refine mv_iload_n C dX9_rules_10 rfl 0 rfl ?_
  refine mv_if_lt (tgt := 18) C dX9_rules_11 (by decide) (fun h4 => ?_) (fun h4 => ?_)
  · have hw := hw.1 h4
    refine mv_aload_n C dX9_rules_18 rfl 1 rfl ?_
    refine mv_get (v := .ref (b 2)) C iw_X9_rules_X9 0 rfl rfl 2 (by decide) lk_X9_rules_13 rfl rfl dX9_rules_19 ?_
    refine mv_aload_n C dX9_rules_22 rfl 1 rfl ?_
    refine mv_get (v := .int (u3.1 1)) C iw_X9_rules_X9 0 rfl rfl 4 (by decide) lk_X9_rules_104 rfl rfl dX9_rules_23 ?_
    refine mv_topi (fun y5 ey5 => ?_)
    have hw := hw y5 ey5
    exact hw.elim
  · have hw := hw.2 h4
    refine mv_iconst (v := (-1 : Int32)) C dX9_rules_14 (by decide) ?_
    refine mv_iload_n C dX9_rules_15 rfl 0 rfl ?_
    refine mv_isub C dX9_rules_16 ?_
    refine mv_topi (fun y6 ey6 => ?_)
    have hw := hw y6 ey6
    exact mv_iret C dX9_rules_17 hw
set_option maxHeartbeats 4000000 in
set_option maxRecDepth 100000 in
theorem X9_bind_met (hlev : 0 ≤ lev) {x1 x2 x3 x4 x5 : Int32} {u : mS} {post : mS → Prop} (hw : wp_X9_bind x1 x2 x3 x4 x5 u post) : mKv l yX9_bind wsX9_bind lev (eM) (dC, dI) vwCl [(cA, .int)] (wM cA b) [.ref (b 0), .int x1, .int x2, .int x3, .int x4, .int x5] u post := by
  refine mKv_of (cc := cX9_bind) (maxL := 6) (by decide) rfl rfl (Nat.le_of_ble_eq_true rfl) rfl ?_
  intro p e s m args below meth c A C hs
  unfold wp_X9_bind at hw
  refine mv_aload_n C dX9_bind_0 rfl 0 rfl ?_
  refine mv_get (v := .int (u.1 4)) C iw_X9_bind_X9 0 rfl rfl 11 (by decide) lk_X9_bind_160 rfl rfl dX9_bind_1 ?_
  refine mv_topi (fun y1 ey1 => ?_)
  have hw := hw y1 ey1
  refine mv_bipush (v := (40 : Int32)) C dX9_bind_4 (by decide) ?_
  refine mv_icmp_ne (tgt := 16) C dX9_bind_6 (by decide) (fun h2 => ?_) (fun h2 => ?_)
  · have hw := hw.1 h2
    refine mv_aload_n C dX9_bind_16 rfl 0 rfl ?_
    refine mv_get (v := .ref (b 8)) C iw_X9_bind_X9 0 rfl rfl 13 (by decide) lk_X9_bind_31 rfl rfl dX9_bind_17 ?_
    refine mv_aload_n C dX9_bind_20 rfl 0 rfl ?_
    refine mv_get (v := .int (u.1 4)) C iw_X9_bind_X9 0 rfl rfl 11 (by decide) lk_X9_bind_160 rfl rfl dX9_bind_21 ?_
    refine mv_topi (fun y3 ey3 => ?_)
    have hw := hw y3 ey3
    refine mv_iload_n C dX9_bind_24 rfl 1 rfl ?_
    refine mv_iast (f := u.2 7) (ws1 := wM cA b (mPut u 7 y3.toNatClampNeg x1)) C 8 0 rfl rfl hw.1 rfl dX9_bind_25 ?_
    refine mv_nm (f := wM cA b) (fun u4 eu4 => ?_)
    have hw := hw.2 u4 eu4
    refine mv_aload_n C dX9_bind_26 rfl 0 rfl ?_
    refine mv_get (v := .ref (b 9)) C iw_X9_bind_X9 0 rfl rfl 14 (by decide) lk_X9_bind_34 rfl rfl dX9_bind_27 ?_
    refine mv_aload_n C dX9_bind_30 rfl 0 rfl ?_
    refine mv_get (v := .int (u4.1 4)) C iw_X9_bind_X9 0 rfl rfl 11 (by decide) lk_X9_bind_160 rfl rfl dX9_bind_31 ?_
    refine mv_topi (fun y5 ey5 => ?_)
    have hw := hw y5 ey5
    refine mv_iload_n C dX9_bind_34 rfl 2 rfl ?_
    refine mv_iast (f := u4.2 8) (ws1 := wM cA b (mPut u4 8 y5.toNatClampNeg x2)) C 9 0 rfl rfl hw.1 rfl dX9_bind_35 ?_
    refine mv_nm (f := wM cA b) (fun u6 eu6 => ?_)
    have hw := hw.2 u6 eu6
    refine mv_aload_n C dX9_bind_36 rfl 0 rfl ?_
    refine mv_get (v := .ref (b 10)) C iw_X9_bind_X9 0 rfl rfl 15 (by decide) lk_X9_bind_37 rfl rfl dX9_bind_37 ?_
    refine mv_aload_n C dX9_bind_40 rfl 0 rfl ?_
    refine mv_get (v := .int (u6.1 4)) C iw_X9_bind_X9 0 rfl rfl 11 (by decide) lk_X9_bind_160 rfl rfl dX9_bind_41 ?_
    refine mv_topi (fun y7 ey7 => ?_)
    have hw := hw y7 ey7
    refine mv_iload_n C dX9_bind_44 rfl 3 rfl ?_
    refine mv_iast (f := u6.2 9) (ws1 := wM cA b (mPut u6 9 y7.toNatClampNeg x3)) C 10 0 rfl rfl hw.1 rfl dX9_bind_45 ?_
    refine mv_nm (f := wM cA b) (fun u8 eu8 => ?_)
    have hw := hw.2 u8 eu8
    refine mv_aload_n C dX9_bind_46 rfl 0 rfl ?_
    refine mv_get (v := .ref (b 11)) C iw_X9_bind_X9 0 rfl rfl 16 (by decide) lk_X9_bind_40 rfl rfl dX9_bind_47 ?_
    refine mv_aload_n C dX9_bind_50 rfl 0 rfl ?_
    refine mv_get (v := .int (u8.1 4)) C iw_X9_bind_X9 0 rfl rfl 11 (by decide) lk_X9_bind_160 rfl rfl dX9_bind_51 ?_
    refine mv_topi (fun y9 ey9 => ?_)
    have hw := hw y9 ey9
    refine mv_iload C dX9_bind_54 4 rfl ?_
    refine mv_iast (f := u8.2 10) (ws1 := wM cA b (mPut u8 10 y9.toNatClampNeg x4)) C 11 0 rfl rfl hw.1 rfl dX9_bind_56 ?_
    refine mv_nm (f := wM cA b) (fun u10 eu10 => ?_)
    have hw := hw.2 u10 eu10
    refine mv_aload_n C dX9_bind_57 rfl 0 rfl ?_
    refine mv_get (v := .ref (b 12)) C iw_X9_bind_X9 0 rfl rfl 17 (by decide) lk_X9_bind_43 rfl rfl dX9_bind_58 ?_
    refine mv_aload_n C dX9_bind_61 rfl 0 rfl ?_
    refine mv_get (v := .int (u10.1 4)) C iw_X9_bind_X9 0 rfl rfl 11 (by decide) lk_X9_bind_160 rfl rfl dX9_bind_62 ?_
    refine mv_topi (fun y11 ey11 => ?_)
    have hw := hw y11 ey11
    refine mv_iload C dX9_bind_65 5 rfl ?_
    refine mv_iast (f := u10.2 11) (ws1 := wM cA b (mPut u10 11 y11.toNatClampNeg x5)) C 12 0 rfl rfl hw.1 rfl dX9_bind_67 ?_
    refine mv_nm (f := wM cA b) (fun u12 eu12 => ?_)
    have hw := hw.2 u12 eu12
    refine mv_aload_n C dX9_bind_68 rfl 0 rfl ?_
    refine mv_dup C dX9_bind_69 rfl ?_
    refine mv_get (v := .int (u12.1 4)) C iw_X9_bind_X9 0 rfl rfl 11 (by decide) lk_X9_bind_160 rfl rfl dX9_bind_70 ?_
    refine mv_topi (fun y13 ey13 => ?_)
    have hw := hw y13 ey13
    refine mv_iconst (v := (1 : Int32)) C dX9_bind_73 (by decide) ?_
    refine mv_iadd C dX9_bind_74 ?_
    refine mv_topi (fun y14 ey14 => ?_)
    have hw := hw y14 ey14
    refine mv_put (ty := .int) (ws1 := wM cA b (mSet u12 4 y14)) C iw_X9_bind_X9 tyX9 tyX9_ok nmX9 0 rfl rfl 11 (by decide) lk_X9_bind_160 rfl rfl rfl rfl rfl (Nat.le_of_ble_eq_true rfl) rfl dX9_bind_75 ?_
    refine mv_nm (f := wM cA b) (fun u15 eu15 => ?_)
    have hw := hw u15 eu15
    exact mv_vret C dX9_bind_78 hw
  · have hw := hw.2 h2
    refine mv_aload_n C dX9_bind_9 rfl 0 rfl ?_
    refine mv_bipush (v := (6 : Int32)) C dX9_bind_10 (by decide) ?_
    exact hw.elim
set_option maxHeartbeats 4000000 in
set_option maxRecDepth 100000 in
theorem wj_X9_beginning_90_ok (C : mC p s m args meth c cX9_beginning 2 wsX9_beginning RX9 none (dC, dI) vwCl [(cA, .int)] A) (hs : eM A s) (hlev : 1 ≤ lev) {post : mS → Prop} {K90 : Int32 → mS → Prop} (hK90 : ∀ (x1 : Int32) (u : mS), K90 x1 u → mV p l e (mRm lev) s m args below meth c 2 (dC, dI) vwCl A 0 0 (mQv below args s (dC, dI) vwCl [(cA, .int)] (wM cA b) A post) (wM cA b u) 90 [(0, .ref (b 0)), (1, .int x1)] []) {x1 : Int32} {u : mS} (hw : wj_X9_beginning_90 K90 post x1 u) : mV p l e (mRm lev) s m args below meth c 2 (dC, dI) vwCl A 0 0 (mQv below args s (dC, dI) vwCl [(cA, .int)] (wM cA b) A post) (wM cA b u) 90 [(0, .ref (b 0)), (1, .int x1)] [] := by
  unfold wj_X9_beginning_90 at hw
  refine mv_iload_n C dX9_beginning_90 rfl 1 rfl ?_
  refine mv_aload_n C dX9_beginning_91 rfl 0 rfl ?_
  refine mv_get (v := .int (u.1 3)) C iw_X9_beginning_X9 0 rfl rfl 8 (by decide) lk_X9_beginning_157 rfl rfl dX9_beginning_92 ?_
  refine mv_topi (fun y18 ey18 => ?_)
  have hw := hw y18 ey18
  refine mv_icmp_ge (tgt := 126) C dX9_beginning_95 (by decide) (fun h19 => ?_) (fun h19 => ?_)
  · have hw := hw.1 h19
    refine mv_aload_n C dX9_beginning_126 rfl 0 rfl ?_
    refine mv_aload_n C dX9_beginning_127 rfl 0 rfl ?_
    refine mv_get (v := .int (u.1 4)) C iw_X9_beginning_X9 0 rfl rfl 11 (by decide) lk_X9_beginning_160 rfl rfl dX9_beginning_128 ?_
    refine mv_topi (fun y20 ey20 => ?_)
    have hw := hw y20 ey20
    refine mv_put (ty := .int) (ws1 := wM cA b (mSet u 5 y20)) C iw_X9_beginning_X9 tyX9 tyX9_ok nmX9 0 rfl rfl 12 (by decide) lk_X9_beginning_175 rfl rfl rfl rfl rfl (Nat.le_of_ble_eq_true rfl) rfl dX9_beginning_131 ?_
    refine mv_nm (f := wM cA b) (fun u21 eu21 => ?_)
    have hw := hw u21 eu21
    exact mv_vret C dX9_beginning_134 hw
  · have hw := hw.2 h19
    refine mv_aload_n C dX9_beginning_98 rfl 0 rfl ?_
    refine mv_aload_n C dX9_beginning_99 rfl 0 rfl ?_
    refine mv_get (v := .ref (b 6)) C iw_X9_beginning_X9 0 rfl rfl 9 (by decide) lk_X9_beginning_25 rfl rfl dX9_beginning_100 ?_
    refine mv_iload_n C dX9_beginning_103 rfl 1 rfl ?_
    refine mv_iald (f := u.2 5) C 6 0 rfl rfl hw.1 dX9_beginning_104 ?_
    refine mv_topi (fun y22 ey22 => ?_)
    have hw := hw.2 y22 ey22
    refine mv_iconst (v := (0 : Int32)) C dX9_beginning_105 (by decide) ?_
    refine mv_iconst (v := (3 : Int32)) C dX9_beginning_106 (by decide) ?_
    refine mv_bipush (v := (120 : Int32)) C dX9_beginning_107 (by decide) ?_
    refine mv_iload_n C dX9_beginning_109 rfl 1 rfl ?_
    refine mv_imul C dX9_beginning_110 ?_
    refine mv_topi (fun y23 ey23 => ?_)
    have hw := hw y23 ey23
    refine mv_aload_n C dX9_beginning_111 rfl 0 rfl ?_
    refine mv_get (v := .ref (b 7)) C iw_X9_beginning_X9 0 rfl rfl 10 (by decide) lk_X9_beginning_28 rfl rfl dX9_beginning_112 ?_
    refine mv_iload_n C dX9_beginning_115 rfl 1 rfl ?_
    refine mv_iald (f := u.2 6) C 7 0 rfl rfl hw.1 dX9_beginning_116 ?_
    refine mv_topi (fun y24 ey24 => ?_)
    have hw := hw.2 y24 ey24
    refine mv_callVv (f := wM cA b) (As := [.int y22, .int (0 : Int32), .int (3 : Int32), .int y23, .int y24]) (rest := []) C eM_ok hs 0 rfl rfl (X9_bind_met (l := l) (lev := lev - 1) (by omega) hw) (cwV 5 C.2.2.2.2.1 gX9_beginning_X9_bind rfl rfl rfl (by decide +kernel) (mRm_le (by omega) (by decide))) rfl rfl (Nat.le_of_ble_eq_true rfl) dX9_beginning_117 ⟨Nat.le_refl 0, Nat.le_refl 0⟩ (fun u26 hw => ?_)
    obtain ⟨y27, ey27⟩ : ∃ z : Int32, z = x1 + (1 : Int32) := ⟨_, rfl⟩
    have hw := hw y27 ey27
    refine mv_iinc (v := y27) (lv1 := [(1, .int y27), (0, .ref (b 0))]) C dX9_beginning_120 1 rfl (by rw [ey27]; rfl) (by decide) rfl ?_
    refine mv_goto (tgt := 90) C dX9_beginning_123 (by decide) ?_
    refine mv_sub [1, 0] rfl ?_
    exact hK90 y27 u26 hw
set_option maxHeartbeats 4000000 in
set_option maxRecDepth 100000 in
theorem X9_beginning_met (hlev : 1 ≤ lev) {u : mS} {post : mS → Prop} (hw : wp_X9_beginning  u post) : mKv l yX9_beginning wsX9_beginning lev (eM) (dC, dI) vwCl [(cA, .int)] (wM cA b) [.ref (b 0)] u post := by
  refine mKv_of (cc := cX9_beginning) (maxL := 2) (by decide) rfl rfl (Nat.le_of_ble_eq_true rfl) rfl ?_
  intro p e s m args below meth c A C hs
  unfold wp_X9_beginning at hw
  refine mv_aload_n C dX9_beginning_0 rfl 0 rfl ?_
  refine mv_iconst (v := (0 : Int32)) C dX9_beginning_1 (by decide) ?_
  refine mv_put (ty := .int) (ws1 := wM cA b (mSet u 4 (0 : Int32))) C iw_X9_beginning_X9 tyX9 tyX9_ok nmX9 0 rfl rfl 11 (by decide) lk_X9_beginning_160 rfl rfl rfl rfl rfl (Nat.le_of_ble_eq_true rfl) rfl dX9_beginning_2 ?_
  refine mv_nm (f := wM cA b) (fun u1 eu1 => ?_)
  have hw := hw u1 eu1
  refine mv_aload_n C dX9_beginning_5 rfl 0 rfl ?_
  refine mv_sipush (v := (206 : Int32)) C dX9_beginning_6 (by decide) ?_
  refine mv_iconst (v := (0 : Int32)) C dX9_beginning_9 (by decide) ?_
  refine mv_iconst (v := (0 : Int32)) C dX9_beginning_10 (by decide) ?_
  refine mv_iconst (v := (0 : Int32)) C dX9_beginning_11 (by decide) ?_
  refine mv_iconst (v := (0 : Int32)) C dX9_beginning_12 (by decide) ?_
  refine mv_callVv (f := wM cA b) (As := [.int (206 : Int32), .int (0 : Int32), .int (0 : Int32), .int (0 : Int32), .int (0 : Int32)]) (rest := []) C eM_ok hs 0 rfl rfl (X9_bind_met (l := l) (lev := lev - 1) (by omega) hw) (cwV 5 C.2.2.2.2.1 gX9_beginning_X9_bind rfl rfl rfl (by decide +kernel) (mRm_le (by omega) (by decide))) rfl rfl (Nat.le_of_ble_eq_true rfl) dX9_beginning_13 ⟨Nat.le_refl 0, Nat.le_refl 0⟩ (fun u3 hw => ?_)
  refine mv_aload_n C dX9_beginning_16 rfl 0 rfl ?_
  refine mv_sipush (v := (294 : Int32)) C dX9_beginning_17 (by decide) ?_
  refine mv_iconst (v := (0 : Int32)) C dX9_beginning_20 (by decide) ?_
  refine mv_iconst (v := (0 : Int32)) C dX9_beginning_21 (by decide) ?_
  refine mv_iconst (v := (1 : Int32)) C dX9_beginning_22 (by decide) ?_
  refine mv_iconst (v := (0 : Int32)) C dX9_beginning_23 (by decide) ?_
  refine mv_callVv (f := wM cA b) (As := [.int (294 : Int32), .int (0 : Int32), .int (0 : Int32), .int (1 : Int32), .int (0 : Int32)]) (rest := []) C eM_ok hs 0 rfl rfl (X9_bind_met (l := l) (lev := lev - 1) (by omega) hw) (cwV 5 C.2.2.2.2.1 gX9_beginning_X9_bind rfl rfl rfl (by decide +kernel) (mRm_le (by omega) (by decide))) rfl rfl (Nat.le_of_ble_eq_true rfl) dX9_beginning_24 ⟨Nat.le_refl 0, Nat.le_refl 0⟩ (fun u5 hw => ?_)
  refine mv_aload_n C dX9_beginning_27 rfl 0 rfl ?_
  refine mv_bipush (v := (17 : Int32)) C dX9_beginning_28 (by decide) ?_
  refine mv_iconst (v := (0 : Int32)) C dX9_beginning_30 (by decide) ?_
  refine mv_iconst (v := (0 : Int32)) C dX9_beginning_31 (by decide) ?_
  refine mv_iconst (v := (2 : Int32)) C dX9_beginning_32 (by decide) ?_
  refine mv_iconst (v := (0 : Int32)) C dX9_beginning_33 (by decide) ?_
  refine mv_callVv (f := wM cA b) (As := [.int (17 : Int32), .int (0 : Int32), .int (0 : Int32), .int (2 : Int32), .int (0 : Int32)]) (rest := []) C eM_ok hs 0 rfl rfl (X9_bind_met (l := l) (lev := lev - 1) (by omega) hw) (cwV 5 C.2.2.2.2.1 gX9_beginning_X9_bind rfl rfl rfl (by decide +kernel) (mRm_le (by omega) (by decide))) rfl rfl (Nat.le_of_ble_eq_true rfl) dX9_beginning_34 ⟨Nat.le_refl 0, Nat.le_refl 0⟩ (fun u7 hw => ?_)
  refine mv_aload_n C dX9_beginning_37 rfl 0 rfl ?_
  refine mv_sipush (v := (403 : Int32)) C dX9_beginning_38 (by decide) ?_
  refine mv_iconst (v := (0 : Int32)) C dX9_beginning_41 (by decide) ?_
  refine mv_iconst (v := (0 : Int32)) C dX9_beginning_42 (by decide) ?_
  refine mv_iconst (v := (3 : Int32)) C dX9_beginning_43 (by decide) ?_
  refine mv_iconst (v := (0 : Int32)) C dX9_beginning_44 (by decide) ?_
  refine mv_callVv (f := wM cA b) (As := [.int (403 : Int32), .int (0 : Int32), .int (0 : Int32), .int (3 : Int32), .int (0 : Int32)]) (rest := []) C eM_ok hs 0 rfl rfl (X9_bind_met (l := l) (lev := lev - 1) (by omega) hw) (cwV 5 C.2.2.2.2.1 gX9_beginning_X9_bind rfl rfl rfl (by decide +kernel) (mRm_le (by omega) (by decide))) rfl rfl (Nat.le_of_ble_eq_true rfl) dX9_beginning_45 ⟨Nat.le_refl 0, Nat.le_refl 0⟩ (fun u9 hw => ?_)
  refine mv_aload_n C dX9_beginning_48 rfl 0 rfl ?_
  refine mv_ldc (v := (40043 : Int32)) C mw_X9_beginning__constant_RX9_171_40043_Int32_ dX9_beginning_49 ?_
  refine mv_iconst (v := (0 : Int32)) C dX9_beginning_51 (by decide) ?_
  refine mv_iconst (v := (1 : Int32)) C dX9_beginning_52 (by decide) ?_
  refine mv_iconst (v := (0 : Int32)) C dX9_beginning_53 (by decide) ?_
  refine mv_iconst (v := (0 : Int32)) C dX9_beginning_54 (by decide) ?_
  refine mv_callVv (f := wM cA b) (As := [.int (40043 : Int32), .int (0 : Int32), .int (1 : Int32), .int (0 : Int32), .int (0 : Int32)]) (rest := []) C eM_ok hs 0 rfl rfl (X9_bind_met (l := l) (lev := lev - 1) (by omega) hw) (cwV 5 C.2.2.2.2.1 gX9_beginning_X9_bind rfl rfl rfl (by decide +kernel) (mRm_le (by omega) (by decide))) rfl rfl (Nat.le_of_ble_eq_true rfl) dX9_beginning_55 ⟨Nat.le_refl 0, Nat.le_refl 0⟩ (fun u11 hw => ?_)
  refine mv_aload_n C dX9_beginning_58 rfl 0 rfl ?_
  refine mv_ldc (v := (40042 : Int32)) C mw_X9_beginning__constant_RX9_172_40042_Int32_ dX9_beginning_59 ?_
  refine mv_iconst (v := (0 : Int32)) C dX9_beginning_61 (by decide) ?_
  refine mv_iconst (v := (1 : Int32)) C dX9_beginning_62 (by decide) ?_
  refine mv_iconst (v := (0 : Int32)) C dX9_beginning_63 (by decide) ?_
  refine mv_iconst (v := (0 : Int32)) C dX9_beginning_64 (by decide) ?_
  refine mv_callVv (f := wM cA b) (As := [.int (40042 : Int32), .int (0 : Int32), .int (1 : Int32), .int (0 : Int32), .int (0 : Int32)]) (rest := []) C eM_ok hs 0 rfl rfl (X9_bind_met (l := l) (lev := lev - 1) (by omega) hw) (cwV 5 C.2.2.2.2.1 gX9_beginning_X9_bind rfl rfl rfl (by decide +kernel) (mRm_le (by omega) (by decide))) rfl rfl (Nat.le_of_ble_eq_true rfl) dX9_beginning_65 ⟨Nat.le_refl 0, Nat.le_refl 0⟩ (fun u13 hw => ?_)
  refine mv_aload_n C dX9_beginning_68 rfl 0 rfl ?_
  refine mv_ldc (v := (40061 : Int32)) C mw_X9_beginning__constant_RX9_173_40061_Int32_ dX9_beginning_69 ?_
  refine mv_iconst (v := (0 : Int32)) C dX9_beginning_71 (by decide) ?_
  refine mv_iconst (v := (1 : Int32)) C dX9_beginning_72 (by decide) ?_
  refine mv_iconst (v := (0 : Int32)) C dX9_beginning_73 (by decide) ?_
  refine mv_iconst (v := (0 : Int32)) C dX9_beginning_74 (by decide) ?_
  refine mv_callVv (f := wM cA b) (As := [.int (40061 : Int32), .int (0 : Int32), .int (1 : Int32), .int (0 : Int32), .int (0 : Int32)]) (rest := []) C eM_ok hs 0 rfl rfl (X9_bind_met (l := l) (lev := lev - 1) (by omega) hw) (cwV 5 C.2.2.2.2.1 gX9_beginning_X9_bind rfl rfl rfl (by decide +kernel) (mRm_le (by omega) (by decide))) rfl rfl (Nat.le_of_ble_eq_true rfl) dX9_beginning_75 ⟨Nat.le_refl 0, Nat.le_refl 0⟩ (fun u15 hw => ?_)
  refine mv_aload_n C dX9_beginning_78 rfl 0 rfl ?_
  refine mv_ldc (v := (40060 : Int32)) C mw_X9_beginning__constant_RX9_174_40060_Int32_ dX9_beginning_79 ?_
  refine mv_iconst (v := (0 : Int32)) C dX9_beginning_81 (by decide) ?_
  refine mv_iconst (v := (1 : Int32)) C dX9_beginning_82 (by decide) ?_
  refine mv_iconst (v := (0 : Int32)) C dX9_beginning_83 (by decide) ?_
  refine mv_iconst (v := (0 : Int32)) C dX9_beginning_84 (by decide) ?_
  refine mv_callVv (f := wM cA b) (As := [.int (40060 : Int32), .int (0 : Int32), .int (1 : Int32), .int (0 : Int32), .int (0 : Int32)]) (rest := []) C eM_ok hs 0 rfl rfl (X9_bind_met (l := l) (lev := lev - 1) (by omega) hw) (cwV 5 C.2.2.2.2.1 gX9_beginning_X9_bind rfl rfl rfl (by decide +kernel) (mRm_le (by omega) (by decide))) rfl rfl (Nat.le_of_ble_eq_true rfl) dX9_beginning_85 ⟨Nat.le_refl 0, Nat.le_refl 0⟩ (fun u17 hw => ?_)
  refine mv_iconst (v := (0 : Int32)) C dX9_beginning_88 (by decide) ?_
  refine mv_istore_n (lv1 := [(1, .int (0 : Int32)), (0, .ref (b 0))]) C dX9_beginning_89 rfl (by decide) rfl ?_
  refine mv_sub [1, 0] rfl ?_
  obtain ⟨n, hw⟩ := hw
  exact mL2_of (fun K hK b0 b1 hw => wj_X9_beginning_90_ok C hs hlev hK hw) n (0 : Int32) u17 hw
set_option maxHeartbeats 4000000 in
set_option maxRecDepth 100000 in
theorem wj_X9_expand_10_ok (C : mC p s m args meth c cX9_expand 3 wsX9_expand RX9 (some .int) (dC, dI) vwCl [(cA, .int)] A) (hs : eM A s) (hlev : 2 ≤ lev) {post : Int32 → mS → Prop} {u : mS} (hw : wj_X9_expand_10 post  u) : mV p l e (mRm lev) s m args below meth c 3 (dC, dI) vwCl A 0 0 (mQi below args s (dC, dI) vwCl [(cA, .int)] (wM cA b) A post) (wM cA b u) 10 [] [] := by
  unfold wj_X9_expand_10 at hw
  refine mv_sipush (v := (-7000 : Int32)) C dX9_expand_10 (by decide) ?_
  exact mv_iret C dX9_expand_13 hw
set_option maxHeartbeats 4000000 in
set_option maxRecDepth 100000 in
theorem wj_X9_expand_122_ok (C : mC p s m args meth c cX9_expand 3 wsX9_expand RX9 (some .int) (dC, dI) vwCl [(cA, .int)] A) (hs : eM A s) (hlev : 2 ≤ lev) {post : Int32 → mS → Prop} {u : mS} (hw : wj_X9_expand_122 post  u) : mV p l e (mRm lev) s m args below meth c 3 (dC, dI) vwCl A 0 0 (mQi below args s (dC, dI) vwCl [(cA, .int)] (wM cA b) A post) (wM cA b u) 122 [(0, .ref (b 0))] [] := by
  unfold wj_X9_expand_122 at hw
  refine mv_aload_n C dX9_expand_122 rfl 0 rfl ?_
  refine mv_get (v := .int (u.1 12)) C iw_X9_expand_X9 0 rfl rfl 32 (by decide) lk_X9_expand_178 rfl rfl dX9_expand_123 ?_
  refine mv_topi (fun y26 ey26 => ?_)
  have hw := hw y26 ey26
  refine mv_if_eq (tgt := 140) C dX9_expand_126 (by decide) (fun h27 => ?_) (fun h27 => ?_)
  · have hw := hw.1 h27
    refine mv_aload_n C dX9_expand_140 rfl 0 rfl ?_
    refine mv_get (v := .int (u.1 9)) C iw_X9_expand_X9 0 rfl rfl 29 (by decide) lk_X9_expand_184 rfl rfl dX9_expand_141 ?_
    refine mv_topi (fun y28 ey28 => ?_)
    have hw := hw y28 ey28
    exact mv_iret C dX9_expand_144 hw
  · have hw := hw.2 h27
    refine mv_sipush (v := (-1000 : Int32)) C dX9_expand_129 (by decide) ?_
    refine mv_aload_n C dX9_expand_132 rfl 0 rfl ?_
    refine mv_get (v := .int (u.1 12)) C iw_X9_expand_X9 0 rfl rfl 32 (by decide) lk_X9_expand_178 rfl rfl dX9_expand_133 ?_
    refine mv_topi (fun y29 ey29 => ?_)
    have hw := hw y29 ey29
    refine mv_imul C dX9_expand_136 ?_
    refine mv_topi (fun y30 ey30 => ?_)
    have hw := hw y30 ey30
    refine mv_goto (tgt := 144) C dX9_expand_137 (by decide) ?_
    exact mv_iret C dX9_expand_144 hw
set_option maxHeartbeats 4000000 in
set_option maxRecDepth 100000 in
theorem wj_X9_expand_110_ok (C : mC p s m args meth c cX9_expand 3 wsX9_expand RX9 (some .int) (dC, dI) vwCl [(cA, .int)] A) (hs : eM A s) (hlev : 2 ≤ lev) {post : Int32 → mS → Prop} {u : mS} (hw : wj_X9_expand_110 post  u) : mV p l e (mRm lev) s m args below meth c 3 (dC, dI) vwCl A 0 0 (mQi below args s (dC, dI) vwCl [(cA, .int)] (wM cA b) A post) (wM cA b u) 110 [(0, .ref (b 0))] [] := by
  unfold wj_X9_expand_110 at hw
  refine mv_aload_n C dX9_expand_110 rfl 0 rfl ?_
  refine mv_get (v := .int (u.1 12)) C iw_X9_expand_X9 0 rfl rfl 32 (by decide) lk_X9_expand_178 rfl rfl dX9_expand_111 ?_
  refine mv_topi (fun y23 ey23 => ?_)
  have hw := hw y23 ey23
  refine mv_if_eq (tgt := 122) C dX9_expand_114 (by decide) (fun h24 => ?_) (fun h24 => ?_)
  · have hw := hw.1 h24
    exact wj_X9_expand_122_ok C hs hlev hw
  · have hw := hw.2 h24
    refine mv_aload_n C dX9_expand_117 rfl 0 rfl ?_
    refine mv_iconst (v := (0 : Int32)) C dX9_expand_118 (by decide) ?_
    refine mv_put (ty := .int) (ws1 := wM cA b (mSet u 9 (0 : Int32))) C iw_X9_expand_X9 tyX9 tyX9_ok nmX9 0 rfl rfl 29 (by decide) lk_X9_expand_184 rfl rfl rfl rfl rfl (Nat.le_of_ble_eq_true rfl) rfl dX9_expand_119 ?_
    refine mv_nm (f := wM cA b) (fun u25 eu25 => ?_)
    have hw := hw u25 eu25
    exact wj_X9_expand_122_ok C hs hlev hw
set_option maxHeartbeats 4000000 in
set_option maxRecDepth 100000 in
theorem wj_X9_expand_86_ok (C : mC p s m args meth c cX9_expand 3 wsX9_expand RX9 (some .int) (dC, dI) vwCl [(cA, .int)] A) (hs : eM A s) (hlev : 2 ≤ lev) {post : Int32 → mS → Prop} {K86 : mS → Prop} (hK86 : ∀ (u : mS), K86  u → mV p l e (mRm lev) s m args below meth c 3 (dC, dI) vwCl A 0 0 (mQi below args s (dC, dI) vwCl [(cA, .int)] (wM cA b) A post) (wM cA b u) 86 [(0, .ref (b 0))] []) {u : mS} (hw : wj_X9_expand_86 K86 post  u) : mV p l e (mRm lev) s m args below meth c 3 (dC, dI) vwCl A 0 0 (mQi below args s (dC, dI) vwCl [(cA, .int)] (wM cA b) A post) (wM cA b u) 86 [(0, .ref (b 0))] [] := by
  unfold wj_X9_expand_86 at hw
  refine mv_aload_n C dX9_expand_86 rfl 0 rfl ?_
  refine mv_get (v := .int (u.1 1)) C iw_X9_expand_X9 0 rfl rfl 4 (by decide) lk_X9_expand_104 rfl rfl dX9_expand_87 ?_
  refine mv_topi (fun y19 ey19 => ?_)
  have hw := hw y19 ey19
  refine mv_sipush (v := (2600 : Int32)) C dX9_expand_90 (by decide) ?_
  refine mv_icmp_ge (tgt := 110) C dX9_expand_93 (by decide) (fun h20 => ?_) (fun h20 => ?_)
  · have hw := hw.1 h20
    exact wj_X9_expand_110_ok C hs hlev hw
  · have hw := hw.2 h20
    refine mv_aload_n C dX9_expand_96 rfl 0 rfl ?_
    refine mv_get (v := .int (u.1 12)) C iw_X9_expand_X9 0 rfl rfl 32 (by decide) lk_X9_expand_178 rfl rfl dX9_expand_97 ?_
    refine mv_topi (fun y21 ey21 => ?_)
    have hw := hw y21 ey21
    refine mv_if_ne (tgt := 110) C dX9_expand_100 (by decide) (fun h22 => ?_) (fun h22 => ?_)
    · have hw := hw.1 h22
      exact wj_X9_expand_110_ok C hs hlev hw
    · have hw := hw.2 h22
      refine mv_aload_n C dX9_expand_103 rfl 0 rfl ?_
      exact hw.elim
set_option maxHeartbeats 4000000 in
set_option maxRecDepth 100000 in
theorem wj_X9_expand_64_ok (C : mC p s m args meth c cX9_expand 3 wsX9_expand RX9 (some .int) (dC, dI) vwCl [(cA, .int)] A) (hs : eM A s) (hlev : 2 ≤ lev) {post : Int32 → mS → Prop} {x2 z0 : Int32} {u : mS} (hw : wj_X9_expand_64 post x2 z0 u) : mV p l e (mRm lev) s m args below meth c 3 (dC, dI) vwCl A 0 0 (mQi below args s (dC, dI) vwCl [(cA, .int)] (wM cA b) A post) (wM cA b u) 64 [(0, .ref (b 0)), (2, .int x2)] [.int z0, .ref (b 0)] := by
  unfold wj_X9_expand_64 at hw
  refine mv_put (ty := .int) (ws1 := wM cA b (mSet u 15 z0)) C iw_X9_expand_X9 tyX9 tyX9_ok nmX9 0 rfl rfl 35 (by decide) lk_X9_expand_245 rfl rfl rfl rfl rfl (Nat.le_of_ble_eq_true rfl) rfl dX9_expand_64 ?_
  refine mv_nm (f := wM cA b) (fun u13 eu13 => ?_)
  have hw := hw u13 eu13
  refine mv_aload_n C dX9_expand_67 rfl 0 rfl ?_
  refine mv_sipush (v := (480 : Int32)) C dX9_expand_68 (by decide) ?_
  refine mv_put (ty := .int) (ws1 := wM cA b (mSet u13 2 (480 : Int32))) C iw_X9_expand_X9 tyX9 tyX9_ok nmX9 0 rfl rfl 7 (by decide) lk_X9_expand_274 rfl rfl rfl rfl rfl (Nat.le_of_ble_eq_true rfl) rfl dX9_expand_71 ?_
  refine mv_nm (f := wM cA b) (fun u14 eu14 => ?_)
  have hw := hw u14 eu14
  refine mv_aload_n C dX9_expand_74 rfl 0 rfl ?_
  refine mv_callVv (f := wM cA b) (As := []) (rest := []) C eM_ok hs 0 rfl rfl (X9_beginning_met (l := l) (lev := lev - 1) (by omega) hw) (cwV 0 C.2.2.2.2.1 gX9_expand_X9_beginning rfl rfl rfl (by decide +kernel) (mRm_le (by omega) (by decide))) rfl rfl (Nat.le_of_ble_eq_true rfl) dX9_expand_75 ⟨Nat.le_refl 0, Nat.le_refl 0⟩ (fun u16 hw => ?_)
  refine mv_iload_n C dX9_expand_78 rfl 1 rfl ?_
  refine mv_if_lt (tgt := 86) C dX9_expand_79 (by decide) (fun h17 => ?_) (fun h17 => ?_)
  · have hw := hw.1 h17
    refine mv_sub [0] rfl ?_
    obtain ⟨n, hw⟩ := hw
    exact mL1_of (fun K hK b0 hw => wj_X9_expand_86_ok C hs hlev hK hw) n u16 hw
  · have hw := hw.2 h17
    refine mv_iconst (v := (-1 : Int32)) C dX9_expand_82 (by decide) ?_
    refine mv_iload_n C dX9_expand_83 rfl 1 rfl ?_
    refine mv_isub C dX9_expand_84 ?_
    refine mv_topi (fun y18 ey18 => ?_)
    have hw := hw y18 ey18
    exact mv_iret C dX9_expand_85 hw
set_option maxHeartbeats 4000000 in
set_option maxRecDepth 100000 in
theorem X9_expand_met (hlev : 2 ≤ lev) {x1 : Int32} {u : mS} {post : Int32 → mS → Prop} (hw : wp_X9_expand x1 u post) : mKi l yX9_expand wsX9_expand lev (eM) (dC, dI) vwCl [(cA, .int)] (wM cA b) [.ref (b 0), .int x1] u post := by
  refine mKi_of (cc := cX9_expand) (maxL := 3) (by decide) rfl rfl (Nat.le_of_ble_eq_true rfl) rfl ?_
  intro p e s m args below meth c A C hs
  unfold wp_X9_expand at hw
  refine mv_iload_n C dX9_expand_0 rfl 1 rfl ?_
  refine mv_if_lt (tgt := 10) C dX9_expand_1 (by decide) (fun h1 => ?_) (fun h1 => ?_)
  · have hw := hw.1 h1
    refine mv_sub [] rfl ?_
    exact wj_X9_expand_10_ok C hs hlev hw
  · have hw := hw.2 h1
    refine mv_iload_n C dX9_expand_4 rfl 1 rfl ?_
    refine mv_bipush (v := (8 : Int32)) C dX9_expand_5 (by decide) ?_
    refine mv_icmp_le (tgt := 14) C dX9_expand_7 (by decide) (fun h2 => ?_) (fun h2 => ?_)
    · have hw := hw.1 h2
      refine mv_aload_n C dX9_expand_14 rfl 0 rfl ?_
      refine mv_callVi (f := wM cA b) (As := []) (rest := []) C eM_ok hs 0 rfl rfl (X9_read_met (l := l) (lev := lev - 1) (by omega) hw) (cwV 0 C.2.2.2.2.1 gX9_expand_X9_read rfl rfl rfl (by decide +kernel) (mRm_le (by omega) (by decide))) rfl rfl (Nat.le_of_ble_eq_true rfl) dX9_expand_15 ⟨Nat.le_refl 0, Nat.le_refl 0⟩ (fun r3 u4 hw => ?_)
      refine mv_istore_n (lv1 := [(2, .int r3), (0, .ref (b 0)), (1, .int x1)]) C dX9_expand_18 rfl (by decide) rfl ?_
      refine mv_aload_n C dX9_expand_19 rfl 1 rfl ?_
      refine mv_iconst (v := (0 : Int32)) C dX9_expand_20 (by decide) ?_
      refine mv_put (ty := .int) (ws1 := wM cA b (mSet u4 0 (0 : Int32))) C iw_X9_expand_X9 tyX9 tyX9_ok nmX9 0 rfl rfl 1 (by decide) lk_X9_expand_70 rfl rfl rfl rfl rfl (Nat.le_of_ble_eq_true rfl) rfl dX9_expand_21 ?_
      refine mv_nm (f := wM cA b) (fun u5 eu5 => ?_)
      have hw := hw u5 eu5
      refine mv_aload_n C dX9_expand_24 rfl 1 rfl ?_
      refine mv_iconst (v := (0 : Int32)) C dX9_expand_25 (by decide) ?_
      refine mv_put (ty := .int) (ws1 := wM cA b (mSet u5 9 (0 : Int32))) C iw_X9_expand_X9 tyX9 tyX9_ok nmX9 0 rfl rfl 29 (by decide) lk_X9_expand_184 rfl rfl rfl rfl rfl (Nat.le_of_ble_eq_true rfl) rfl dX9_expand_26 ?_
      refine mv_nm (f := wM cA b) (fun u6 eu6 => ?_)
      have hw := hw u6 eu6
      refine mv_aload_n C dX9_expand_29 rfl 1 rfl ?_
      refine mv_iconst (v := (0 : Int32)) C dX9_expand_30 (by decide) ?_
      refine mv_put (ty := .boolean) (ws1 := wM cA b (mSet u6 10 (0 : Int32))) C iw_X9_expand_X9 tyX9 tyX9_ok nmX9 0 rfl rfl 30 (by decide) lk_X9_expand_187 rfl rfl rfl (by decide) (by decide) (Nat.le_of_ble_eq_true rfl) rfl dX9_expand_31 ?_
      refine mv_nm (f := wM cA b) (fun u7 eu7 => ?_)
      have hw := hw u7 eu7
      refine mv_aload_n C dX9_expand_34 rfl 1 rfl ?_
      refine mv_iconst (v := (0 : Int32)) C dX9_expand_35 (by decide) ?_
      refine mv_put (ty := .int) (ws1 := wM cA b (mSet u7 11 (0 : Int32))) C iw_X9_expand_X9 tyX9 tyX9_ok nmX9 0 rfl rfl 31 (by decide) lk_X9_expand_271 rfl rfl rfl rfl rfl (Nat.le_of_ble_eq_true rfl) rfl dX9_expand_36 ?_
      refine mv_nm (f := wM cA b) (fun u8 eu8 => ?_)
      have hw := hw u8 eu8
      refine mv_aload_n C dX9_expand_39 rfl 1 rfl ?_
      refine mv_iconst (v := (0 : Int32)) C dX9_expand_40 (by decide) ?_
      refine mv_put (ty := .int) (ws1 := wM cA b (mSet u8 12 (0 : Int32))) C iw_X9_expand_X9 tyX9 tyX9_ok nmX9 0 rfl rfl 32 (by decide) lk_X9_expand_178 rfl rfl rfl rfl rfl (Nat.le_of_ble_eq_true rfl) rfl dX9_expand_41 ?_
      refine mv_nm (f := wM cA b) (fun u9 eu9 => ?_)
      have hw := hw u9 eu9
      refine mv_aload_n C dX9_expand_44 rfl 1 rfl ?_
      refine mv_iconst (v := (0 : Int32)) C dX9_expand_45 (by decide) ?_
      refine mv_put (ty := .int) (ws1 := wM cA b (mSet u9 13 (0 : Int32))) C iw_X9_expand_X9 tyX9 tyX9_ok nmX9 0 rfl rfl 33 (by decide) lk_X9_expand_181 rfl rfl rfl rfl rfl (Nat.le_of_ble_eq_true rfl) rfl dX9_expand_46 ?_
      refine mv_nm (f := wM cA b) (fun u10 eu10 => ?_)
      have hw := hw u10 eu10
      refine mv_aload_n C dX9_expand_49 rfl 1 rfl ?_
      refine mv_iconst (v := (0 : Int32)) C dX9_expand_50 (by decide) ?_
      refine mv_put (ty := .int) (ws1 := wM cA b (mSet u10 14 (0 : Int32))) C iw_X9_expand_X9 tyX9 tyX9_ok nmX9 0 rfl rfl 34 (by decide) lk_X9_expand_265 rfl rfl rfl rfl rfl (Nat.le_of_ble_eq_true rfl) rfl dX9_expand_51 ?_
      refine mv_nm (f := wM cA b) (fun u11 eu11 => ?_)
      have hw := hw u11 eu11
      refine mv_aload_n C dX9_expand_54 rfl 1 rfl ?_
      refine mv_iload_n C dX9_expand_55 rfl 0 rfl ?_
      refine mv_if_ge (tgt := 63) C dX9_expand_56 (by decide) (fun h12 => ?_) (fun h12 => ?_)
      · have hw := hw.1 h12
        refine mv_iconst (v := (0 : Int32)) C dX9_expand_63 (by decide) ?_
        refine mv_sub [1, 0] rfl ?_
        exact wj_X9_expand_64_ok C hs hlev hw
      · have hw := hw.2 h12
        refine mv_iload_n C dX9_expand_59 rfl 2 rfl ?_
        refine mv_goto (tgt := 64) C dX9_expand_60 (by decide) ?_
        refine mv_sub [1, 0] rfl ?_
        exact wj_X9_expand_64_ok C hs hlev hw
    · have hw := hw.2 h2
      refine mv_sub [] rfl ?_
      exact wj_X9_expand_10_ok C hs hlev hw
set_option maxHeartbeats 4000000 in
set_option maxRecDepth 100000 in
theorem X9_at_met (hlev : 0 ≤ lev) {x1 : Int32} {u : mS} {post : Int32 → mS → Prop} (hw : wp_X9_at x1 u post) : mKi l yX9_at wsX9_at lev (eM) (dC, dI) vwCl [(cA, .int)] (wM cA b) [.ref (b 0), .int x1] u post := by
  refine mKi_of (cc := cX9_at) (maxL := 2) (by decide) rfl rfl (Nat.le_of_ble_eq_true rfl) rfl ?_
  intro p e s m args below meth c A C hs
  unfold wp_X9_at at hw
  refine mv_iload_n C dX9_at_0 rfl 1 rfl ?_
  refine mv_if_lt (tgt := 21) C dX9_at_1 (by decide) (fun h1 => ?_) (fun h1 => ?_)
  · have hw := hw.1 h1
    refine mv_iconst (v := (-1 : Int32)) C dX9_at_21 (by decide) ?_
    exact mv_iret C dX9_at_22 hw
  · have hw := hw.2 h1
    refine mv_iload_n C dX9_at_4 rfl 1 rfl ?_
    refine mv_aload_n C dX9_at_5 rfl 0 rfl ?_
    refine mv_get (v := .int (u.1 9)) C iw_X9_at_X9 0 rfl rfl 29 (by decide) lk_X9_at_184 rfl rfl dX9_at_6 ?_
    refine mv_topi (fun y2 ey2 => ?_)
    have hw := hw y2 ey2
    refine mv_icmp_ge (tgt := 21) C dX9_at_9 (by decide) (fun h3 => ?_) (fun h3 => ?_)
    · have hw := hw.1 h3
      refine mv_iconst (v := (-1 : Int32)) C dX9_at_21 (by decide) ?_
      exact mv_iret C dX9_at_22 hw
    · have hw := hw.2 h3
      refine mv_aload_n C dX9_at_12 rfl 0 rfl ?_
      refine mv_get (v := .ref (b 20)) C iw_X9_at_X9 0 rfl rfl 28 (by decide) lk_X9_at_67 rfl rfl dX9_at_13 ?_
      refine mv_iload_n C dX9_at_16 rfl 1 rfl ?_
      refine mv_iald (f := u.2 19) C 20 0 rfl rfl hw.1 dX9_at_17 ?_
      refine mv_topi (fun y4 ey4 => ?_)
      have hw := hw.2 y4 ey4
      refine mv_goto (tgt := 22) C dX9_at_18 (by decide) ?_
      exact mv_iret C dX9_at_22 hw
set_option maxHeartbeats 4000000 in
set_option maxRecDepth 100000 in
theorem X9_count__met (hlev : 0 ≤ lev) {x1 : Int32} {u : mS} {post : Int32 → mS → Prop} (hw : wp_X9_count_ x1 u post) : mKi l yX9_count_ wsX9_count_ lev (eM) (dC, dI) vwCl [(cA, .int)] (wM cA b) [.ref (b 0), .int x1] u post := by
  refine mKi_of (cc := cX9_count_) (maxL := 2) (by decide) rfl rfl (Nat.le_of_ble_eq_true rfl) rfl ?_
  intro p e s m args below meth c A C hs
  unfold wp_X9_count_ at hw
  refine mv_iload_n C dX9_count__0 rfl 1 rfl ?_
  by_cases hc1_0 : x1 = (0 : Int32)
  · have hw := hw.1 hc1_0
    refine mv_tableIn (tgt := 32) C dX9_count__1 (by rw [hc1_0]; decide) (by rw [hc1_0]; decide) (by rw [hc1_0]; rfl) (by decide) ?_
    refine mv_aload_n C dX9_count__32 rfl 0 rfl ?_
    refine mv_get (v := .int (u.1 13)) C iw_X9_count__X9 0 rfl rfl 33 (by decide) lk_X9_count__181 rfl rfl dX9_count__33 ?_
    refine mv_topi (fun y1 ey1 => ?_)
    have hw := hw y1 ey1
    exact mv_iret C dX9_count__36 hw
  by_cases hc1_1 : x1 = (1 : Int32)
  · have hw := hw.2.1 hc1_1
    refine mv_tableIn (tgt := 37) C dX9_count__1 (by rw [hc1_1]; decide) (by rw [hc1_1]; decide) (by rw [hc1_1]; rfl) (by decide) ?_
    refine mv_aload_n C dX9_count__37 rfl 0 rfl ?_
    refine mv_get (v := .int (u.1 4)) C iw_X9_count__X9 0 rfl rfl 11 (by decide) lk_X9_count__160 rfl rfl dX9_count__38 ?_
    refine mv_topi (fun y2 ey2 => ?_)
    have hw := hw y2 ey2
    refine mv_aload_n C dX9_count__41 rfl 0 rfl ?_
    refine mv_get (v := .int (u.1 5)) C iw_X9_count__X9 0 rfl rfl 12 (by decide) lk_X9_count__175 rfl rfl dX9_count__42 ?_
    refine mv_topi (fun y3 ey3 => ?_)
    have hw := hw y3 ey3
    refine mv_isub C dX9_count__45 ?_
    refine mv_topi (fun y4 ey4 => ?_)
    have hw := hw y4 ey4
    exact mv_iret C dX9_count__46 hw
  by_cases hc1_2 : x1 = (2 : Int32)
  · have hw := hw.2.2.1 hc1_2
    refine mv_tableIn (tgt := 47) C dX9_count__1 (by rw [hc1_2]; decide) (by rw [hc1_2]; decide) (by rw [hc1_2]; rfl) (by decide) ?_
    refine mv_aload_n C dX9_count__47 rfl 0 rfl ?_
    refine mv_get (v := .int (u.1 14)) C iw_X9_count__X9 0 rfl rfl 34 (by decide) lk_X9_count__265 rfl rfl dX9_count__48 ?_
    refine mv_topi (fun y5 ey5 => ?_)
    have hw := hw y5 ey5
    exact mv_iret C dX9_count__51 hw
  by_cases hc1_3 : x1 = (3 : Int32)
  · have hw := hw.2.2.2.1 hc1_3
    refine mv_tableIn (tgt := 52) C dX9_count__1 (by rw [hc1_3]; decide) (by rw [hc1_3]; decide) (by rw [hc1_3]; rfl) (by decide) ?_
    refine mv_aload_n C dX9_count__52 rfl 0 rfl ?_
    refine mv_get (v := .int (u.1 15)) C iw_X9_count__X9 0 rfl rfl 35 (by decide) lk_X9_count__245 rfl rfl dX9_count__53 ?_
    refine mv_topi (fun y6 ey6 => ?_)
    have hw := hw y6 ey6
    exact mv_iret C dX9_count__56 hw
  have hw := hw.2.2.2.2 hc1_0 hc1_1 hc1_2 hc1_3
  refine mv_tableOut (tgt := 57) C dX9_count__1 (by have q0 : ¬ x1.toInt = 0 := mne hc1_0; have q1 : ¬ x1.toInt = 1 := mne hc1_1; have q2 : ¬ x1.toInt = 2 := mne hc1_2; have q3 : ¬ x1.toInt = 3 := mne hc1_3; omega) (by decide) ?_
  refine mv_iconst (v := (-1 : Int32)) C dX9_count__57 (by decide) ?_
  exact mv_iret C dX9_count__58 hw
end
