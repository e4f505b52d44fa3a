set_option maxRecDepth 20000 in
theorem ggX3_read_X5_restart : GoodIn wsX3_read wsX5_restart := goodIn_r _ [12, 13, 14, 65, 66, 67, 68, 69, 70] (by decide +kernel) (by decide +kernel)
set_option maxRecDepth 20000 in
theorem gX3_read_X5_restart : GoodIn wsX3_read (wsV RX3 15 RX5 yX5_restart wsX5_restart) := goodIn_app (goodIn_of _ (by decide +kernel)) ggX3_read_X5_restart
set_option maxRecDepth 100000 in
theorem gpX3_read_X3_readToken_0 : GoodIn wsX3_read wsX3_readToken_r1 := goodIn_r _ [1, 20, 21, 22, 18, 23, 2, 24, 25, 26, 27, 28, 29, 30, 31, 32, 33, 11, 34, 13, 35, 36, 37, 38] (by decide +kernel) (by decide +kernel)
set_option maxRecDepth 100000 in
theorem gpX3_read_X3_readToken_1 : GoodIn wsX3_read wsX3_readToken_r2 := goodIn_r _ [14, 39, 40, 41, 42, 43, 44, 45, 46, 47, 48, 49, 50, 51, 52, 53, 54, 55, 56, 57, 58, 59, 60, 61] (by decide +kernel) (by decide +kernel)
set_option maxRecDepth 100000 in
theorem gpX3_read_X3_readToken_2 : GoodIn wsX3_read wsX3_readToken_r3 := goodIn_r _ [62] (by decide +kernel) (by decide +kernel)
set_option maxRecDepth 100000 in
theorem gpX3_read_X3_readToken_3 : GoodIn wsX3_read wsX30 := goodIn_r _ [63, 64] (by decide +kernel) (by decide +kernel)
set_option maxRecDepth 100000 in
theorem gpX3_read_X3_readToken_4 : GoodIn wsX3_read wsX50 := goodIn_r _ [65, 66, 67, 68, 69, 70] (by decide +kernel) (by decide +kernel)
set_option maxRecDepth 100000 in
theorem gpX3_read_X3_readToken_c : GoodIn wsX3_read [Cond.code yX3_readToken cX3_readToken 5 (some .int)] := goodIn_r _ [19] (by decide +kernel) (by decide +kernel)
theorem ggX3_read_X3_readToken : GoodIn wsX3_read wsX3_readToken := goodIn_cons2 gpX3_read_X3_readToken_c (goodIn_app (goodIn_app (goodIn_app gpX3_read_X3_readToken_0 (goodIn_app gpX3_read_X3_readToken_1 gpX3_read_X3_readToken_2)) gpX3_read_X3_readToken_3) gpX3_read_X3_readToken_4)
set_option maxRecDepth 20000 in
theorem gX3_read_X3_readToken : GoodIn wsX3_read (wsV RX3 31 RX3 yX3_readToken wsX3_readToken) := goodIn_app (goodIn_of _ (by decide +kernel)) ggX3_read_X3_readToken
set_option maxRecDepth 20000 in
theorem ggX3_read_X3_isWhole : GoodIn wsX3_read wsX3_isWhole := goodIn_r _ [23, 2, 1, 63, 64, 65, 66, 67, 68, 69, 70] (by decide +kernel) (by decide +kernel)
set_option maxRecDepth 20000 in
theorem gX3_read_X3_isWhole : GoodIn wsX3_read (wsV RX3 35 RX3 yX3_isWhole wsX3_isWhole) := goodIn_app (goodIn_of _ (by decide +kernel)) ggX3_read_X3_isWhole
theorem dX3_read_0 : decode cX3_read 0 = .ok (.aload_n 0, 1) := by decide +kernel
theorem dX3_read_1 : decode cX3_read 1 = .ok (.getfield 9, 3) := by decide +kernel
theorem dX3_read_4 : decode cX3_read 4 = .ok (.invokevirtual 15, 3) := by decide +kernel
theorem dX3_read_7 : decode cX3_read 7 = .ok (.aload_n 0, 1) := by decide +kernel
theorem dX3_read_8 : decode cX3_read 8 = .ok (.iconst 0, 1) := by decide +kernel
theorem dX3_read_9 : decode cX3_read 9 = .ok (.putfield 20, 3) := by decide +kernel
theorem dX3_read_12 : decode cX3_read 12 = .ok (.iload_n 2, 1) := by decide +kernel
theorem dX3_read_13 : decode cX3_read 13 = .ok (.aload_n 1, 1) := by decide +kernel
theorem dX3_read_14 : decode cX3_read 14 = .ok (.arraylength, 1) := by decide +kernel
theorem dX3_read_15 : decode cX3_read 15 = .ok (.invokestatic 24, 3) := by decide +kernel
theorem dX3_read_18 : decode cX3_read 18 = .ok (.istore_n 3, 1) := by decide +kernel
theorem dX3_read_19 : decode cX3_read 19 = .ok (.iconst 0, 1) := by decide +kernel
theorem dX3_read_20 : decode cX3_read 20 = .ok (.istore 4, 2) := by decide +kernel
theorem dX3_read_22 : decode cX3_read 22 = .ok (.iconst 0, 1) := by decide +kernel
theorem dX3_read_23 : decode cX3_read 23 = .ok (.istore 5, 2) := by decide +kernel
theorem dX3_read_25 : decode cX3_read 25 = .ok (.iload 5, 2) := by decide +kernel
theorem dX3_read_27 : decode cX3_read 27 = .ok (.ldc 30, 2) := by decide +kernel
theorem dX3_read_29 : decode cX3_read 29 = .ok (.if_icmp .ge 53, 3) := by decide +kernel
theorem dX3_read_32 : decode cX3_read 32 = .ok (.iload 4, 2) := by decide +kernel
theorem dX3_read_34 : decode cX3_read 34 = .ok (.iload_n 3, 1) := by decide +kernel
theorem dX3_read_35 : decode cX3_read 35 = .ok (.if_icmp .ge 47, 3) := by decide +kernel
theorem dX3_read_38 : decode cX3_read 38 = .ok (.aload_n 1, 1) := by decide +kernel
theorem dX3_read_39 : decode cX3_read 39 = .ok (.iload 4, 2) := by decide +kernel
theorem dX3_read_41 : decode cX3_read 41 = .ok (.iaload, 1) := by decide +kernel
theorem dX3_read_42 : decode cX3_read 42 = .ok (.bipush 32, 2) := by decide +kernel
theorem dX3_read_44 : decode cX3_read 44 = .ok (.if_icmp .ne 7, 3) := by decide +kernel
theorem dX3_read_47 : decode cX3_read 47 = .ok (.iconst 1, 1) := by decide +kernel
theorem dX3_read_48 : decode cX3_read 48 = .ok (.goto 11, 3) := by decide +kernel
theorem dX3_read_51 : decode cX3_read 51 = .ok (.aload_n 0, 1) := by decide +kernel
theorem dX3_read_52 : decode cX3_read 52 = .ok (.aload_n 1, 1) := by decide +kernel
theorem dX3_read_53 : decode cX3_read 53 = .ok (.iload_n 3, 1) := by decide +kernel
theorem dX3_read_54 : decode cX3_read 54 = .ok (.iload 4, 2) := by decide +kernel
theorem dX3_read_56 : decode cX3_read 56 = .ok (.invokevirtual 31, 3) := by decide +kernel
theorem dX3_read_59 : decode cX3_read 59 = .ok (.istore 6, 2) := by decide +kernel
theorem dX3_read_61 : decode cX3_read 61 = .ok (.iload 6, 2) := by decide +kernel
theorem dX3_read_63 : decode cX3_read 63 = .ok (.ifCond .ne 6, 3) := by decide +kernel
theorem dX3_read_66 : decode cX3_read 66 = .ok (.iload 4, 2) := by decide +kernel
theorem dX3_read_68 : decode cX3_read 68 = .ok (.ireturn, 1) := by decide +kernel
theorem dX3_read_69 : decode cX3_read 69 = .ok (.iload 4, 2) := by decide +kernel
theorem dX3_read_71 : decode cX3_read 71 = .ok (.iload 6, 2) := by decide +kernel
theorem dX3_read_73 : decode cX3_read 73 = .ok (.iadd, 1) := by decide +kernel
theorem dX3_read_74 : decode cX3_read 74 = .ok (.istore 4, 2) := by decide +kernel
theorem dX3_read_76 : decode cX3_read 76 = .ok (.iinc 5 1, 3) := by decide +kernel
theorem dX3_read_79 : decode cX3_read 79 = .ok (.goto (-54), 3) := by decide +kernel
theorem dX3_read_82 : decode cX3_read 82 = .ok (.aload_n 0, 1) := by decide +kernel
theorem dX3_read_83 : decode cX3_read 83 = .ok (.invokevirtual 35, 3) := by decide +kernel
theorem dX3_read_86 : decode cX3_read 86 = .ok (.ifCond .eq 7, 3) := by decide +kernel
theorem dX3_read_89 : decode cX3_read 89 = .ok (.iconst (-1), 1) := by decide +kernel
theorem dX3_read_90 : decode cX3_read 90 = .ok (.goto 4, 3) := by decide +kernel
theorem dX3_read_93 : decode cX3_read 93 = .ok (.iload_n 3, 1) := by decide +kernel
theorem dX3_read_94 : decode cX3_read 94 = .ok (.ireturn, 1) := by decide +kernel
set_option maxRecDepth 20000 in
theorem ggX3_readToken_X3_isWhole : GoodIn wsX3_readToken wsX3_isWhole := goodIn_r _ [6, 7, 1, 50, 51, 52, 53, 54, 55, 56, 57] (by decide +kernel) (by decide +kernel)
set_option maxRecDepth 20000 in
theorem gX3_readToken_X3_isWhole : GoodIn wsX3_readToken (wsV RX3 35 RX3 yX3_isWhole wsX3_isWhole) := goodIn_app (goodIn_of _ (by decide +kernel)) ggX3_readToken_X3_isWhole
set_option maxRecDepth 20000 in
theorem ggX3_readToken_X3_runLength : GoodIn wsX3_readToken wsX3_runLength := goodIn_r _ [10] (by decide +kernel) (by decide +kernel)
set_option maxRecDepth 20000 in
theorem gX3_readToken_X3_runLength : GoodIn wsX3_readToken (va_wsS RX3 42 yX3_runLength wsX3_runLength) := goodIn_app (goodIn_of _ (by decide +kernel)) ggX3_readToken_X3_runLength
set_option maxRecDepth 20000 in
theorem ggX3_readToken_X3_readName : GoodIn wsX3_readToken wsX3_readName := goodIn_r _ [14, 1, 15, 16, 17, 18, 19, 20, 21, 22, 23, 24, 25, 26, 27, 28, 29, 50, 51, 52, 53, 54, 55, 56, 57] (by decide +kernel) (by decide +kernel)
set_option maxRecDepth 20000 in
theorem gX3_readToken_X3_readName : GoodIn wsX3_readToken (wsV RX3 46 RX3 yX3_readName wsX3_readName) := goodIn_app (goodIn_of _ (by decide +kernel)) ggX3_readToken_X3_readName
set_option maxRecDepth 20000 in
theorem ggX3_readToken_X3_readNumber : GoodIn wsX3_readToken wsX3_readNumber := goodIn_r _ [33, 1, 15, 16, 17, 18, 19, 20, 21, 22, 23, 24, 25, 26, 27, 28, 29, 50, 51, 52, 53, 54, 55, 56, 57] (by decide +kernel) (by decide +kernel)
set_option maxRecDepth 20000 in
theorem gX3_readToken_X3_readNumber : GoodIn wsX3_readToken (wsV RX3 49 RX3 yX3_readNumber wsX3_readNumber) := goodIn_app (goodIn_of _ (by decide +kernel)) ggX3_readToken_X3_readNumber
set_option maxRecDepth 20000 in
theorem ggX3_readToken_X3_readOpen : GoodIn wsX3_readToken wsX3_readOpen := goodIn_r _ [37, 7, 1, 15, 16, 17, 18, 19, 20, 21, 22, 23, 24, 25, 26, 27, 28, 29, 50, 51, 52, 53, 54, 55, 56, 57] (by decide +kernel) (by decide +kernel)
set_option maxRecDepth 20000 in
theorem gX3_readToken_X3_readOpen : GoodIn wsX3_readToken (wsV RX3 52 RX3 yX3_readOpen wsX3_readOpen) := goodIn_app (goodIn_of _ (by decide +kernel)) ggX3_readToken_X3_readOpen
set_option maxRecDepth 20000 in
theorem ggX3_readToken_X3_readClose : GoodIn wsX3_readToken wsX3_readClose := goodIn_r _ [41, 7, 1, 15, 16, 17, 18, 19, 20, 21, 22, 23, 24, 25, 26, 27, 28, 29, 50, 51, 52, 53, 54, 55, 56, 57] (by decide +kernel) (by decide +kernel)
set_option maxRecDepth 20000 in
theorem gX3_readToken_X3_readClose : GoodIn wsX3_readToken (wsV RX3 56 RX3 yX3_readClose wsX3_readClose) := goodIn_app (goodIn_of _ (by decide +kernel)) ggX3_readToken_X3_readClose
set_option maxRecDepth 20000 in
theorem ggX3_readToken_X3_readDots : GoodIn wsX3_readToken wsX3_readDots := goodIn_r _ [45, 1, 7, 46, 47, 48, 18, 49, 20, 21, 15, 16, 17, 19, 22, 23, 24, 25, 26, 27, 28, 29, 50, 51, 52, 53, 54, 55, 56, 57] (by decide +kernel) (by decide +kernel)
set_option maxRecDepth 20000 in
theorem gX3_readToken_X3_readDots : GoodIn wsX3_readToken (wsV RX3 59 RX3 yX3_readDots wsX3_readDots) := goodIn_app (goodIn_of _ (by decide +kernel)) ggX3_readToken_X3_readDots
set_option maxRecDepth 20000 in
theorem ggX3_readToken_X5_add : GoodIn wsX3_readToken wsX5_add := goodIn_r _ [19, 20, 21, 22, 23, 24, 25, 26, 27, 28, 18, 29, 52, 53, 54, 55, 56, 57] (by decide +kernel) (by decide +kernel)
set_option maxRecDepth 20000 in
theorem gX3_readToken_X5_add : GoodIn wsX3_readToken (wsV RX3 63 RX5 yX5_add wsX5_add) := goodIn_app (goodIn_of _ (by decide +kernel)) ggX3_readToken_X5_add
theorem dX3_readToken_0 : decode cX3_readToken 0 = .ok (.aload_n 0, 1) := by decide +kernel
theorem dX3_readToken_1 : decode cX3_readToken 1 = .ok (.invokevirtual 35, 3) := by decide +kernel
theorem dX3_readToken_4 : decode cX3_readToken 4 = .ok (.ifCond .ne 13, 3) := by decide +kernel
theorem dX3_readToken_7 : decode cX3_readToken 7 = .ok (.iload_n 3, 1) := by decide +kernel
theorem dX3_readToken_8 : decode cX3_readToken 8 = .ok (.ifCond .lt 9, 3) := by decide +kernel
theorem dX3_readToken_11 : decode cX3_readToken 11 = .ok (.iload_n 3, 1) := by decide +kernel
theorem dX3_readToken_12 : decode cX3_readToken 12 = .ok (.aload_n 1, 1) := by decide +kernel
theorem dX3_readToken_13 : decode cX3_readToken 13 = .ok (.arraylength, 1) := by decide +kernel
theorem dX3_readToken_14 : decode cX3_readToken 14 = .ok (.if_icmp .lt 5, 3) := by decide +kernel
theorem dX3_readToken_17 : decode cX3_readToken 17 = .ok (.iconst 0, 1) := by decide +kernel
theorem dX3_readToken_18 : decode cX3_readToken 18 = .ok (.ireturn, 1) := by decide +kernel
theorem dX3_readToken_19 : decode cX3_readToken 19 = .ok (.aload_n 1, 1) := by decide +kernel
theorem dX3_readToken_20 : decode cX3_readToken 20 = .ok (.iload_n 3, 1) := by decide +kernel
theorem dX3_readToken_21 : decode cX3_readToken 21 = .ok (.iaload, 1) := by decide +kernel
theorem dX3_readToken_22 : decode cX3_readToken 22 = .ok (.istore 4, 2) := by decide +kernel
theorem dX3_readToken_24 : decode cX3_readToken 24 = .ok (.iload 4, 2) := by decide +kernel
theorem dX3_readToken_26 : decode cX3_readToken 26 = .ok (.bipush 97, 2) := by decide +kernel
theorem dX3_readToken_28 : decode cX3_readToken 28 = .ok (.if_icmp .lt 27, 3) := by decide +kernel
theorem dX3_readToken_31 : decode cX3_readToken 31 = .ok (.iload 4, 2) := by decide +kernel
theorem dX3_readToken_33 : decode cX3_readToken 33 = .ok (.bipush 122, 2) := by decide +kernel
theorem dX3_readToken_35 : decode cX3_readToken 35 = .ok (.if_icmp .gt 20, 3) := by decide +kernel
theorem dX3_readToken_38 : decode cX3_readToken 38 = .ok (.aload_n 0, 1) := by decide +kernel
theorem dX3_readToken_39 : decode cX3_readToken 39 = .ok (.aload_n 1, 1) := by decide +kernel
theorem dX3_readToken_40 : decode cX3_readToken 40 = .ok (.iload_n 3, 1) := by decide +kernel
theorem dX3_readToken_41 : decode cX3_readToken 41 = .ok (.aload_n 1, 1) := by decide +kernel
theorem dX3_readToken_42 : decode cX3_readToken 42 = .ok (.iload_n 2, 1) := by decide +kernel
theorem dX3_readToken_43 : decode cX3_readToken 43 = .ok (.iload_n 3, 1) := by decide +kernel
theorem dX3_readToken_44 : decode cX3_readToken 44 = .ok (.bipush 97, 2) := by decide +kernel
theorem dX3_readToken_46 : decode cX3_readToken 46 = .ok (.bipush 122, 2) := by decide +kernel
theorem dX3_readToken_48 : decode cX3_readToken 48 = .ok (.invokestatic 42, 3) := by decide +kernel
theorem dX3_readToken_51 : decode cX3_readToken 51 = .ok (.invokevirtual 46, 3) := by decide +kernel
theorem dX3_readToken_54 : decode cX3_readToken 54 = .ok (.ireturn, 1) := by decide +kernel
theorem dX3_readToken_55 : decode cX3_readToken 55 = .ok (.iload 4, 2) := by decide +kernel
theorem dX3_readToken_57 : decode cX3_readToken 57 = .ok (.bipush 48, 2) := by decide +kernel
theorem dX3_readToken_59 : decode cX3_readToken 59 = .ok (.if_icmp .lt 27, 3) := by decide +kernel
theorem dX3_readToken_62 : decode cX3_readToken 62 = .ok (.iload 4, 2) := by decide +kernel
theorem dX3_readToken_64 : decode cX3_readToken 64 = .ok (.bipush 57, 2) := by decide +kernel
theorem dX3_readToken_66 : decode cX3_readToken 66 = .ok (.if_icmp .gt 20, 3) := by decide +kernel
theorem dX3_readToken_69 : decode cX3_readToken 69 = .ok (.aload_n 0, 1) := by decide +kernel
theorem dX3_readToken_70 : decode cX3_readToken 70 = .ok (.aload_n 1, 1) := by decide +kernel
theorem dX3_readToken_71 : decode cX3_readToken 71 = .ok (.iload_n 3, 1) := by decide +kernel
theorem dX3_readToken_72 : decode cX3_readToken 72 = .ok (.aload_n 1, 1) := by decide +kernel
theorem dX3_readToken_73 : decode cX3_readToken 73 = .ok (.iload_n 2, 1) := by decide +kernel
theorem dX3_readToken_74 : decode cX3_readToken 74 = .ok (.iload_n 3, 1) := by decide +kernel
theorem dX3_readToken_75 : decode cX3_readToken 75 = .ok (.bipush 48, 2) := by decide +kernel
theorem dX3_readToken_77 : decode cX3_readToken 77 = .ok (.bipush 57, 2) := by decide +kernel
theorem dX3_readToken_79 : decode cX3_readToken 79 = .ok (.invokestatic 42, 3) := by decide +kernel
theorem dX3_readToken_82 : decode cX3_readToken 82 = .ok (.invokevirtual 49, 3) := by decide +kernel
theorem dX3_readToken_85 : decode cX3_readToken 85 = .ok (.ireturn, 1) := by decide +kernel
theorem dX3_readToken_86 : decode cX3_readToken 86 = .ok (.iload 4, 2) := by decide +kernel
theorem dX3_readToken_88 : decode cX3_readToken 88 = .ok (.lookupswitch 121 #[(40, 76), (41, 81), (42, 113), (43, 113), (46, 86), (60, 113), (61, 113), (95, 101)], 76) := by decide +kernel
theorem dX3_readToken_164 : decode cX3_readToken 164 = .ok (.aload_n 0, 1) := by decide +kernel
theorem dX3_readToken_165 : decode cX3_readToken 165 = .ok (.invokevirtual 52, 3) := by decide +kernel
theorem dX3_readToken_168 : decode cX3_readToken 168 = .ok (.ireturn, 1) := by decide +kernel
theorem dX3_readToken_169 : decode cX3_readToken 169 = .ok (.aload_n 0, 1) := by decide +kernel
theorem dX3_readToken_170 : decode cX3_readToken 170 = .ok (.invokevirtual 56, 3) := by decide +kernel
theorem dX3_readToken_173 : decode cX3_readToken 173 = .ok (.ireturn, 1) := by decide +kernel
theorem dX3_readToken_174 : decode cX3_readToken 174 = .ok (.aload_n 0, 1) := by decide +kernel
theorem dX3_readToken_175 : decode cX3_readToken 175 = .ok (.aload_n 1, 1) := by decide +kernel
theorem dX3_readToken_176 : decode cX3_readToken 176 = .ok (.iload_n 2, 1) := by decide +kernel
theorem dX3_readToken_177 : decode cX3_readToken 177 = .ok (.iload_n 3, 1) := by decide +kernel
theorem dX3_readToken_178 : decode cX3_readToken 178 = .ok (.bipush 46, 2) := by decide +kernel
theorem dX3_readToken_180 : decode cX3_readToken 180 = .ok (.bipush 46, 2) := by decide +kernel
theorem dX3_readToken_182 : decode cX3_readToken 182 = .ok (.invokestatic 42, 3) := by decide +kernel
theorem dX3_readToken_185 : decode cX3_readToken 185 = .ok (.invokevirtual 59, 3) := by decide +kernel
theorem dX3_readToken_188 : decode cX3_readToken 188 = .ok (.ireturn, 1) := by decide +kernel
theorem dX3_readToken_189 : decode cX3_readToken 189 = .ok (.aload_n 0, 1) := by decide +kernel
theorem dX3_readToken_190 : decode cX3_readToken 190 = .ok (.getfield 9, 3) := by decide +kernel
theorem dX3_readToken_193 : decode cX3_readToken 193 = .ok (.bipush (-4), 2) := by decide +kernel
theorem dX3_readToken_195 : decode cX3_readToken 195 = .ok (.iconst 0, 1) := by decide +kernel
theorem dX3_readToken_196 : decode cX3_readToken 196 = .ok (.invokevirtual 63, 3) := by decide +kernel
theorem dX3_readToken_199 : decode cX3_readToken 199 = .ok (.iconst 1, 1) := by decide +kernel
theorem dX3_readToken_200 : decode cX3_readToken 200 = .ok (.ireturn, 1) := by decide +kernel
theorem dX3_readToken_201 : decode cX3_readToken 201 = .ok (.aload_n 0, 1) := by decide +kernel
theorem dX3_readToken_202 : decode cX3_readToken 202 = .ok (.aload_n 1, 1) := by decide +kernel
theorem dX3_readToken_203 : decode cX3_readToken 203 = .ok (.iload_n 3, 1) := by decide +kernel
theorem dX3_readToken_204 : decode cX3_readToken 204 = .ok (.iconst 1, 1) := by decide +kernel
theorem dX3_readToken_205 : decode cX3_readToken 205 = .ok (.invokevirtual 46, 3) := by decide +kernel
theorem dX3_readToken_208 : decode cX3_readToken 208 = .ok (.ireturn, 1) := by decide +kernel
theorem dX3_readToken_209 : decode cX3_readToken 209 = .ok (.iconst 0, 1) := by decide +kernel
theorem dX3_readToken_210 : decode cX3_readToken 210 = .ok (.ireturn, 1) := by decide +kernel
set_option maxRecDepth 20000 in
theorem ggX3_readOpen_X5_add : GoodIn wsX3_readOpen wsX5_add := goodIn_r _ [7, 8, 9, 10, 11, 12, 13, 14, 15, 16, 6, 17, 20, 21, 22, 23, 24, 25] (by decide +kernel) (by decide +kernel)
set_option maxRecDepth 20000 in
theorem gX3_readOpen_X5_add : GoodIn wsX3_readOpen (wsV RX3 63 RX5 yX5_add wsX5_add) := goodIn_app (goodIn_of _ (by decide +kernel)) ggX3_readOpen_X5_add
theorem dX3_readOpen_0 : decode cX3_readOpen 0 = .ok (.aload_n 0, 1) := by decide +kernel
theorem dX3_readOpen_1 : decode cX3_readOpen 1 = .ok (.getfield 20, 3) := by decide +kernel
theorem dX3_readOpen_4 : decode cX3_readOpen 4 = .ok (.bipush 8, 2) := by decide +kernel
theorem dX3_readOpen_6 : decode cX3_readOpen 6 = .ok (.if_icmp .lt 5, 3) := by decide +kernel
theorem dX3_readOpen_9 : decode cX3_readOpen 9 = .ok (.iconst 0, 1) := by decide +kernel
theorem dX3_readOpen_10 : decode cX3_readOpen 10 = .ok (.ireturn, 1) := by decide +kernel
theorem dX3_readOpen_11 : decode cX3_readOpen 11 = .ok (.aload_n 0, 1) := by decide +kernel
theorem dX3_readOpen_12 : decode cX3_readOpen 12 = .ok (.dup, 1) := by decide +kernel
theorem dX3_readOpen_13 : decode cX3_readOpen 13 = .ok (.getfield 20, 3) := by decide +kernel
theorem dX3_readOpen_16 : decode cX3_readOpen 16 = .ok (.iconst 1, 1) := by decide +kernel
theorem dX3_readOpen_17 : decode cX3_readOpen 17 = .ok (.iadd, 1) := by decide +kernel
theorem dX3_readOpen_18 : decode cX3_readOpen 18 = .ok (.putfield 20, 3) := by decide +kernel
theorem dX3_readOpen_21 : decode cX3_readOpen 21 = .ok (.aload_n 0, 1) := by decide +kernel
theorem dX3_readOpen_22 : decode cX3_readOpen 22 = .ok (.getfield 9, 3) := by decide +kernel
theorem dX3_readOpen_25 : decode cX3_readOpen 25 = .ok (.iconst (-1), 1) := by decide +kernel
theorem dX3_readOpen_26 : decode cX3_readOpen 26 = .ok (.iconst 0, 1) := by decide +kernel
theorem dX3_readOpen_27 : decode cX3_readOpen 27 = .ok (.invokevirtual 63, 3) := by decide +kernel
theorem dX3_readOpen_30 : decode cX3_readOpen 30 = .ok (.iconst 1, 1) := by decide +kernel
theorem dX3_readOpen_31 : decode cX3_readOpen 31 = .ok (.ireturn, 1) := by decide +kernel
set_option maxRecDepth 20000 in
theorem ggX3_readClose_X5_add : GoodIn wsX3_readClose wsX5_add := goodIn_r _ [7, 8, 9, 10, 11, 12, 13, 14, 15, 16, 6, 17, 20, 21, 22, 23, 24, 25] (by decide +kernel) (by decide +kernel)
set_option maxRecDepth 20000 in
theorem gX3_readClose_X5_add : GoodIn wsX3_readClose (wsV RX3 63 RX5 yX5_add wsX5_add) := goodIn_app (goodIn_of _ (by decide +kernel)) ggX3_readClose_X5_add
theorem dX3_readClose_0 : decode cX3_readClose 0 = .ok (.aload_n 0, 1) := by decide +kernel
theorem dX3_readClose_1 : decode cX3_readClose 1 = .ok (.getfield 20, 3) := by decide +kernel
theorem dX3_readClose_4 : decode cX3_readClose 4 = .ok (.ifCond .gt 5, 3) := by decide +kernel
theorem dX3_readClose_7 : decode cX3_readClose 7 = .ok (.iconst 0, 1) := by decide +kernel
theorem dX3_readClose_8 : decode cX3_readClose 8 = .ok (.ireturn, 1) := by decide +kernel
theorem dX3_readClose_9 : decode cX3_readClose 9 = .ok (.aload_n 0, 1) := by decide +kernel
theorem dX3_readClose_10 : decode cX3_readClose 10 = .ok (.dup, 1) := by decide +kernel
theorem dX3_readClose_11 : decode cX3_readClose 11 = .ok (.getfield 20, 3) := by decide +kernel
theorem dX3_readClose_14 : decode cX3_readClose 14 = .ok (.iconst 1, 1) := by decide +kernel
theorem dX3_readClose_15 : decode cX3_readClose 15 = .ok (.isub, 1) := by decide +kernel
theorem dX3_readClose_16 : decode cX3_readClose 16 = .ok (.putfield 20, 3) := by decide +kernel
theorem dX3_readClose_19 : decode cX3_readClose 19 = .ok (.aload_n 0, 1) := by decide +kernel
theorem dX3_readClose_20 : decode cX3_readClose 20 = .ok (.getfield 9, 3) := by decide +kernel
theorem dX3_readClose_23 : decode cX3_readClose 23 = .ok (.bipush (-2), 2) := by decide +kernel
theorem dX3_readClose_25 : decode cX3_readClose 25 = .ok (.iconst 0, 1) := by decide +kernel
theorem dX3_readClose_26 : decode cX3_readClose 26 = .ok (.invokevirtual 63, 3) := by decide +kernel
theorem dX3_readClose_29 : decode cX3_readClose 29 = .ok (.iconst 1, 1) := by decide +kernel
theorem dX3_readClose_30 : decode cX3_readClose 30 = .ok (.ireturn, 1) := by decide +kernel
set_option maxRecDepth 20000 in
theorem ggX3_readDots_X5_wordAt : GoodIn wsX3_readDots wsX5_wordAt := goodIn_r _ [7, 8, 9, 24, 25, 26, 27, 28, 29] (by decide +kernel) (by decide +kernel)
set_option maxRecDepth 20000 in
theorem gX3_readDots_X5_wordAt : GoodIn wsX3_readDots (wsV RX3 67 RX5 yX5_wordAt wsX5_wordAt) := goodIn_app (goodIn_of _ (by decide +kernel)) ggX3_readDots_X5_wordAt
set_option maxRecDepth 20000 in
theorem ggX3_readDots_X5_add : GoodIn wsX3_readDots wsX5_add := goodIn_r _ [13, 8, 9, 14, 15, 16, 17, 18, 19, 20, 6, 21, 24, 25, 26, 27, 28, 29] (by decide +kernel) (by decide +kernel)
set_option maxRecDepth 20000 in
theorem gX3_readDots_X5_add : GoodIn wsX3_readDots (wsV RX3 63 RX5 yX5_add wsX5_add) := goodIn_app (goodIn_of _ (by decide +kernel)) ggX3_readDots_X5_add
theorem dX3_readDots_0 : decode cX3_readDots 0 = .ok (.aload_n 0, 1) := by decide +kernel
theorem dX3_readDots_1 : decode cX3_readDots 1 = .ok (.getfield 9, 3) := by decide +kernel
theorem dX3_readDots_4 : decode cX3_readDots 4 = .ok (.aload_n 0, 1) := by decide +kernel
theorem dX3_readDots_5 : decode cX3_readDots 5 = .ok (.getfield 9, 3) := by decide +kernel
theorem dX3_readDots_8 : decode cX3_readDots 8 = .ok (.getfield 39, 3) := by decide +kernel
theorem dX3_readDots_11 : decode cX3_readDots 11 = .ok (.iconst 1, 1) := by decide +kernel
theorem dX3_readDots_12 : decode cX3_readDots 12 = .ok (.isub, 1) := by decide +kernel
theorem dX3_readDots_13 : decode cX3_readDots 13 = .ok (.invokevirtual 67, 3) := by decide +kernel
theorem dX3_readDots_16 : decode cX3_readDots 16 = .ok (.istore_n 2, 1) := by decide +kernel
theorem dX3_readDots_17 : decode cX3_readDots 17 = .ok (.iload_n 1, 1) := by decide +kernel
theorem dX3_readDots_18 : decode cX3_readDots 18 = .ok (.iconst 2, 1) := by decide +kernel
theorem dX3_readDots_19 : decode cX3_readDots 19 = .ok (.if_icmp .lt 21, 3) := by decide +kernel
theorem dX3_readDots_22 : decode cX3_readDots 22 = .ok (.aload_n 0, 1) := by decide +kernel
theorem dX3_readDots_23 : decode cX3_readDots 23 = .ok (.getfield 20, 3) := by decide +kernel
theorem dX3_readDots_26 : decode cX3_readDots 26 = .ok (.ifCond .eq 14, 3) := by decide +kernel
theorem dX3_readDots_29 : decode cX3_readDots 29 = .ok (.iload_n 2, 1) := by decide +kernel
theorem dX3_readDots_30 : decode cX3_readDots 30 = .ok (.iconst (-1), 1) := by decide +kernel
theorem dX3_readDots_31 : decode cX3_readDots 31 = .ok (.if_icmp .eq 9, 3) := by decide +kernel
theorem dX3_readDots_34 : decode cX3_readDots 34 = .ok (.iload_n 2, 1) := by decide +kernel
theorem dX3_readDots_35 : decode cX3_readDots 35 = .ok (.bipush (-3), 2) := by decide +kernel
theorem dX3_readDots_37 : decode cX3_readDots 37 = .ok (.if_icmp .ne 5, 3) := by decide +kernel
theorem dX3_readDots_40 : decode cX3_readDots 40 = .ok (.iconst 0, 1) := by decide +kernel
theorem dX3_readDots_41 : decode cX3_readDots 41 = .ok (.ireturn, 1) := by decide +kernel
theorem dX3_readDots_42 : decode cX3_readDots 42 = .ok (.aload_n 0, 1) := by decide +kernel
theorem dX3_readDots_43 : decode cX3_readDots 43 = .ok (.getfield 9, 3) := by decide +kernel
theorem dX3_readDots_46 : decode cX3_readDots 46 = .ok (.bipush (-3), 2) := by decide +kernel
theorem dX3_readDots_48 : decode cX3_readDots 48 = .ok (.iconst 0, 1) := by decide +kernel
theorem dX3_readDots_49 : decode cX3_readDots 49 = .ok (.invokevirtual 63, 3) := by decide +kernel
theorem dX3_readDots_52 : decode cX3_readDots 52 = .ok (.iconst 2, 1) := by decide +kernel
theorem dX3_readDots_53 : decode cX3_readDots 53 = .ok (.ireturn, 1) := by decide +kernel
set_option maxRecDepth 20000 in
theorem ggX5_keep_X5_after : GoodIn wsX5_keep wsX5_after := goodIn_r _ [13, 14, 7, 15, 16, 17, 18, 19, 20] (by decide +kernel) (by decide +kernel)
set_option maxRecDepth 20000 in
theorem gX5_keep_X5_after : GoodIn wsX5_keep (wsV RX5 45 RX5 yX5_after wsX5_after) := goodIn_app (goodIn_of _ (by decide +kernel)) ggX5_keep_X5_after
theorem dX5_keep_0 : decode cX5_keep 0 = .ok (.aload_n 0, 1) := by decide +kernel
theorem dX5_keep_1 : decode cX5_keep 1 = .ok (.iload_n 1, 1) := by decide +kernel
theorem dX5_keep_2 : decode cX5_keep 2 = .ok (.invokevirtual 45, 3) := by decide +kernel
theorem dX5_keep_5 : decode cX5_keep 5 = .ok (.iload_n 1, 1) := by decide +kernel
theorem dX5_keep_6 : decode cX5_keep 6 = .ok (.isub, 1) := by decide +kernel
theorem dX5_keep_7 : decode cX5_keep 7 = .ok (.istore_n 3, 1) := by decide +kernel
theorem dX5_keep_8 : decode cX5_keep 8 = .ok (.iload_n 2, 1) := by decide +kernel
theorem dX5_keep_9 : decode cX5_keep 9 = .ok (.bipush 120, 2) := by decide +kernel
theorem dX5_keep_11 : decode cX5_keep 11 = .ok (.imul, 1) := by decide +kernel
theorem dX5_keep_12 : decode cX5_keep 12 = .ok (.istore 4, 2) := by decide +kernel
theorem dX5_keep_14 : decode cX5_keep 14 = .ok (.iload_n 1, 1) := by decide +kernel
theorem dX5_keep_15 : decode cX5_keep 15 = .ok (.ifCond .lt 27, 3) := by decide +kernel
theorem dX5_keep_18 : decode cX5_keep 18 = .ok (.iload_n 1, 1) := by decide +kernel
theorem dX5_keep_19 : decode cX5_keep 19 = .ok (.iload_n 3, 1) := by decide +kernel
theorem dX5_keep_20 : decode cX5_keep 20 = .ok (.iadd, 1) := by decide +kernel
theorem dX5_keep_21 : decode cX5_keep 21 = .ok (.sipush 3000, 3) := by decide +kernel
theorem dX5_keep_24 : decode cX5_keep 24 = .ok (.if_icmp .gt 18, 3) := by decide +kernel
theorem dX5_keep_27 : decode cX5_keep 27 = .ok (.iload_n 3, 1) := by decide +kernel
theorem dX5_keep_28 : decode cX5_keep 28 = .ok (.bipush 120, 2) := by decide +kernel
theorem dX5_keep_30 : decode cX5_keep 30 = .ok (.if_icmp .gt 12, 3) := by decide +kernel
theorem dX5_keep_33 : decode cX5_keep 33 = .ok (.iload_n 2, 1) := by decide +kernel
theorem dX5_keep_34 : decode cX5_keep 34 = .ok (.ifCond .lt 8, 3) := by decide +kernel
theorem dX5_keep_37 : decode cX5_keep 37 = .ok (.iload_n 2, 1) := by decide +kernel
theorem dX5_keep_38 : decode cX5_keep 38 = .ok (.iconst 4, 1) := by decide +kernel
theorem dX5_keep_39 : decode cX5_keep 39 = .ok (.if_icmp .lt 5, 3) := by decide +kernel
theorem dX5_keep_42 : decode cX5_keep 42 = .ok (.iload_n 1, 1) := by decide +kernel
theorem dX5_keep_43 : decode cX5_keep 43 = .ok (.ireturn, 1) := by decide +kernel
theorem dX5_keep_44 : decode cX5_keep 44 = .ok (.aload_n 0, 1) := by decide +kernel
theorem dX5_keep_45 : decode cX5_keep 45 = .ok (.getfield 9, 3) := by decide +kernel
theorem dX5_keep_48 : decode cX5_keep 48 = .ok (.iload_n 1, 1) := by decide +kernel
theorem dX5_keep_49 : decode cX5_keep 49 = .ok (.aload_n 0, 1) := by decide +kernel
theorem dX5_keep_50 : decode cX5_keep 50 = .ok (.getfield 9, 3) := by decide +kernel
theorem dX5_keep_53 : decode cX5_keep 53 = .ok (.iload 4, 2) := by decide +kernel
theorem dX5_keep_55 : decode cX5_keep 55 = .ok (.iload_n 3, 1) := by decide +kernel
theorem dX5_keep_56 : decode cX5_keep 56 = .ok (.invokestatic 51, 3) := by decide +kernel
theorem dX5_keep_59 : decode cX5_keep 59 = .ok (.aload_n 0, 1) := by decide +kernel
theorem dX5_keep_60 : decode cX5_keep 60 = .ok (.getfield 15, 3) := by decide +kernel
theorem dX5_keep_63 : decode cX5_keep 63 = .ok (.iload_n 1, 1) := by decide +kernel
theorem dX5_keep_64 : decode cX5_keep 64 = .ok (.aload_n 0, 1) := by decide +kernel
theorem dX5_keep_65 : decode cX5_keep 65 = .ok (.getfield 15, 3) := by decide +kernel
theorem dX5_keep_68 : decode cX5_keep 68 = .ok (.iload 4, 2) := by decide +kernel
theorem dX5_keep_70 : decode cX5_keep 70 = .ok (.iload_n 3, 1) := by decide +kernel
theorem dX5_keep_71 : decode cX5_keep 71 = .ok (.invokestatic 51, 3) := by decide +kernel
theorem dX5_keep_74 : decode cX5_keep 74 = .ok (.aload_n 0, 1) := by decide +kernel
theorem dX5_keep_75 : decode cX5_keep 75 = .ok (.getfield 18, 3) := by decide +kernel
theorem dX5_keep_78 : decode cX5_keep 78 = .ok (.iload_n 1, 1) := by decide +kernel
theorem dX5_keep_79 : decode cX5_keep 79 = .ok (.aload_n 0, 1) := by decide +kernel
theorem dX5_keep_80 : decode cX5_keep 80 = .ok (.getfield 18, 3) := by decide +kernel
theorem dX5_keep_83 : decode cX5_keep 83 = .ok (.iload 4, 2) := by decide +kernel
theorem dX5_keep_85 : decode cX5_keep 85 = .ok (.iload_n 3, 1) := by decide +kernel
theorem dX5_keep_86 : decode cX5_keep 86 = .ok (.invokestatic 51, 3) := by decide +kernel
theorem dX5_keep_89 : decode cX5_keep 89 = .ok (.aload_n 0, 1) := by decide +kernel
theorem dX5_keep_90 : decode cX5_keep 90 = .ok (.getfield 21, 3) := by decide +kernel
theorem dX5_keep_93 : decode cX5_keep 93 = .ok (.iload_n 1, 1) := by decide +kernel
theorem dX5_keep_94 : decode cX5_keep 94 = .ok (.aload_n 0, 1) := by decide +kernel
theorem dX5_keep_95 : decode cX5_keep 95 = .ok (.getfield 21, 3) := by decide +kernel
theorem dX5_keep_98 : decode cX5_keep 98 = .ok (.iload 4, 2) := by decide +kernel
theorem dX5_keep_100 : decode cX5_keep 100 = .ok (.iload_n 3, 1) := by decide +kernel
theorem dX5_keep_101 : decode cX5_keep 101 = .ok (.invokestatic 51, 3) := by decide +kernel
theorem dX5_keep_104 : decode cX5_keep 104 = .ok (.iload 4, 2) := by decide +kernel
theorem dX5_keep_106 : decode cX5_keep 106 = .ok (.ireturn, 1) := by decide +kernel
theorem dX7_ownSlot_0 : decode cX7_ownSlot 0 = .ok (.getstatic 24, 3) := by decide +kernel
theorem dX7_ownSlot_3 : decode cX7_ownSlot 3 = .ok (.arraylength, 1) := by decide +kernel
theorem dX7_ownSlot_4 : decode cX7_ownSlot 4 = .ok (.istore_n 2, 1) := by decide +kernel
theorem dX7_ownSlot_5 : decode cX7_ownSlot 5 = .ok (.iconst 0, 1) := by decide +kernel
theorem dX7_ownSlot_6 : decode cX7_ownSlot 6 = .ok (.istore_n 3, 1) := by decide +kernel
theorem dX7_ownSlot_7 : decode cX7_ownSlot 7 = .ok (.iload_n 3, 1) := by decide +kernel
theorem dX7_ownSlot_8 : decode cX7_ownSlot 8 = .ok (.iload_n 2, 1) := by decide +kernel
theorem dX7_ownSlot_9 : decode cX7_ownSlot 9 = .ok (.aload_n 0, 1) := by decide +kernel
theorem dX7_ownSlot_10 : decode cX7_ownSlot 10 = .ok (.getfield 37, 3) := by decide +kernel
theorem dX7_ownSlot_13 : decode cX7_ownSlot 13 = .ok (.iadd, 1) := by decide +kernel
theorem dX7_ownSlot_14 : decode cX7_ownSlot 14 = .ok (.if_icmp .ge 38, 3) := by decide +kernel
theorem dX7_ownSlot_17 : decode cX7_ownSlot 17 = .ok (.iload_n 3, 1) := by decide +kernel
theorem dX7_ownSlot_18 : decode cX7_ownSlot 18 = .ok (.bipush 40, 2) := by decide +kernel
theorem dX7_ownSlot_20 : decode cX7_ownSlot 20 = .ok (.if_icmp .ge 32, 3) := by decide +kernel
theorem dX7_ownSlot_23 : decode cX7_ownSlot 23 = .ok (.aload_n 0, 1) := by decide +kernel
theorem dX7_ownSlot_24 : decode cX7_ownSlot 24 = .ok (.getfield 9, 3) := by decide +kernel
theorem dX7_ownSlot_27 : decode cX7_ownSlot 27 = .ok (.iload_n 3, 1) := by decide +kernel
theorem dX7_ownSlot_28 : decode cX7_ownSlot 28 = .ok (.iaload, 1) := by decide +kernel
theorem dX7_ownSlot_29 : decode cX7_ownSlot 29 = .ok (.iload_n 1, 1) := by decide +kernel
theorem dX7_ownSlot_30 : decode cX7_ownSlot 30 = .ok (.if_icmp .ne 16, 3) := by decide +kernel
theorem dX7_ownSlot_33 : decode cX7_ownSlot 33 = .ok (.iload_n 3, 1) := by decide +kernel
theorem dX7_ownSlot_34 : decode cX7_ownSlot 34 = .ok (.iload_n 2, 1) := by decide +kernel
theorem dX7_ownSlot_35 : decode cX7_ownSlot 35 = .ok (.if_icmp .ge 7, 3) := by decide +kernel
theorem dX7_ownSlot_38 : decode cX7_ownSlot 38 = .ok (.iconst (-1), 1) := by decide +kernel
theorem dX7_ownSlot_39 : decode cX7_ownSlot 39 = .ok (.goto 6, 3) := by decide +kernel
theorem dX7_ownSlot_42 : decode cX7_ownSlot 42 = .ok (.iload_n 3, 1) := by decide +kernel
theorem dX7_ownSlot_43 : decode cX7_ownSlot 43 = .ok (.iload_n 2, 1) := by decide +kernel
theorem dX7_ownSlot_44 : decode cX7_ownSlot 44 = .ok (.isub, 1) := by decide +kernel
theorem dX7_ownSlot_45 : decode cX7_ownSlot 45 = .ok (.ireturn, 1) := by decide +kernel
theorem dX7_ownSlot_46 : decode cX7_ownSlot 46 = .ok (.iinc 3 1, 3) := by decide +kernel
theorem dX7_ownSlot_49 : decode cX7_ownSlot 49 = .ok (.goto (-42), 3) := by decide +kernel
theorem dX7_ownSlot_52 : decode cX7_ownSlot 52 = .ok (.aload_n 0, 1) := by decide +kernel
theorem dX7_ownSlot_53 : decode cX7_ownSlot 53 = .ok (.getfield 37, 3) := by decide +kernel
theorem dX7_ownSlot_56 : decode cX7_ownSlot 56 = .ok (.iconst 4, 1) := by decide +kernel
theorem dX7_ownSlot_57 : decode cX7_ownSlot 57 = .ok (.if_icmp .ge 10, 3) := by decide +kernel
theorem dX7_ownSlot_60 : decode cX7_ownSlot 60 = .ok (.aload_n 0, 1) := by decide +kernel
theorem dX7_ownSlot_61 : decode cX7_ownSlot 61 = .ok (.getfield 37, 3) := by decide +kernel
theorem dX7_ownSlot_64 : decode cX7_ownSlot 64 = .ok (.goto 4, 3) := by decide +kernel
theorem dX7_ownSlot_67 : decode cX7_ownSlot 67 = .ok (.iconst (-1), 1) := by decide +kernel
theorem dX7_ownSlot_68 : decode cX7_ownSlot 68 = .ok (.ireturn, 1) := by decide +kernel
set_option maxRecDepth 100000 in
theorem gpX8_takeTyped_X3_read_0 : GoodIn wsX8_takeTyped wsX3_read_r1 := goodIn_r _ [9, 10, 11, 12, 13, 14, 15, 16, 17, 18, 19, 20, 21, 22, 23, 24, 25, 7, 26, 27, 28, 29, 30, 31] (by decide +kernel) (by decide +kernel)
set_option maxRecDepth 100000 in
theorem gpX8_takeTyped_X3_read_1 : GoodIn wsX8_takeTyped wsX3_read_r2 := goodIn_r _ [32, 33, 34, 35, 36, 37, 38, 39, 40, 41, 42, 43, 44, 45, 46, 47, 48, 49, 50, 51, 52, 53, 54, 55] (by decide +kernel) (by decide +kernel)
set_option maxRecDepth 100000 in
theorem gpX8_takeTyped_X3_read_2 : GoodIn wsX8_takeTyped wsX3_read_r3 := goodIn_r _ [56, 57, 58, 59, 60, 61, 62, 63, 64, 65, 66, 67, 68, 69] (by decide +kernel) (by decide +kernel)
set_option maxRecDepth 100000 in
theorem gpX8_takeTyped_X3_read_3 : GoodIn wsX8_takeTyped wsX30 := goodIn_r _ [78, 79] (by decide +kernel) (by decide +kernel)
set_option maxRecDepth 100000 in
theorem gpX8_takeTyped_X3_read_4 : GoodIn wsX8_takeTyped wsX50 := goodIn_r _ [80, 81, 82, 83, 84, 85] (by decide +kernel) (by decide +kernel)
set_option maxRecDepth 100000 in
theorem gpX8_takeTyped_X3_read_c : GoodIn wsX8_takeTyped [Cond.code yX3_read cX3_read 7 (some .int)] := goodIn_r _ [8] (by decide +kernel) (by decide +kernel)
theorem ggX8_takeTyped_X3_read : GoodIn wsX8_takeTyped wsX3_read := goodIn_cons2 gpX8_takeTyped_X3_read_c (goodIn_app (goodIn_app (goodIn_app gpX8_takeTyped_X3_read_0 (goodIn_app gpX8_takeTyped_X3_read_1 gpX8_takeTyped_X3_read_2)) gpX8_takeTyped_X3_read_3) gpX8_takeTyped_X3_read_4)
set_option maxRecDepth 20000 in
theorem gX8_takeTyped_X3_read : GoodIn wsX8_takeTyped (wsV RX8 124 RX3 yX3_read wsX3_read) := goodIn_app (goodIn_of _ (by decide +kernel)) ggX8_takeTyped_X3_read
theorem dX8_takeTyped_0 : decode cX8_takeTyped 0 = .ok (.aload_n 0, 1) := by decide +kernel
theorem dX8_takeTyped_1 : decode cX8_takeTyped 1 = .ok (.getfield 25, 3) := by decide +kernel
theorem dX8_takeTyped_4 : decode cX8_takeTyped 4 = .ok (.aload_n 0, 1) := by decide +kernel
theorem dX8_takeTyped_5 : decode cX8_takeTyped 5 = .ok (.getfield 9, 3) := by decide +kernel
theorem dX8_takeTyped_8 : decode cX8_takeTyped 8 = .ok (.aload_n 0, 1) := by decide +kernel
theorem dX8_takeTyped_9 : decode cX8_takeTyped 9 = .ok (.getfield 59, 3) := by decide +kernel
theorem dX8_takeTyped_12 : decode cX8_takeTyped 12 = .ok (.invokevirtual 124, 3) := by decide +kernel
theorem dX8_takeTyped_15 : decode cX8_takeTyped 15 = .ok (.istore_n 1, 1) := by decide +kernel
theorem dX8_takeTyped_16 : decode cX8_takeTyped 16 = .ok (.aload_n 0, 1) := by decide +kernel
theorem dX8_takeTyped_17 : decode cX8_takeTyped 17 = .ok (.iconst 0, 1) := by decide +kernel
theorem dX8_takeTyped_18 : decode cX8_takeTyped 18 = .ok (.putfield 59, 3) := by decide +kernel
theorem dX8_takeTyped_21 : decode cX8_takeTyped 21 = .ok (.iload_n 1, 1) := by decide +kernel
theorem dX8_takeTyped_22 : decode cX8_takeTyped 22 = .ok (.ireturn, 1) := by decide +kernel
theorem iw_X8_takeTyped_X8 : ∀ w ∈ wsX80, w ∈ wsX8_takeTyped := by decide +kernel
theorem lk_X8_takeTyped_25 : Cond.fieldLink RX8 25 "MarkedNames" "reader" "LMarkedNames$Reader;" ∈ wsX8_takeTyped := by decide +kernel
theorem lk_X8_takeTyped_9 : Cond.fieldLink RX8 9 "MarkedNames" "typed" "[I" ∈ wsX8_takeTyped := by decide +kernel
theorem lk_X8_takeTyped_59 : Cond.fieldLink RX8 59 "MarkedNames" "typedLength" "I" ∈ wsX8_takeTyped := by decide +kernel
theorem iw_X3_read_X3 : ∀ w ∈ wsX30, w ∈ wsX3_read := by decide +kernel
theorem lk_X3_read_9 : Cond.fieldLink RX3 9 "MarkedNames$Reader" "row" "LMarkedNames$Row;" ∈ wsX3_read := by decide +kernel
theorem lk_X3_read_20 : Cond.fieldLink RX3 20 "MarkedNames$Reader" "depth" "I" ∈ wsX3_read := by decide +kernel
theorem ml_X3_read_24 : Cond.methodLink RX3 24 Lib.Math.min.name ∈ wsX3_read := by decide +kernel
theorem ms_X3_read_min : Cond.static Lib.Math.min.name ∈ wsX3_read := by decide +kernel
theorem mi_X3_read_Math : Cond.initialized "java/lang/Math" ∈ wsX3_read := by decide +kernel
theorem mc_X3_read_min : Cond.code Lib.Math.min.name Lib.Math.min.code 2 (some .int) ∈ wsX3_read := by decide +kernel
theorem mw_X3_read__constant_RX3_30_1000000_Int32_ : Cond.constant RX3 30 (1000000 : Int32) ∈ wsX3_read := by decide +kernel
theorem iw_X3_readOpen_X3 : ∀ w ∈ wsX30, w ∈ wsX3_readOpen := by decide +kernel
theorem lk_X3_readOpen_20 : Cond.fieldLink RX3 20 "MarkedNames$Reader" "depth" "I" ∈ wsX3_readOpen := by decide +kernel
theorem lk_X3_readOpen_9 : Cond.fieldLink RX3 9 "MarkedNames$Reader" "row" "LMarkedNames$Row;" ∈ wsX3_readOpen := by decide +kernel
theorem iw_X3_readClose_X3 : ∀ w ∈ wsX30, w ∈ wsX3_readClose := by decide +kernel
theorem lk_X3_readClose_20 : Cond.fieldLink RX3 20 "MarkedNames$Reader" "depth" "I" ∈ wsX3_readClose := by decide +kernel
theorem lk_X3_readClose_9 : Cond.fieldLink RX3 9 "MarkedNames$Reader" "row" "LMarkedNames$Row;" ∈ wsX3_readClose := by decide +kernel
theorem iw_X3_readDots_X3 : ∀ w ∈ wsX30, w ∈ wsX3_readDots := by decide +kernel
theorem lk_X3_readDots_9 : Cond.fieldLink RX3 9 "MarkedNames$Reader" "row" "LMarkedNames$Row;" ∈ wsX3_readDots := by decide +kernel
theorem iw_X3_readDots_X5 : ∀ w ∈ wsX50, w ∈ wsX3_readDots := by decide +kernel
theorem lk_X3_readDots_20 : Cond.fieldLink RX3 20 "MarkedNames$Reader" "depth" "I" ∈ wsX3_readDots := by decide +kernel
theorem iw_X3_readToken_X3 : ∀ w ∈ wsX30, w ∈ wsX3_readToken := by decide +kernel
theorem lk_X3_readToken_9 : Cond.fieldLink RX3 9 "MarkedNames$Reader" "row" "LMarkedNames$Row;" ∈ wsX3_readToken := by decide +kernel
theorem iw_X7_ownSlot_X7 : ∀ w ∈ wsX70, w ∈ wsX7_ownSlot := by decide +kernel
theorem lk_X7_ownSlot_37 : Cond.fieldLink RX7 37 "MarkedNames$Table" "ownNames" "I" ∈ wsX7_ownSlot := by decide +kernel
theorem lk_X7_ownSlot_9 : Cond.fieldLink RX7 9 "MarkedNames$Table" "name" "[I" ∈ wsX7_ownSlot := by decide +kernel
theorem iw_X5_keep_X5 : ∀ w ∈ wsX50, w ∈ wsX5_keep := by decide +kernel
theorem lk_X5_keep_9 : Cond.fieldLink RX5 9 "MarkedNames$Row" "word" "[I" ∈ wsX5_keep := by decide +kernel
theorem ml_X5_keep_51 : Cond.methodLink RX5 51 arraycopyName ∈ wsX5_keep := by decide +kernel
theorem mn_X5_keep_copy : Cond.native arraycopyName ∈ wsX5_keep := by decide +kernel
theorem ms_X5_keep_copy : Cond.static arraycopyName ∈ wsX5_keep := by decide +kernel
theorem mi_X5_keep_System : Cond.initialized "java/lang/System" ∈ wsX5_keep := by decide +kernel
theorem lk_X5_keep_15 : Cond.fieldLink RX5 15 "MarkedNames$Row" "marks" "[I" ∈ wsX5_keep := by decide +kernel
theorem lk_X5_keep_18 : Cond.fieldLink RX5 18 "MarkedNames$Row" "size" "[I" ∈ wsX5_keep := by decide +kernel
theorem lk_X5_keep_21 : Cond.fieldLink RX5 21 "MarkedNames$Row" "use" "[I" ∈ wsX5_keep := by decide +kernel
section
variable {l : Launch} {p : Program} {e : Env} {s : State} {m : MethodId} {args : Array Value} {below : List Frame} {meth : Method} {c : Code} {A : Nat → Prop} {dC : Nat → ClassId} {dI : Nat → Nat → Nat} {cA : ClassId} {a b : Nat → Nat} {lev : Nat}
set_option maxHeartbeats 4000000 in
set_option maxRecDepth 100000 in
theorem X3_readOpen_met (hlev : 2 ≤ lev) {u : mS} {post : Int32 → mS → Prop} (hw : wp_X3_readOpen  u post) : mKi l yX3_readOpen wsX3_readOpen lev (eA a) (dC, dI) vwCl [(cA, .int)] (wA cA a) [.ref (a 7)] u post := by
  refine mKi_of (cc := cX3_readOpen) (maxL := 1) (by decide) rfl rfl (Nat.le_of_ble_eq_true rfl) rfl ?_
  intro p e s m args below meth c A C hs
  unfold wp_X3_readOpen at hw
  refine mv_aload_n C dX3_readOpen_0 rfl 0 rfl ?_
  refine mv_get (v := .int (u.1 3)) C iw_X3_readOpen_X3 7 rfl rfl 1 (by decide) lk_X3_readOpen_20 rfl rfl dX3_readOpen_1 ?_
  refine mv_topi (fun y1 ey1 => ?_)
  have hw := hw y1 ey1
  refine mv_bipush (v := (8 : Int32)) C dX3_readOpen_4 (by decide) ?_
  refine mv_icmp_lt (tgt := 11) C dX3_readOpen_6 (by decide) (fun h2 => ?_) (fun h2 => ?_)
  · have hw := hw.1 h2
    refine mv_aload_n C dX3_readOpen_11 rfl 0 rfl ?_
    refine mv_dup C dX3_readOpen_12 rfl ?_
    refine mv_get (v := .int (u.1 3)) C iw_X3_readOpen_X3 7 rfl rfl 1 (by decide) lk_X3_readOpen_20 rfl rfl dX3_readOpen_13 ?_
    refine mv_topi (fun y3 ey3 => ?_)
    have hw := hw y3 ey3
    refine mv_iconst (v := (1 : Int32)) C dX3_readOpen_16 (by decide) ?_
    refine mv_iadd C dX3_readOpen_17 ?_
    refine mv_topi (fun y4 ey4 => ?_)
    have hw := hw y4 ey4
    refine mv_put (ty := .int) (ws1 := wA cA a (mSet u 3 y4)) C iw_X3_readOpen_X3 tyX3 tyX3_ok nmX3 7 rfl rfl 1 (by decide) lk_X3_readOpen_20 rfl rfl rfl rfl rfl (Nat.le_of_ble_eq_true rfl) rfl dX3_readOpen_18 ?_
    refine mv_nm (f := wA cA a) (fun u5 eu5 => ?_)
    have hw := hw u5 eu5
    refine mv_aload_n C dX3_readOpen_21 rfl 0 rfl ?_
    refine mv_get (v := .ref (a 2)) C iw_X3_readOpen_X3 7 rfl rfl 0 (by decide) lk_X3_readOpen_9 rfl rfl dX3_readOpen_22 ?_
    refine mv_iconst (v := (-1 : Int32)) C dX3_readOpen_25 (by decide) ?_
    refine mv_iconst (v := (0 : Int32)) C dX3_readOpen_26 (by decide) ?_
    refine mv_callVv (f := wA cA a) (As := [.int (-1 : Int32), .int (0 : Int32)]) (rest := []) C (eA_ok a) hs 2 rfl rfl (X5_add_met (l := l) (lev := lev - 1) (by omega) hw) (cwV 2 C.2.2.2.2.1 gX3_readOpen_X5_add rfl rfl rfl (by decide +kernel) (mRm_le (by omega) (by decide))) rfl rfl (Nat.le_of_ble_eq_true rfl) dX3_readOpen_27 ⟨Nat.le_refl 0, Nat.le_refl 0⟩ (fun u7 hw => ?_)
    refine mv_iconst (v := (1 : Int32)) C dX3_readOpen_30 (by decide) ?_
    exact mv_iret C dX3_readOpen_31 hw
  · have hw := hw.2 h2
    refine mv_iconst (v := (0 : Int32)) C dX3_readOpen_9 (by decide) ?_
    exact mv_iret C dX3_readOpen_10 hw
set_option maxHeartbeats 4000000 in
set_option maxRecDepth 100000 in
theorem X3_readClose_met (hlev : 2 ≤ lev) {u : mS} {post : Int32 → mS → Prop} (hw : wp_X3_readClose  u post) : mKi l yX3_readClose wsX3_readClose lev (eA a) (dC, dI) vwCl [(cA, .int)] (wA cA a) [.ref (a 7)] u post := by
  refine mKi_of (cc := cX3_readClose) (maxL := 1) (by decide) rfl rfl (Nat.le_of_ble_eq_true rfl) rfl ?_
  intro p e s m args below meth c A C hs
  unfold wp_X3_readClose at hw
  refine mv_aload_n C dX3_readClose_0 rfl 0 rfl ?_
  refine mv_get (v := .int (u.1 3)) C iw_X3_readClose_X3 7 rfl rfl 1 (by decide) lk_X3_readClose_20 rfl rfl dX3_readClose_1 ?_
  refine mv_topi (fun y1 ey1 => ?_)
  have hw := hw y1 ey1
  refine mv_if_gt (tgt := 9) C dX3_readClose_4 (by decide) (fun h2 => ?_) (fun h2 => ?_)
  · have hw := hw.1 h2
    refine mv_aload_n C dX3_readClose_9 rfl 0 rfl ?_
    refine mv_dup C dX3_readClose_10 rfl ?_
    refine mv_get (v := .int (u.1 3)) C iw_X3_readClose_X3 7 rfl rfl 1 (by decide) lk_X3_readClose_20 rfl rfl dX3_readClose_11 ?_
    refine mv_topi (fun y3 ey3 => ?_)
    have hw := hw y3 ey3
    refine mv_iconst (v := (1 : Int32)) C dX3_readClose_14 (by decide) ?_
    refine mv_isub C dX3_readClose_15 ?_
    refine mv_topi (fun y4 ey4 => ?_)
    have hw := hw y4 ey4
    refine mv_put (ty := .int) (ws1 := wA cA a (mSet u 3 y4)) C iw_X3_readClose_X3 tyX3 tyX3_ok nmX3 7 rfl rfl 1 (by decide) lk_X3_readClose_20 rfl rfl rfl rfl rfl (Nat.le_of_ble_eq_true rfl) rfl dX3_readClose_16 ?_
    refine mv_nm (f := wA cA a) (fun u5 eu5 => ?_)
    have hw := hw u5 eu5
    refine mv_aload_n C dX3_readClose_19 rfl 0 rfl ?_
    refine mv_get (v := .ref (a 2)) C iw_X3_readClose_X3 7 rfl rfl 0 (by decide) lk_X3_readClose_9 rfl rfl dX3_readClose_20 ?_
    refine mv_bipush (v := (-2 : Int32)) C dX3_readClose_23 (by decide) ?_
    refine mv_iconst (v := (0 : Int32)) C dX3_readClose_25 (by decide) ?_
    refine mv_callVv (f := wA cA a) (As := [.int (-2 : Int32), .int (0 : Int32)]) (rest := []) C (eA_ok a) hs 2 rfl rfl (X5_add_met (l := l) (lev := lev - 1) (by omega) hw) (cwV 2 C.2.2.2.2.1 gX3_readClose_X5_add rfl rfl rfl (by decide +kernel) (mRm_le (by omega) (by decide))) rfl rfl (Nat.le_of_ble_eq_true rfl) dX3_readClose_26 ⟨Nat.le_refl 0, Nat.le_refl 0⟩ (fun u7 hw => ?_)
    refine mv_iconst (v := (1 : Int32)) C dX3_readClose_29 (by decide) ?_
    exact mv_iret C dX3_readClose_30 hw
  · have hw := hw.2 h2
    refine mv_iconst (v := (0 : Int32)) C dX3_readClose_7 (by decide) ?_
    exact mv_iret C dX3_readClose_8 hw
set_option maxHeartbeats 4000000 in
set_option maxRecDepth 100000 in
theorem X3_readDots_met (hlev : 2 ≤ lev) {x1 : Int32} {u : mS} {post : Int32 → mS → Prop} (hw : wp_X3_readDots x1 u post) : mKi l yX3_readDots wsX3_readDots lev (eA a) (dC, dI) vwCl [(cA, .int)] (wA cA a) [.ref (a 7), .int x1] u post := by
  refine mKi_of (cc := cX3_readDots) (maxL := 3) (by decide) rfl rfl (Nat.le_of_ble_eq_true rfl) rfl ?_
  intro p e s m args below meth c A C hs
  unfold wp_X3_readDots at hw
  refine mv_aload_n C dX3_readDots_0 rfl 0 rfl ?_
  refine mv_get (v := .ref (a 2)) C iw_X3_readDots_X3 7 rfl rfl 0 (by decide) lk_X3_readDots_9 rfl rfl dX3_readDots_1 ?_
  refine mv_aload_n C dX3_readDots_4 rfl 0 rfl ?_
  refine mv_get (v := .ref (a 2)) C iw_X3_readDots_X3 7 rfl rfl 0 (by decide) lk_X3_readDots_9 rfl rfl dX3_readDots_5 ?_
  refine mv_getN (v := .int (u.1 1)) C iw_X3_readDots_X5 2 rfl rfl 4 (by decide) (hs.1 _ nw_0) rfl rfl dX3_readDots_8 ?_
  refine mv_topi (fun y1 ey1 => ?_)
  have hw := hw y1 ey1
  refine mv_iconst (v := (1 : Int32)) C dX3_readDots_11 (by decide) ?_
  refine mv_isub C dX3_readDots_12 ?_
  refine mv_topi (fun y2 ey2 => ?_)
  have hw := hw y2 ey2
  refine mv_callVi (f := wA cA a) (As := [.int y2]) (rest := []) C (eA_ok a) hs 2 rfl rfl (X5_wordAt_met (l := l) (lev := lev - 1) (by omega) hw) (cwV 1 C.2.2.2.2.1 gX3_readDots_X5_wordAt rfl rfl rfl (by decide +kernel) (mRm_le (by omega) (by decide))) rfl rfl (Nat.le_of_ble_eq_true rfl) dX3_readDots_13 ⟨Nat.le_refl 0, Nat.le_refl 0⟩ (fun r3 u4 hw => ?_)
  refine mv_istore_n (lv1 := [(2, .int r3), (0, .ref (a 7)), (1, .int x1)]) C dX3_readDots_16 rfl (by decide) rfl ?_
  refine mv_iload_n C dX3_readDots_17 rfl 2 rfl ?_
  refine mv_iconst (v := (2 : Int32)) C dX3_readDots_18 (by decide) ?_
  refine mv_icmp_lt (tgt := 40) C dX3_readDots_19 (by decide) (fun h5 => ?_) (fun h5 => ?_)
  · have hw := hw.1 h5
    refine mv_iconst (v := (0 : Int32)) C dX3_readDots_40 (by decide) ?_
    exact mv_iret C dX3_readDots_41 hw
  · have hw := hw.2 h5
    refine mv_aload_n C dX3_readDots_22 rfl 1 rfl ?_
    refine mv_get (v := .int (u4.1 3)) C iw_X3_readDots_X3 7 rfl rfl 1 (by decide) lk_X3_readDots_20 rfl rfl dX3_readDots_23 ?_
    refine mv_topi (fun y6 ey6 => ?_)
    have hw := hw y6 ey6
    refine mv_if_eq (tgt := 40) C dX3_readDots_26 (by decide) (fun h7 => ?_) (fun h7 => ?_)
    · have hw := hw.1 h7
      refine mv_iconst (v := (0 : Int32)) C dX3_readDots_40 (by decide) ?_
      exact mv_iret C dX3_readDots_41 hw
    · have hw := hw.2 h7
      refine mv_iload_n C dX3_readDots_29 rfl 0 rfl ?_
      refine mv_iconst (v := (-1 : Int32)) C dX3_readDots_30 (by decide) ?_
      refine mv_icmp_eq (tgt := 40) C dX3_readDots_31 (by decide) (fun h8 => ?_) (fun h8 => ?_)
      · have hw := hw.1 h8
        refine mv_iconst (v := (0 : Int32)) C dX3_readDots_40 (by decide) ?_
        exact mv_iret C dX3_readDots_41 hw
      · have hw := hw.2 h8
        refine mv_iload_n C dX3_readDots_34 rfl 0 rfl ?_
        refine mv_bipush (v := (-3 : Int32)) C dX3_readDots_35 (by decide) ?_
        refine mv_icmp_ne (tgt := 42) C dX3_readDots_37 (by decide) (fun h9 => ?_) (fun h9 => ?_)
        · have hw := hw.1 h9
          refine mv_aload_n C dX3_readDots_42 rfl 1 rfl ?_
          refine mv_get (v := .ref (a 2)) C iw_X3_readDots_X3 7 rfl rfl 0 (by decide) lk_X3_readDots_9 rfl rfl dX3_readDots_43 ?_
          refine mv_bipush (v := (-3 : Int32)) C dX3_readDots_46 (by decide) ?_
          refine mv_iconst (v := (0 : Int32)) C dX3_readDots_48 (by decide) ?_
          refine mv_callVv (f := wA cA a) (As := [.int (-3 : Int32), .int (0 : Int32)]) (rest := []) C (eA_ok a) hs 2 rfl rfl (X5_add_met (l := l) (lev := lev - 1) (by omega) hw) (cwV 2 C.2.2.2.2.1 gX3_readDots_X5_add rfl rfl rfl (by decide +kernel) (mRm_le (by omega) (by decide))) rfl rfl (Nat.le_of_ble_eq_true rfl) dX3_readDots_49 ⟨Nat.le_refl 0, Nat.le_refl 0⟩ (fun u11 hw => ?_)
          refine mv_iconst (v := (2 : Int32)) C dX3_readDots_52 (by decide) ?_
          exact mv_iret C dX3_readDots_53 hw
        · have hw := hw.2 h9
          refine mv_iconst (v := (0 : Int32)) C dX3_readDots_40 (by decide) ?_
          exact mv_iret C dX3_readDots_41 hw
set_option maxHeartbeats 4000000 in
set_option maxRecDepth 100000 in
theorem wj_X3_readToken_1_86_ok (C : mC p s m args meth c cX3_readToken 5 wsX3_readToken RX3 (some .int) (dC, dI) vwCl [(cA, .int)] A) (hs : eA a A s) (hlev : 3 ≤ lev) {post : Int32 → mS → Prop} {x2 x3 x4 : Int32} {u : mS} (hw : wj_X3_readToken_1_86 post x2 x3 x4 u) : mV p l e (mRm lev) s m args below meth c 5 (dC, dI) vwCl A 0 0 (mQi below args s (dC, dI) vwCl [(cA, .int)] (wA cA a) A post) (wA cA a u) 86 [(0, .ref (a 7)), (1, .ref (a 1)), (2, .int x2), (3, .int x3), (4, .int x4)] [] := by
  unfold wj_X3_readToken_1_86 at hw
  refine mv_iload C dX3_readToken_86 4 rfl ?_
  by_cases hc88_0 : x4 = (40 : Int32)
  · have hw := hw.1 hc88_0
    refine mv_lookup (tgt := 164) C dX3_readToken_88 (by decide) (by rw [hc88_0]) (by decide) ?_
    refine mv_aload_n C dX3_readToken_164 rfl 0 rfl ?_
    refine mv_callVi (f := wA cA a) (As := []) (rest := []) C (eA_ok a) hs 7 rfl rfl (X3_readOpen_met (l := l) (lev := lev - 1) (by omega) hw) (cwV 0 C.2.2.2.2.1 gX3_readToken_X3_readOpen rfl rfl rfl (by decide +kernel) (mRm_le (by omega) (by decide))) rfl rfl (Nat.le_of_ble_eq_true rfl) dX3_readToken_165 ⟨Nat.le_refl 0, Nat.le_refl 0⟩ (fun r19 u20 hw => ?_)
    exact mv_iret C dX3_readToken_168 hw
  by_cases hc88_1 : x4 = (41 : Int32)
  · have hw := hw.2.1 hc88_1
    refine mv_lookup (tgt := 169) C dX3_readToken_88 (by decide) (by rw [hc88_1]) (by decide) ?_
    refine mv_aload_n C dX3_readToken_169 rfl 0 rfl ?_
    refine mv_callVi (f := wA cA a) (As := []) (rest := []) C (eA_ok a) hs 7 rfl rfl (X3_readClose_met (l := l) (lev := lev - 1) (by omega) hw) (cwV 0 C.2.2.2.2.1 gX3_readToken_X3_readClose rfl rfl rfl (by decide +kernel) (mRm_le (by omega) (by decide))) rfl rfl (Nat.le_of_ble_eq_true rfl) dX3_readToken_170 ⟨Nat.le_refl 0, Nat.le_refl 0⟩ (fun r21 u22 hw => ?_)
    exact mv_iret C dX3_readToken_173 hw
  by_cases hc88_2 : x4 = (42 : Int32)
  · have hw := hw.2.2.1 hc88_2
    refine mv_lookup (tgt := 201) C dX3_readToken_88 (by decide) (by rw [hc88_2]) (by decide) ?_
    refine mv_aload_n C dX3_readToken_201 rfl 0 rfl ?_
    refine mv_aload_n C dX3_readToken_202 rfl 1 rfl ?_
    refine mv_iload_n C dX3_readToken_203 rfl 3 rfl ?_
    refine mv_iconst (v := (1 : Int32)) C dX3_readToken_204 (by decide) ?_
    refine mv_callVi (f := wA cA a) (As := [.ref (a 1), .int x3, .int (1 : Int32)]) (rest := []) C (eA_ok a) hs 7 rfl rfl (X3_readName_1_met (l := l) (lev := lev - 1) (by omega) hw) (cwV 3 C.2.2.2.2.1 gX3_readToken_X3_readName rfl rfl rfl (by decide +kernel) (mRm_le (by omega) (by decide))) rfl rfl (Nat.le_of_ble_eq_true rfl) dX3_readToken_205 ⟨Nat.le_refl 0, Nat.le_refl 0⟩ (fun r23 u24 hw => ?_)
    exact mv_iret C dX3_readToken_208 hw
  by_cases hc88_3 : x4 = (43 : Int32)
  · have hw := hw.2.2.2.1 hc88_3
    refine mv_lookup (tgt := 201) C dX3_readToken_88 (by decide) (by rw [hc88_3]) (by decide) ?_
    refine mv_aload_n C dX3_readToken_201 rfl 0 rfl ?_
    refine mv_aload_n C dX3_readToken_202 rfl 1 rfl ?_
    refine mv_iload_n C dX3_readToken_203 rfl 3 rfl ?_
    refine mv_iconst (v := (1 : Int32)) C dX3_readToken_204 (by decide) ?_
    refine mv_callVi (f := wA cA a) (As := [.ref (a 1), .int x3, .int (1 : Int32)]) (rest := []) C (eA_ok a) hs 7 rfl rfl (X3_readName_1_met (l := l) (lev := lev - 1) (by omega) hw) (cwV 3 C.2.2.2.2.1 gX3_readToken_X3_readName rfl rfl rfl (by decide +kernel) (mRm_le (by omega) (by decide))) rfl rfl (Nat.le_of_ble_eq_true rfl) dX3_readToken_205 ⟨Nat.le_refl 0, Nat.le_refl 0⟩ (fun r25 u26 hw => ?_)
    exact mv_iret C dX3_readToken_208 hw
  by_cases hc88_4 : x4 = (46 : Int32)
  · have hw := hw.2.2.2.2.1 hc88_4
    refine mv_lookup (tgt := 174) C dX3_readToken_88 (by decide) (by rw [hc88_4]) (by decide) ?_
    refine mv_aload_n C dX3_readToken_174 rfl 0 rfl ?_
    refine mv_aload_n C dX3_readToken_175 rfl 1 rfl ?_
    refine mv_iload_n C dX3_readToken_176 rfl 2 rfl ?_
    refine mv_iload_n C dX3_readToken_177 rfl 3 rfl ?_
    refine mv_bipush (v := (46 : Int32)) C dX3_readToken_178 (by decide) ?_
    refine mv_bipush (v := (46 : Int32)) C dX3_readToken_180 (by decide) ?_
    refine mv_callSi (f := wA cA a) (As := [.ref (a 1), .int x2, .int x3, .int (46 : Int32), .int (46 : Int32)]) (rest := [.ref (a 7)]) C (eA_ok a) hs (X3_runLength_1_met (l := l) (lev := lev - 1) (by omega) hw) (va_cwS 5 C.2.2.2.2.1 gX3_readToken_X3_runLength rfl rfl rfl (by decide +kernel) (mRm_le (by omega) (by decide))) rfl rfl (Nat.le_of_ble_eq_true rfl) dX3_readToken_182 ⟨Nat.le_refl 0, Nat.le_refl 0⟩ (fun r27 u28 hw => ?_)
    refine mv_callVi (f := wA cA a) (As := [.int r27]) (rest := []) C (eA_ok a) hs 7 rfl rfl (X3_readDots_met (l := l) (lev := lev - 1) (by omega) hw) (cwV 1 C.2.2.2.2.1 gX3_readToken_X3_readDots rfl rfl rfl (by decide +kernel) (mRm_le (by omega) (by decide))) rfl rfl (Nat.le_of_ble_eq_true rfl) dX3_readToken_185 ⟨Nat.le_refl 0, Nat.le_refl 0⟩ (fun r29 u30 hw => ?_)
    exact mv_iret C dX3_readToken_188 hw
  by_cases hc88_5 : x4 = (60 : Int32)
  · have hw := hw.2.2.2.2.2.1 hc88_5
    refine mv_lookup (tgt := 201) C dX3_readToken_88 (by decide) (by rw [hc88_5]) (by decide) ?_
    refine mv_aload_n C dX3_readToken_201 rfl 0 rfl ?_
    refine mv_aload_n C dX3_readToken_202 rfl 1 rfl ?_
    refine mv_iload_n C dX3_readToken_203 rfl 3 rfl ?_
    refine mv_iconst (v := (1 : Int32)) C dX3_readToken_204 (by decide) ?_
    refine mv_callVi (f := wA cA a) (As := [.ref (a 1), .int x3, .int (1 : Int32)]) (rest := []) C (eA_ok a) hs 7 rfl rfl (X3_readName_1_met (l := l) (lev := lev - 1) (by omega) hw) (cwV 3 C.2.2.2.2.1 gX3_readToken_X3_readName rfl rfl rfl (by decide +kernel) (mRm_le (by omega) (by decide))) rfl rfl (Nat.le_of_ble_eq_true rfl) dX3_readToken_205 ⟨Nat.le_refl 0, Nat.le_refl 0⟩ (fun r31 u32 hw => ?_)
    exact mv_iret C dX3_readToken_208 hw
  by_cases hc88_6 : x4 = (61 : Int32)
  · have hw := hw.2.2.2.2.2.2.1 hc88_6
    refine mv_lookup (tgt := 201) C dX3_readToken_88 (by decide) (by rw [hc88_6]) (by decide) ?_
    refine mv_aload_n C dX3_readToken_201 rfl 0 rfl ?_
    refine mv_aload_n C dX3_readToken_202 rfl 1 rfl ?_
    refine mv_iload_n C dX3_readToken_203 rfl 3 rfl ?_
    refine mv_iconst (v := (1 : Int32)) C dX3_readToken_204 (by decide) ?_
    refine mv_callVi (f := wA cA a) (As := [.ref (a 1), .int x3, .int (1 : Int32)]) (rest := []) C (eA_ok a) hs 7 rfl rfl (X3_readName_1_met (l := l) (lev := lev - 1) (by omega) hw) (cwV 3 C.2.2.2.2.1 gX3_readToken_X3_readName rfl rfl rfl (by decide +kernel) (mRm_le (by omega) (by decide))) rfl rfl (Nat.le_of_ble_eq_true rfl) dX3_readToken_205 ⟨Nat.le_refl 0, Nat.le_refl 0⟩ (fun r33 u34 hw => ?_)
    exact mv_iret C dX3_readToken_208 hw
  by_cases hc88_7 : x4 = (95 : Int32)
  · have hw := hw.2.2.2.2.2.2.2.1 hc88_7
    refine mv_lookup (tgt := 189) C dX3_readToken_88 (by decide) (by rw [hc88_7]) (by decide) ?_
    refine mv_aload_n C dX3_readToken_189 rfl 0 rfl ?_
    refine mv_get (v := .ref (a 2)) C iw_X3_readToken_X3 7 rfl rfl 0 (by decide) lk_X3_readToken_9 rfl rfl dX3_readToken_190 ?_
    refine mv_bipush (v := (-4 : Int32)) C dX3_readToken_193 (by decide) ?_
    refine mv_iconst (v := (0 : Int32)) C dX3_readToken_195 (by decide) ?_
    refine mv_callVv (f := wA cA a) (As := [.int (-4 : Int32), .int (0 : Int32)]) (rest := []) C (eA_ok a) hs 2 rfl rfl (X5_add_met (l := l) (lev := lev - 1) (by omega) hw) (cwV 2 C.2.2.2.2.1 gX3_readToken_X5_add rfl rfl rfl (by decide +kernel) (mRm_le (by omega) (by decide))) rfl rfl (Nat.le_of_ble_eq_true rfl) dX3_readToken_196 ⟨Nat.le_refl 0, Nat.le_refl 0⟩ (fun u36 hw => ?_)
    refine mv_iconst (v := (1 : Int32)) C dX3_readToken_199 (by decide) ?_
    exact mv_iret C dX3_readToken_200 hw
  have hw := hw.2.2.2.2.2.2.2.2 hc88_0 hc88_1 hc88_2 hc88_3 hc88_4 hc88_5 hc88_6 hc88_7
  refine mv_lookup (tgt := 209) (off := 121) C dX3_readToken_88 (by decide) (by have q0 : ¬ (40 : Int) = x4.toInt := fun q => mne hc88_0 q.symm; have q1 : ¬ (41 : Int) = x4.toInt := fun q => mne hc88_1 q.symm; have q2 : ¬ (42 : Int) = x4.toInt := fun q => mne hc88_2 q.symm; have q3 : ¬ (43 : Int) = x4.toInt := fun q => mne hc88_3 q.symm; have q4 : ¬ (46 : Int) = x4.toInt := fun q => mne hc88_4 q.symm; have q5 : ¬ (60 : Int) = x4.toInt := fun q => mne hc88_5 q.symm; have q6 : ¬ (61 : Int) = x4.toInt := fun q => mne hc88_6 q.symm; have q7 : ¬ (95 : Int) = x4.toInt := fun q => mne hc88_7 q.symm; simp [Op.lookupswitch.offset, q0, q1, q2, q3, q4, q5, q6, q7]) (by decide) ?_
  refine mv_iconst (v := (0 : Int32)) C dX3_readToken_209 (by decide) ?_
  exact mv_iret C dX3_readToken_210 hw
set_option maxHeartbeats 4000000 in
set_option maxRecDepth 100000 in
theorem wj_X3_readToken_1_55_ok (C : mC p s m args meth c cX3_readToken 5 wsX3_readToken RX3 (some .int) (dC, dI) vwCl [(cA, .int)] A) (hs : eA a A s) (hlev : 3 ≤ lev) {post : Int32 → mS → Prop} {x2 x3 x4 : Int32} {u : mS} (hw : wj_X3_readToken_1_55 post x2 x3 x4 u) : mV p l e (mRm lev) s m args below meth c 5 (dC, dI) vwCl A 0 0 (mQi below args s (dC, dI) vwCl [(cA, .int)] (wA cA a) A post) (wA cA a u) 55 [(0, .ref (a 7)), (1, .ref (a 1)), (2, .int x2), (3, .int x3), (4, .int x4)] [] := by
  unfold wj_X3_readToken_1_55 at hw
  refine mv_iload C dX3_readToken_55 4 rfl ?_
  refine mv_bipush (v := (48 : Int32)) C dX3_readToken_57 (by decide) ?_
  refine mv_icmp_lt (tgt := 86) C dX3_readToken_59 (by decide) (fun h13 => ?_) (fun h13 => ?_)
  · have hw := hw.1 h13
    exact wj_X3_readToken_1_86_ok C hs hlev hw
  · have hw := hw.2 h13
    refine mv_iload C dX3_readToken_62 4 rfl ?_
    refine mv_bipush (v := (57 : Int32)) C dX3_readToken_64 (by decide) ?_
    refine mv_icmp_gt (tgt := 86) C dX3_readToken_66 (by decide) (fun h14 => ?_) (fun h14 => ?_)
    · have hw := hw.1 h14
      exact wj_X3_readToken_1_86_ok C hs hlev hw
    · have hw := hw.2 h14
      refine mv_aload_n C dX3_readToken_69 rfl 0 rfl ?_
      refine mv_aload_n C dX3_readToken_70 rfl 1 rfl ?_
      refine mv_iload_n C dX3_readToken_71 rfl 3 rfl ?_
      refine mv_aload_n C dX3_readToken_72 rfl 1 rfl ?_
      refine mv_iload_n C dX3_readToken_73 rfl 2 rfl ?_
      refine mv_iload_n C dX3_readToken_74 rfl 3 rfl ?_
      refine mv_bipush (v := (48 : Int32)) C dX3_readToken_75 (by decide) ?_
      refine mv_bipush (v := (57 : Int32)) C dX3_readToken_77 (by decide) ?_
      refine mv_callSi (f := wA cA a) (As := [.ref (a 1), .int x2, .int x3, .int (48 : Int32), .int (57 : Int32)]) (rest := [.int x3, .ref (a 1), .ref (a 7)]) C (eA_ok a) hs (X3_runLength_1_met (l := l) (lev := lev - 1) (by omega) hw) (va_cwS 5 C.2.2.2.2.1 gX3_readToken_X3_runLength rfl rfl rfl (by decide +kernel) (mRm_le (by omega) (by decide))) rfl rfl (Nat.le_of_ble_eq_true rfl) dX3_readToken_79 ⟨Nat.le_refl 0, Nat.le_refl 0⟩ (fun r15 u16 hw => ?_)
      refine mv_callVi (f := wA cA a) (As := [.ref (a 1), .int x3, .int r15]) (rest := []) C (eA_ok a) hs 7 rfl rfl (X3_readNumber_1_met (l := l) (lev := lev - 1) (by omega) hw) (cwV 3 C.2.2.2.2.1 gX3_readToken_X3_readNumber rfl rfl rfl (by decide +kernel) (mRm_le (by omega) (by decide))) rfl rfl (Nat.le_of_ble_eq_true rfl) dX3_readToken_82 ⟨Nat.le_refl 0, Nat.le_refl 0⟩ (fun r17 u18 hw => ?_)
      exact mv_iret C dX3_readToken_85 hw
set_option maxHeartbeats 4000000 in
set_option maxRecDepth 100000 in
theorem X3_readToken_1_met (hlev : 3 ≤ lev) {x2 x3 : Int32} {u : mS} {post : Int32 → mS → Prop} (hw : wp_X3_readToken_1 x2 x3 u post) : mKi l yX3_readToken wsX3_readToken lev (eA a) (dC, dI) vwCl [(cA, .int)] (wA cA a) [.ref (a 7), .ref (a 1), .int x2, .int x3] u post := by
  refine mKi_of (cc := cX3_readToken) (maxL := 5) (by decide) rfl rfl (Nat.le_of_ble_eq_true rfl) rfl ?_
  intro p e s m args below meth c A C hs
  unfold wp_X3_readToken_1 at hw
  refine mv_aload_n C dX3_readToken_0 rfl 0 rfl ?_
  refine mv_callVi (f := wA cA a) (As := []) (rest := []) C (eA_ok a) hs 7 rfl rfl (X3_isWhole_met (l := l) (lev := lev - 1) (by omega) hw) (cwV 0 C.2.2.2.2.1 gX3_readToken_X3_isWhole rfl rfl rfl (by decide +kernel) (mRm_le (by omega) (by decide))) rfl rfl (Nat.le_of_ble_eq_true rfl) dX3_readToken_1 ⟨Nat.le_refl 0, Nat.le_refl 0⟩ (fun r1 u2 hw => ?_)
  obtain ⟨gr1, hw⟩ := hw
  refine mv_if_ne (tgt := 17) C dX3_readToken_4 (by decide) (fun h3 => ?_) (fun h3 => ?_)
  · have hw := hw.1 h3
    refine mv_iconst (v := (0 : Int32)) C dX3_readToken_17 (by decide) ?_
    exact mv_iret C dX3_readToken_18 hw
  · have hw := hw.2 h3
    refine mv_iload_n C dX3_readToken_7 rfl 3 rfl ?_
    refine mv_if_lt (tgt := 17) C dX3_readToken_8 (by decide) (fun h4 => ?_) (fun h4 => ?_)
    · have hw := hw.1 h4
      refine mv_iconst (v := (0 : Int32)) C dX3_readToken_17 (by decide) ?_
      exact mv_iret C dX3_readToken_18 hw
    · have hw := hw.2 h4
      refine mv_iload_n C dX3_readToken_11 rfl 3 rfl ?_
      refine mv_aload_n C dX3_readToken_12 rfl 1 rfl ?_
      refine mv_alen (v := (120 : Int32)) C 1 0 rfl rfl (by decide) dX3_readToken_13 ?_
      refine mv_icmp_lt (tgt := 19) C dX3_readToken_14 (by decide) (fun h5 => ?_) (fun h5 => ?_)
      · have hw := hw.1 h5
        refine mv_aload_n C dX3_readToken_19 rfl 1 rfl ?_
        refine mv_iload_n C dX3_readToken_20 rfl 3 rfl ?_
        refine mv_iald (f := u2.2 0) C 1 0 rfl rfl hw.1 dX3_readToken_21 ?_
        refine mv_topi (fun y6 ey6 => ?_)
        have hw := hw.2 y6 ey6
        refine mv_istore (lv1 := [(4, .int y6), (0, .ref (a 7)), (1, .ref (a 1)), (2, .int x2), (3, .int x3)]) C dX3_readToken_22 (by decide) rfl ?_
        refine mv_iload C dX3_readToken_24 0 rfl ?_
        refine mv_bipush (v := (97 : Int32)) C dX3_readToken_26 (by decide) ?_
        refine mv_icmp_lt (tgt := 55) C dX3_readToken_28 (by decide) (fun h7 => ?_) (fun h7 => ?_)
        · have hw := hw.1 h7
          refine mv_sub [1, 2, 3, 4, 0] rfl ?_
          exact wj_X3_readToken_1_55_ok C hs hlev hw
        · have hw := hw.2 h7
          refine mv_iload C dX3_readToken_31 0 rfl ?_
          refine mv_bipush (v := (122 : Int32)) C dX3_readToken_33 (by decide) ?_
          refine mv_icmp_gt (tgt := 55) C dX3_readToken_35 (by decide) (fun h8 => ?_) (fun h8 => ?_)
          · have hw := hw.1 h8
            refine mv_sub [1, 2, 3, 4, 0] rfl ?_
            exact wj_X3_readToken_1_55_ok C hs hlev hw
          · have hw := hw.2 h8
            refine mv_aload_n C dX3_readToken_38 rfl 1 rfl ?_
            refine mv_aload_n C dX3_readToken_39 rfl 2 rfl ?_
            refine mv_iload_n C dX3_readToken_40 rfl 4 rfl ?_
            refine mv_aload_n C dX3_readToken_41 rfl 2 rfl ?_
            refine mv_iload_n C dX3_readToken_42 rfl 3 rfl ?_
            refine mv_iload_n C dX3_readToken_43 rfl 4 rfl ?_
            refine mv_bipush (v := (97 : Int32)) C dX3_readToken_44 (by decide) ?_
            refine mv_bipush (v := (122 : Int32)) C dX3_readToken_46 (by decide) ?_
            refine mv_callSi (f := wA cA a) (As := [.ref (a 1), .int x2, .int x3, .int (97 : Int32), .int (122 : Int32)]) (rest := [.int x3, .ref (a 1), .ref (a 7)]) C (eA_ok a) hs (X3_runLength_1_met (l := l) (lev := lev - 1) (by omega) hw) (va_cwS 5 C.2.2.2.2.1 gX3_readToken_X3_runLength rfl rfl rfl (by decide +kernel) (mRm_le (by omega) (by decide))) rfl rfl (Nat.le_of_ble_eq_true rfl) dX3_readToken_48 ⟨Nat.le_refl 0, Nat.le_refl 0⟩ (fun r9 u10 hw => ?_)
            refine mv_callVi (f := wA cA a) (As := [.ref (a 1), .int x3, .int r9]) (rest := []) C (eA_ok a) hs 7 rfl rfl (X3_readName_1_met (l := l) (lev := lev - 1) (by omega) hw) (cwV 3 C.2.2.2.2.1 gX3_readToken_X3_readName rfl rfl rfl (by decide +kernel) (mRm_le (by omega) (by decide))) rfl rfl (Nat.le_of_ble_eq_true rfl) dX3_readToken_51 ⟨Nat.le_refl 0, Nat.le_refl 0⟩ (fun r11 u12 hw => ?_)
            exact mv_iret C dX3_readToken_54 hw
      · have hw := hw.2 h5
        refine mv_iconst (v := (0 : Int32)) C dX3_readToken_17 (by decide) ?_
        exact mv_iret C dX3_readToken_18 hw
set_option maxHeartbeats 4000000 in
set_option maxRecDepth 100000 in
theorem wj_X3_read_1_59_ok (C : mC p s m args meth c cX3_read 7 wsX3_read RX3 (some .int) (dC, dI) vwCl [(cA, .int)] A) (hs : eA a A s) (hlev : 4 ≤ lev) {post : Int32 → mS → Prop} {K25 : Int32 → Int32 → Int32 → mS → Prop} (hK25 : ∀ (x3 x4 x5 : Int32) (u : mS), K25 x3 x4 x5 u → mV p l e (mRm lev) s m args below meth c 7 (dC, dI) vwCl A 0 0 (mQi below args s (dC, dI) vwCl [(cA, .int)] (wA cA a) A post) (wA cA a u) 25 [(0, .ref (a 7)), (1, .ref (a 1)), (3, .int x3), (4, .int x4), (5, .int x5)] []) {x3 x4 x5 z0 : Int32} {u : mS} (hw : wj_X3_read_1_59 K25 post x3 x4 x5 z0 u) : mV p l e (mRm lev) s m args below meth c 7 (dC, dI) vwCl A 0 0 (mQi below args s (dC, dI) vwCl [(cA, .int)] (wA cA a) A post) (wA cA a u) 59 [(0, .ref (a 7)), (1, .ref (a 1)), (3, .int x3), (4, .int x4), (5, .int x5)] [.int z0] := by
  unfold wj_X3_read_1_59 at hw
  refine mv_istore (lv1 := [(6, .int z0), (0, .ref (a 7)), (1, .ref (a 1)), (3, .int x3), (4, .int x4), (5, .int x5)]) C dX3_read_59 (by decide) rfl ?_
  refine mv_iload C dX3_read_61 0 rfl ?_
  refine mv_if_ne (tgt := 69) C dX3_read_63 (by decide) (fun h11 => ?_) (fun h11 => ?_)
  · have hw := hw.1 h11
    refine mv_iload C dX3_read_69 4 rfl ?_
    refine mv_iload C dX3_read_71 0 rfl ?_
    refine mv_iadd C dX3_read_73 ?_
    refine mv_topi (fun y12 ey12 => ?_)
    have hw := hw y12 ey12
    refine mv_istore (lv1 := [(4, .int y12), (6, .int z0), (0, .ref (a 7)), (1, .ref (a 1)), (3, .int x3), (5, .int x5)]) C dX3_read_74 (by decide) rfl ?_
    obtain ⟨y13, ey13⟩ : ∃ z : Int32, z = x5 + (1 : Int32) := ⟨_, rfl⟩
    have hw := hw y13 ey13
    refine mv_iinc (v := y13) (lv1 := [(5, .int y13), (4, .int y12), (6, .int z0), (0, .ref (a 7)), (1, .ref (a 1)), (3, .int x3)]) C dX3_read_76 5 rfl (by rw [ey13]; rfl) (by decide) rfl ?_
    refine mv_goto (tgt := 25) C dX3_read_79 (by decide) ?_
    refine mv_sub [3, 4, 5, 1, 0] rfl ?_
    exact hK25 x3 y12 y13 u hw
  · have hw := hw.2 h11
    refine mv_iload C dX3_read_66 4 rfl ?_
    exact mv_iret C dX3_read_68 hw
set_option maxHeartbeats 4000000 in
set_option maxRecDepth 100000 in
theorem wj_X3_read_1_82_ok (C : mC p s m args meth c cX3_read 7 wsX3_read RX3 (some .int) (dC, dI) vwCl [(cA, .int)] A) (hs : eA a A s) (hlev : 4 ≤ lev) {post : Int32 → mS → Prop} {x3 : Int32} {u : mS} (hw : wj_X3_read_1_82 post x3 u) : mV p l e (mRm lev) s m args below meth c 7 (dC, dI) vwCl A 0 0 (mQi below args s (dC, dI) vwCl [(cA, .int)] (wA cA a) A post) (wA cA a u) 82 [(0, .ref (a 7)), (3, .int x3)] [] := by
  unfold wj_X3_read_1_82 at hw
  refine mv_aload_n C dX3_read_82 rfl 0 rfl ?_
  refine mv_callVi (f := wA cA a) (As := []) (rest := []) C (eA_ok a) hs 7 rfl rfl (X3_isWhole_met (l := l) (lev := lev - 1) (by omega) hw) (cwV 0 C.2.2.2.2.1 gX3_read_X3_isWhole rfl rfl rfl (by decide +kernel) (mRm_le (by omega) (by decide))) rfl rfl (Nat.le_of_ble_eq_true rfl) dX3_read_83 ⟨Nat.le_refl 0, Nat.le_refl 0⟩ (fun r14 u15 hw => ?_)
  obtain ⟨gr14, hw⟩ := hw
  refine mv_if_eq (tgt := 93) C dX3_read_86 (by decide) (fun h16 => ?_) (fun h16 => ?_)
  · have hw := hw.1 h16
    refine mv_iload_n C dX3_read_93 rfl 1 rfl ?_
    exact mv_iret C dX3_read_94 hw
  · have hw := hw.2 h16
    refine mv_iconst (v := (-1 : Int32)) C dX3_read_89 (by decide) ?_
    refine mv_goto (tgt := 94) C dX3_read_90 (by decide) ?_
    exact mv_iret C dX3_read_94 hw
set_option maxHeartbeats 4000000 in
set_option maxRecDepth 100000 in
theorem wj_X3_read_1_25_ok (C : mC p s m args meth c cX3_read 7 wsX3_read RX3 (some .int) (dC, dI) vwCl [(cA, .int)] A) (hs : eA a A s) (hlev : 4 ≤ lev) {post : Int32 → mS → Prop} {K25 : Int32 → Int32 → Int32 → mS → Prop} (hK25 : ∀ (x3 x4 x5 : Int32) (u : mS), K25 x3 x4 x5 u → mV p l e (mRm lev) s m args below meth c 7 (dC, dI) vwCl A 0 0 (mQi below args s (dC, dI) vwCl [(cA, .int)] (wA cA a) A post) (wA cA a u) 25 [(0, .ref (a 7)), (1, .ref (a 1)), (3, .int x3), (4, .int x4), (5, .int x5)] []) {x3 x4 x5 : Int32} {u : mS} (hw : wj_X3_read_1_25 K25 post x3 x4 x5 u) : mV p l e (mRm lev) s m args below meth c 7 (dC, dI) vwCl A 0 0 (mQi below args s (dC, dI) vwCl [(cA, .int)] (wA cA a) A post) (wA cA a u) 25 [(0, .ref (a 7)), (1, .ref (a 1)), (3, .int x3), (4, .int x4), (5, .int x5)] [] := by
  unfold wj_X3_read_1_25 at hw
  refine mv_iload C dX3_read_25 4 rfl ?_
  refine mv_ldc (v := (1000000 : Int32)) C mw_X3_read__constant_RX3_30_1000000_Int32_ dX3_read_27 ?_
  refine mv_icmp_ge (tgt := 82) C dX3_read_29 (by decide) (fun h5 => ?_) (fun h5 => ?_)
  · have hw := hw.1 h5
    refine mv_sub [0, 2] rfl ?_
    exact wj_X3_read_1_82_ok C hs hlev hw
  · have hw := hw.2 h5
    refine mv_iload C dX3_read_32 3 rfl ?_
    refine mv_iload_n C dX3_read_34 rfl 2 rfl ?_
    refine mv_icmp_ge (tgt := 82) C dX3_read_35 (by decide) (fun h6 => ?_) (fun h6 => ?_)
    · have hw := hw.1 h6
      refine mv_sub [0, 2] rfl ?_
      exact wj_X3_read_1_82_ok C hs hlev hw
    · have hw := hw.2 h6
      refine mv_aload_n C dX3_read_38 rfl 1 rfl ?_
      refine mv_iload C dX3_read_39 3 rfl ?_
      refine mv_iald (f := u.2 0) C 1 0 rfl rfl hw.1 dX3_read_41 ?_
      refine mv_topi (fun y7 ey7 => ?_)
      have hw := hw.2 y7 ey7
      refine mv_bipush (v := (32 : Int32)) C dX3_read_42 (by decide) ?_
      refine mv_icmp_ne (tgt := 51) C dX3_read_44 (by decide) (fun h8 => ?_) (fun h8 => ?_)
      · have hw := hw.1 h8
        refine mv_aload_n C dX3_read_51 rfl 0 rfl ?_
        refine mv_aload_n C dX3_read_52 rfl 1 rfl ?_
        refine mv_iload_n C dX3_read_53 rfl 2 rfl ?_
        refine mv_iload C dX3_read_54 3 rfl ?_
        refine mv_callVi (f := wA cA a) (As := [.ref (a 1), .int x3, .int x4]) (rest := []) C (eA_ok a) hs 7 rfl rfl (X3_readToken_1_met (l := l) (lev := lev - 1) (by omega) hw) (cwV 3 C.2.2.2.2.1 gX3_read_X3_readToken rfl rfl rfl (by decide +kernel) (mRm_le (by omega) (by decide))) rfl rfl (Nat.le_of_ble_eq_true rfl) dX3_read_56 ⟨Nat.le_refl 0, Nat.le_refl 0⟩ (fun r9 u10 hw => ?_)
        exact wj_X3_read_1_59_ok C hs hlev hK25 hw
      · have hw := hw.2 h8
        refine mv_iconst (v := (1 : Int32)) C dX3_read_47 (by decide) ?_
        refine mv_goto (tgt := 59) C dX3_read_48 (by decide) ?_
        exact wj_X3_read_1_59_ok C hs hlev hK25 hw
set_option maxHeartbeats 4000000 in
set_option maxRecDepth 100000 in
theorem X3_read_1_met (hlev : 4 ≤ lev) {x2 : Int32} {u : mS} {post : Int32 → mS → Prop} (hw : wp_X3_read_1 x2 u post) : mKi l yX3_read wsX3_read lev (eA a) (dC, dI) vwCl [(cA, .int)] (wA cA a) [.ref (a 7), .ref (a 1), .int x2] u post := by
  refine mKi_of (cc := cX3_read) (maxL := 7) (by decide) rfl rfl (Nat.le_of_ble_eq_true rfl) rfl ?_
  intro p e s m args below meth c A C hs
  unfold wp_X3_read_1 at hw
  refine mv_aload_n C dX3_read_0 rfl 0 rfl ?_
  refine mv_get (v := .ref (a 2)) C iw_X3_read_X3 7 rfl rfl 0 (by decide) lk_X3_read_9 rfl rfl dX3_read_1 ?_
  refine mv_callVv (f := wA cA a) (As := []) (rest := []) C (eA_ok a) hs 2 rfl rfl (X5_restart_met (l := l) (lev := lev - 1) (by omega) hw) (cwV 0 C.2.2.2.2.1 gX3_read_X5_restart rfl rfl rfl (by decide +kernel) (mRm_le (by omega) (by decide))) rfl rfl (Nat.le_of_ble_eq_true rfl) dX3_read_4 ⟨Nat.le_refl 0, Nat.le_refl 0⟩ (fun u2 hw => ?_)
  refine mv_aload_n C dX3_read_7 rfl 0 rfl ?_
  refine mv_iconst (v := (0 : Int32)) C dX3_read_8 (by decide) ?_
  refine mv_put (ty := .int) (ws1 := wA cA a (mSet u2 3 (0 : Int32))) C iw_X3_read_X3 tyX3 tyX3_ok nmX3 7 rfl rfl 1 (by decide) lk_X3_read_20 rfl rfl rfl rfl rfl (Nat.le_of_ble_eq_true rfl) rfl dX3_read_9 ?_
  refine mv_nm (f := wA cA a) (fun u3 eu3 => ?_)
  have hw := hw u3 eu3
  refine mv_iload_n C dX3_read_12 rfl 2 rfl ?_
  refine mv_aload_n C dX3_read_13 rfl 1 rfl ?_
  refine mv_alen (v := (120 : Int32)) C 1 0 rfl rfl (by decide) dX3_read_14 ?_
  refine mv_mmin C ml_X3_read_24 ms_X3_read_min mi_X3_read_Math mc_X3_read_min (by show 1 ≤ lev; omega) (by show _ ≤ 64 * lev; exact Nat.le_trans (Nat.le_of_ble_eq_true rfl : _ ≤ 64) (by omega)) (Nat.le_refl 0) (Nat.le_refl 0) dX3_read_15 ?_
  refine mv_topi (fun y4 ey4 => ?_)
  have hw := hw y4 ey4
  refine mv_istore_n (lv1 := [(3, .int y4), (0, .ref (a 7)), (1, .ref (a 1)), (2, .int x2)]) C dX3_read_18 rfl (by decide) rfl ?_
  refine mv_iconst (v := (0 : Int32)) C dX3_read_19 (by decide) ?_
  refine mv_istore (lv1 := [(4, .int (0 : Int32)), (3, .int y4), (0, .ref (a 7)), (1, .ref (a 1)), (2, .int x2)]) C dX3_read_20 (by decide) rfl ?_
  refine mv_iconst (v := (0 : Int32)) C dX3_read_22 (by decide) ?_
  refine mv_istore (lv1 := [(5, .int (0 : Int32)), (4, .int (0 : Int32)), (3, .int y4), (0, .ref (a 7)), (1, .ref (a 1)), (2, .int x2)]) C dX3_read_23 (by decide) rfl ?_
  refine mv_sub [3, 4, 2, 1, 0] rfl ?_
  obtain ⟨n, hw⟩ := hw
  exact mL4_of (fun K hK b0 b1 b2 b3 hw => wj_X3_read_1_25_ok C hs hlev hK hw) n y4 (0 : Int32) (0 : Int32) u3 hw
set_option maxHeartbeats 4000000 in
set_option maxRecDepth 100000 in
theorem X8_takeTyped_met (hlev : 5 ≤ lev) {u : mS} {post : Int32 → mS → Prop} (hw : wp_X8_takeTyped  u post) : mKi l yX8_takeTyped wsX8_takeTyped lev (eA a) (dC, dI) vwCl [(cA, .int)] (wA cA a) [.ref (a 0)] u post := by
  refine mKi_of (cc := cX8_takeTyped) (maxL := 2) (by decide) rfl rfl (Nat.le_of_ble_eq_true rfl) rfl ?_
  intro p e s m args below meth c A C hs
  unfold wp_X8_takeTyped at hw
  refine mv_aload_n C dX8_takeTyped_0 rfl 0 rfl ?_
  refine mv_get (v := .ref (a 7)) C iw_X8_takeTyped_X8 0 rfl rfl 3 (by decide) lk_X8_takeTyped_25 rfl rfl dX8_takeTyped_1 ?_
  refine mv_aload_n C dX8_takeTyped_4 rfl 0 rfl ?_
  refine mv_get (v := .ref (a 1)) C iw_X8_takeTyped_X8 0 rfl rfl 0 (by decide) lk_X8_takeTyped_9 rfl rfl dX8_takeTyped_5 ?_
  refine mv_aload_n C dX8_takeTyped_8 rfl 0 rfl ?_
  refine mv_get (v := .int (u.1 0)) C iw_X8_takeTyped_X8 0 rfl rfl 1 (by decide) lk_X8_takeTyped_59 rfl rfl dX8_takeTyped_9 ?_
  refine mv_topi (fun y1 ey1 => ?_)
  have hw := hw y1 ey1
  refine mv_callVi (f := wA cA a) (As := [.ref (a 1), .int y1]) (rest := []) C (eA_ok a) hs 7 rfl rfl (X3_read_1_met (l := l) (lev := lev - 1) (by omega) hw) (cwV 2 C.2.2.2.2.1 gX8_takeTyped_X3_read rfl rfl rfl (by decide +kernel) (mRm_le (by omega) (by decide))) rfl rfl (Nat.le_of_ble_eq_true rfl) dX8_takeTyped_12 ⟨Nat.le_refl 0, Nat.le_refl 0⟩ (fun r2 u3 hw => ?_)
  refine mv_istore_n (lv1 := [(1, .int r2), (0, .ref (a 0))]) C dX8_takeTyped_15 rfl (by decide) rfl ?_
  refine mv_aload_n C dX8_takeTyped_16 rfl 1 rfl ?_
  refine mv_iconst (v := (0 : Int32)) C dX8_takeTyped_17 (by decide) ?_
  refine mv_put (ty := .int) (ws1 := wA cA a (mSet u3 0 (0 : Int32))) C iw_X8_takeTyped_X8 tyX8 tyX8_ok nmX8 0 rfl rfl 1 (by decide) lk_X8_takeTyped_59 rfl rfl rfl rfl rfl (Nat.le_of_ble_eq_true rfl) rfl dX8_takeTyped_18 ?_
  refine mv_nm (f := wA cA a) (fun u4 eu4 => ?_)
  have hw := hw u4 eu4
  refine mv_iload_n C dX8_takeTyped_21 rfl 0 rfl ?_
  exact mv_iret C dX8_takeTyped_22 hw
set_option maxHeartbeats 4000000 in
set_option maxRecDepth 100000 in
theorem wj_X7_ownSlot_52_ok (C : mC p s m args meth c cX7_ownSlot 4 wsX7_ownSlot RX7 (some .int) (dC, dI) vwCl [(cA, .int)] A) (hs : eA a A s) (hlev : 0 ≤ lev) {post : Int32 → mS → Prop} {u : mS} (hw : wj_X7_ownSlot_52 post  u) : mV p l e (mRm lev) s m args below meth c 4 (dC, dI) vwCl A 0 0 (mQi below args s (dC, dI) vwCl [(cA, .int)] (wA cA a) A post) (wA cA a u) 52 [(0, .ref (a 9))] [] := by
  unfold wj_X7_ownSlot_52 at hw
  refine mv_aload_n C dX7_ownSlot_52 rfl 0 rfl ?_
  refine mv_get (v := .int (u.1 5)) C iw_X7_ownSlot_X7 9 rfl rfl 5 (by decide) lk_X7_ownSlot_37 rfl rfl dX7_ownSlot_53 ?_
  refine mv_topi (fun y10 ey10 => ?_)
  have hw := hw y10 ey10
  refine mv_iconst (v := (4 : Int32)) C dX7_ownSlot_56 (by decide) ?_
  refine mv_icmp_ge (tgt := 67) C dX7_ownSlot_57 (by decide) (fun h11 => ?_) (fun h11 => ?_)
  · have hw := hw.1 h11
    refine mv_iconst (v := (-1 : Int32)) C dX7_ownSlot_67 (by decide) ?_
    exact mv_iret C dX7_ownSlot_68 hw
  · have hw := hw.2 h11
    refine mv_aload_n C dX7_ownSlot_60 rfl 0 rfl ?_
    refine mv_get (v := .int (u.1 5)) C iw_X7_ownSlot_X7 9 rfl rfl 5 (by decide) lk_X7_ownSlot_37 rfl rfl dX7_ownSlot_61 ?_
    refine mv_topi (fun y12 ey12 => ?_)
    have hw := hw y12 ey12
    refine mv_goto (tgt := 68) C dX7_ownSlot_64 (by decide) ?_
    exact mv_iret C dX7_ownSlot_68 hw
set_option maxHeartbeats 4000000 in
set_option maxRecDepth 100000 in
theorem wj_X7_ownSlot_7_ok (C : mC p s m args meth c cX7_ownSlot 4 wsX7_ownSlot RX7 (some .int) (dC, dI) vwCl [(cA, .int)] A) (hs : eA a A s) (hlev : 0 ≤ lev) {post : Int32 → mS → Prop} {K7 : Int32 → Int32 → Int32 → mS → Prop} (hK7 : ∀ (x1 x2 x3 : Int32) (u : mS), K7 x1 x2 x3 u → mV p l e (mRm lev) s m args below meth c 4 (dC, dI) vwCl A 0 0 (mQi below args s (dC, dI) vwCl [(cA, .int)] (wA cA a) A post) (wA cA a u) 7 [(0, .ref (a 9)), (1, .int x1), (2, .int x2), (3, .int x3)] []) {x1 x2 x3 : Int32} {u : mS} (hw : wj_X7_ownSlot_7 K7 post x1 x2 x3 u) : mV p l e (mRm lev) s m args below meth c 4 (dC, dI) vwCl A 0 0 (mQi below args s (dC, dI) vwCl [(cA, .int)] (wA cA a) A post) (wA cA a u) 7 [(0, .ref (a 9)), (1, .int x1), (2, .int x2), (3, .int x3)] [] := by
  unfold wj_X7_ownSlot_7 at hw
  refine mv_iload_n C dX7_ownSlot_7 rfl 3 rfl ?_
  refine mv_iload_n C dX7_ownSlot_8 rfl 2 rfl ?_
  refine mv_aload_n C dX7_ownSlot_9 rfl 0 rfl ?_
  refine mv_get (v := .int (u.1 5)) C iw_X7_ownSlot_X7 9 rfl rfl 5 (by decide) lk_X7_ownSlot_37 rfl rfl dX7_ownSlot_10 ?_
  refine mv_topi (fun y1 ey1 => ?_)
  have hw := hw y1 ey1
  refine mv_iadd C dX7_ownSlot_13 ?_
  refine mv_topi (fun y2 ey2 => ?_)
  have hw := hw y2 ey2
  refine mv_icmp_ge (tgt := 52) C dX7_ownSlot_14 (by decide) (fun h3 => ?_) (fun h3 => ?_)
  · have hw := hw.1 h3
    refine mv_sub [0] rfl ?_
    exact wj_X7_ownSlot_52_ok C hs hlev hw
  · have hw := hw.2 h3
    refine mv_iload_n C dX7_ownSlot_17 rfl 3 rfl ?_
    refine mv_bipush (v := (40 : Int32)) C dX7_ownSlot_18 (by decide) ?_
    refine mv_icmp_ge (tgt := 52) C dX7_ownSlot_20 (by decide) (fun h4 => ?_) (fun h4 => ?_)
    · have hw := hw.1 h4
      refine mv_sub [0] rfl ?_
      exact wj_X7_ownSlot_52_ok C hs hlev hw
    · have hw := hw.2 h4
      refine mv_aload_n C dX7_ownSlot_23 rfl 0 rfl ?_
      refine mv_get (v := .ref (a 10)) C iw_X7_ownSlot_X7 9 rfl rfl 0 (by decide) lk_X7_ownSlot_9 rfl rfl dX7_ownSlot_24 ?_
      refine mv_iload_n C dX7_ownSlot_27 rfl 3 rfl ?_
      refine mv_iald (f := u.2 5) C 10 0 rfl rfl hw.1 dX7_ownSlot_28 ?_
      refine mv_topi (fun y5 ey5 => ?_)
      have hw := hw.2 y5 ey5
      refine mv_iload_n C dX7_ownSlot_29 rfl 1 rfl ?_
      refine mv_icmp_ne (tgt := 46) C dX7_ownSlot_30 (by decide) (fun h6 => ?_) (fun h6 => ?_)
      · have hw := hw.1 h6
        obtain ⟨y7, ey7⟩ : ∃ z : Int32, z = x3 + (1 : Int32) := ⟨_, rfl⟩
        have hw := hw y7 ey7
        refine mv_iinc (v := y7) (lv1 := [(3, .int y7), (0, .ref (a 9)), (1, .int x1), (2, .int x2)]) C dX7_ownSlot_46 3 rfl (by rw [ey7]; rfl) (by decide) rfl ?_
        refine mv_goto (tgt := 7) C dX7_ownSlot_49 (by decide) ?_
        refine mv_sub [1, 2, 3, 0] rfl ?_
        exact hK7 x1 x2 y7 u hw
      · have hw := hw.2 h6
        refine mv_iload_n C dX7_ownSlot_33 rfl 3 rfl ?_
        refine mv_iload_n C dX7_ownSlot_34 rfl 2 rfl ?_
        refine mv_icmp_ge (tgt := 42) C dX7_ownSlot_35 (by decide) (fun h8 => ?_) (fun h8 => ?_)
        · have hw := hw.1 h8
          refine mv_iload_n C dX7_ownSlot_42 rfl 3 rfl ?_
          refine mv_iload_n C dX7_ownSlot_43 rfl 2 rfl ?_
          refine mv_isub C dX7_ownSlot_44 ?_
          refine mv_topi (fun y9 ey9 => ?_)
          have hw := hw y9 ey9
          exact mv_iret C dX7_ownSlot_45 hw
        · have hw := hw.2 h8
          refine mv_iconst (v := (-1 : Int32)) C dX7_ownSlot_38 (by decide) ?_
          refine mv_goto (tgt := 45) C dX7_ownSlot_39 (by decide) ?_
          exact mv_iret C dX7_ownSlot_45 hw
set_option maxHeartbeats 4000000 in
set_option maxRecDepth 100000 in
theorem X7_ownSlot_met (hlev : 0 ≤ lev) {x1 : Int32} {u : mS} {post : Int32 → mS → Prop} (hw : wp_X7_ownSlot x1 u post) : mKi l yX7_ownSlot wsX7_ownSlot lev (eA a) (dC, dI) vwCl [(cA, .int)] (wA cA a) [.ref (a 9), .int x1] u post := by
  refine mKi_of (cc := cX7_ownSlot) (maxL := 4) (by decide) rfl rfl (Nat.le_of_ble_eq_true rfl) rfl ?_
  intro p e s m args below meth c A C hs
  unfold wp_X7_ownSlot at hw
  refine mv_getsN C hs.2.1 (hs.1 _ nw_1) dX7_ownSlot_0 ?_
  refine mv_tlen (v := (8 : Int32)) C hs.2.2 (by decide) dX7_ownSlot_3 ?_
  refine mv_istore_n (lv1 := [(2, .int (8 : Int32)), (0, .ref (a 9)), (1, .int x1)]) C dX7_ownSlot_4 rfl (by decide) rfl ?_
  refine mv_iconst (v := (0 : Int32)) C dX7_ownSlot_5 (by decide) ?_
  refine mv_istore_n (lv1 := [(3, .int (0 : Int32)), (2, .int (8 : Int32)), (0, .ref (a 9)), (1, .int x1)]) C dX7_ownSlot_6 rfl (by decide) rfl ?_
  refine mv_sub [2, 3, 1, 0] rfl ?_
  obtain ⟨n, hw⟩ := hw
  exact mL4_of (fun K hK b0 b1 b2 b3 hw => wj_X7_ownSlot_7_ok C hs hlev hK hw) n x1 (8 : Int32) (0 : Int32) u hw
set_option maxHeartbeats 4000000 in
set_option maxRecDepth 100000 in
theorem wj_X5_keep_42_ok (C : mC p s m args meth c cX5_keep 5 wsX5_keep RX5 (some .int) (dC, dI) vwCl [(cA, .int)] A) (hs : eA a A s) (hlev : 1 ≤ lev) {post : Int32 → mS → Prop} {x1 : Int32} {u : mS} (hw : wj_X5_keep_42 post x1 u) : mV p l e (mRm lev) s m args below meth c 5 (dC, dI) vwCl A 0 0 (mQi below args s (dC, dI) vwCl [(cA, .int)] (wA cA a) A post) (wA cA a u) 42 [(1, .int x1)] [] := by
  unfold wj_X5_keep_42 at hw
  refine mv_iload_n C dX5_keep_42 rfl 0 rfl ?_
  exact mv_iret C dX5_keep_43 hw
set_option maxHeartbeats 4000000 in
set_option maxRecDepth 100000 in
theorem X5_keep_met (hlev : 1 ≤ lev) {x1 x2 : Int32} {u : mS} {post : Int32 → mS → Prop} (hw : wp_X5_keep x1 x2 u post) : mKi l yX5_keep wsX5_keep lev (eA a) (dC, dI) vwCl [(cA, .int)] (wA cA a) [.ref (a 2), .int x1, .int x2] u post := by
  refine mKi_of (cc := cX5_keep) (maxL := 5) (by decide) rfl rfl (Nat.le_of_ble_eq_true rfl) rfl ?_
  intro p e s m args below meth c A C hs
  unfold wp_X5_keep at hw
  refine mv_aload_n C dX5_keep_0 rfl 0 rfl ?_
  refine mv_iload_n C dX5_keep_1 rfl 1 rfl ?_
  refine mv_callVi (f := wA cA a) (As := [.int x1]) (rest := []) C (eA_ok a) hs 2 rfl rfl (X5_after_met (l := l) (lev := lev - 1) (by omega) hw) (cwV 1 C.2.2.2.2.1 gX5_keep_X5_after rfl rfl rfl (by decide +kernel) (mRm_le (by omega) (by decide))) rfl rfl (Nat.le_of_ble_eq_true rfl) dX5_keep_2 ⟨Nat.le_refl 0, Nat.le_refl 0⟩ (fun r1 u2 hw => ?_)
  refine mv_iload_n C dX5_keep_5 rfl 1 rfl ?_
  refine mv_isub C dX5_keep_6 ?_
  refine mv_topi (fun y3 ey3 => ?_)
  have hw := hw y3 ey3
  refine mv_istore_n (lv1 := [(3, .int y3), (0, .ref (a 2)), (1, .int x1), (2, .int x2)]) C dX5_keep_7 rfl (by decide) rfl ?_
  refine mv_iload_n C dX5_keep_8 rfl 3 rfl ?_
  refine mv_bipush (v := (120 : Int32)) C dX5_keep_9 (by decide) ?_
  refine mv_imul C dX5_keep_11 ?_
  refine mv_topi (fun y4 ey4 => ?_)
  have hw := hw y4 ey4
  refine mv_istore (lv1 := [(4, .int y4), (3, .int y3), (0, .ref (a 2)), (1, .int x1), (2, .int x2)]) C dX5_keep_12 (by decide) rfl ?_
  refine mv_iload_n C dX5_keep_14 rfl 3 rfl ?_
  refine mv_if_lt (tgt := 42) C dX5_keep_15 (by decide) (fun h5 => ?_) (fun h5 => ?_)
  · have hw := hw.1 h5
    refine mv_sub [3] rfl ?_
    exact wj_X5_keep_42_ok C hs hlev hw
  · have hw := hw.2 h5
    refine mv_iload_n C dX5_keep_18 rfl 3 rfl ?_
    refine mv_iload_n C dX5_keep_19 rfl 1 rfl ?_
    refine mv_iadd C dX5_keep_20 ?_
    refine mv_topi (fun y6 ey6 => ?_)
    have hw := hw y6 ey6
    refine mv_sipush (v := (3000 : Int32)) C dX5_keep_21 (by decide) ?_
    refine mv_icmp_gt (tgt := 42) C dX5_keep_24 (by decide) (fun h7 => ?_) (fun h7 => ?_)
    · have hw := hw.1 h7
      refine mv_sub [3] rfl ?_
      exact wj_X5_keep_42_ok C hs hlev hw
    · have hw := hw.2 h7
      refine mv_iload_n C dX5_keep_27 rfl 1 rfl ?_
      refine mv_bipush (v := (120 : Int32)) C dX5_keep_28 (by decide) ?_
      refine mv_icmp_gt (tgt := 42) C dX5_keep_30 (by decide) (fun h8 => ?_) (fun h8 => ?_)
      · have hw := hw.1 h8
        refine mv_sub [3] rfl ?_
        exact wj_X5_keep_42_ok C hs hlev hw
      · have hw := hw.2 h8
        refine mv_iload_n C dX5_keep_33 rfl 4 rfl ?_
        refine mv_if_lt (tgt := 42) C dX5_keep_34 (by decide) (fun h9 => ?_) (fun h9 => ?_)
        · have hw := hw.1 h9
          refine mv_sub [3] rfl ?_
          exact wj_X5_keep_42_ok C hs hlev hw
        · have hw := hw.2 h9
          refine mv_iload_n C dX5_keep_37 rfl 4 rfl ?_
          refine mv_iconst (v := (4 : Int32)) C dX5_keep_38 (by decide) ?_
          refine mv_icmp_lt (tgt := 44) C dX5_keep_39 (by decide) (fun h10 => ?_) (fun h10 => ?_)
          · have hw := hw.1 h10
            refine mv_aload_n C dX5_keep_44 rfl 2 rfl ?_
            refine mv_get (v := .ref (a 3)) C iw_X5_keep_X5 2 rfl rfl 0 (by decide) lk_X5_keep_9 rfl rfl dX5_keep_45 ?_
            refine mv_iload_n C dX5_keep_48 rfl 3 rfl ?_
            refine mv_aload_n C dX5_keep_49 rfl 2 rfl ?_
            refine mv_get (v := .ref (a 3)) C iw_X5_keep_X5 2 rfl rfl 0 (by decide) lk_X5_keep_9 rfl rfl dX5_keep_50 ?_
            refine mv_iload C dX5_keep_53 0 rfl ?_
            refine mv_iload_n C dX5_keep_55 rfl 1 rfl ?_
            refine mv_copyi (f := u2.2 1) (ws1 := wA cA a (mCpy u2 1 x1.toNatClampNeg y4.toNatClampNeg y3.toNatClampNeg)) C ml_X5_keep_51 mn_X5_keep_copy ms_X5_keep_copy mi_X5_keep_System 3 0 rfl rfl hw.1 rfl (by show 1 ≤ lev; omega) (by show _ ≤ 64 * lev; exact Nat.le_trans (Nat.le_of_ble_eq_true rfl : _ ≤ 64) (by omega)) dX5_keep_56 ?_
            refine mv_nm (f := wA cA a) (fun u11 eu11 => ?_)
            have hw := hw.2 u11 eu11
            refine mv_aload_n C dX5_keep_59 rfl 2 rfl ?_
            refine mv_get (v := .ref (a 4)) C iw_X5_keep_X5 2 rfl rfl 1 (by decide) lk_X5_keep_15 rfl rfl dX5_keep_60 ?_
            refine mv_iload_n C dX5_keep_63 rfl 3 rfl ?_
            refine mv_aload_n C dX5_keep_64 rfl 2 rfl ?_
            refine mv_get (v := .ref (a 4)) C iw_X5_keep_X5 2 rfl rfl 1 (by decide) lk_X5_keep_15 rfl rfl dX5_keep_65 ?_
            refine mv_iload C dX5_keep_68 0 rfl ?_
            refine mv_iload_n C dX5_keep_70 rfl 1 rfl ?_
            refine mv_copyi (f := u11.2 2) (ws1 := wA cA a (mCpy u11 2 x1.toNatClampNeg y4.toNatClampNeg y3.toNatClampNeg)) C ml_X5_keep_51 mn_X5_keep_copy ms_X5_keep_copy mi_X5_keep_System 4 0 rfl rfl hw.1 rfl (by show 1 ≤ lev; omega) (by show _ ≤ 64 * lev; exact Nat.le_trans (Nat.le_of_ble_eq_true rfl : _ ≤ 64) (by omega)) dX5_keep_71 ?_
            refine mv_nm (f := wA cA a) (fun u12 eu12 => ?_)
            have hw := hw.2 u12 eu12
            refine mv_aload_n C dX5_keep_74 rfl 2 rfl ?_
            refine mv_get (v := .ref (a 5)) C iw_X5_keep_X5 2 rfl rfl 2 (by decide) lk_X5_keep_18 rfl rfl dX5_keep_75 ?_
            refine mv_iload_n C dX5_keep_78 rfl 3 rfl ?_
            refine mv_aload_n C dX5_keep_79 rfl 2 rfl ?_
            refine mv_get (v := .ref (a 5)) C iw_X5_keep_X5 2 rfl rfl 2 (by decide) lk_X5_keep_18 rfl rfl dX5_keep_80 ?_
            refine mv_iload C dX5_keep_83 0 rfl ?_
            refine mv_iload_n C dX5_keep_85 rfl 1 rfl ?_
            refine mv_copyi (f := u12.2 3) (ws1 := wA cA a (mCpy u12 3 x1.toNatClampNeg y4.toNatClampNeg y3.toNatClampNeg)) C ml_X5_keep_51 mn_X5_keep_copy ms_X5_keep_copy mi_X5_keep_System 5 0 rfl rfl hw.1 rfl (by show 1 ≤ lev; omega) (by show _ ≤ 64 * lev; exact Nat.le_trans (Nat.le_of_ble_eq_true rfl : _ ≤ 64) (by omega)) dX5_keep_86 ?_
            refine mv_nm (f := wA cA a) (fun u13 eu13 => ?_)
            have hw := hw.2 u13 eu13
            refine mv_aload_n C dX5_keep_89 rfl 2 rfl ?_
            refine mv_get (v := .ref (a 6)) C iw_X5_keep_X5 2 rfl rfl 3 (by decide) lk_X5_keep_21 rfl rfl dX5_keep_90 ?_
            refine mv_iload_n C dX5_keep_93 rfl 3 rfl ?_
            refine mv_aload_n C dX5_keep_94 rfl 2 rfl ?_
            refine mv_get (v := .ref (a 6)) C iw_X5_keep_X5 2 rfl rfl 3 (by decide) lk_X5_keep_21 rfl rfl dX5_keep_95 ?_
            refine mv_iload C dX5_keep_98 0 rfl ?_
            refine mv_iload_n C dX5_keep_100 rfl 1 rfl ?_
            refine mv_copyi (f := u13.2 4) (ws1 := wA cA a (mCpy u13 4 x1.toNatClampNeg y4.toNatClampNeg y3.toNatClampNeg)) C ml_X5_keep_51 mn_X5_keep_copy ms_X5_keep_copy mi_X5_keep_System 6 0 rfl rfl hw.1 rfl (by show 1 ≤ lev; omega) (by show _ ≤ 64 * lev; exact Nat.le_trans (Nat.le_of_ble_eq_true rfl : _ ≤ 64) (by omega)) dX5_keep_101 ?_
            refine mv_nm (f := wA cA a) (fun u14 eu14 => ?_)
            have hw := hw.2 u14 eu14
            refine mv_iload C dX5_keep_104 0 rfl ?_
            exact mv_iret C dX5_keep_106 hw
          · have hw := hw.2 h10
            refine mv_sub [3] rfl ?_
            exact wj_X5_keep_42_ok C hs hlev hw
end
