set_option maxRecDepth 20000 in
theorem ggX0_meaningOf_X5_wordAt : GoodIn wsX0_meaningOf wsX5_wordAt := goodIn_r _ [8, 9, 10, 50, 51, 52, 53, 54, 55] (by decide +kernel) (by decide +kernel)
set_option maxRecDepth 20000 in
theorem gX0_meaningOf_X5_wordAt : GoodIn wsX0_meaningOf (wsV RX0 59 RX5 yX5_wordAt wsX5_wordAt) := goodIn_app (goodIn_of _ (by decide +kernel)) ggX0_meaningOf_X5_wordAt
set_option maxRecDepth 20000 in
theorem ggX0_meaningOf_X5_marksAt : GoodIn wsX0_meaningOf wsX5_marksAt := goodIn_r _ [14, 9, 15, 50, 51, 52, 53, 54, 55] (by decide +kernel) (by decide +kernel)
set_option maxRecDepth 20000 in
theorem gX0_meaningOf_X5_marksAt : GoodIn wsX0_meaningOf (wsV RX0 86 RX5 yX5_marksAt wsX5_marksAt) := goodIn_app (goodIn_of _ (by decide +kernel)) ggX0_meaningOf_X5_marksAt
set_option maxRecDepth 20000 in
theorem ggX0_meaningOf_X7_meaning : GoodIn wsX0_meaningOf wsX7_meaning := goodIn_r _ [20, 21, 22, 23, 24, 25, 26, 27, 28, 29, 30, 31, 32, 33, 19, 34, 56, 57, 58, 59, 60, 61] (by decide +kernel) (by decide +kernel)
set_option maxRecDepth 20000 in
theorem gX0_meaningOf_X7_meaning : GoodIn wsX0_meaningOf (wsV RX0 89 RX7 yX7_meaning wsX7_meaning) := goodIn_app (goodIn_of _ (by decide +kernel)) ggX0_meaningOf_X7_meaning
set_option maxRecDepth 20000 in
theorem ggX0_meaningOf_X2_fail : GoodIn wsX0_meaningOf wsX2_fail := goodIn_r _ [39, 40, 62, 63, 64] (by decide +kernel) (by decide +kernel)
set_option maxRecDepth 20000 in
theorem gX0_meaningOf_X2_fail : GoodIn wsX0_meaningOf (wsV RX0 83 RX2 yX2_fail wsX2_fail) := goodIn_app (goodIn_of _ (by decide +kernel)) ggX0_meaningOf_X2_fail
theorem dX0_meaningOf_0 : decode cX0_meaningOf 0 = .ok (.aload_n 0, 1) := by decide +kernel
theorem dX0_meaningOf_1 : decode cX0_meaningOf 1 = .ok (.getfield 19, 3) := by decide +kernel
theorem dX0_meaningOf_4 : decode cX0_meaningOf 4 = .ok (.aload_n 0, 1) := by decide +kernel
theorem dX0_meaningOf_5 : decode cX0_meaningOf 5 = .ok (.getfield 9, 3) := by decide +kernel
theorem dX0_meaningOf_8 : decode cX0_meaningOf 8 = .ok (.iload_n 1, 1) := by decide +kernel
theorem dX0_meaningOf_9 : decode cX0_meaningOf 9 = .ok (.invokevirtual 59, 3) := by decide +kernel
theorem dX0_meaningOf_12 : decode cX0_meaningOf 12 = .ok (.aload_n 0, 1) := by decide +kernel
theorem dX0_meaningOf_13 : decode cX0_meaningOf 13 = .ok (.getfield 9, 3) := by decide +kernel
theorem dX0_meaningOf_16 : decode cX0_meaningOf 16 = .ok (.iload_n 1, 1) := by decide +kernel
theorem dX0_meaningOf_17 : decode cX0_meaningOf 17 = .ok (.invokevirtual 86, 3) := by decide +kernel
theorem dX0_meaningOf_20 : decode cX0_meaningOf 20 = .ok (.invokevirtual 89, 3) := by decide +kernel
theorem dX0_meaningOf_23 : decode cX0_meaningOf 23 = .ok (.istore_n 2, 1) := by decide +kernel
theorem dX0_meaningOf_24 : decode cX0_meaningOf 24 = .ok (.iload_n 2, 1) := by decide +kernel
theorem dX0_meaningOf_25 : decode cX0_meaningOf 25 = .ok (.ifCond .ge 23, 3) := by decide +kernel
theorem dX0_meaningOf_28 : decode cX0_meaningOf 28 = .ok (.aload_n 0, 1) := by decide +kernel
theorem dX0_meaningOf_29 : decode cX0_meaningOf 29 = .ok (.getfield 23, 3) := by decide +kernel
theorem dX0_meaningOf_32 : decode cX0_meaningOf 32 = .ok (.iload_n 2, 1) := by decide +kernel
theorem dX0_meaningOf_33 : decode cX0_meaningOf 33 = .ok (.bipush (-2), 2) := by decide +kernel
theorem dX0_meaningOf_35 : decode cX0_meaningOf 35 = .ok (.if_icmp .ne 7, 3) := by decide +kernel
theorem dX0_meaningOf_38 : decode cX0_meaningOf 38 = .ok (.iconst 2, 1) := by decide +kernel
theorem dX0_meaningOf_39 : decode cX0_meaningOf 39 = .ok (.goto 4, 3) := by decide +kernel
theorem dX0_meaningOf_42 : decode cX0_meaningOf 42 = .ok (.iconst 1, 1) := by decide +kernel
theorem dX0_meaningOf_43 : decode cX0_meaningOf 43 = .ok (.invokevirtual 83, 3) := by decide +kernel
theorem dX0_meaningOf_46 : decode cX0_meaningOf 46 = .ok (.iconst (-1), 1) := by decide +kernel
theorem dX0_meaningOf_47 : decode cX0_meaningOf 47 = .ok (.ireturn, 1) := by decide +kernel
theorem dX0_meaningOf_48 : decode cX0_meaningOf 48 = .ok (.iload_n 2, 1) := by decide +kernel
theorem dX0_meaningOf_49 : decode cX0_meaningOf 49 = .ok (.ireturn, 1) := by decide +kernel
set_option maxRecDepth 100000 in
theorem gpX0_expandName_X0_meaningOf_0 : GoodIn wsX0_expandName wsX0_meaningOf_r1 := goodIn_r _ [1, 3, 2, 9, 10, 11, 12, 13, 14, 15, 16, 17, 18, 19, 20, 21, 22, 23, 24, 25, 26, 27, 28, 29] (by decide +kernel) (by decide +kernel)
set_option maxRecDepth 100000 in
theorem gpX0_expandName_X0_meaningOf_1 : GoodIn wsX0_expandName wsX0_meaningOf_r2 := goodIn_r _ [30, 31, 32, 33, 34, 35, 36, 37, 38, 39, 40, 41, 42, 43, 44, 45] (by decide +kernel) (by decide +kernel)
set_option maxRecDepth 100000 in
theorem gpX0_expandName_X0_meaningOf_2 : GoodIn wsX0_expandName wsX00 := goodIn_r _ [74, 75, 76, 77, 78, 79, 80, 81, 82] (by decide +kernel) (by decide +kernel)
set_option maxRecDepth 100000 in
theorem gpX0_expandName_X0_meaningOf_3 : GoodIn wsX0_expandName wsX50 := goodIn_r _ [83, 84, 85, 86, 87, 88] (by decide +kernel) (by decide +kernel)
set_option maxRecDepth 100000 in
theorem gpX0_expandName_X0_meaningOf_4 : GoodIn wsX0_expandName wsX70 := goodIn_r _ [89, 90, 91, 92, 93, 94] (by decide +kernel) (by decide +kernel)
set_option maxRecDepth 100000 in
theorem gpX0_expandName_X0_meaningOf_5 : GoodIn wsX0_expandName wsX20 := goodIn_r _ [95, 96, 97] (by decide +kernel) (by decide +kernel)
set_option maxRecDepth 100000 in
theorem gpX0_expandName_X0_meaningOf_c : GoodIn wsX0_expandName [Cond.code yX0_meaningOf cX0_meaningOf 3 (some .int)] := goodIn_r _ [8] (by decide +kernel) (by decide +kernel)
theorem ggX0_expandName_X0_meaningOf : GoodIn wsX0_expandName wsX0_meaningOf := goodIn_cons2 gpX0_expandName_X0_meaningOf_c (goodIn_app (goodIn_app (goodIn_app (goodIn_app (goodIn_app gpX0_expandName_X0_meaningOf_0 gpX0_expandName_X0_meaningOf_1) gpX0_expandName_X0_meaningOf_2) gpX0_expandName_X0_meaningOf_3) gpX0_expandName_X0_meaningOf_4) gpX0_expandName_X0_meaningOf_5)
set_option maxRecDepth 20000 in
theorem gX0_expandName_X0_meaningOf : GoodIn wsX0_expandName (wsV RX0 93 RX0 yX0_meaningOf wsX0_meaningOf) := goodIn_app (goodIn_of _ (by decide +kernel)) ggX0_expandName_X0_meaningOf
set_option maxRecDepth 20000 in
theorem ggX0_expandName_X7_kindOf : GoodIn wsX0_expandName wsX7_kindOf := goodIn_r _ [49, 50, 89, 90, 91, 92, 93, 94] (by decide +kernel) (by decide +kernel)
set_option maxRecDepth 20000 in
theorem gX0_expandName_X7_kindOf : GoodIn wsX0_expandName (wsV RX0 96 RX7 yX7_kindOf wsX7_kindOf) := goodIn_app (goodIn_of _ (by decide +kernel)) ggX0_expandName_X7_kindOf
set_option maxRecDepth 20000 in
theorem ggX0_expandName_X5_wordAt : GoodIn wsX0_expandName wsX5_wordAt := goodIn_r _ [13, 14, 15, 83, 84, 85, 86, 87, 88] (by decide +kernel) (by decide +kernel)
set_option maxRecDepth 20000 in
theorem gX0_expandName_X5_wordAt : GoodIn wsX0_expandName (wsV RX0 59 RX5 yX5_wordAt wsX5_wordAt) := goodIn_app (goodIn_of _ (by decide +kernel)) ggX0_expandName_X5_wordAt
set_option maxRecDepth 20000 in
theorem ggX0_expandName_X2_putName : GoodIn wsX0_expandName wsX2_putName := goodIn_r _ [54, 55, 56, 57, 43, 58, 45, 59, 60, 95, 96, 97] (by decide +kernel) (by decide +kernel)
set_option maxRecDepth 20000 in
theorem gX0_expandName_X2_putName : GoodIn wsX0_expandName (wsV RX0 99 RX2 yX2_putName wsX2_putName) := goodIn_app (goodIn_of _ (by decide +kernel)) ggX0_expandName_X2_putName
set_option maxRecDepth 20000 in
theorem ggX0_expandName_X7_valueOf : GoodIn wsX0_expandName wsX7_valueOf := goodIn_r _ [64, 65, 89, 90, 91, 92, 93, 94] (by decide +kernel) (by decide +kernel)
set_option maxRecDepth 20000 in
theorem gX0_expandName_X7_valueOf : GoodIn wsX0_expandName (wsV RX0 102 RX7 yX7_valueOf wsX7_valueOf) := goodIn_app (goodIn_of _ (by decide +kernel)) ggX0_expandName_X7_valueOf
set_option maxRecDepth 20000 in
theorem ggX0_expandName_X2_putVariable : GoodIn wsX0_expandName wsX2_putVariable := goodIn_r _ [69, 55, 56, 57, 43, 58, 45, 59, 60, 70, 71, 72, 73, 95, 96, 97] (by decide +kernel) (by decide +kernel)
set_option maxRecDepth 20000 in
theorem gX0_expandName_X2_putVariable : GoodIn wsX0_expandName (wsV RX0 105 RX2 yX2_putVariable wsX2_putVariable) := goodIn_app (goodIn_of _ (by decide +kernel)) ggX0_expandName_X2_putVariable
set_option maxRecDepth 20000 in
theorem ggX0_expandName_X2_fail : GoodIn wsX0_expandName wsX2_fail := goodIn_r _ [44, 45, 95, 96, 97] (by decide +kernel) (by decide +kernel)
set_option maxRecDepth 20000 in
theorem gX0_expandName_X2_fail : GoodIn wsX0_expandName (wsV RX0 83 RX2 yX2_fail wsX2_fail) := goodIn_app (goodIn_of _ (by decide +kernel)) ggX0_expandName_X2_fail
theorem dX0_expandName_0 : decode cX0_expandName 0 = .ok (.aload_n 0, 1) := by decide +kernel
theorem dX0_expandName_1 : decode cX0_expandName 1 = .ok (.iload_n 1, 1) := by decide +kernel
theorem dX0_expandName_2 : decode cX0_expandName 2 = .ok (.invokevirtual 93, 3) := by decide +kernel
theorem dX0_expandName_5 : decode cX0_expandName 5 = .ok (.istore_n 2, 1) := by decide +kernel
theorem dX0_expandName_6 : decode cX0_expandName 6 = .ok (.iload_n 2, 1) := by decide +kernel
theorem dX0_expandName_7 : decode cX0_expandName 7 = .ok (.ifCond .ge 4, 3) := by decide +kernel
theorem dX0_expandName_10 : decode cX0_expandName 10 = .ok (.return_, 1) := by decide +kernel
theorem dX0_expandName_11 : decode cX0_expandName 11 = .ok (.aload_n 0, 1) := by decide +kernel
theorem dX0_expandName_12 : decode cX0_expandName 12 = .ok (.getfield 19, 3) := by decide +kernel
theorem dX0_expandName_15 : decode cX0_expandName 15 = .ok (.iload_n 2, 1) := by decide +kernel
theorem dX0_expandName_16 : decode cX0_expandName 16 = .ok (.invokevirtual 96, 3) := by decide +kernel
theorem dX0_expandName_19 : decode cX0_expandName 19 = .ok (.istore_n 3, 1) := by decide +kernel
theorem dX0_expandName_20 : decode cX0_expandName 20 = .ok (.iload_n 3, 1) := by decide +kernel
theorem dX0_expandName_21 : decode cX0_expandName 21 = .ok (.iconst 4, 1) := by decide +kernel
theorem dX0_expandName_22 : decode cX0_expandName 22 = .ok (.if_icmp .ne 21, 3) := by decide +kernel
theorem dX0_expandName_25 : decode cX0_expandName 25 = .ok (.aload_n 0, 1) := by decide +kernel
theorem dX0_expandName_26 : decode cX0_expandName 26 = .ok (.getfield 23, 3) := by decide +kernel
theorem dX0_expandName_29 : decode cX0_expandName 29 = .ok (.aload_n 0, 1) := by decide +kernel
theorem dX0_expandName_30 : decode cX0_expandName 30 = .ok (.getfield 9, 3) := by decide +kernel
theorem dX0_expandName_33 : decode cX0_expandName 33 = .ok (.iload_n 1, 1) := by decide +kernel
theorem dX0_expandName_34 : decode cX0_expandName 34 = .ok (.invokevirtual 59, 3) := by decide +kernel
theorem dX0_expandName_37 : decode cX0_expandName 37 = .ok (.invokevirtual 99, 3) := by decide +kernel
theorem dX0_expandName_40 : decode cX0_expandName 40 = .ok (.goto 34, 3) := by decide +kernel
theorem dX0_expandName_43 : decode cX0_expandName 43 = .ok (.iload_n 3, 1) := by decide +kernel
theorem dX0_expandName_44 : decode cX0_expandName 44 = .ok (.iconst 5, 1) := by decide +kernel
theorem dX0_expandName_45 : decode cX0_expandName 45 = .ok (.if_icmp .ne 21, 3) := by decide +kernel
theorem dX0_expandName_48 : decode cX0_expandName 48 = .ok (.aload_n 0, 1) := by decide +kernel
theorem dX0_expandName_49 : decode cX0_expandName 49 = .ok (.getfield 23, 3) := by decide +kernel
theorem dX0_expandName_52 : decode cX0_expandName 52 = .ok (.aload_n 0, 1) := by decide +kernel
theorem dX0_expandName_53 : decode cX0_expandName 53 = .ok (.getfield 19, 3) := by decide +kernel
theorem dX0_expandName_56 : decode cX0_expandName 56 = .ok (.iload_n 2, 1) := by decide +kernel
theorem dX0_expandName_57 : decode cX0_expandName 57 = .ok (.invokevirtual 102, 3) := by decide +kernel
theorem dX0_expandName_60 : decode cX0_expandName 60 = .ok (.invokevirtual 105, 3) := by decide +kernel
theorem dX0_expandName_63 : decode cX0_expandName 63 = .ok (.goto 11, 3) := by decide +kernel
theorem dX0_expandName_66 : decode cX0_expandName 66 = .ok (.aload_n 0, 1) := by decide +kernel
theorem dX0_expandName_67 : decode cX0_expandName 67 = .ok (.getfield 23, 3) := by decide +kernel
theorem dX0_expandName_70 : decode cX0_expandName 70 = .ok (.iconst 3, 1) := by decide +kernel
theorem dX0_expandName_71 : decode cX0_expandName 71 = .ok (.invokevirtual 83, 3) := by decide +kernel
theorem dX0_expandName_74 : decode cX0_expandName 74 = .ok (.return_, 1) := by decide +kernel
set_option maxRecDepth 20000 in
theorem ggX0_areNames_X5_plainLength : GoodIn wsX0_areNames wsX5_plainLength := goodIn_r _ [6, 7, 8, 9, 5, 10, 11, 12, 13, 14, 15, 16, 17, 18, 19, 20, 34, 35, 36, 37, 38, 39] (by decide +kernel) (by decide +kernel)
set_option maxRecDepth 20000 in
theorem gX0_areNames_X5_plainLength : GoodIn wsX0_areNames (wsV RX0 139 RX5 yX5_plainLength wsX5_plainLength) := goodIn_app (goodIn_of _ (by decide +kernel)) ggX0_areNames_X5_plainLength
set_option maxRecDepth 20000 in
theorem ggX0_areNames_X5_wordAt : GoodIn wsX0_areNames wsX5_wordAt := goodIn_r _ [10, 11, 12, 34, 35, 36, 37, 38, 39] (by decide +kernel) (by decide +kernel)
set_option maxRecDepth 20000 in
theorem gX0_areNames_X5_wordAt : GoodIn wsX0_areNames (wsV RX0 59 RX5 yX5_wordAt wsX5_wordAt) := goodIn_app (goodIn_of _ (by decide +kernel)) ggX0_areNames_X5_wordAt
set_option maxRecDepth 20000 in
theorem ggX0_areNames_X8_isName : GoodIn wsX0_areNames wsX8_isName := goodIn_r _ [24] (by decide +kernel) (by decide +kernel)
theorem dX0_areNames_0 : decode cX0_areNames 0 = .ok (.aload_n 0, 1) := by decide +kernel
theorem dX0_areNames_1 : decode cX0_areNames 1 = .ok (.getfield 9, 3) := by decide +kernel
theorem dX0_areNames_4 : decode cX0_areNames 4 = .ok (.iload_n 1, 1) := by decide +kernel
theorem dX0_areNames_5 : decode cX0_areNames 5 = .ok (.invokevirtual 139, 3) := by decide +kernel
theorem dX0_areNames_8 : decode cX0_areNames 8 = .ok (.istore_n 2, 1) := by decide +kernel
theorem dX0_areNames_9 : decode cX0_areNames 9 = .ok (.iconst 0, 1) := by decide +kernel
theorem dX0_areNames_10 : decode cX0_areNames 10 = .ok (.istore_n 3, 1) := by decide +kernel
theorem dX0_areNames_11 : decode cX0_areNames 11 = .ok (.iload_n 3, 1) := by decide +kernel
theorem dX0_areNames_12 : decode cX0_areNames 12 = .ok (.iload_n 2, 1) := by decide +kernel
theorem dX0_areNames_13 : decode cX0_areNames 13 = .ok (.if_icmp .ge 29, 3) := by decide +kernel
theorem dX0_areNames_16 : decode cX0_areNames 16 = .ok (.aload_n 0, 1) := by decide +kernel
theorem dX0_areNames_17 : decode cX0_areNames 17 = .ok (.getfield 9, 3) := by decide +kernel
theorem dX0_areNames_20 : decode cX0_areNames 20 = .ok (.iload_n 1, 1) := by decide +kernel
theorem dX0_areNames_21 : decode cX0_areNames 21 = .ok (.iconst 1, 1) := by decide +kernel
theorem dX0_areNames_22 : decode cX0_areNames 22 = .ok (.iadd, 1) := by decide +kernel
theorem dX0_areNames_23 : decode cX0_areNames 23 = .ok (.iload_n 3, 1) := by decide +kernel
theorem dX0_areNames_24 : decode cX0_areNames 24 = .ok (.iadd, 1) := by decide +kernel
theorem dX0_areNames_25 : decode cX0_areNames 25 = .ok (.invokevirtual 59, 3) := by decide +kernel
theorem dX0_areNames_28 : decode cX0_areNames 28 = .ok (.invokestatic 69, 3) := by decide +kernel
theorem dX0_areNames_31 : decode cX0_areNames 31 = .ok (.ifCond .ne 5, 3) := by decide +kernel
theorem dX0_areNames_34 : decode cX0_areNames 34 = .ok (.iconst 0, 1) := by decide +kernel
theorem dX0_areNames_35 : decode cX0_areNames 35 = .ok (.ireturn, 1) := by decide +kernel
theorem dX0_areNames_36 : decode cX0_areNames 36 = .ok (.iinc 3 1, 3) := by decide +kernel
theorem dX0_areNames_39 : decode cX0_areNames 39 = .ok (.goto (-28), 3) := by decide +kernel
theorem dX0_areNames_42 : decode cX0_areNames 42 = .ok (.iload_n 2, 1) := by decide +kernel
theorem dX0_areNames_43 : decode cX0_areNames 43 = .ok (.ifCond .lt 7, 3) := by decide +kernel
theorem dX0_areNames_46 : decode cX0_areNames 46 = .ok (.iconst 1, 1) := by decide +kernel
theorem dX0_areNames_47 : decode cX0_areNames 47 = .ok (.goto 4, 3) := by decide +kernel
theorem dX0_areNames_50 : decode cX0_areNames 50 = .ok (.iconst 0, 1) := by decide +kernel
theorem dX0_areNames_51 : decode cX0_areNames 51 = .ok (.ireturn, 1) := by decide +kernel
set_option maxRecDepth 20000 in
theorem ggX0_newScope_X2_fail : GoodIn wsX0_newScope wsX2_fail := goodIn_r _ [7, 8, 18, 19, 20] (by decide +kernel) (by decide +kernel)
set_option maxRecDepth 20000 in
theorem gX0_newScope_X2_fail : GoodIn wsX0_newScope (wsV RX0 83 RX2 yX2_fail wsX2_fail) := goodIn_app (goodIn_of _ (by decide +kernel)) ggX0_newScope_X2_fail
theorem dX0_newScope_0 : decode cX0_newScope 0 = .ok (.aload_n 0, 1) := by decide +kernel
theorem dX0_newScope_1 : decode cX0_newScope 1 = .ok (.getfield 36, 3) := by decide +kernel
theorem dX0_newScope_4 : decode cX0_newScope 4 = .ok (.bipush 30, 2) := by decide +kernel
theorem dX0_newScope_6 : decode cX0_newScope 6 = .ok (.if_icmp .lt 14, 3) := by decide +kernel
theorem dX0_newScope_9 : decode cX0_newScope 9 = .ok (.aload_n 0, 1) := by decide +kernel
theorem dX0_newScope_10 : decode cX0_newScope 10 = .ok (.getfield 23, 3) := by decide +kernel
theorem dX0_newScope_13 : decode cX0_newScope 13 = .ok (.bipush 6, 2) := by decide +kernel
theorem dX0_newScope_15 : decode cX0_newScope 15 = .ok (.invokevirtual 83, 3) := by decide +kernel
theorem dX0_newScope_18 : decode cX0_newScope 18 = .ok (.iconst (-1), 1) := by decide +kernel
theorem dX0_newScope_19 : decode cX0_newScope 19 = .ok (.ireturn, 1) := by decide +kernel
theorem dX0_newScope_20 : decode cX0_newScope 20 = .ok (.aload_n 0, 1) := by decide +kernel
theorem dX0_newScope_21 : decode cX0_newScope 21 = .ok (.dup, 1) := by decide +kernel
theorem dX0_newScope_22 : decode cX0_newScope 22 = .ok (.getfield 36, 3) := by decide +kernel
theorem dX0_newScope_25 : decode cX0_newScope 25 = .ok (.iconst 1, 1) := by decide +kernel
theorem dX0_newScope_26 : decode cX0_newScope 26 = .ok (.iadd, 1) := by decide +kernel
theorem dX0_newScope_27 : decode cX0_newScope 27 = .ok (.putfield 36, 3) := by decide +kernel
theorem dX0_newScope_30 : decode cX0_newScope 30 = .ok (.aload_n 0, 1) := by decide +kernel
theorem dX0_newScope_31 : decode cX0_newScope 31 = .ok (.getfield 36, 3) := by decide +kernel
theorem dX0_newScope_34 : decode cX0_newScope 34 = .ok (.iconst 1, 1) := by decide +kernel
theorem dX0_newScope_35 : decode cX0_newScope 35 = .ok (.isub, 1) := by decide +kernel
theorem dX0_newScope_36 : decode cX0_newScope 36 = .ok (.ireturn, 1) := by decide +kernel
theorem dX2_fail_0 : decode cX2_fail 0 = .ok (.aload_n 0, 1) := by decide +kernel
theorem dX2_fail_1 : decode cX2_fail 1 = .ok (.getfield 19, 3) := by decide +kernel
theorem dX2_fail_4 : decode cX2_fail 4 = .ok (.ifCond .ne 8, 3) := by decide +kernel
theorem dX2_fail_7 : decode cX2_fail 7 = .ok (.aload_n 0, 1) := by decide +kernel
theorem dX2_fail_8 : decode cX2_fail 8 = .ok (.iload_n 1, 1) := by decide +kernel
theorem dX2_fail_9 : decode cX2_fail 9 = .ok (.putfield 19, 3) := by decide +kernel
theorem dX2_fail_12 : decode cX2_fail 12 = .ok (.return_, 1) := by decide +kernel
theorem dX2_put_0 : decode cX2_put 0 = .ok (.aload_n 0, 1) := by decide +kernel
theorem dX2_put_1 : decode cX2_put 1 = .ok (.getfield 19, 3) := by decide +kernel
theorem dX2_put_4 : decode cX2_put 4 = .ok (.ifCond .eq 4, 3) := by decide +kernel
theorem dX2_put_7 : decode cX2_put 7 = .ok (.return_, 1) := by decide +kernel
theorem dX2_put_8 : decode cX2_put 8 = .ok (.aload_n 0, 1) := by decide +kernel
theorem dX2_put_9 : decode cX2_put 9 = .ok (.getfield 15, 3) := by decide +kernel
theorem dX2_put_12 : decode cX2_put 12 = .ok (.ifCond .lt 13, 3) := by decide +kernel
theorem dX2_put_15 : decode cX2_put 15 = .ok (.aload_n 0, 1) := by decide +kernel
theorem dX2_put_16 : decode cX2_put 16 = .ok (.getfield 15, 3) := by decide +kernel
theorem dX2_put_19 : decode cX2_put 19 = .ok (.sipush 200, 3) := by decide +kernel
theorem dX2_put_22 : decode cX2_put 22 = .ok (.if_icmp .lt 10, 3) := by decide +kernel
theorem dX2_put_25 : decode cX2_put 25 = .ok (.aload_n 0, 1) := by decide +kernel
theorem dX2_put_26 : decode cX2_put 26 = .ok (.bipush 6, 2) := by decide +kernel
theorem dX2_put_28 : decode cX2_put 28 = .ok (.putfield 19, 3) := by decide +kernel
theorem dX2_put_31 : decode cX2_put 31 = .ok (.return_, 1) := by decide +kernel
theorem dX2_put_32 : decode cX2_put 32 = .ok (.aload_n 0, 1) := by decide +kernel
theorem dX2_put_33 : decode cX2_put 33 = .ok (.getfield 9, 3) := by decide +kernel
theorem dX2_put_36 : decode cX2_put 36 = .ok (.aload_n 0, 1) := by decide +kernel
theorem dX2_put_37 : decode cX2_put 37 = .ok (.getfield 15, 3) := by decide +kernel
theorem dX2_put_40 : decode cX2_put 40 = .ok (.iload_n 1, 1) := by decide +kernel
theorem dX2_put_41 : decode cX2_put 41 = .ok (.iastore, 1) := by decide +kernel
theorem dX2_put_42 : decode cX2_put 42 = .ok (.aload_n 0, 1) := by decide +kernel
theorem dX2_put_43 : decode cX2_put 43 = .ok (.dup, 1) := by decide +kernel
theorem dX2_put_44 : decode cX2_put 44 = .ok (.getfield 15, 3) := by decide +kernel
theorem dX2_put_47 : decode cX2_put 47 = .ok (.iconst 1, 1) := by decide +kernel
theorem dX2_put_48 : decode cX2_put 48 = .ok (.iadd, 1) := by decide +kernel
theorem dX2_put_49 : decode cX2_put 49 = .ok (.putfield 15, 3) := by decide +kernel
theorem dX2_put_52 : decode cX2_put 52 = .ok (.return_, 1) := by decide +kernel
set_option maxRecDepth 20000 in
theorem ggX2_putName_X2_put : GoodIn wsX2_putName wsX2_put := goodIn_r _ [5, 6, 7, 8, 9, 10, 11] (by decide +kernel) (by decide +kernel)
set_option maxRecDepth 20000 in
theorem gX2_putName_X2_put : GoodIn wsX2_putName (wsV RX2 22 RX2 yX2_put wsX2_put) := goodIn_app (goodIn_of _ (by decide +kernel)) ggX2_putName_X2_put
theorem dX2_putName_0 : decode cX2_putName 0 = .ok (.bipush 16, 2) := by decide +kernel
theorem dX2_putName_2 : decode cX2_putName 2 = .ok (.istore_n 2, 1) := by decide +kernel
theorem dX2_putName_3 : decode cX2_putName 3 = .ok (.iload_n 2, 1) := by decide +kernel
theorem dX2_putName_4 : decode cX2_putName 4 = .ok (.ifCond .lt 29, 3) := by decide +kernel
theorem dX2_putName_7 : decode cX2_putName 7 = .ok (.iload_n 1, 1) := by decide +kernel
theorem dX2_putName_8 : decode cX2_putName 8 = .ok (.iload_n 2, 1) := by decide +kernel
theorem dX2_putName_9 : decode cX2_putName 9 = .ok (.ishr, 1) := by decide +kernel
theorem dX2_putName_10 : decode cX2_putName 10 = .ok (.sipush 255, 3) := by decide +kernel
theorem dX2_putName_13 : decode cX2_putName 13 = .ok (.if_icmp .le 14, 3) := by decide +kernel
theorem dX2_putName_16 : decode cX2_putName 16 = .ok (.aload_n 0, 1) := by decide +kernel
theorem dX2_putName_17 : decode cX2_putName 17 = .ok (.iload_n 1, 1) := by decide +kernel
theorem dX2_putName_18 : decode cX2_putName 18 = .ok (.iload_n 2, 1) := by decide +kernel
theorem dX2_putName_19 : decode cX2_putName 19 = .ok (.ishr, 1) := by decide +kernel
theorem dX2_putName_20 : decode cX2_putName 20 = .ok (.sipush 255, 3) := by decide +kernel
theorem dX2_putName_23 : decode cX2_putName 23 = .ok (.iand, 1) := by decide +kernel
theorem dX2_putName_24 : decode cX2_putName 24 = .ok (.invokevirtual 22, 3) := by decide +kernel
theorem dX2_putName_27 : decode cX2_putName 27 = .ok (.iinc 2 (-8), 3) := by decide +kernel
theorem dX2_putName_30 : decode cX2_putName 30 = .ok (.goto (-27), 3) := by decide +kernel
theorem dX2_putName_33 : decode cX2_putName 33 = .ok (.return_, 1) := by decide +kernel
set_option maxRecDepth 20000 in
theorem ggX2_putNumber_X2_put : GoodIn wsX2_putNumber wsX2_put := goodIn_r _ [5, 6, 7, 8, 9, 10, 11] (by decide +kernel) (by decide +kernel)
set_option maxRecDepth 20000 in
theorem gX2_putNumber_X2_put : GoodIn wsX2_putNumber (wsV RX2 22 RX2 yX2_put wsX2_put) := goodIn_app (goodIn_of _ (by decide +kernel)) ggX2_putNumber_X2_put
theorem dX2_putNumber_0 : decode cX2_putNumber 0 = .ok (.iload_n 1, 1) := by decide +kernel
theorem dX2_putNumber_1 : decode cX2_putNumber 1 = .ok (.bipush 9, 2) := by decide +kernel
theorem dX2_putNumber_3 : decode cX2_putNumber 3 = .ok (.if_icmp .le 14, 3) := by decide +kernel
theorem dX2_putNumber_6 : decode cX2_putNumber 6 = .ok (.aload_n 0, 1) := by decide +kernel
theorem dX2_putNumber_7 : decode cX2_putNumber 7 = .ok (.bipush 48, 2) := by decide +kernel
theorem dX2_putNumber_9 : decode cX2_putNumber 9 = .ok (.iload_n 1, 1) := by decide +kernel
theorem dX2_putNumber_10 : decode cX2_putNumber 10 = .ok (.bipush 10, 2) := by decide +kernel
theorem dX2_putNumber_12 : decode cX2_putNumber 12 = .ok (.idiv, 1) := by decide +kernel
theorem dX2_putNumber_13 : decode cX2_putNumber 13 = .ok (.iadd, 1) := by decide +kernel
theorem dX2_putNumber_14 : decode cX2_putNumber 14 = .ok (.invokevirtual 22, 3) := by decide +kernel
theorem dX2_putNumber_17 : decode cX2_putNumber 17 = .ok (.aload_n 0, 1) := by decide +kernel
theorem dX2_putNumber_18 : decode cX2_putNumber 18 = .ok (.bipush 48, 2) := by decide +kernel
theorem dX2_putNumber_20 : decode cX2_putNumber 20 = .ok (.iload_n 1, 1) := by decide +kernel
theorem dX2_putNumber_21 : decode cX2_putNumber 21 = .ok (.bipush 10, 2) := by decide +kernel
theorem dX2_putNumber_23 : decode cX2_putNumber 23 = .ok (.irem, 1) := by decide +kernel
theorem dX2_putNumber_24 : decode cX2_putNumber 24 = .ok (.iadd, 1) := by decide +kernel
theorem dX2_putNumber_25 : decode cX2_putNumber 25 = .ok (.invokevirtual 22, 3) := by decide +kernel
theorem dX2_putNumber_28 : decode cX2_putNumber 28 = .ok (.return_, 1) := by decide +kernel
set_option maxRecDepth 20000 in
theorem ggX2_putVariable_X2_put : GoodIn wsX2_putVariable wsX2_put := goodIn_r _ [5, 6, 7, 8, 13, 14, 15] (by decide +kernel) (by decide +kernel)
set_option maxRecDepth 20000 in
theorem gX2_putVariable_X2_put : GoodIn wsX2_putVariable (wsV RX2 22 RX2 yX2_put wsX2_put) := goodIn_app (goodIn_of _ (by decide +kernel)) ggX2_putVariable_X2_put
set_option maxRecDepth 20000 in
theorem ggX2_putVariable_X2_putNumber : GoodIn wsX2_putVariable wsX2_putNumber := goodIn_r _ [12, 1, 2, 3, 4, 5, 6, 7, 8, 13, 14, 15] (by decide +kernel) (by decide +kernel)
set_option maxRecDepth 20000 in
theorem gX2_putVariable_X2_putNumber : GoodIn wsX2_putVariable (wsV RX2 26 RX2 yX2_putNumber wsX2_putNumber) := goodIn_app (goodIn_of _ (by decide +kernel)) ggX2_putVariable_X2_putNumber
theorem dX2_putVariable_0 : decode cX2_putVariable 0 = .ok (.aload_n 0, 1) := by decide +kernel
theorem dX2_putVariable_1 : decode cX2_putVariable 1 = .ok (.bipush 118, 2) := by decide +kernel
theorem dX2_putVariable_3 : decode cX2_putVariable 3 = .ok (.invokevirtual 22, 3) := by decide +kernel
theorem dX2_putVariable_6 : decode cX2_putVariable 6 = .ok (.aload_n 0, 1) := by decide +kernel
theorem dX2_putVariable_7 : decode cX2_putVariable 7 = .ok (.iload_n 1, 1) := by decide +kernel
theorem dX2_putVariable_8 : decode cX2_putVariable 8 = .ok (.invokevirtual 26, 3) := by decide +kernel
theorem dX2_putVariable_11 : decode cX2_putVariable 11 = .ok (.return_, 1) := by decide +kernel
theorem dX5_wordAt_0 : decode cX5_wordAt 0 = .ok (.iload_n 1, 1) := by decide +kernel
theorem dX5_wordAt_1 : decode cX5_wordAt 1 = .ok (.ifCond .lt 27, 3) := by decide +kernel
theorem dX5_wordAt_4 : decode cX5_wordAt 4 = .ok (.iload_n 1, 1) := by decide +kernel
theorem dX5_wordAt_5 : decode cX5_wordAt 5 = .ok (.aload_n 0, 1) := by decide +kernel
theorem dX5_wordAt_6 : decode cX5_wordAt 6 = .ok (.getfield 24, 3) := by decide +kernel
theorem dX5_wordAt_9 : decode cX5_wordAt 9 = .ok (.if_icmp .ge 19, 3) := by decide +kernel
theorem dX5_wordAt_12 : decode cX5_wordAt 12 = .ok (.iload_n 1, 1) := by decide +kernel
theorem dX5_wordAt_13 : decode cX5_wordAt 13 = .ok (.sipush 3000, 3) := by decide +kernel
theorem dX5_wordAt_16 : decode cX5_wordAt 16 = .ok (.if_icmp .ge 12, 3) := by decide +kernel
theorem dX5_wordAt_19 : decode cX5_wordAt 19 = .ok (.aload_n 0, 1) := by decide +kernel
theorem dX5_wordAt_20 : decode cX5_wordAt 20 = .ok (.getfield 9, 3) := by decide +kernel
theorem dX5_wordAt_23 : decode cX5_wordAt 23 = .ok (.iload_n 1, 1) := by decide +kernel
theorem dX5_wordAt_24 : decode cX5_wordAt 24 = .ok (.iaload, 1) := by decide +kernel
theorem dX5_wordAt_25 : decode cX5_wordAt 25 = .ok (.goto 5, 3) := by decide +kernel
theorem dX5_wordAt_28 : decode cX5_wordAt 28 = .ok (.bipush (-2), 2) := by decide +kernel
theorem dX5_wordAt_30 : decode cX5_wordAt 30 = .ok (.ireturn, 1) := by decide +kernel
theorem dX5_marksAt_0 : decode cX5_marksAt 0 = .ok (.iload_n 1, 1) := by decide +kernel
theorem dX5_marksAt_1 : decode cX5_marksAt 1 = .ok (.ifCond .lt 27, 3) := by decide +kernel
theorem dX5_marksAt_4 : decode cX5_marksAt 4 = .ok (.iload_n 1, 1) := by decide +kernel
theorem dX5_marksAt_5 : decode cX5_marksAt 5 = .ok (.aload_n 0, 1) := by decide +kernel
theorem dX5_marksAt_6 : decode cX5_marksAt 6 = .ok (.getfield 24, 3) := by decide +kernel
theorem dX5_marksAt_9 : decode cX5_marksAt 9 = .ok (.if_icmp .ge 19, 3) := by decide +kernel
theorem dX5_marksAt_12 : decode cX5_marksAt 12 = .ok (.iload_n 1, 1) := by decide +kernel
theorem dX5_marksAt_13 : decode cX5_marksAt 13 = .ok (.sipush 3000, 3) := by decide +kernel
theorem dX5_marksAt_16 : decode cX5_marksAt 16 = .ok (.if_icmp .ge 12, 3) := by decide +kernel
theorem dX5_marksAt_19 : decode cX5_marksAt 19 = .ok (.aload_n 0, 1) := by decide +kernel
theorem dX5_marksAt_20 : decode cX5_marksAt 20 = .ok (.getfield 15, 3) := by decide +kernel
theorem dX5_marksAt_23 : decode cX5_marksAt 23 = .ok (.iload_n 1, 1) := by decide +kernel
theorem dX5_marksAt_24 : decode cX5_marksAt 24 = .ok (.iaload, 1) := by decide +kernel
theorem dX5_marksAt_25 : decode cX5_marksAt 25 = .ok (.goto 4, 3) := by decide +kernel
theorem dX5_marksAt_28 : decode cX5_marksAt 28 = .ok (.iconst 0, 1) := by decide +kernel
theorem dX5_marksAt_29 : decode cX5_marksAt 29 = .ok (.ireturn, 1) := by decide +kernel
theorem dX5_after_0 : decode cX5_after 0 = .ok (.iload_n 1, 1) := by decide +kernel
theorem dX5_after_1 : decode cX5_after 1 = .ok (.ifCond .lt 39, 3) := by decide +kernel
theorem dX5_after_4 : decode cX5_after 4 = .ok (.iload_n 1, 1) := by decide +kernel
theorem dX5_after_5 : decode cX5_after 5 = .ok (.aload_n 0, 1) := by decide +kernel
theorem dX5_after_6 : decode cX5_after 6 = .ok (.getfield 24, 3) := by decide +kernel
theorem dX5_after_9 : decode cX5_after 9 = .ok (.if_icmp .ge 31, 3) := by decide +kernel
theorem dX5_after_12 : decode cX5_after 12 = .ok (.iload_n 1, 1) := by decide +kernel
theorem dX5_after_13 : decode cX5_after 13 = .ok (.sipush 3000, 3) := by decide +kernel
theorem dX5_after_16 : decode cX5_after 16 = .ok (.if_icmp .ge 24, 3) := by decide +kernel
theorem dX5_after_19 : decode cX5_after 19 = .ok (.aload_n 0, 1) := by decide +kernel
theorem dX5_after_20 : decode cX5_after 20 = .ok (.getfield 18, 3) := by decide +kernel
theorem dX5_after_23 : decode cX5_after 23 = .ok (.iload_n 1, 1) := by decide +kernel
theorem dX5_after_24 : decode cX5_after 24 = .ok (.iaload, 1) := by decide +kernel
theorem dX5_after_25 : decode cX5_after 25 = .ok (.iconst 1, 1) := by decide +kernel
theorem dX5_after_26 : decode cX5_after 26 = .ok (.if_icmp .le 14, 3) := by decide +kernel
theorem dX5_after_29 : decode cX5_after 29 = .ok (.iload_n 1, 1) := by decide +kernel
theorem dX5_after_30 : decode cX5_after 30 = .ok (.aload_n 0, 1) := by decide +kernel
theorem dX5_after_31 : decode cX5_after 31 = .ok (.getfield 18, 3) := by decide +kernel
theorem dX5_after_34 : decode cX5_after 34 = .ok (.iload_n 1, 1) := by decide +kernel
theorem dX5_after_35 : decode cX5_after 35 = .ok (.iaload, 1) := by decide +kernel
theorem dX5_after_36 : decode cX5_after 36 = .ok (.iadd, 1) := by decide +kernel
theorem dX5_after_37 : decode cX5_after 37 = .ok (.goto 6, 3) := by decide +kernel
theorem dX5_after_40 : decode cX5_after 40 = .ok (.iload_n 1, 1) := by decide +kernel
theorem dX5_after_41 : decode cX5_after 41 = .ok (.iconst 1, 1) := by decide +kernel
theorem dX5_after_42 : decode cX5_after 42 = .ok (.iadd, 1) := by decide +kernel
theorem dX5_after_43 : decode cX5_after 43 = .ok (.ireturn, 1) := by decide +kernel
theorem dX5_itemsFrom_0 : decode cX5_itemsFrom 0 = .ok (.iconst 0, 1) := by decide +kernel
theorem dX5_itemsFrom_1 : decode cX5_itemsFrom 1 = .ok (.istore_n 2, 1) := by decide +kernel
theorem dX5_itemsFrom_2 : decode cX5_itemsFrom 2 = .ok (.iconst 0, 1) := by decide +kernel
theorem dX5_itemsFrom_3 : decode cX5_itemsFrom 3 = .ok (.istore_n 3, 1) := by decide +kernel
theorem dX5_itemsFrom_4 : decode cX5_itemsFrom 4 = .ok (.iload_n 1, 1) := by decide +kernel
theorem dX5_itemsFrom_5 : decode cX5_itemsFrom 5 = .ok (.ifCond .ge 7, 3) := by decide +kernel
theorem dX5_itemsFrom_8 : decode cX5_itemsFrom 8 = .ok (.iconst 0, 1) := by decide +kernel
theorem dX5_itemsFrom_9 : decode cX5_itemsFrom 9 = .ok (.goto 4, 3) := by decide +kernel
theorem dX5_itemsFrom_12 : decode cX5_itemsFrom 12 = .ok (.iload_n 1, 1) := by decide +kernel
theorem dX5_itemsFrom_13 : decode cX5_itemsFrom 13 = .ok (.istore 4, 2) := by decide +kernel
theorem dX5_itemsFrom_15 : decode cX5_itemsFrom 15 = .ok (.iload 4, 2) := by decide +kernel
theorem dX5_itemsFrom_17 : decode cX5_itemsFrom 17 = .ok (.aload_n 0, 1) := by decide +kernel
theorem dX5_itemsFrom_18 : decode cX5_itemsFrom 18 = .ok (.getfield 24, 3) := by decide +kernel
theorem dX5_itemsFrom_21 : decode cX5_itemsFrom 21 = .ok (.if_icmp .ge 70, 3) := by decide +kernel
theorem dX5_itemsFrom_24 : decode cX5_itemsFrom 24 = .ok (.iload 4, 2) := by decide +kernel
theorem dX5_itemsFrom_26 : decode cX5_itemsFrom 26 = .ok (.sipush 3000, 3) := by decide +kernel
theorem dX5_itemsFrom_29 : decode cX5_itemsFrom 29 = .ok (.if_icmp .ge 62, 3) := by decide +kernel
theorem dX5_itemsFrom_32 : decode cX5_itemsFrom 32 = .ok (.iload_n 3, 1) := by decide +kernel
theorem dX5_itemsFrom_33 : decode cX5_itemsFrom 33 = .ok (.ifCond .lt 58, 3) := by decide +kernel
theorem dX5_itemsFrom_36 : decode cX5_itemsFrom 36 = .ok (.aload_n 0, 1) := by decide +kernel
theorem dX5_itemsFrom_37 : decode cX5_itemsFrom 37 = .ok (.getfield 9, 3) := by decide +kernel
theorem dX5_itemsFrom_40 : decode cX5_itemsFrom 40 = .ok (.iload 4, 2) := by decide +kernel
theorem dX5_itemsFrom_42 : decode cX5_itemsFrom 42 = .ok (.iaload, 1) := by decide +kernel
theorem dX5_itemsFrom_43 : decode cX5_itemsFrom 43 = .ok (.bipush (-2), 2) := by decide +kernel
theorem dX5_itemsFrom_45 : decode cX5_itemsFrom 45 = .ok (.if_icmp .ne 9, 3) := by decide +kernel
theorem dX5_itemsFrom_48 : decode cX5_itemsFrom 48 = .ok (.iinc 3 (-1), 3) := by decide +kernel
theorem dX5_itemsFrom_51 : decode cX5_itemsFrom 51 = .ok (.goto 34, 3) := by decide +kernel
theorem dX5_itemsFrom_54 : decode cX5_itemsFrom 54 = .ok (.iload_n 2, 1) := by decide +kernel
theorem dX5_itemsFrom_55 : decode cX5_itemsFrom 55 = .ok (.iload_n 3, 1) := by decide +kernel
theorem dX5_itemsFrom_56 : decode cX5_itemsFrom 56 = .ok (.ifCond .ne 7, 3) := by decide +kernel
theorem dX5_itemsFrom_59 : decode cX5_itemsFrom 59 = .ok (.iconst 1, 1) := by decide +kernel
theorem dX5_itemsFrom_60 : decode cX5_itemsFrom 60 = .ok (.goto 4, 3) := by decide +kernel
theorem dX5_itemsFrom_63 : decode cX5_itemsFrom 63 = .ok (.iconst 0, 1) := by decide +kernel
theorem dX5_itemsFrom_64 : decode cX5_itemsFrom 64 = .ok (.iadd, 1) := by decide +kernel
theorem dX5_itemsFrom_65 : decode cX5_itemsFrom 65 = .ok (.istore_n 2, 1) := by decide +kernel
theorem dX5_itemsFrom_66 : decode cX5_itemsFrom 66 = .ok (.iload_n 3, 1) := by decide +kernel
theorem dX5_itemsFrom_67 : decode cX5_itemsFrom 67 = .ok (.aload_n 0, 1) := by decide +kernel
theorem dX5_itemsFrom_68 : decode cX5_itemsFrom 68 = .ok (.getfield 9, 3) := by decide +kernel
theorem dX5_itemsFrom_71 : decode cX5_itemsFrom 71 = .ok (.iload 4, 2) := by decide +kernel
theorem dX5_itemsFrom_73 : decode cX5_itemsFrom 73 = .ok (.iaload, 1) := by decide +kernel
theorem dX5_itemsFrom_74 : decode cX5_itemsFrom 74 = .ok (.iconst (-1), 1) := by decide +kernel
theorem dX5_itemsFrom_75 : decode cX5_itemsFrom 75 = .ok (.if_icmp .ne 7, 3) := by decide +kernel
theorem dX5_itemsFrom_78 : decode cX5_itemsFrom 78 = .ok (.iconst 1, 1) := by decide +kernel
theorem dX5_itemsFrom_79 : decode cX5_itemsFrom 79 = .ok (.goto 4, 3) := by decide +kernel
theorem dX5_itemsFrom_82 : decode cX5_itemsFrom 82 = .ok (.iconst 0, 1) := by decide +kernel
theorem dX5_itemsFrom_83 : decode cX5_itemsFrom 83 = .ok (.iadd, 1) := by decide +kernel
theorem dX5_itemsFrom_84 : decode cX5_itemsFrom 84 = .ok (.istore_n 3, 1) := by decide +kernel
theorem dX5_itemsFrom_85 : decode cX5_itemsFrom 85 = .ok (.iinc 4 1, 3) := by decide +kernel
theorem dX5_itemsFrom_88 : decode cX5_itemsFrom 88 = .ok (.goto (-73), 3) := by decide +kernel
theorem dX5_itemsFrom_91 : decode cX5_itemsFrom 91 = .ok (.iload_n 2, 1) := by decide +kernel
theorem dX5_itemsFrom_92 : decode cX5_itemsFrom 92 = .ok (.ireturn, 1) := by decide +kernel
theorem dX5_hasDots_0 : decode cX5_hasDots 0 = .ok (.iconst 0, 1) := by decide +kernel
theorem dX5_hasDots_1 : decode cX5_hasDots 1 = .ok (.istore_n 2, 1) := by decide +kernel
theorem dX5_hasDots_2 : decode cX5_hasDots 2 = .ok (.iload_n 1, 1) := by decide +kernel
theorem dX5_hasDots_3 : decode cX5_hasDots 3 = .ok (.ifCond .ge 7, 3) := by decide +kernel
theorem dX5_hasDots_6 : decode cX5_hasDots 6 = .ok (.iconst 0, 1) := by decide +kernel
theorem dX5_hasDots_7 : decode cX5_hasDots 7 = .ok (.goto 6, 3) := by decide +kernel
theorem dX5_hasDots_10 : decode cX5_hasDots 10 = .ok (.iload_n 1, 1) := by decide +kernel
theorem dX5_hasDots_11 : decode cX5_hasDots 11 = .ok (.iconst 1, 1) := by decide +kernel
theorem dX5_hasDots_12 : decode cX5_hasDots 12 = .ok (.iadd, 1) := by decide +kernel
theorem dX5_hasDots_13 : decode cX5_hasDots 13 = .ok (.istore_n 3, 1) := by decide +kernel
theorem dX5_hasDots_14 : decode cX5_hasDots 14 = .ok (.iload_n 3, 1) := by decide +kernel
theorem dX5_hasDots_15 : decode cX5_hasDots 15 = .ok (.aload_n 0, 1) := by decide +kernel
theorem dX5_hasDots_16 : decode cX5_hasDots 16 = .ok (.getfield 24, 3) := by decide +kernel
theorem dX5_hasDots_19 : decode cX5_hasDots 19 = .ok (.if_icmp .ge 70, 3) := by decide +kernel
theorem dX5_hasDots_22 : decode cX5_hasDots 22 = .ok (.iload_n 3, 1) := by decide +kernel
theorem dX5_hasDots_23 : decode cX5_hasDots 23 = .ok (.sipush 3000, 3) := by decide +kernel
theorem dX5_hasDots_26 : decode cX5_hasDots 26 = .ok (.if_icmp .ge 63, 3) := by decide +kernel
theorem dX5_hasDots_29 : decode cX5_hasDots 29 = .ok (.iload_n 2, 1) := by decide +kernel
theorem dX5_hasDots_30 : decode cX5_hasDots 30 = .ok (.ifCond .lt 59, 3) := by decide +kernel
theorem dX5_hasDots_33 : decode cX5_hasDots 33 = .ok (.aload_n 0, 1) := by decide +kernel
theorem dX5_hasDots_34 : decode cX5_hasDots 34 = .ok (.getfield 9, 3) := by decide +kernel
theorem dX5_hasDots_37 : decode cX5_hasDots 37 = .ok (.iload_n 3, 1) := by decide +kernel
theorem dX5_hasDots_38 : decode cX5_hasDots 38 = .ok (.iaload, 1) := by decide +kernel
theorem dX5_hasDots_39 : decode cX5_hasDots 39 = .ok (.bipush (-3), 2) := by decide +kernel
theorem dX5_hasDots_41 : decode cX5_hasDots 41 = .ok (.if_icmp .ne 9, 3) := by decide +kernel
theorem dX5_hasDots_44 : decode cX5_hasDots 44 = .ok (.iload_n 2, 1) := by decide +kernel
theorem dX5_hasDots_45 : decode cX5_hasDots 45 = .ok (.ifCond .ne 5, 3) := by decide +kernel
theorem dX5_hasDots_48 : decode cX5_hasDots 48 = .ok (.iconst 1, 1) := by decide +kernel
theorem dX5_hasDots_49 : decode cX5_hasDots 49 = .ok (.ireturn, 1) := by decide +kernel
theorem dX5_hasDots_50 : decode cX5_hasDots 50 = .ok (.iload_n 2, 1) := by decide +kernel
theorem dX5_hasDots_51 : decode cX5_hasDots 51 = .ok (.aload_n 0, 1) := by decide +kernel
theorem dX5_hasDots_52 : decode cX5_hasDots 52 = .ok (.getfield 9, 3) := by decide +kernel
theorem dX5_hasDots_55 : decode cX5_hasDots 55 = .ok (.iload_n 3, 1) := by decide +kernel
theorem dX5_hasDots_56 : decode cX5_hasDots 56 = .ok (.iaload, 1) := by decide +kernel
theorem dX5_hasDots_57 : decode cX5_hasDots 57 = .ok (.iconst (-1), 1) := by decide +kernel
theorem dX5_hasDots_58 : decode cX5_hasDots 58 = .ok (.if_icmp .ne 7, 3) := by decide +kernel
theorem dX5_hasDots_61 : decode cX5_hasDots 61 = .ok (.iconst 1, 1) := by decide +kernel
theorem dX5_hasDots_62 : decode cX5_hasDots 62 = .ok (.goto 19, 3) := by decide +kernel
theorem dX5_hasDots_65 : decode cX5_hasDots 65 = .ok (.aload_n 0, 1) := by decide +kernel
theorem dX5_hasDots_66 : decode cX5_hasDots 66 = .ok (.getfield 9, 3) := by decide +kernel
theorem dX5_hasDots_69 : decode cX5_hasDots 69 = .ok (.iload_n 3, 1) := by decide +kernel
theorem dX5_hasDots_70 : decode cX5_hasDots 70 = .ok (.iaload, 1) := by decide +kernel
theorem dX5_hasDots_71 : decode cX5_hasDots 71 = .ok (.bipush (-2), 2) := by decide +kernel
theorem dX5_hasDots_73 : decode cX5_hasDots 73 = .ok (.if_icmp .ne 7, 3) := by decide +kernel
theorem dX5_hasDots_76 : decode cX5_hasDots 76 = .ok (.iconst (-1), 1) := by decide +kernel
theorem dX5_hasDots_77 : decode cX5_hasDots 77 = .ok (.goto 4, 3) := by decide +kernel
theorem dX5_hasDots_80 : decode cX5_hasDots 80 = .ok (.iconst 0, 1) := by decide +kernel
theorem dX5_hasDots_81 : decode cX5_hasDots 81 = .ok (.iadd, 1) := by decide +kernel
theorem dX5_hasDots_82 : decode cX5_hasDots 82 = .ok (.istore_n 2, 1) := by decide +kernel
theorem dX5_hasDots_83 : decode cX5_hasDots 83 = .ok (.iinc 3 1, 3) := by decide +kernel
theorem dX5_hasDots_86 : decode cX5_hasDots 86 = .ok (.goto (-72), 3) := by decide +kernel
theorem dX5_hasDots_89 : decode cX5_hasDots 89 = .ok (.iconst 0, 1) := by decide +kernel
theorem dX5_hasDots_90 : decode cX5_hasDots 90 = .ok (.ireturn, 1) := by decide +kernel
set_option maxRecDepth 20000 in
theorem ggX5_plainLength_X5_wordAt : GoodIn wsX5_plainLength wsX5_wordAt := goodIn_r _ [5, 6, 7, 16, 17, 18, 19, 20, 21] (by decide +kernel) (by decide +kernel)
set_option maxRecDepth 20000 in
theorem gX5_plainLength_X5_wordAt : GoodIn wsX5_plainLength (wsV RX5 34 RX5 yX5_wordAt wsX5_wordAt) := goodIn_app (goodIn_of _ (by decide +kernel)) ggX5_plainLength_X5_wordAt
set_option maxRecDepth 20000 in
theorem ggX5_plainLength_X5_hasDots : GoodIn wsX5_plainLength wsX5_hasDots := goodIn_r _ [11, 6, 7, 16, 17, 18, 19, 20, 21] (by decide +kernel) (by decide +kernel)
set_option maxRecDepth 20000 in
theorem gX5_plainLength_X5_hasDots : GoodIn wsX5_plainLength (wsV RX5 38 RX5 yX5_hasDots wsX5_hasDots) := goodIn_app (goodIn_of _ (by decide +kernel)) ggX5_plainLength_X5_hasDots
set_option maxRecDepth 20000 in
theorem ggX5_plainLength_X5_itemsFrom : GoodIn wsX5_plainLength wsX5_itemsFrom := goodIn_r _ [15, 6, 7, 16, 17, 18, 19, 20, 21] (by decide +kernel) (by decide +kernel)
set_option maxRecDepth 20000 in
theorem gX5_plainLength_X5_itemsFrom : GoodIn wsX5_plainLength (wsV RX5 42 RX5 yX5_itemsFrom wsX5_itemsFrom) := goodIn_app (goodIn_of _ (by decide +kernel)) ggX5_plainLength_X5_itemsFrom
theorem dX5_plainLength_0 : decode cX5_plainLength 0 = .ok (.aload_n 0, 1) := by decide +kernel
theorem dX5_plainLength_1 : decode cX5_plainLength 1 = .ok (.iload_n 1, 1) := by decide +kernel
theorem dX5_plainLength_2 : decode cX5_plainLength 2 = .ok (.invokevirtual 34, 3) := by decide +kernel
theorem dX5_plainLength_5 : decode cX5_plainLength 5 = .ok (.iconst (-1), 1) := by decide +kernel
theorem dX5_plainLength_6 : decode cX5_plainLength 6 = .ok (.if_icmp .ne 11, 3) := by decide +kernel
theorem dX5_plainLength_9 : decode cX5_plainLength 9 = .ok (.aload_n 0, 1) := by decide +kernel
theorem dX5_plainLength_10 : decode cX5_plainLength 10 = .ok (.iload_n 1, 1) := by decide +kernel
theorem dX5_plainLength_11 : decode cX5_plainLength 11 = .ok (.invokevirtual 38, 3) := by decide +kernel
theorem dX5_plainLength_14 : decode cX5_plainLength 14 = .ok (.ifCond .eq 7, 3) := by decide +kernel
theorem dX5_plainLength_17 : decode cX5_plainLength 17 = .ok (.iconst (-1), 1) := by decide +kernel
theorem dX5_plainLength_18 : decode cX5_plainLength 18 = .ok (.goto 10, 3) := by decide +kernel
theorem dX5_plainLength_21 : decode cX5_plainLength 21 = .ok (.aload_n 0, 1) := by decide +kernel
theorem dX5_plainLength_22 : decode cX5_plainLength 22 = .ok (.iload_n 1, 1) := by decide +kernel
theorem dX5_plainLength_23 : decode cX5_plainLength 23 = .ok (.iconst 1, 1) := by decide +kernel
theorem dX5_plainLength_24 : decode cX5_plainLength 24 = .ok (.iadd, 1) := by decide +kernel
theorem dX5_plainLength_25 : decode cX5_plainLength 25 = .ok (.invokevirtual 42, 3) := by decide +kernel
theorem dX5_plainLength_28 : decode cX5_plainLength 28 = .ok (.ireturn, 1) := by decide +kernel
theorem dX5_findName_0 : decode cX5_findName 0 = .ok (.iload_n 3, 1) := by decide +kernel
theorem dX5_findName_1 : decode cX5_findName 1 = .ok (.ifCond .lt 30, 3) := by decide +kernel
theorem dX5_findName_4 : decode cX5_findName 4 = .ok (.iload_n 3, 1) := by decide +kernel
theorem dX5_findName_5 : decode cX5_findName 5 = .ok (.aload_n 0, 1) := by decide +kernel
theorem dX5_findName_6 : decode cX5_findName 6 = .ok (.getfield 24, 3) := by decide +kernel
theorem dX5_findName_9 : decode cX5_findName 9 = .ok (.if_icmp .ge 22, 3) := by decide +kernel
theorem dX5_findName_12 : decode cX5_findName 12 = .ok (.iload_n 3, 1) := by decide +kernel
theorem dX5_findName_13 : decode cX5_findName 13 = .ok (.sipush 3000, 3) := by decide +kernel
theorem dX5_findName_16 : decode cX5_findName 16 = .ok (.if_icmp .ge 15, 3) := by decide +kernel
theorem dX5_findName_19 : decode cX5_findName 19 = .ok (.aload_n 0, 1) := by decide +kernel
theorem dX5_findName_20 : decode cX5_findName 20 = .ok (.getfield 9, 3) := by decide +kernel
theorem dX5_findName_23 : decode cX5_findName 23 = .ok (.iload_n 3, 1) := by decide +kernel
theorem dX5_findName_24 : decode cX5_findName 24 = .ok (.iaload, 1) := by decide +kernel
theorem dX5_findName_25 : decode cX5_findName 25 = .ok (.sipush 255, 3) := by decide +kernel
theorem dX5_findName_28 : decode cX5_findName 28 = .ok (.if_icmp .gt 5, 3) := by decide +kernel
theorem dX5_findName_31 : decode cX5_findName 31 = .ok (.iconst (-1), 1) := by decide +kernel
theorem dX5_findName_32 : decode cX5_findName 32 = .ok (.ireturn, 1) := by decide +kernel
theorem dX5_findName_33 : decode cX5_findName 33 = .ok (.iload_n 1, 1) := by decide +kernel
theorem dX5_findName_34 : decode cX5_findName 34 = .ok (.ifCond .ge 7, 3) := by decide +kernel
theorem dX5_findName_37 : decode cX5_findName 37 = .ok (.iconst 0, 1) := by decide +kernel
theorem dX5_findName_38 : decode cX5_findName 38 = .ok (.goto 4, 3) := by decide +kernel
theorem dX5_findName_41 : decode cX5_findName 41 = .ok (.iload_n 1, 1) := by decide +kernel
theorem dX5_findName_42 : decode cX5_findName 42 = .ok (.istore 4, 2) := by decide +kernel
theorem dX5_findName_44 : decode cX5_findName 44 = .ok (.iload 4, 2) := by decide +kernel
theorem dX5_findName_46 : decode cX5_findName 46 = .ok (.iload_n 2, 1) := by decide +kernel
theorem dX5_findName_47 : decode cX5_findName 47 = .ok (.if_icmp .ge 61, 3) := by decide +kernel
theorem dX5_findName_50 : decode cX5_findName 50 = .ok (.iload 4, 2) := by decide +kernel
theorem dX5_findName_52 : decode cX5_findName 52 = .ok (.aload_n 0, 1) := by decide +kernel
theorem dX5_findName_53 : decode cX5_findName 53 = .ok (.getfield 24, 3) := by decide +kernel
theorem dX5_findName_56 : decode cX5_findName 56 = .ok (.if_icmp .ge 52, 3) := by decide +kernel
theorem dX5_findName_59 : decode cX5_findName 59 = .ok (.iload 4, 2) := by decide +kernel
theorem dX5_findName_61 : decode cX5_findName 61 = .ok (.sipush 3000, 3) := by decide +kernel
theorem dX5_findName_64 : decode cX5_findName 64 = .ok (.if_icmp .ge 44, 3) := by decide +kernel
theorem dX5_findName_67 : decode cX5_findName 67 = .ok (.aload_n 0, 1) := by decide +kernel
theorem dX5_findName_68 : decode cX5_findName 68 = .ok (.getfield 9, 3) := by decide +kernel
theorem dX5_findName_71 : decode cX5_findName 71 = .ok (.iload 4, 2) := by decide +kernel
theorem dX5_findName_73 : decode cX5_findName 73 = .ok (.iaload, 1) := by decide +kernel
theorem dX5_findName_74 : decode cX5_findName 74 = .ok (.aload_n 0, 1) := by decide +kernel
theorem dX5_findName_75 : decode cX5_findName 75 = .ok (.getfield 9, 3) := by decide +kernel
theorem dX5_findName_78 : decode cX5_findName 78 = .ok (.iload_n 3, 1) := by decide +kernel
theorem dX5_findName_79 : decode cX5_findName 79 = .ok (.iaload, 1) := by decide +kernel
theorem dX5_findName_80 : decode cX5_findName 80 = .ok (.if_icmp .ne 22, 3) := by decide +kernel
theorem dX5_findName_83 : decode cX5_findName 83 = .ok (.aload_n 0, 1) := by decide +kernel
theorem dX5_findName_84 : decode cX5_findName 84 = .ok (.getfield 15, 3) := by decide +kernel
theorem dX5_findName_87 : decode cX5_findName 87 = .ok (.iload 4, 2) := by decide +kernel
theorem dX5_findName_89 : decode cX5_findName 89 = .ok (.iaload, 1) := by decide +kernel
theorem dX5_findName_90 : decode cX5_findName 90 = .ok (.aload_n 0, 1) := by decide +kernel
theorem dX5_findName_91 : decode cX5_findName 91 = .ok (.getfield 15, 3) := by decide +kernel
theorem dX5_findName_94 : decode cX5_findName 94 = .ok (.iload_n 3, 1) := by decide +kernel
theorem dX5_findName_95 : decode cX5_findName 95 = .ok (.iaload, 1) := by decide +kernel
theorem dX5_findName_96 : decode cX5_findName 96 = .ok (.if_icmp .ne 6, 3) := by decide +kernel
theorem dX5_findName_99 : decode cX5_findName 99 = .ok (.iload 4, 2) := by decide +kernel
theorem dX5_findName_101 : decode cX5_findName 101 = .ok (.ireturn, 1) := by decide +kernel
theorem dX5_findName_102 : decode cX5_findName 102 = .ok (.iinc 4 1, 3) := by decide +kernel
theorem dX5_findName_105 : decode cX5_findName 105 = .ok (.goto (-61), 3) := by decide +kernel
theorem dX5_findName_108 : decode cX5_findName 108 = .ok (.iconst (-1), 1) := by decide +kernel
theorem dX5_findName_109 : decode cX5_findName 109 = .ok (.ireturn, 1) := by decide +kernel
set_option maxRecDepth 20000 in
theorem ggX5_turnScope_X5_after : GoodIn wsX5_turnScope wsX5_after := goodIn_r _ [8, 1, 9, 13, 14, 15, 16, 17, 18] (by decide +kernel) (by decide +kernel)
set_option maxRecDepth 20000 in
theorem gX5_turnScope_X5_after : GoodIn wsX5_turnScope (wsV RX5 45 RX5 yX5_after wsX5_after) := goodIn_app (goodIn_of _ (by decide +kernel)) ggX5_turnScope_X5_after
set_option maxRecDepth 20000 in
theorem ggX5_turnScope_X8_isName : GoodIn wsX5_turnScope wsX8_isName := goodIn_r _ [12] (by decide +kernel) (by decide +kernel)
theorem dX5_turnScope_0 : decode cX5_turnScope 0 = .ok (.aload_n 0, 1) := by decide +kernel
theorem dX5_turnScope_1 : decode cX5_turnScope 1 = .ok (.iload_n 1, 1) := by decide +kernel
theorem dX5_turnScope_2 : decode cX5_turnScope 2 = .ok (.invokevirtual 45, 3) := by decide +kernel
theorem dX5_turnScope_5 : decode cX5_turnScope 5 = .ok (.istore_n 3, 1) := by decide +kernel
theorem dX5_turnScope_6 : decode cX5_turnScope 6 = .ok (.iload_n 1, 1) := by decide +kernel
theorem dX5_turnScope_7 : decode cX5_turnScope 7 = .ok (.ifCond .ge 7, 3) := by decide +kernel
theorem dX5_turnScope_10 : decode cX5_turnScope 10 = .ok (.iconst 0, 1) := by decide +kernel
theorem dX5_turnScope_11 : decode cX5_turnScope 11 = .ok (.goto 4, 3) := by decide +kernel
theorem dX5_turnScope_14 : decode cX5_turnScope 14 = .ok (.iload_n 1, 1) := by decide +kernel
theorem dX5_turnScope_15 : decode cX5_turnScope 15 = .ok (.istore 4, 2) := by decide +kernel
theorem dX5_turnScope_17 : decode cX5_turnScope 17 = .ok (.iload 4, 2) := by decide +kernel
theorem dX5_turnScope_19 : decode cX5_turnScope 19 = .ok (.iload_n 3, 1) := by decide +kernel
theorem dX5_turnScope_20 : decode cX5_turnScope 20 = .ok (.if_icmp .ge 52, 3) := by decide +kernel
theorem dX5_turnScope_23 : decode cX5_turnScope 23 = .ok (.iload 4, 2) := by decide +kernel
theorem dX5_turnScope_25 : decode cX5_turnScope 25 = .ok (.aload_n 0, 1) := by decide +kernel
theorem dX5_turnScope_26 : decode cX5_turnScope 26 = .ok (.getfield 24, 3) := by decide +kernel
theorem dX5_turnScope_29 : decode cX5_turnScope 29 = .ok (.if_icmp .ge 43, 3) := by decide +kernel
theorem dX5_turnScope_32 : decode cX5_turnScope 32 = .ok (.iload 4, 2) := by decide +kernel
theorem dX5_turnScope_34 : decode cX5_turnScope 34 = .ok (.sipush 3000, 3) := by decide +kernel
theorem dX5_turnScope_37 : decode cX5_turnScope 37 = .ok (.if_icmp .ge 35, 3) := by decide +kernel
theorem dX5_turnScope_40 : decode cX5_turnScope 40 = .ok (.aload_n 0, 1) := by decide +kernel
theorem dX5_turnScope_41 : decode cX5_turnScope 41 = .ok (.getfield 9, 3) := by decide +kernel
theorem dX5_turnScope_44 : decode cX5_turnScope 44 = .ok (.iload 4, 2) := by decide +kernel
theorem dX5_turnScope_46 : decode cX5_turnScope 46 = .ok (.iaload, 1) := by decide +kernel
theorem dX5_turnScope_47 : decode cX5_turnScope 47 = .ok (.invokestatic 48, 3) := by decide +kernel
theorem dX5_turnScope_50 : decode cX5_turnScope 50 = .ok (.ifCond .eq 16, 3) := by decide +kernel
theorem dX5_turnScope_53 : decode cX5_turnScope 53 = .ok (.aload_n 0, 1) := by decide +kernel
theorem dX5_turnScope_54 : decode cX5_turnScope 54 = .ok (.getfield 15, 3) := by decide +kernel
theorem dX5_turnScope_57 : decode cX5_turnScope 57 = .ok (.iload 4, 2) := by decide +kernel
theorem dX5_turnScope_59 : decode cX5_turnScope 59 = .ok (.dup2, 1) := by decide +kernel
theorem dX5_turnScope_60 : decode cX5_turnScope 60 = .ok (.iaload, 1) := by decide +kernel
theorem dX5_turnScope_61 : decode cX5_turnScope 61 = .ok (.iconst 1, 1) := by decide +kernel
theorem dX5_turnScope_62 : decode cX5_turnScope 62 = .ok (.iload_n 2, 1) := by decide +kernel
theorem dX5_turnScope_63 : decode cX5_turnScope 63 = .ok (.ishl, 1) := by decide +kernel
theorem dX5_turnScope_64 : decode cX5_turnScope 64 = .ok (.ixor, 1) := by decide +kernel
theorem dX5_turnScope_65 : decode cX5_turnScope 65 = .ok (.iastore, 1) := by decide +kernel
theorem dX5_turnScope_66 : decode cX5_turnScope 66 = .ok (.iinc 4 1, 3) := by decide +kernel
theorem dX5_turnScope_69 : decode cX5_turnScope 69 = .ok (.goto (-52), 3) := by decide +kernel
theorem dX5_turnScope_72 : decode cX5_turnScope 72 = .ok (.return_, 1) := by decide +kernel
set_option maxRecDepth 20000 in
theorem ggX7_meaning_J6_bitCount_0f7a4 : GoodIn wsX7_meaning wsJ6_bitCount_0f7a4 := goodIn_r _ [7, 8, 9, 10] (by decide +kernel) (by decide +kernel)
set_option maxRecDepth 20000 in
theorem gX7_meaning_J6_bitCount_0f7a4 : GoodIn wsX7_meaning (va_wsS RX7 50 yJ6_bitCount_0f7a4 wsJ6_bitCount_0f7a4) := goodIn_app (goodIn_of _ (by decide +kernel)) ggX7_meaning_J6_bitCount_0f7a4
set_option maxRecDepth 20000 in
theorem ggX7_meaning_X7_holdsAllOthers : GoodIn wsX7_meaning wsX7_holdsAllOthers := goodIn_r _ [15, 1, 2, 3, 16, 17, 18, 19, 20, 21] (by decide +kernel) (by decide +kernel)
set_option maxRecDepth 20000 in
theorem gX7_meaning_X7_holdsAllOthers : GoodIn wsX7_meaning (wsV RX7 56 RX7 yX7_holdsAllOthers wsX7_holdsAllOthers) := goodIn_app (goodIn_of _ (by decide +kernel)) ggX7_meaning_X7_holdsAllOthers
theorem dX7_meaning_0 : decode cX7_meaning 0 = .ok (.iconst (-1), 1) := by decide +kernel
theorem dX7_meaning_1 : decode cX7_meaning 1 = .ok (.istore_n 3, 1) := by decide +kernel
theorem dX7_meaning_2 : decode cX7_meaning 2 = .ok (.iconst (-1), 1) := by decide +kernel
theorem dX7_meaning_3 : decode cX7_meaning 3 = .ok (.istore 4, 2) := by decide +kernel
theorem dX7_meaning_5 : decode cX7_meaning 5 = .ok (.iconst 0, 1) := by decide +kernel
theorem dX7_meaning_6 : decode cX7_meaning 6 = .ok (.istore 5, 2) := by decide +kernel
theorem dX7_meaning_8 : decode cX7_meaning 8 = .ok (.iload 5, 2) := by decide +kernel
theorem dX7_meaning_10 : decode cX7_meaning 10 = .ok (.aload_n 0, 1) := by decide +kernel
theorem dX7_meaning_11 : decode cX7_meaning 11 = .ok (.getfield 33, 3) := by decide +kernel
theorem dX7_meaning_14 : decode cX7_meaning 14 = .ok (.if_icmp .ge 71, 3) := by decide +kernel
theorem dX7_meaning_17 : decode cX7_meaning 17 = .ok (.iload 5, 2) := by decide +kernel
theorem dX7_meaning_19 : decode cX7_meaning 19 = .ok (.bipush 40, 2) := by decide +kernel
theorem dX7_meaning_21 : decode cX7_meaning 21 = .ok (.if_icmp .ge 64, 3) := by decide +kernel
theorem dX7_meaning_24 : decode cX7_meaning 24 = .ok (.aload_n 0, 1) := by decide +kernel
theorem dX7_meaning_25 : decode cX7_meaning 25 = .ok (.getfield 9, 3) := by decide +kernel
theorem dX7_meaning_28 : decode cX7_meaning 28 = .ok (.iload 5, 2) := by decide +kernel
theorem dX7_meaning_30 : decode cX7_meaning 30 = .ok (.iaload, 1) := by decide +kernel
theorem dX7_meaning_31 : decode cX7_meaning 31 = .ok (.iload_n 1, 1) := by decide +kernel
theorem dX7_meaning_32 : decode cX7_meaning 32 = .ok (.if_icmp .ne 47, 3) := by decide +kernel
theorem dX7_meaning_35 : decode cX7_meaning 35 = .ok (.aload_n 0, 1) := by decide +kernel
theorem dX7_meaning_36 : decode cX7_meaning 36 = .ok (.getfield 15, 3) := by decide +kernel
theorem dX7_meaning_39 : decode cX7_meaning 39 = .ok (.iload 5, 2) := by decide +kernel
theorem dX7_meaning_41 : decode cX7_meaning 41 = .ok (.iaload, 1) := by decide +kernel
theorem dX7_meaning_42 : decode cX7_meaning 42 = .ok (.iload_n 2, 1) := by decide +kernel
theorem dX7_meaning_43 : decode cX7_meaning 43 = .ok (.iconst (-1), 1) := by decide +kernel
theorem dX7_meaning_44 : decode cX7_meaning 44 = .ok (.ixor, 1) := by decide +kernel
theorem dX7_meaning_45 : decode cX7_meaning 45 = .ok (.iand, 1) := by decide +kernel
theorem dX7_meaning_46 : decode cX7_meaning 46 = .ok (.ifCond .ne 33, 3) := by decide +kernel
theorem dX7_meaning_49 : decode cX7_meaning 49 = .ok (.aload_n 0, 1) := by decide +kernel
theorem dX7_meaning_50 : decode cX7_meaning 50 = .ok (.getfield 15, 3) := by decide +kernel
theorem dX7_meaning_53 : decode cX7_meaning 53 = .ok (.iload 5, 2) := by decide +kernel
theorem dX7_meaning_55 : decode cX7_meaning 55 = .ok (.iaload, 1) := by decide +kernel
theorem dX7_meaning_56 : decode cX7_meaning 56 = .ok (.invokestatic 50, 3) := by decide +kernel
theorem dX7_meaning_59 : decode cX7_meaning 59 = .ok (.iload 4, 2) := by decide +kernel
theorem dX7_meaning_61 : decode cX7_meaning 61 = .ok (.if_icmp .le 18, 3) := by decide +kernel
theorem dX7_meaning_64 : decode cX7_meaning 64 = .ok (.iload 5, 2) := by decide +kernel
theorem dX7_meaning_66 : decode cX7_meaning 66 = .ok (.istore_n 3, 1) := by decide +kernel
theorem dX7_meaning_67 : decode cX7_meaning 67 = .ok (.aload_n 0, 1) := by decide +kernel
theorem dX7_meaning_68 : decode cX7_meaning 68 = .ok (.getfield 15, 3) := by decide +kernel
theorem dX7_meaning_71 : decode cX7_meaning 71 = .ok (.iload 5, 2) := by decide +kernel
theorem dX7_meaning_73 : decode cX7_meaning 73 = .ok (.iaload, 1) := by decide +kernel
theorem dX7_meaning_74 : decode cX7_meaning 74 = .ok (.invokestatic 50, 3) := by decide +kernel
theorem dX7_meaning_77 : decode cX7_meaning 77 = .ok (.istore 4, 2) := by decide +kernel
theorem dX7_meaning_79 : decode cX7_meaning 79 = .ok (.iinc 5 1, 3) := by decide +kernel
theorem dX7_meaning_82 : decode cX7_meaning 82 = .ok (.goto (-74), 3) := by decide +kernel
theorem dX7_meaning_85 : decode cX7_meaning 85 = .ok (.iload_n 3, 1) := by decide +kernel
theorem dX7_meaning_86 : decode cX7_meaning 86 = .ok (.ifCond .lt 12, 3) := by decide +kernel
theorem dX7_meaning_89 : decode cX7_meaning 89 = .ok (.aload_n 0, 1) := by decide +kernel
theorem dX7_meaning_90 : decode cX7_meaning 90 = .ok (.iload_n 3, 1) := by decide +kernel
theorem dX7_meaning_91 : decode cX7_meaning 91 = .ok (.iload_n 2, 1) := by decide +kernel
theorem dX7_meaning_92 : decode cX7_meaning 92 = .ok (.invokevirtual 56, 3) := by decide +kernel
theorem dX7_meaning_95 : decode cX7_meaning 95 = .ok (.ifCond .eq 7, 3) := by decide +kernel
theorem dX7_meaning_98 : decode cX7_meaning 98 = .ok (.iload_n 3, 1) := by decide +kernel
theorem dX7_meaning_99 : decode cX7_meaning 99 = .ok (.goto 5, 3) := by decide +kernel
theorem dX7_meaning_102 : decode cX7_meaning 102 = .ok (.bipush (-2), 2) := by decide +kernel
theorem dX7_meaning_104 : decode cX7_meaning 104 = .ok (.ireturn, 1) := by decide +kernel
theorem dX7_holdsAllOthers_0 : decode cX7_holdsAllOthers 0 = .ok (.iload_n 1, 1) := by decide +kernel
theorem dX7_holdsAllOthers_1 : decode cX7_holdsAllOthers 1 = .ok (.ifCond .lt 9, 3) := by decide +kernel
theorem dX7_holdsAllOthers_4 : decode cX7_holdsAllOthers 4 = .ok (.iload_n 1, 1) := by decide +kernel
theorem dX7_holdsAllOthers_5 : decode cX7_holdsAllOthers 5 = .ok (.bipush 40, 2) := by decide +kernel
theorem dX7_holdsAllOthers_7 : decode cX7_holdsAllOthers 7 = .ok (.if_icmp .lt 5, 3) := by decide +kernel
theorem dX7_holdsAllOthers_10 : decode cX7_holdsAllOthers 10 = .ok (.iconst 0, 1) := by decide +kernel
theorem dX7_holdsAllOthers_11 : decode cX7_holdsAllOthers 11 = .ok (.ireturn, 1) := by decide +kernel
theorem dX7_holdsAllOthers_12 : decode cX7_holdsAllOthers 12 = .ok (.iconst 0, 1) := by decide +kernel
theorem dX7_holdsAllOthers_13 : decode cX7_holdsAllOthers 13 = .ok (.istore_n 3, 1) := by decide +kernel
theorem dX7_holdsAllOthers_14 : decode cX7_holdsAllOthers 14 = .ok (.iload_n 3, 1) := by decide +kernel
theorem dX7_holdsAllOthers_15 : decode cX7_holdsAllOthers 15 = .ok (.aload_n 0, 1) := by decide +kernel
theorem dX7_holdsAllOthers_16 : decode cX7_holdsAllOthers 16 = .ok (.getfield 33, 3) := by decide +kernel
theorem dX7_holdsAllOthers_19 : decode cX7_holdsAllOthers 19 = .ok (.if_icmp .ge 75, 3) := by decide +kernel
theorem dX7_holdsAllOthers_22 : decode cX7_holdsAllOthers 22 = .ok (.iload_n 3, 1) := by decide +kernel
theorem dX7_holdsAllOthers_23 : decode cX7_holdsAllOthers 23 = .ok (.bipush 40, 2) := by decide +kernel
theorem dX7_holdsAllOthers_25 : decode cX7_holdsAllOthers 25 = .ok (.if_icmp .ge 69, 3) := by decide +kernel
theorem dX7_holdsAllOthers_28 : decode cX7_holdsAllOthers 28 = .ok (.aload_n 0, 1) := by decide +kernel
theorem dX7_holdsAllOthers_29 : decode cX7_holdsAllOthers 29 = .ok (.getfield 9, 3) := by decide +kernel
theorem dX7_holdsAllOthers_32 : decode cX7_holdsAllOthers 32 = .ok (.iload_n 3, 1) := by decide +kernel
theorem dX7_holdsAllOthers_33 : decode cX7_holdsAllOthers 33 = .ok (.iaload, 1) := by decide +kernel
theorem dX7_holdsAllOthers_34 : decode cX7_holdsAllOthers 34 = .ok (.aload_n 0, 1) := by decide +kernel
theorem dX7_holdsAllOthers_35 : decode cX7_holdsAllOthers 35 = .ok (.getfield 9, 3) := by decide +kernel
theorem dX7_holdsAllOthers_38 : decode cX7_holdsAllOthers 38 = .ok (.iload_n 1, 1) := by decide +kernel
theorem dX7_holdsAllOthers_39 : decode cX7_holdsAllOthers 39 = .ok (.iaload, 1) := by decide +kernel
theorem dX7_holdsAllOthers_40 : decode cX7_holdsAllOthers 40 = .ok (.if_icmp .ne 20, 3) := by decide +kernel
theorem dX7_holdsAllOthers_43 : decode cX7_holdsAllOthers 43 = .ok (.aload_n 0, 1) := by decide +kernel
theorem dX7_holdsAllOthers_44 : decode cX7_holdsAllOthers 44 = .ok (.getfield 15, 3) := by decide +kernel
theorem dX7_holdsAllOthers_47 : decode cX7_holdsAllOthers 47 = .ok (.iload_n 3, 1) := by decide +kernel
theorem dX7_holdsAllOthers_48 : decode cX7_holdsAllOthers 48 = .ok (.iaload, 1) := by decide +kernel
theorem dX7_holdsAllOthers_49 : decode cX7_holdsAllOthers 49 = .ok (.iload_n 2, 1) := by decide +kernel
theorem dX7_holdsAllOthers_50 : decode cX7_holdsAllOthers 50 = .ok (.iconst (-1), 1) := by decide +kernel
theorem dX7_holdsAllOthers_51 : decode cX7_holdsAllOthers 51 = .ok (.ixor, 1) := by decide +kernel
theorem dX7_holdsAllOthers_52 : decode cX7_holdsAllOthers 52 = .ok (.iand, 1) := by decide +kernel
theorem dX7_holdsAllOthers_53 : decode cX7_holdsAllOthers 53 = .ok (.ifCond .ne 7, 3) := by decide +kernel
theorem dX7_holdsAllOthers_56 : decode cX7_holdsAllOthers 56 = .ok (.iconst 1, 1) := by decide +kernel
theorem dX7_holdsAllOthers_57 : decode cX7_holdsAllOthers 57 = .ok (.goto 4, 3) := by decide +kernel
theorem dX7_holdsAllOthers_60 : decode cX7_holdsAllOthers 60 = .ok (.iconst 0, 1) := by decide +kernel
theorem dX7_holdsAllOthers_61 : decode cX7_holdsAllOthers 61 = .ok (.istore 4, 2) := by decide +kernel
theorem dX7_holdsAllOthers_63 : decode cX7_holdsAllOthers 63 = .ok (.iload 4, 2) := by decide +kernel
theorem dX7_holdsAllOthers_65 : decode cX7_holdsAllOthers 65 = .ok (.ifCond .eq 23, 3) := by decide +kernel
theorem dX7_holdsAllOthers_68 : decode cX7_holdsAllOthers 68 = .ok (.aload_n 0, 1) := by decide +kernel
theorem dX7_holdsAllOthers_69 : decode cX7_holdsAllOthers 69 = .ok (.getfield 15, 3) := by decide +kernel
theorem dX7_holdsAllOthers_72 : decode cX7_holdsAllOthers 72 = .ok (.iload_n 3, 1) := by decide +kernel
theorem dX7_holdsAllOthers_73 : decode cX7_holdsAllOthers 73 = .ok (.iaload, 1) := by decide +kernel
theorem dX7_holdsAllOthers_74 : decode cX7_holdsAllOthers 74 = .ok (.aload_n 0, 1) := by decide +kernel
theorem dX7_holdsAllOthers_75 : decode cX7_holdsAllOthers 75 = .ok (.getfield 15, 3) := by decide +kernel
theorem dX7_holdsAllOthers_78 : decode cX7_holdsAllOthers 78 = .ok (.iload_n 1, 1) := by decide +kernel
theorem dX7_holdsAllOthers_79 : decode cX7_holdsAllOthers 79 = .ok (.iaload, 1) := by decide +kernel
theorem dX7_holdsAllOthers_80 : decode cX7_holdsAllOthers 80 = .ok (.iconst (-1), 1) := by decide +kernel
theorem dX7_holdsAllOthers_81 : decode cX7_holdsAllOthers 81 = .ok (.ixor, 1) := by decide +kernel
theorem dX7_holdsAllOthers_82 : decode cX7_holdsAllOthers 82 = .ok (.iand, 1) := by decide +kernel
theorem dX7_holdsAllOthers_83 : decode cX7_holdsAllOthers 83 = .ok (.ifCond .eq 5, 3) := by decide +kernel
theorem dX7_holdsAllOthers_86 : decode cX7_holdsAllOthers 86 = .ok (.iconst 0, 1) := by decide +kernel
theorem dX7_holdsAllOthers_87 : decode cX7_holdsAllOthers 87 = .ok (.ireturn, 1) := by decide +kernel
theorem dX7_holdsAllOthers_88 : decode cX7_holdsAllOthers 88 = .ok (.iinc 3 1, 3) := by decide +kernel
theorem dX7_holdsAllOthers_91 : decode cX7_holdsAllOthers 91 = .ok (.goto (-77), 3) := by decide +kernel
theorem dX7_holdsAllOthers_94 : decode cX7_holdsAllOthers 94 = .ok (.iconst 1, 1) := by decide +kernel
theorem dX7_holdsAllOthers_95 : decode cX7_holdsAllOthers 95 = .ok (.ireturn, 1) := by decide +kernel
theorem dX7_kindOf_0 : decode cX7_kindOf 0 = .ok (.iload_n 1, 1) := by decide +kernel
theorem dX7_kindOf_1 : decode cX7_kindOf 1 = .ok (.ifCond .lt 18, 3) := by decide +kernel
theorem dX7_kindOf_4 : decode cX7_kindOf 4 = .ok (.iload_n 1, 1) := by decide +kernel
theorem dX7_kindOf_5 : decode cX7_kindOf 5 = .ok (.bipush 40, 2) := by decide +kernel
theorem dX7_kindOf_7 : decode cX7_kindOf 7 = .ok (.if_icmp .ge 12, 3) := by decide +kernel
theorem dX7_kindOf_10 : decode cX7_kindOf 10 = .ok (.aload_n 0, 1) := by decide +kernel
theorem dX7_kindOf_11 : decode cX7_kindOf 11 = .ok (.getfield 18, 3) := by decide +kernel
theorem dX7_kindOf_14 : decode cX7_kindOf 14 = .ok (.iload_n 1, 1) := by decide +kernel
theorem dX7_kindOf_15 : decode cX7_kindOf 15 = .ok (.iaload, 1) := by decide +kernel
theorem dX7_kindOf_16 : decode cX7_kindOf 16 = .ok (.goto 4, 3) := by decide +kernel
theorem dX7_kindOf_19 : decode cX7_kindOf 19 = .ok (.iconst 4, 1) := by decide +kernel
theorem dX7_kindOf_20 : decode cX7_kindOf 20 = .ok (.ireturn, 1) := by decide +kernel
theorem dX7_valueOf_0 : decode cX7_valueOf 0 = .ok (.iload_n 1, 1) := by decide +kernel
theorem dX7_valueOf_1 : decode cX7_valueOf 1 = .ok (.ifCond .lt 18, 3) := by decide +kernel
theorem dX7_valueOf_4 : decode cX7_valueOf 4 = .ok (.iload_n 1, 1) := by decide +kernel
theorem dX7_valueOf_5 : decode cX7_valueOf 5 = .ok (.bipush 40, 2) := by decide +kernel
theorem dX7_valueOf_7 : decode cX7_valueOf 7 = .ok (.if_icmp .ge 12, 3) := by decide +kernel
theorem dX7_valueOf_10 : decode cX7_valueOf 10 = .ok (.aload_n 0, 1) := by decide +kernel
theorem dX7_valueOf_11 : decode cX7_valueOf 11 = .ok (.getfield 21, 3) := by decide +kernel
theorem dX7_valueOf_14 : decode cX7_valueOf 14 = .ok (.iload_n 1, 1) := by decide +kernel
theorem dX7_valueOf_15 : decode cX7_valueOf 15 = .ok (.iaload, 1) := by decide +kernel
theorem dX7_valueOf_16 : decode cX7_valueOf 16 = .ok (.goto 4, 3) := by decide +kernel
theorem dX7_valueOf_19 : decode cX7_valueOf 19 = .ok (.iconst 0, 1) := by decide +kernel
theorem dX7_valueOf_20 : decode cX7_valueOf 20 = .ok (.ireturn, 1) := by decide +kernel
theorem dX8_isName_0 : decode cX8_isName 0 = .ok (.iload_n 0, 1) := by decide +kernel
theorem dX8_isName_1 : decode cX8_isName 1 = .ok (.sipush 255, 3) := by decide +kernel
theorem dX8_isName_4 : decode cX8_isName 4 = .ok (.if_icmp .le 7, 3) := by decide +kernel
theorem dX8_isName_7 : decode cX8_isName 7 = .ok (.iconst 1, 1) := by decide +kernel
theorem dX8_isName_8 : decode cX8_isName 8 = .ok (.goto 4, 3) := by decide +kernel
theorem dX8_isName_11 : decode cX8_isName 11 = .ok (.iconst 0, 1) := by decide +kernel
theorem dX8_isName_12 : decode cX8_isName 12 = .ok (.ireturn, 1) := by decide +kernel
theorem dX8_isNumber_0 : decode cX8_isNumber 0 = .ok (.iload_n 0, 1) := by decide +kernel
theorem dX8_isNumber_1 : decode cX8_isNumber 1 = .ok (.ifCond .lt 13, 3) := by decide +kernel
theorem dX8_isNumber_4 : decode cX8_isNumber 4 = .ok (.iload_n 0, 1) := by decide +kernel
theorem dX8_isNumber_5 : decode cX8_isNumber 5 = .ok (.bipush 100, 2) := by decide +kernel
theorem dX8_isNumber_7 : decode cX8_isNumber 7 = .ok (.if_icmp .ge 7, 3) := by decide +kernel
theorem dX8_isNumber_10 : decode cX8_isNumber 10 = .ok (.iconst 1, 1) := by decide +kernel
theorem dX8_isNumber_11 : decode cX8_isNumber 11 = .ok (.goto 4, 3) := by decide +kernel
theorem dX8_isNumber_14 : decode cX8_isNumber 14 = .ok (.iconst 0, 1) := by decide +kernel
theorem dX8_isNumber_15 : decode cX8_isNumber 15 = .ok (.ireturn, 1) := by decide +kernel
theorem dJ6_bitCount_0f7a4_0 : decode cJ6_bitCount_0f7a4 0 = .ok (.iload_n 0, 1) := by decide +kernel
theorem dJ6_bitCount_0f7a4_1 : decode cJ6_bitCount_0f7a4 1 = .ok (.iload_n 0, 1) := by decide +kernel
theorem dJ6_bitCount_0f7a4_2 : decode cJ6_bitCount_0f7a4 2 = .ok (.iconst 1, 1) := by decide +kernel
theorem dJ6_bitCount_0f7a4_3 : decode cJ6_bitCount_0f7a4 3 = .ok (.iushr, 1) := by decide +kernel
theorem dJ6_bitCount_0f7a4_4 : decode cJ6_bitCount_0f7a4 4 = .ok (.ldc_w 265, 3) := by decide +kernel
theorem dJ6_bitCount_0f7a4_7 : decode cJ6_bitCount_0f7a4 7 = .ok (.iand, 1) := by decide +kernel
theorem dJ6_bitCount_0f7a4_8 : decode cJ6_bitCount_0f7a4 8 = .ok (.isub, 1) := by decide +kernel
theorem dJ6_bitCount_0f7a4_9 : decode cJ6_bitCount_0f7a4 9 = .ok (.istore_n 0, 1) := by decide +kernel
theorem dJ6_bitCount_0f7a4_10 : decode cJ6_bitCount_0f7a4 10 = .ok (.iload_n 0, 1) := by decide +kernel
theorem dJ6_bitCount_0f7a4_11 : decode cJ6_bitCount_0f7a4 11 = .ok (.ldc_w 266, 3) := by decide +kernel
theorem dJ6_bitCount_0f7a4_14 : decode cJ6_bitCount_0f7a4 14 = .ok (.iand, 1) := by decide +kernel
theorem dJ6_bitCount_0f7a4_15 : decode cJ6_bitCount_0f7a4 15 = .ok (.iload_n 0, 1) := by decide +kernel
theorem dJ6_bitCount_0f7a4_16 : decode cJ6_bitCount_0f7a4 16 = .ok (.iconst 2, 1) := by decide +kernel
theorem dJ6_bitCount_0f7a4_17 : decode cJ6_bitCount_0f7a4 17 = .ok (.iushr, 1) := by decide +kernel
theorem dJ6_bitCount_0f7a4_18 : decode cJ6_bitCount_0f7a4 18 = .ok (.ldc_w 266, 3) := by decide +kernel
theorem dJ6_bitCount_0f7a4_21 : decode cJ6_bitCount_0f7a4 21 = .ok (.iand, 1) := by decide +kernel
theorem dJ6_bitCount_0f7a4_22 : decode cJ6_bitCount_0f7a4 22 = .ok (.iadd, 1) := by decide +kernel
theorem dJ6_bitCount_0f7a4_23 : decode cJ6_bitCount_0f7a4 23 = .ok (.istore_n 0, 1) := by decide +kernel
theorem dJ6_bitCount_0f7a4_24 : decode cJ6_bitCount_0f7a4 24 = .ok (.iload_n 0, 1) := by decide +kernel
theorem dJ6_bitCount_0f7a4_25 : decode cJ6_bitCount_0f7a4 25 = .ok (.iload_n 0, 1) := by decide +kernel
theorem dJ6_bitCount_0f7a4_26 : decode cJ6_bitCount_0f7a4 26 = .ok (.iconst 4, 1) := by decide +kernel
theorem dJ6_bitCount_0f7a4_27 : decode cJ6_bitCount_0f7a4 27 = .ok (.iushr, 1) := by decide +kernel
theorem dJ6_bitCount_0f7a4_28 : decode cJ6_bitCount_0f7a4 28 = .ok (.iadd, 1) := by decide +kernel
theorem dJ6_bitCount_0f7a4_29 : decode cJ6_bitCount_0f7a4 29 = .ok (.ldc_w 267, 3) := by decide +kernel
theorem dJ6_bitCount_0f7a4_32 : decode cJ6_bitCount_0f7a4 32 = .ok (.iand, 1) := by decide +kernel
theorem dJ6_bitCount_0f7a4_33 : decode cJ6_bitCount_0f7a4 33 = .ok (.istore_n 0, 1) := by decide +kernel
theorem dJ6_bitCount_0f7a4_34 : decode cJ6_bitCount_0f7a4 34 = .ok (.iload_n 0, 1) := by decide +kernel
theorem dJ6_bitCount_0f7a4_35 : decode cJ6_bitCount_0f7a4 35 = .ok (.iload_n 0, 1) := by decide +kernel
theorem dJ6_bitCount_0f7a4_36 : decode cJ6_bitCount_0f7a4 36 = .ok (.bipush 8, 2) := by decide +kernel
theorem dJ6_bitCount_0f7a4_38 : decode cJ6_bitCount_0f7a4 38 = .ok (.iushr, 1) := by decide +kernel
theorem dJ6_bitCount_0f7a4_39 : decode cJ6_bitCount_0f7a4 39 = .ok (.iadd, 1) := by decide +kernel
theorem dJ6_bitCount_0f7a4_40 : decode cJ6_bitCount_0f7a4 40 = .ok (.istore_n 0, 1) := by decide +kernel
theorem dJ6_bitCount_0f7a4_41 : decode cJ6_bitCount_0f7a4 41 = .ok (.iload_n 0, 1) := by decide +kernel
theorem dJ6_bitCount_0f7a4_42 : decode cJ6_bitCount_0f7a4 42 = .ok (.iload_n 0, 1) := by decide +kernel
theorem dJ6_bitCount_0f7a4_43 : decode cJ6_bitCount_0f7a4 43 = .ok (.bipush 16, 2) := by decide +kernel
theorem dJ6_bitCount_0f7a4_45 : decode cJ6_bitCount_0f7a4 45 = .ok (.iushr, 1) := by decide +kernel
theorem dJ6_bitCount_0f7a4_46 : decode cJ6_bitCount_0f7a4 46 = .ok (.iadd, 1) := by decide +kernel
theorem dJ6_bitCount_0f7a4_47 : decode cJ6_bitCount_0f7a4 47 = .ok (.istore_n 0, 1) := by decide +kernel
theorem dJ6_bitCount_0f7a4_48 : decode cJ6_bitCount_0f7a4 48 = .ok (.iload_n 0, 1) := by decide +kernel
theorem dJ6_bitCount_0f7a4_49 : decode cJ6_bitCount_0f7a4 49 = .ok (.bipush 63, 2) := by decide +kernel
theorem dJ6_bitCount_0f7a4_51 : decode cJ6_bitCount_0f7a4 51 = .ok (.iand, 1) := by decide +kernel
theorem dJ6_bitCount_0f7a4_52 : decode cJ6_bitCount_0f7a4 52 = .ok (.ireturn, 1) := by decide +kernel
theorem iw_X5_wordAt_X5 : ∀ w ∈ wsX50, w ∈ wsX5_wordAt := by decide +kernel
theorem lk_X5_wordAt_24 : Cond.fieldLink RX5 24 "MarkedNames$Row" "top" "I" ∈ wsX5_wordAt := by decide +kernel
theorem lk_X5_wordAt_9 : Cond.fieldLink RX5 9 "MarkedNames$Row" "word" "[I" ∈ wsX5_wordAt := by decide +kernel
theorem iw_X2_fail_X2 : ∀ w ∈ wsX20, w ∈ wsX2_fail := by decide +kernel
theorem lk_X2_fail_19 : Cond.fieldLink RX2 19 "MarkedNames$Outcome" "error" "I" ∈ wsX2_fail := by decide +kernel
theorem iw_X2_put_X2 : ∀ w ∈ wsX20, w ∈ wsX2_put := by decide +kernel
theorem lk_X2_put_19 : Cond.fieldLink RX2 19 "MarkedNames$Outcome" "error" "I" ∈ wsX2_put := by decide +kernel
theorem lk_X2_put_15 : Cond.fieldLink RX2 15 "MarkedNames$Outcome" "length" "I" ∈ wsX2_put := by decide +kernel
theorem lk_X2_put_9 : Cond.fieldLink RX2 9 "MarkedNames$Outcome" "text" "[I" ∈ wsX2_put := by decide +kernel
theorem iw_X0_meaningOf_X0 : ∀ w ∈ wsX00, w ∈ wsX0_meaningOf := by decide +kernel
theorem lk_X0_meaningOf_19 : Cond.fieldLink RX0 19 "MarkedNames$Expander" "table" "LMarkedNames$Table;" ∈ wsX0_meaningOf := by decide +kernel
theorem lk_X0_meaningOf_9 : Cond.fieldLink RX0 9 "MarkedNames$Expander" "row" "LMarkedNames$Row;" ∈ wsX0_meaningOf := by decide +kernel
theorem iw_X5_marksAt_X5 : ∀ w ∈ wsX50, w ∈ wsX5_marksAt := by decide +kernel
theorem lk_X5_marksAt_24 : Cond.fieldLink RX5 24 "MarkedNames$Row" "top" "I" ∈ wsX5_marksAt := by decide +kernel
theorem lk_X5_marksAt_15 : Cond.fieldLink RX5 15 "MarkedNames$Row" "marks" "[I" ∈ wsX5_marksAt := by decide +kernel
theorem iw_X7_meaning_X7 : ∀ w ∈ wsX70, w ∈ wsX7_meaning := by decide +kernel
theorem lk_X7_meaning_33 : Cond.fieldLink RX7 33 "MarkedNames$Table" "length" "I" ∈ wsX7_meaning := by decide +kernel
theorem lk_X7_meaning_9 : Cond.fieldLink RX7 9 "MarkedNames$Table" "name" "[I" ∈ wsX7_meaning := by decide +kernel
theorem lk_X7_meaning_15 : Cond.fieldLink RX7 15 "MarkedNames$Table" "marks" "[I" ∈ wsX7_meaning := by decide +kernel
theorem mw_J6_bitCount_0f7a4__constant_RJ6_265_1431655765_Int32_ : Cond.constant RJ6 265 (1431655765 : Int32) ∈ wsJ6_bitCount_0f7a4 := by decide +kernel
theorem mw_J6_bitCount_0f7a4__constant_RJ6_266_858993459_Int32_ : Cond.constant RJ6 266 (858993459 : Int32) ∈ wsJ6_bitCount_0f7a4 := by decide +kernel
theorem mw_J6_bitCount_0f7a4__constant_RJ6_267_252645135_Int32_ : Cond.constant RJ6 267 (252645135 : Int32) ∈ wsJ6_bitCount_0f7a4 := by decide +kernel
theorem iw_X7_holdsAllOthers_X7 : ∀ w ∈ wsX70, w ∈ wsX7_holdsAllOthers := by decide +kernel
theorem lk_X7_holdsAllOthers_33 : Cond.fieldLink RX7 33 "MarkedNames$Table" "length" "I" ∈ wsX7_holdsAllOthers := by decide +kernel
theorem lk_X7_holdsAllOthers_9 : Cond.fieldLink RX7 9 "MarkedNames$Table" "name" "[I" ∈ wsX7_holdsAllOthers := by decide +kernel
theorem lk_X7_holdsAllOthers_15 : Cond.fieldLink RX7 15 "MarkedNames$Table" "marks" "[I" ∈ wsX7_holdsAllOthers := by decide +kernel
theorem lk_X0_meaningOf_23 : Cond.fieldLink RX0 23 "MarkedNames$Expander" "outcome" "LMarkedNames$Outcome;" ∈ wsX0_meaningOf := by decide +kernel
theorem iw_X0_expandName_X0 : ∀ w ∈ wsX00, w ∈ wsX0_expandName := by decide +kernel
theorem lk_X0_expandName_19 : Cond.fieldLink RX0 19 "MarkedNames$Expander" "table" "LMarkedNames$Table;" ∈ wsX0_expandName := by decide +kernel
theorem iw_X7_kindOf_X7 : ∀ w ∈ wsX70, w ∈ wsX7_kindOf := by decide +kernel
theorem lk_X7_kindOf_18 : Cond.fieldLink RX7 18 "MarkedNames$Table" "kind" "[I" ∈ wsX7_kindOf := by decide +kernel
theorem lk_X0_expandName_23 : Cond.fieldLink RX0 23 "MarkedNames$Expander" "outcome" "LMarkedNames$Outcome;" ∈ wsX0_expandName := by decide +kernel
theorem iw_X7_valueOf_X7 : ∀ w ∈ wsX70, w ∈ wsX7_valueOf := by decide +kernel
theorem lk_X7_valueOf_21 : Cond.fieldLink RX7 21 "MarkedNames$Table" "value" "[I" ∈ wsX7_valueOf := by decide +kernel
theorem lk_X0_expandName_9 : Cond.fieldLink RX0 9 "MarkedNames$Expander" "row" "LMarkedNames$Row;" ∈ wsX0_expandName := by decide +kernel
theorem iw_X5_after_X5 : ∀ w ∈ wsX50, w ∈ wsX5_after := by decide +kernel
theorem lk_X5_after_24 : Cond.fieldLink RX5 24 "MarkedNames$Row" "top" "I" ∈ wsX5_after := by decide +kernel
theorem lk_X5_after_18 : Cond.fieldLink RX5 18 "MarkedNames$Row" "size" "[I" ∈ wsX5_after := by decide +kernel
theorem iw_X5_hasDots_X5 : ∀ w ∈ wsX50, w ∈ wsX5_hasDots := by decide +kernel
theorem lk_X5_hasDots_24 : Cond.fieldLink RX5 24 "MarkedNames$Row" "top" "I" ∈ wsX5_hasDots := by decide +kernel
theorem lk_X5_hasDots_9 : Cond.fieldLink RX5 9 "MarkedNames$Row" "word" "[I" ∈ wsX5_hasDots := by decide +kernel
theorem iw_X5_itemsFrom_X5 : ∀ w ∈ wsX50, w ∈ wsX5_itemsFrom := by decide +kernel
theorem lk_X5_itemsFrom_24 : Cond.fieldLink RX5 24 "MarkedNames$Row" "top" "I" ∈ wsX5_itemsFrom := by decide +kernel
theorem lk_X5_itemsFrom_9 : Cond.fieldLink RX5 9 "MarkedNames$Row" "word" "[I" ∈ wsX5_itemsFrom := by decide +kernel
theorem iw_X0_areNames_X0 : ∀ w ∈ wsX00, w ∈ wsX0_areNames := by decide +kernel
theorem lk_X0_areNames_9 : Cond.fieldLink RX0 9 "MarkedNames$Expander" "row" "LMarkedNames$Row;" ∈ wsX0_areNames := by decide +kernel
theorem in_X0_areNames_X8 : Cond.initialized RX8 ∈ wsX0_areNames := by decide +kernel
theorem st_X0_areNames_X8_isName : Cond.static yX8_isName ∈ wsX0_areNames := by decide +kernel
theorem iw_X0_newScope_X0 : ∀ w ∈ wsX00, w ∈ wsX0_newScope := by decide +kernel
theorem lk_X0_newScope_36 : Cond.fieldLink RX0 36 "MarkedNames$Expander" "scopes" "I" ∈ wsX0_newScope := by decide +kernel
theorem lk_X0_newScope_23 : Cond.fieldLink RX0 23 "MarkedNames$Expander" "outcome" "LMarkedNames$Outcome;" ∈ wsX0_newScope := by decide +kernel
theorem iw_X5_turnScope_X5 : ∀ w ∈ wsX50, w ∈ wsX5_turnScope := by decide +kernel
theorem lk_X5_turnScope_24 : Cond.fieldLink RX5 24 "MarkedNames$Row" "top" "I" ∈ wsX5_turnScope := by decide +kernel
theorem lk_X5_turnScope_9 : Cond.fieldLink RX5 9 "MarkedNames$Row" "word" "[I" ∈ wsX5_turnScope := by decide +kernel
theorem in_X5_turnScope_X8 : Cond.initialized RX8 ∈ wsX5_turnScope := by decide +kernel
theorem st_X5_turnScope_X8_isName : Cond.static yX8_isName ∈ wsX5_turnScope := by decide +kernel
theorem lk_X5_turnScope_15 : Cond.fieldLink RX5 15 "MarkedNames$Row" "marks" "[I" ∈ wsX5_turnScope := by decide +kernel
theorem iw_X5_findName_X5 : ∀ w ∈ wsX50, w ∈ wsX5_findName := by decide +kernel
theorem lk_X5_findName_24 : Cond.fieldLink RX5 24 "MarkedNames$Row" "top" "I" ∈ wsX5_findName := by decide +kernel
theorem lk_X5_findName_9 : Cond.fieldLink RX5 9 "MarkedNames$Row" "word" "[I" ∈ wsX5_findName := by decide +kernel
theorem lk_X5_findName_15 : Cond.fieldLink RX5 15 "MarkedNames$Row" "marks" "[I" ∈ wsX5_findName := by decide +kernel
section
variable {l : Launch} {p : Program} {e : Env} {s : State} {m : MethodId} {args : Array Value} {below : List Frame} {meth : Method} {c : Code} {A : Nat → Prop} {dC : Nat → ClassId} {dI : Nat → Nat → Nat} {cA : ClassId} {a b : Nat → Nat} {lev : Nat}
set_option maxHeartbeats 4000000 in
set_option maxRecDepth 100000 in
theorem X5_wordAt_met (hlev : 0 ≤ lev) {x1 : Int32} {u : mS} {post : Int32 → mS → Prop} (hw : wp_X5_wordAt x1 u post) : mKi l yX5_wordAt wsX5_wordAt lev (eA a) (dC, dI) vwCl [(cA, .int)] (wA cA a) [.ref (a 2), .int x1] u post := by
  refine mKi_of (cc := cX5_wordAt) (maxL := 2) (by decide) rfl rfl (Nat.le_of_ble_eq_true rfl) rfl ?_
  intro p e s m args below meth c A C hs
  unfold wp_X5_wordAt at hw
  refine mv_iload_n C dX5_wordAt_0 rfl 1 rfl ?_
  refine mv_if_lt (tgt := 28) C dX5_wordAt_1 (by decide) (fun h1 => ?_) (fun h1 => ?_)
  · have hw := hw.1 h1
    refine mv_bipush (v := (-2 : Int32)) C dX5_wordAt_28 (by decide) ?_
    exact mv_iret C dX5_wordAt_30 hw
  · have hw := hw.2 h1
    refine mv_iload_n C dX5_wordAt_4 rfl 1 rfl ?_
    refine mv_aload_n C dX5_wordAt_5 rfl 0 rfl ?_
    refine mv_get (v := .int (u.1 1)) C iw_X5_wordAt_X5 2 rfl rfl 4 (by decide) lk_X5_wordAt_24 rfl rfl dX5_wordAt_6 ?_
    refine mv_topi (fun y2 ey2 => ?_)
    have hw := hw y2 ey2
    refine mv_icmp_ge (tgt := 28) C dX5_wordAt_9 (by decide) (fun h3 => ?_) (fun h3 => ?_)
    · have hw := hw.1 h3
      refine mv_bipush (v := (-2 : Int32)) C dX5_wordAt_28 (by decide) ?_
      exact mv_iret C dX5_wordAt_30 hw
    · have hw := hw.2 h3
      refine mv_iload_n C dX5_wordAt_12 rfl 1 rfl ?_
      refine mv_sipush (v := (3000 : Int32)) C dX5_wordAt_13 (by decide) ?_
      refine mv_icmp_ge (tgt := 28) C dX5_wordAt_16 (by decide) (fun h4 => ?_) (fun h4 => ?_)
      · have hw := hw.1 h4
        refine mv_bipush (v := (-2 : Int32)) C dX5_wordAt_28 (by decide) ?_
        exact mv_iret C dX5_wordAt_30 hw
      · have hw := hw.2 h4
        refine mv_aload_n C dX5_wordAt_19 rfl 0 rfl ?_
        refine mv_get (v := .ref (a 3)) C iw_X5_wordAt_X5 2 rfl rfl 0 (by decide) lk_X5_wordAt_9 rfl rfl dX5_wordAt_20 ?_
        refine mv_iload_n C dX5_wordAt_23 rfl 1 rfl ?_
        refine mv_iald (f := u.2 1) C 3 0 rfl rfl hw.1 dX5_wordAt_24 ?_
        refine mv_topi (fun y5 ey5 => ?_)
        have hw := hw.2 y5 ey5
        refine mv_goto (tgt := 30) C dX5_wordAt_25 (by decide) ?_
        exact mv_iret C dX5_wordAt_30 hw
set_option maxHeartbeats 4000000 in
set_option maxRecDepth 100000 in
theorem X8_isName_met (hlev : 0 ≤ lev) {x0 : Int32} {u : mS} {post : Int32 → mS → Prop} (hw : wp_X8_isName x0 u post) : mKi l yX8_isName wsX8_isName lev (eA a) (dC, dI) vwCl [(cA, .int)] (wA cA a) [.int x0] u (fun r w => (r = 0 ∨ r = 1) ∧ post r w) := by
  refine mKz_of (cc := cX8_isName) (maxL := 1) (by decide) rfl rfl (Nat.le_of_ble_eq_true rfl) rfl ?_
  intro p e s m args below meth c A C hs
  unfold wp_X8_isName at hw
  refine mv_iload_n C dX8_isName_0 rfl 0 rfl ?_
  refine mv_sipush (v := (255 : Int32)) C dX8_isName_1 (by decide) ?_
  refine mv_icmp_le (tgt := 11) C dX8_isName_4 (by decide) (fun h1 => ?_) (fun h1 => ?_)
  · have hw := hw.1 h1
    refine mv_iconst (v := (0 : Int32)) C dX8_isName_11 (by decide) ?_
    exact mv_zret C dX8_isName_12 (Or.inl rfl) hw
  · have hw := hw.2 h1
    refine mv_iconst (v := (1 : Int32)) C dX8_isName_7 (by decide) ?_
    refine mv_goto (tgt := 12) C dX8_isName_8 (by decide) ?_
    exact mv_zret C dX8_isName_12 (Or.inr rfl) hw
set_option maxHeartbeats 4000000 in
set_option maxRecDepth 100000 in
theorem X8_isNumber_met (hlev : 0 ≤ lev) {x0 : Int32} {u : mS} {post : Int32 → mS → Prop} (hw : wp_X8_isNumber x0 u post) : mKi l yX8_isNumber wsX8_isNumber lev (eA a) (dC, dI) vwCl [(cA, .int)] (wA cA a) [.int x0] u (fun r w => (r = 0 ∨ r = 1) ∧ post r w) := by
  refine mKz_of (cc := cX8_isNumber) (maxL := 1) (by decide) rfl rfl (Nat.le_of_ble_eq_true rfl) rfl ?_
  intro p e s m args below meth c A C hs
  unfold wp_X8_isNumber at hw
  refine mv_iload_n C dX8_isNumber_0 rfl 0 rfl ?_
  refine mv_if_lt (tgt := 14) C dX8_isNumber_1 (by decide) (fun h1 => ?_) (fun h1 => ?_)
  · have hw := hw.1 h1
    refine mv_iconst (v := (0 : Int32)) C dX8_isNumber_14 (by decide) ?_
    exact mv_zret C dX8_isNumber_15 (Or.inl rfl) hw
  · have hw := hw.2 h1
    refine mv_iload_n C dX8_isNumber_4 rfl 0 rfl ?_
    refine mv_bipush (v := (100 : Int32)) C dX8_isNumber_5 (by decide) ?_
    refine mv_icmp_ge (tgt := 14) C dX8_isNumber_7 (by decide) (fun h2 => ?_) (fun h2 => ?_)
    · have hw := hw.1 h2
      refine mv_iconst (v := (0 : Int32)) C dX8_isNumber_14 (by decide) ?_
      exact mv_zret C dX8_isNumber_15 (Or.inl rfl) hw
    · have hw := hw.2 h2
      refine mv_iconst (v := (1 : Int32)) C dX8_isNumber_10 (by decide) ?_
      refine mv_goto (tgt := 15) C dX8_isNumber_11 (by decide) ?_
      exact mv_zret C dX8_isNumber_15 (Or.inr rfl) hw
set_option maxHeartbeats 4000000 in
set_option maxRecDepth 100000 in
theorem X2_fail_met (hlev : 0 ≤ lev) {x1 : Int32} {u : mS} {post : mS → Prop} (hw : wp_X2_fail x1 u post) : mKv l yX2_fail wsX2_fail lev (eA a) (dC, dI) vwCl [(cA, .int)] (wA cA a) [.ref (a 14), .int x1] u post := by
  refine mKv_of (cc := cX2_fail) (maxL := 2) (by decide) rfl rfl (Nat.le_of_ble_eq_true rfl) rfl ?_
  intro p e s m args below meth c A C hs
  unfold wp_X2_fail at hw
  refine mv_aload_n C dX2_fail_0 rfl 0 rfl ?_
  refine mv_get (v := .int (u.1 7)) C iw_X2_fail_X2 14 rfl rfl 2 (by decide) lk_X2_fail_19 rfl rfl dX2_fail_1 ?_
  refine mv_topi (fun y1 ey1 => ?_)
  have hw := hw y1 ey1
  refine mv_if_ne (tgt := 12) C dX2_fail_4 (by decide) (fun h2 => ?_) (fun h2 => ?_)
  · have hw := hw.1 h2
    exact mv_vret C dX2_fail_12 hw
  · have hw := hw.2 h2
    refine mv_aload_n C dX2_fail_7 rfl 0 rfl ?_
    refine mv_iload_n C dX2_fail_8 rfl 1 rfl ?_
    refine mv_put (ty := .int) (ws1 := wA cA a (mSet u 7 x1)) C iw_X2_fail_X2 tyX2 tyX2_ok nmX2 14 rfl rfl 2 (by decide) lk_X2_fail_19 rfl rfl rfl rfl rfl (Nat.le_of_ble_eq_true rfl) rfl dX2_fail_9 ?_
    refine mv_nm (f := wA cA a) (fun u3 eu3 => ?_)
    have hw := hw u3 eu3
    exact mv_vret C dX2_fail_12 hw
set_option maxHeartbeats 4000000 in
set_option maxRecDepth 100000 in
theorem wj_X2_put_25_ok (C : mC p s m args meth c cX2_put 2 wsX2_put RX2 none (dC, dI) vwCl [(cA, .int)] A) (hs : eA a A s) (hlev : 0 ≤ lev) {post : mS → Prop} {u : mS} (hw : wj_X2_put_25 post  u) : mV p l e (mRm lev) s m args below meth c 2 (dC, dI) vwCl A 0 0 (mQv below args s (dC, dI) vwCl [(cA, .int)] (wA cA a) A post) (wA cA a u) 25 [(0, .ref (a 14))] [] := by
  unfold wj_X2_put_25 at hw
  refine mv_aload_n C dX2_put_25 rfl 0 rfl ?_
  refine mv_bipush (v := (6 : Int32)) C dX2_put_26 (by decide) ?_
  refine mv_put (ty := .int) (ws1 := wA cA a (mSet u 7 (6 : Int32))) C iw_X2_put_X2 tyX2 tyX2_ok nmX2 14 rfl rfl 2 (by decide) lk_X2_put_19 rfl rfl rfl rfl rfl (Nat.le_of_ble_eq_true rfl) rfl dX2_put_28 ?_
  refine mv_nm (f := wA cA a) (fun u12 eu12 => ?_)
  have hw := hw u12 eu12
  exact mv_vret C dX2_put_31 hw
set_option maxHeartbeats 4000000 in
set_option maxRecDepth 100000 in
theorem X2_put_met (hlev : 0 ≤ lev) {x1 : Int32} {u : mS} {post : mS → Prop} (hw : wp_X2_put x1 u post) : mKv l yX2_put wsX2_put lev (eA a) (dC, dI) vwCl [(cA, .int)] (wA cA a) [.ref (a 14), .int x1] u post := by
  refine mKv_of (cc := cX2_put) (maxL := 2) (by decide) rfl rfl (Nat.le_of_ble_eq_true rfl) rfl ?_
  intro p e s m args below meth c A C hs
  unfold wp_X2_put at hw
  refine mv_aload_n C dX2_put_0 rfl 0 rfl ?_
  refine mv_get (v := .int (u.1 7)) C iw_X2_put_X2 14 rfl rfl 2 (by decide) lk_X2_put_19 rfl rfl dX2_put_1 ?_
  refine mv_topi (fun y1 ey1 => ?_)
  have hw := hw y1 ey1
  refine mv_if_eq (tgt := 8) C dX2_put_4 (by decide) (fun h2 => ?_) (fun h2 => ?_)
  · have hw := hw.1 h2
    refine mv_aload_n C dX2_put_8 rfl 0 rfl ?_
    refine mv_get (v := .int (u.1 6)) C iw_X2_put_X2 14 rfl rfl 1 (by decide) lk_X2_put_15 rfl rfl dX2_put_9 ?_
    refine mv_topi (fun y3 ey3 => ?_)
    have hw := hw y3 ey3
    refine mv_if_lt (tgt := 25) C dX2_put_12 (by decide) (fun h4 => ?_) (fun h4 => ?_)
    · have hw := hw.1 h4
      refine mv_sub [0] rfl ?_
      exact wj_X2_put_25_ok C hs hlev hw
    · have hw := hw.2 h4
      refine mv_aload_n C dX2_put_15 rfl 0 rfl ?_
      refine mv_get (v := .int (u.1 6)) C iw_X2_put_X2 14 rfl rfl 1 (by decide) lk_X2_put_15 rfl rfl dX2_put_16 ?_
      refine mv_topi (fun y5 ey5 => ?_)
      have hw := hw y5 ey5
      refine mv_sipush (v := (200 : Int32)) C dX2_put_19 (by decide) ?_
      refine mv_icmp_lt (tgt := 32) C dX2_put_22 (by decide) (fun h6 => ?_) (fun h6 => ?_)
      · have hw := hw.1 h6
        refine mv_aload_n C dX2_put_32 rfl 0 rfl ?_
        refine mv_get (v := .ref (a 15)) C iw_X2_put_X2 14 rfl rfl 0 (by decide) lk_X2_put_9 rfl rfl dX2_put_33 ?_
        refine mv_aload_n C dX2_put_36 rfl 0 rfl ?_
        refine mv_get (v := .int (u.1 6)) C iw_X2_put_X2 14 rfl rfl 1 (by decide) lk_X2_put_15 rfl rfl dX2_put_37 ?_
        refine mv_topi (fun y7 ey7 => ?_)
        have hw := hw y7 ey7
        refine mv_iload_n C dX2_put_40 rfl 1 rfl ?_
        refine mv_iast (f := u.2 9) (ws1 := wA cA a (mPut u 9 y7.toNatClampNeg x1)) C 15 0 rfl rfl hw.1 rfl dX2_put_41 ?_
        refine mv_nm (f := wA cA a) (fun u8 eu8 => ?_)
        have hw := hw.2 u8 eu8
        refine mv_aload_n C dX2_put_42 rfl 0 rfl ?_
        refine mv_dup C dX2_put_43 rfl ?_
        refine mv_get (v := .int (u8.1 6)) C iw_X2_put_X2 14 rfl rfl 1 (by decide) lk_X2_put_15 rfl rfl dX2_put_44 ?_
        refine mv_topi (fun y9 ey9 => ?_)
        have hw := hw y9 ey9
        refine mv_iconst (v := (1 : Int32)) C dX2_put_47 (by decide) ?_
        refine mv_iadd C dX2_put_48 ?_
        refine mv_topi (fun y10 ey10 => ?_)
        have hw := hw y10 ey10
        refine mv_put (ty := .int) (ws1 := wA cA a (mSet u8 6 y10)) C iw_X2_put_X2 tyX2 tyX2_ok nmX2 14 rfl rfl 1 (by decide) lk_X2_put_15 rfl rfl rfl rfl rfl (Nat.le_of_ble_eq_true rfl) rfl dX2_put_49 ?_
        refine mv_nm (f := wA cA a) (fun u11 eu11 => ?_)
        have hw := hw u11 eu11
        exact mv_vret C dX2_put_52 hw
      · have hw := hw.2 h6
        refine mv_sub [0] rfl ?_
        exact wj_X2_put_25_ok C hs hlev hw
  · have hw := hw.2 h2
    exact mv_vret C dX2_put_7 hw
set_option maxHeartbeats 4000000 in
set_option maxRecDepth 100000 in
theorem wj_X2_putNumber_17_ok (C : mC p s m args meth c cX2_putNumber 2 wsX2_putNumber RX2 none (dC, dI) vwCl [(cA, .int)] A) (hs : eA a A s) (hlev : 1 ≤ lev) {post : mS → Prop} {x1 : Int32} {u : mS} (hw : wj_X2_putNumber_17 post x1 u) : mV p l e (mRm lev) s m args below meth c 2 (dC, dI) vwCl A 0 0 (mQv below args s (dC, dI) vwCl [(cA, .int)] (wA cA a) A post) (wA cA a u) 17 [(0, .ref (a 14)), (1, .int x1)] [] := by
  unfold wj_X2_putNumber_17 at hw
  refine mv_aload_n C dX2_putNumber_17 rfl 0 rfl ?_
  refine mv_bipush (v := (48 : Int32)) C dX2_putNumber_18 (by decide) ?_
  refine mv_iload_n C dX2_putNumber_20 rfl 1 rfl ?_
  refine mv_bipush (v := (10 : Int32)) C dX2_putNumber_21 (by decide) ?_
  refine mv_irem C dX2_putNumber_23 (by decide) ?_
  refine mv_topi (fun y6 ey6 => ?_)
  have hw := hw y6 ey6
  refine mv_iadd C dX2_putNumber_24 ?_
  refine mv_topi (fun y7 ey7 => ?_)
  have hw := hw y7 ey7
  refine mv_callVv (f := wA cA a) (As := [.int y7]) (rest := []) C (eA_ok a) hs 14 rfl rfl (X2_put_met (l := l) (lev := lev - 1) (by omega) hw) (cwV 1 C.2.2.2.2.1 gX2_putNumber_X2_put rfl rfl rfl (by decide +kernel) (mRm_le (by omega) (by decide))) rfl rfl (Nat.le_of_ble_eq_true rfl) dX2_putNumber_25 ⟨Nat.le_refl 0, Nat.le_refl 0⟩ (fun u9 hw => ?_)
  exact mv_vret C dX2_putNumber_28 hw
set_option maxHeartbeats 4000000 in
set_option maxRecDepth 100000 in
theorem X2_putNumber_met (hlev : 1 ≤ lev) {x1 : Int32} {u : mS} {post : mS → Prop} (hw : wp_X2_putNumber x1 u post) : mKv l yX2_putNumber wsX2_putNumber lev (eA a) (dC, dI) vwCl [(cA, .int)] (wA cA a) [.ref (a 14), .int x1] u post := by
  refine mKv_of (cc := cX2_putNumber) (maxL := 2) (by decide) rfl rfl (Nat.le_of_ble_eq_true rfl) rfl ?_
  intro p e s m args below meth c A C hs
  unfold wp_X2_putNumber at hw
  refine mv_iload_n C dX2_putNumber_0 rfl 1 rfl ?_
  refine mv_bipush (v := (9 : Int32)) C dX2_putNumber_1 (by decide) ?_
  refine mv_icmp_le (tgt := 17) C dX2_putNumber_3 (by decide) (fun h1 => ?_) (fun h1 => ?_)
  · have hw := hw.1 h1
    exact wj_X2_putNumber_17_ok C hs hlev hw
  · have hw := hw.2 h1
    refine mv_aload_n C dX2_putNumber_6 rfl 0 rfl ?_
    refine mv_bipush (v := (48 : Int32)) C dX2_putNumber_7 (by decide) ?_
    refine mv_iload_n C dX2_putNumber_9 rfl 1 rfl ?_
    refine mv_bipush (v := (10 : Int32)) C dX2_putNumber_10 (by decide) ?_
    refine mv_idiv C dX2_putNumber_12 (by decide) ?_
    refine mv_topi (fun y2 ey2 => ?_)
    have hw := hw y2 ey2
    refine mv_iadd C dX2_putNumber_13 ?_
    refine mv_topi (fun y3 ey3 => ?_)
    have hw := hw y3 ey3
    refine mv_callVv (f := wA cA a) (As := [.int y3]) (rest := []) C (eA_ok a) hs 14 rfl rfl (X2_put_met (l := l) (lev := lev - 1) (by omega) hw) (cwV 1 C.2.2.2.2.1 gX2_putNumber_X2_put rfl rfl rfl (by decide +kernel) (mRm_le (by omega) (by decide))) rfl rfl (Nat.le_of_ble_eq_true rfl) dX2_putNumber_14 ⟨Nat.le_refl 0, Nat.le_refl 0⟩ (fun u5 hw => ?_)
    exact wj_X2_putNumber_17_ok C hs hlev hw
set_option maxHeartbeats 4000000 in
set_option maxRecDepth 100000 in
theorem X5_marksAt_met (hlev : 0 ≤ lev) {x1 : Int32} {u : mS} {post : Int32 → mS → Prop} (hw : wp_X5_marksAt x1 u post) : mKi l yX5_marksAt wsX5_marksAt lev (eA a) (dC, dI) vwCl [(cA, .int)] (wA cA a) [.ref (a 2), .int x1] u post := by
  refine mKi_of (cc := cX5_marksAt) (maxL := 2) (by decide) rfl rfl (Nat.le_of_ble_eq_true rfl) rfl ?_
  intro p e s m args below meth c A C hs
  unfold wp_X5_marksAt at hw
  refine mv_iload_n C dX5_marksAt_0 rfl 1 rfl ?_
  refine mv_if_lt (tgt := 28) C dX5_marksAt_1 (by decide) (fun h1 => ?_) (fun h1 => ?_)
  · have hw := hw.1 h1
    refine mv_iconst (v := (0 : Int32)) C dX5_marksAt_28 (by decide) ?_
    exact mv_iret C dX5_marksAt_29 hw
  · have hw := hw.2 h1
    refine mv_iload_n C dX5_marksAt_4 rfl 1 rfl ?_
    refine mv_aload_n C dX5_marksAt_5 rfl 0 rfl ?_
    refine mv_get (v := .int (u.1 1)) C iw_X5_marksAt_X5 2 rfl rfl 4 (by decide) lk_X5_marksAt_24 rfl rfl dX5_marksAt_6 ?_
    refine mv_topi (fun y2 ey2 => ?_)
    have hw := hw y2 ey2
    refine mv_icmp_ge (tgt := 28) C dX5_marksAt_9 (by decide) (fun h3 => ?_) (fun h3 => ?_)
    · have hw := hw.1 h3
      refine mv_iconst (v := (0 : Int32)) C dX5_marksAt_28 (by decide) ?_
      exact mv_iret C dX5_marksAt_29 hw
    · have hw := hw.2 h3
      refine mv_iload_n C dX5_marksAt_12 rfl 1 rfl ?_
      refine mv_sipush (v := (3000 : Int32)) C dX5_marksAt_13 (by decide) ?_
      refine mv_icmp_ge (tgt := 28) C dX5_marksAt_16 (by decide) (fun h4 => ?_) (fun h4 => ?_)
      · have hw := hw.1 h4
        refine mv_iconst (v := (0 : Int32)) C dX5_marksAt_28 (by decide) ?_
        exact mv_iret C dX5_marksAt_29 hw
      · have hw := hw.2 h4
        refine mv_aload_n C dX5_marksAt_19 rfl 0 rfl ?_
        refine mv_get (v := .ref (a 4)) C iw_X5_marksAt_X5 2 rfl rfl 1 (by decide) lk_X5_marksAt_15 rfl rfl dX5_marksAt_20 ?_
        refine mv_iload_n C dX5_marksAt_23 rfl 1 rfl ?_
        refine mv_iald (f := u.2 2) C 4 0 rfl rfl hw.1 dX5_marksAt_24 ?_
        refine mv_topi (fun y5 ey5 => ?_)
        have hw := hw.2 y5 ey5
        refine mv_goto (tgt := 29) C dX5_marksAt_25 (by decide) ?_
        exact mv_iret C dX5_marksAt_29 hw
set_option maxHeartbeats 4000000 in
set_option maxRecDepth 100000 in
theorem J6_bitCount_0f7a4_met (hlev : 0 ≤ lev) {x0 : Int32} {u : mS} {post : Int32 → mS → Prop} (hw : wp_J6_bitCount_0f7a4 x0 u post) : mKi l yJ6_bitCount_0f7a4 wsJ6_bitCount_0f7a4 lev (eA a) (dC, dI) vwCl [(cA, .int)] (wA cA a) [.int x0] u post := by
  refine mKi_of (cc := cJ6_bitCount_0f7a4) (maxL := 1) (by decide) rfl rfl (Nat.le_of_ble_eq_true rfl) rfl ?_
  intro p e s m args below meth c A C hs
  unfold wp_J6_bitCount_0f7a4 at hw
  refine mv_iload_n C dJ6_bitCount_0f7a4_0 rfl 0 rfl ?_
  refine mv_iload_n C dJ6_bitCount_0f7a4_1 rfl 0 rfl ?_
  refine mv_iconst (v := (1 : Int32)) C dJ6_bitCount_0f7a4_2 (by decide) ?_
  refine mv_iushr C dJ6_bitCount_0f7a4_3 ?_
  refine mv_topi (fun y1 ey1 => ?_)
  have hw := hw y1 ey1
  refine mv_ldcw (v := (1431655765 : Int32)) C mw_J6_bitCount_0f7a4__constant_RJ6_265_1431655765_Int32_ dJ6_bitCount_0f7a4_4 ?_
  refine mv_iand C dJ6_bitCount_0f7a4_7 ?_
  refine mv_topi (fun y2 ey2 => ?_)
  have hw := hw y2 ey2
  refine mv_isub C dJ6_bitCount_0f7a4_8 ?_
  refine mv_topi (fun y3 ey3 => ?_)
  have hw := hw y3 ey3
  refine mv_istore_n (lv1 := [(0, .int y3)]) C dJ6_bitCount_0f7a4_9 rfl (by decide) rfl ?_
  refine mv_iload_n C dJ6_bitCount_0f7a4_10 rfl 0 rfl ?_
  refine mv_ldcw (v := (858993459 : Int32)) C mw_J6_bitCount_0f7a4__constant_RJ6_266_858993459_Int32_ dJ6_bitCount_0f7a4_11 ?_
  refine mv_iand C dJ6_bitCount_0f7a4_14 ?_
  refine mv_topi (fun y4 ey4 => ?_)
  have hw := hw y4 ey4
  refine mv_iload_n C dJ6_bitCount_0f7a4_15 rfl 0 rfl ?_
  refine mv_iconst (v := (2 : Int32)) C dJ6_bitCount_0f7a4_16 (by decide) ?_
  refine mv_iushr C dJ6_bitCount_0f7a4_17 ?_
  refine mv_topi (fun y5 ey5 => ?_)
  have hw := hw y5 ey5
  refine mv_ldcw (v := (858993459 : Int32)) C mw_J6_bitCount_0f7a4__constant_RJ6_266_858993459_Int32_ dJ6_bitCount_0f7a4_18 ?_
  refine mv_iand C dJ6_bitCount_0f7a4_21 ?_
  refine mv_topi (fun y6 ey6 => ?_)
  have hw := hw y6 ey6
  refine mv_iadd C dJ6_bitCount_0f7a4_22 ?_
  refine mv_topi (fun y7 ey7 => ?_)
  have hw := hw y7 ey7
  refine mv_istore_n (lv1 := [(0, .int y7)]) C dJ6_bitCount_0f7a4_23 rfl (by decide) rfl ?_
  refine mv_iload_n C dJ6_bitCount_0f7a4_24 rfl 0 rfl ?_
  refine mv_iload_n C dJ6_bitCount_0f7a4_25 rfl 0 rfl ?_
  refine mv_iconst (v := (4 : Int32)) C dJ6_bitCount_0f7a4_26 (by decide) ?_
  refine mv_iushr C dJ6_bitCount_0f7a4_27 ?_
  refine mv_topi (fun y8 ey8 => ?_)
  have hw := hw y8 ey8
  refine mv_iadd C dJ6_bitCount_0f7a4_28 ?_
  refine mv_topi (fun y9 ey9 => ?_)
  have hw := hw y9 ey9
  refine mv_ldcw (v := (252645135 : Int32)) C mw_J6_bitCount_0f7a4__constant_RJ6_267_252645135_Int32_ dJ6_bitCount_0f7a4_29 ?_
  refine mv_iand C dJ6_bitCount_0f7a4_32 ?_
  refine mv_topi (fun y10 ey10 => ?_)
  have hw := hw y10 ey10
  refine mv_istore_n (lv1 := [(0, .int y10)]) C dJ6_bitCount_0f7a4_33 rfl (by decide) rfl ?_
  refine mv_iload_n C dJ6_bitCount_0f7a4_34 rfl 0 rfl ?_
  refine mv_iload_n C dJ6_bitCount_0f7a4_35 rfl 0 rfl ?_
  refine mv_bipush (v := (8 : Int32)) C dJ6_bitCount_0f7a4_36 (by decide) ?_
  refine mv_iushr C dJ6_bitCount_0f7a4_38 ?_
  refine mv_topi (fun y11 ey11 => ?_)
  have hw := hw y11 ey11
  refine mv_iadd C dJ6_bitCount_0f7a4_39 ?_
  refine mv_topi (fun y12 ey12 => ?_)
  have hw := hw y12 ey12
  refine mv_istore_n (lv1 := [(0, .int y12)]) C dJ6_bitCount_0f7a4_40 rfl (by decide) rfl ?_
  refine mv_iload_n C dJ6_bitCount_0f7a4_41 rfl 0 rfl ?_
  refine mv_iload_n C dJ6_bitCount_0f7a4_42 rfl 0 rfl ?_
  refine mv_bipush (v := (16 : Int32)) C dJ6_bitCount_0f7a4_43 (by decide) ?_
  refine mv_iushr C dJ6_bitCount_0f7a4_45 ?_
  refine mv_topi (fun y13 ey13 => ?_)
  have hw := hw y13 ey13
  refine mv_iadd C dJ6_bitCount_0f7a4_46 ?_
  refine mv_topi (fun y14 ey14 => ?_)
  have hw := hw y14 ey14
  refine mv_istore_n (lv1 := [(0, .int y14)]) C dJ6_bitCount_0f7a4_47 rfl (by decide) rfl ?_
  refine mv_iload_n C dJ6_bitCount_0f7a4_48 rfl 0 rfl ?_
  refine mv_bipush (v := (63 : Int32)) C dJ6_bitCount_0f7a4_49 (by decide) ?_
  refine mv_iand C dJ6_bitCount_0f7a4_51 ?_
  refine mv_topi (fun y15 ey15 => ?_)
  have hw := hw y15 ey15
  exact mv_iret C dJ6_bitCount_0f7a4_52 hw
set_option maxHeartbeats 4000000 in
set_option maxRecDepth 100000 in
theorem wj_X7_holdsAllOthers_88_ok (C : mC p s m args meth c cX7_holdsAllOthers 5 wsX7_holdsAllOthers RX7 (some .boolean) (dC, dI) vwCl [(cA, .int)] A) (hs : eA a A s) (hlev : 0 ≤ lev) {post : Int32 → mS → Prop} {K14 : Int32 → Int32 → Int32 → mS → Prop} (hK14 : ∀ (x1 x2 x3 : Int32) (u : mS), K14 x1 x2 x3 u → mV p l e (mRm lev) s m args below meth c 5 (dC, dI) vwCl A 0 0 (mQi below args s (dC, dI) vwCl [(cA, .int)] (wA cA a) A (fun r w => (r = 0 ∨ r = 1) ∧ post r w)) (wA cA a u) 14 [(0, .ref (a 9)), (1, .int x1), (2, .int x2), (3, .int x3)] []) {x1 x2 x3 : Int32} {u : mS} (hw : wj_X7_holdsAllOthers_88 K14 post x1 x2 x3 u) : mV p l e (mRm lev) s m args below meth c 5 (dC, dI) vwCl A 0 0 (mQi below args s (dC, dI) vwCl [(cA, .int)] (wA cA a) A (fun r w => (r = 0 ∨ r = 1) ∧ post r w)) (wA cA a u) 88 [(0, .ref (a 9)), (1, .int x1), (2, .int x2), (3, .int x3)] [] := by
  unfold wj_X7_holdsAllOthers_88 at hw
  obtain ⟨y19, ey19⟩ : ∃ z : Int32, z = x3 + (1 : Int32) := ⟨_, rfl⟩
  have hw := hw y19 ey19
  refine mv_iinc (v := y19) (lv1 := [(3, .int y19), (0, .ref (a 9)), (1, .int x1), (2, .int x2)]) C dX7_holdsAllOthers_88 3 rfl (by rw [ey19]; rfl) (by decide) rfl ?_
  refine mv_goto (tgt := 14) C dX7_holdsAllOthers_91 (by decide) ?_
  refine mv_sub [1, 2, 3, 0] rfl ?_
  exact hK14 x1 x2 y19 u hw
set_option maxHeartbeats 4000000 in
set_option maxRecDepth 100000 in
theorem wj_X7_holdsAllOthers_61_ok (C : mC p s m args meth c cX7_holdsAllOthers 5 wsX7_holdsAllOthers RX7 (some .boolean) (dC, dI) vwCl [(cA, .int)] A) (hs : eA a A s) (hlev : 0 ≤ lev) {post : Int32 → mS → Prop} {K14 : Int32 → Int32 → Int32 → mS → Prop} (hK14 : ∀ (x1 x2 x3 : Int32) (u : mS), K14 x1 x2 x3 u → mV p l e (mRm lev) s m args below meth c 5 (dC, dI) vwCl A 0 0 (mQi below args s (dC, dI) vwCl [(cA, .int)] (wA cA a) A (fun r w => (r = 0 ∨ r = 1) ∧ post r w)) (wA cA a u) 14 [(0, .ref (a 9)), (1, .int x1), (2, .int x2), (3, .int x3)] []) {x1 x2 x3 z0 : Int32} {u : mS} (hw : wj_X7_holdsAllOthers_61 K14 post x1 x2 x3 z0 u) : mV p l e (mRm lev) s m args below meth c 5 (dC, dI) vwCl A 0 0 (mQi below args s (dC, dI) vwCl [(cA, .int)] (wA cA a) A (fun r w => (r = 0 ∨ r = 1) ∧ post r w)) (wA cA a u) 61 [(0, .ref (a 9)), (1, .int x1), (2, .int x2), (3, .int x3)] [.int z0] := by
  unfold wj_X7_holdsAllOthers_61 at hw
  refine mv_istore (lv1 := [(4, .int z0), (0, .ref (a 9)), (1, .int x1), (2, .int x2), (3, .int x3)]) C dX7_holdsAllOthers_61 (by decide) rfl ?_
  refine mv_iload C dX7_holdsAllOthers_63 0 rfl ?_
  refine mv_if_eq (tgt := 88) C dX7_holdsAllOthers_65 (by decide) (fun h13 => ?_) (fun h13 => ?_)
  · have hw := hw.1 h13
    refine mv_sub [1, 2, 3, 4] rfl ?_
    exact wj_X7_holdsAllOthers_88_ok C hs hlev hK14 hw
  · have hw := hw.2 h13
    refine mv_aload_n C dX7_holdsAllOthers_68 rfl 1 rfl ?_
    refine mv_get (v := .ref (a 11)) C iw_X7_holdsAllOthers_X7 9 rfl rfl 1 (by decide) lk_X7_holdsAllOthers_15 rfl rfl dX7_holdsAllOthers_69 ?_
    refine mv_iload_n C dX7_holdsAllOthers_72 rfl 4 rfl ?_
    refine mv_iald (f := u.2 6) C 11 0 rfl rfl hw.1 dX7_holdsAllOthers_73 ?_
    refine mv_topi (fun y14 ey14 => ?_)
    have hw := hw.2 y14 ey14
    refine mv_aload_n C dX7_holdsAllOthers_74 rfl 1 rfl ?_
    refine mv_get (v := .ref (a 11)) C iw_X7_holdsAllOthers_X7 9 rfl rfl 1 (by decide) lk_X7_holdsAllOthers_15 rfl rfl dX7_holdsAllOthers_75 ?_
    refine mv_iload_n C dX7_holdsAllOthers_78 rfl 2 rfl ?_
    refine mv_iald (f := u.2 6) C 11 0 rfl rfl hw.1 dX7_holdsAllOthers_79 ?_
    refine mv_topi (fun y15 ey15 => ?_)
    have hw := hw.2 y15 ey15
    refine mv_iconst (v := (-1 : Int32)) C dX7_holdsAllOthers_80 (by decide) ?_
    refine mv_ixor C dX7_holdsAllOthers_81 ?_
    refine mv_topi (fun y16 ey16 => ?_)
    have hw := hw y16 ey16
    refine mv_iand C dX7_holdsAllOthers_82 ?_
    refine mv_topi (fun y17 ey17 => ?_)
    have hw := hw y17 ey17
    refine mv_if_eq (tgt := 88) C dX7_holdsAllOthers_83 (by decide) (fun h18 => ?_) (fun h18 => ?_)
    · have hw := hw.1 h18
      refine mv_sub [1, 2, 3, 4] rfl ?_
      exact wj_X7_holdsAllOthers_88_ok C hs hlev hK14 hw
    · have hw := hw.2 h18
      refine mv_iconst (v := (0 : Int32)) C dX7_holdsAllOthers_86 (by decide) ?_
      exact mv_zret C dX7_holdsAllOthers_87 (Or.inl rfl) hw
set_option maxHeartbeats 4000000 in
set_option maxRecDepth 100000 in
theorem wj_X7_holdsAllOthers_60_ok (C : mC p s m args meth c cX7_holdsAllOthers 5 wsX7_holdsAllOthers RX7 (some .boolean) (dC, dI) vwCl [(cA, .int)] A) (hs : eA a A s) (hlev : 0 ≤ lev) {post : Int32 → mS → Prop} {K14 : Int32 → Int32 → Int32 → mS → Prop} (hK14 : ∀ (x1 x2 x3 : Int32) (u : mS), K14 x1 x2 x3 u → mV p l e (mRm lev) s m args below meth c 5 (dC, dI) vwCl A 0 0 (mQi below args s (dC, dI) vwCl [(cA, .int)] (wA cA a) A (fun r w => (r = 0 ∨ r = 1) ∧ post r w)) (wA cA a u) 14 [(0, .ref (a 9)), (1, .int x1), (2, .int x2), (3, .int x3)] []) {x1 x2 x3 : Int32} {u : mS} (hw : wj_X7_holdsAllOthers_60 K14 post x1 x2 x3 u) : mV p l e (mRm lev) s m args below meth c 5 (dC, dI) vwCl A 0 0 (mQi below args s (dC, dI) vwCl [(cA, .int)] (wA cA a) A (fun r w => (r = 0 ∨ r = 1) ∧ post r w)) (wA cA a u) 60 [(0, .ref (a 9)), (1, .int x1), (2, .int x2), (3, .int x3)] [] := by
  unfold wj_X7_holdsAllOthers_60 at hw
  refine mv_iconst (v := (0 : Int32)) C dX7_holdsAllOthers_60 (by decide) ?_
  exact wj_X7_holdsAllOthers_61_ok C hs hlev hK14 hw
set_option maxHeartbeats 4000000 in
set_option maxRecDepth 100000 in
theorem wj_X7_holdsAllOthers_14_ok (C : mC p s m args meth c cX7_holdsAllOthers 5 wsX7_holdsAllOthers RX7 (some .boolean) (dC, dI) vwCl [(cA, .int)] A) (hs : eA a A s) (hlev : 0 ≤ lev) {post : Int32 → mS → Prop} {K14 : Int32 → Int32 → Int32 → mS → Prop} (hK14 : ∀ (x1 x2 x3 : Int32) (u : mS), K14 x1 x2 x3 u → mV p l e (mRm lev) s m args below meth c 5 (dC, dI) vwCl A 0 0 (mQi below args s (dC, dI) vwCl [(cA, .int)] (wA cA a) A (fun r w => (r = 0 ∨ r = 1) ∧ post r w)) (wA cA a u) 14 [(0, .ref (a 9)), (1, .int x1), (2, .int x2), (3, .int x3)] []) {x1 x2 x3 : Int32} {u : mS} (hw : wj_X7_holdsAllOthers_14 K14 post x1 x2 x3 u) : mV p l e (mRm lev) s m args below meth c 5 (dC, dI) vwCl A 0 0 (mQi below args s (dC, dI) vwCl [(cA, .int)] (wA cA a) A (fun r w => (r = 0 ∨ r = 1) ∧ post r w)) (wA cA a u) 14 [(0, .ref (a 9)), (1, .int x1), (2, .int x2), (3, .int x3)] [] := by
  unfold wj_X7_holdsAllOthers_14 at hw
  refine mv_iload_n C dX7_holdsAllOthers_14 rfl 3 rfl ?_
  refine mv_aload_n C dX7_holdsAllOthers_15 rfl 0 rfl ?_
  refine mv_get (v := .int (u.1 4)) C iw_X7_holdsAllOthers_X7 9 rfl rfl 4 (by decide) lk_X7_holdsAllOthers_33 rfl rfl dX7_holdsAllOthers_16 ?_
  refine mv_topi (fun y3 ey3 => ?_)
  have hw := hw y3 ey3
  refine mv_icmp_ge (tgt := 94) C dX7_holdsAllOthers_19 (by decide) (fun h4 => ?_) (fun h4 => ?_)
  · have hw := hw.1 h4
    refine mv_iconst (v := (1 : Int32)) C dX7_holdsAllOthers_94 (by decide) ?_
    exact mv_zret C dX7_holdsAllOthers_95 (Or.inr rfl) hw
  · have hw := hw.2 h4
    refine mv_iload_n C dX7_holdsAllOthers_22 rfl 3 rfl ?_
    refine mv_bipush (v := (40 : Int32)) C dX7_holdsAllOthers_23 (by decide) ?_
    refine mv_icmp_ge (tgt := 94) C dX7_holdsAllOthers_25 (by decide) (fun h5 => ?_) (fun h5 => ?_)
    · have hw := hw.1 h5
      refine mv_iconst (v := (1 : Int32)) C dX7_holdsAllOthers_94 (by decide) ?_
      exact mv_zret C dX7_holdsAllOthers_95 (Or.inr rfl) hw
    · have hw := hw.2 h5
      refine mv_aload_n C dX7_holdsAllOthers_28 rfl 0 rfl ?_
      refine mv_get (v := .ref (a 10)) C iw_X7_holdsAllOthers_X7 9 rfl rfl 0 (by decide) lk_X7_holdsAllOthers_9 rfl rfl dX7_holdsAllOthers_29 ?_
      refine mv_iload_n C dX7_holdsAllOthers_32 rfl 3 rfl ?_
      refine mv_iald (f := u.2 5) C 10 0 rfl rfl hw.1 dX7_holdsAllOthers_33 ?_
      refine mv_topi (fun y6 ey6 => ?_)
      have hw := hw.2 y6 ey6
      refine mv_aload_n C dX7_holdsAllOthers_34 rfl 0 rfl ?_
      refine mv_get (v := .ref (a 10)) C iw_X7_holdsAllOthers_X7 9 rfl rfl 0 (by decide) lk_X7_holdsAllOthers_9 rfl rfl dX7_holdsAllOthers_35 ?_
      refine mv_iload_n C dX7_holdsAllOthers_38 rfl 1 rfl ?_
      refine mv_iald (f := u.2 5) C 10 0 rfl rfl hw.1 dX7_holdsAllOthers_39 ?_
      refine mv_topi (fun y7 ey7 => ?_)
      have hw := hw.2 y7 ey7
      refine mv_icmp_ne (tgt := 60) C dX7_holdsAllOthers_40 (by decide) (fun h8 => ?_) (fun h8 => ?_)
      · have hw := hw.1 h8
        exact wj_X7_holdsAllOthers_60_ok C hs hlev hK14 hw
      · have hw := hw.2 h8
        refine mv_aload_n C dX7_holdsAllOthers_43 rfl 0 rfl ?_
        refine mv_get (v := .ref (a 11)) C iw_X7_holdsAllOthers_X7 9 rfl rfl 1 (by decide) lk_X7_holdsAllOthers_15 rfl rfl dX7_holdsAllOthers_44 ?_
        refine mv_iload_n C dX7_holdsAllOthers_47 rfl 3 rfl ?_
        refine mv_iald (f := u.2 6) C 11 0 rfl rfl hw.1 dX7_holdsAllOthers_48 ?_
        refine mv_topi (fun y9 ey9 => ?_)
        have hw := hw.2 y9 ey9
        refine mv_iload_n C dX7_holdsAllOthers_49 rfl 2 rfl ?_
        refine mv_iconst (v := (-1 : Int32)) C dX7_holdsAllOthers_50 (by decide) ?_
        refine mv_ixor C dX7_holdsAllOthers_51 ?_
        refine mv_topi (fun y10 ey10 => ?_)
        have hw := hw y10 ey10
        refine mv_iand C dX7_holdsAllOthers_52 ?_
        refine mv_topi (fun y11 ey11 => ?_)
        have hw := hw y11 ey11
        refine mv_if_ne (tgt := 60) C dX7_holdsAllOthers_53 (by decide) (fun h12 => ?_) (fun h12 => ?_)
        · have hw := hw.1 h12
          exact wj_X7_holdsAllOthers_60_ok C hs hlev hK14 hw
        · have hw := hw.2 h12
          refine mv_iconst (v := (1 : Int32)) C dX7_holdsAllOthers_56 (by decide) ?_
          refine mv_goto (tgt := 61) C dX7_holdsAllOthers_57 (by decide) ?_
          exact wj_X7_holdsAllOthers_61_ok C hs hlev hK14 hw
set_option maxHeartbeats 4000000 in
set_option maxRecDepth 100000 in
theorem X7_holdsAllOthers_met (hlev : 0 ≤ lev) {x1 x2 : Int32} {u : mS} {post : Int32 → mS → Prop} (hw : wp_X7_holdsAllOthers x1 x2 u post) : mKi l yX7_holdsAllOthers wsX7_holdsAllOthers lev (eA a) (dC, dI) vwCl [(cA, .int)] (wA cA a) [.ref (a 9), .int x1, .int x2] u (fun r w => (r = 0 ∨ r = 1) ∧ post r w) := by
  refine mKz_of (cc := cX7_holdsAllOthers) (maxL := 5) (by decide) rfl rfl (Nat.le_of_ble_eq_true rfl) rfl ?_
  intro p e s m args below meth c A C hs
  unfold wp_X7_holdsAllOthers at hw
  refine mv_iload_n C dX7_holdsAllOthers_0 rfl 1 rfl ?_
  refine mv_if_lt (tgt := 10) C dX7_holdsAllOthers_1 (by decide) (fun h1 => ?_) (fun h1 => ?_)
  · have hw := hw.1 h1
    refine mv_iconst (v := (0 : Int32)) C dX7_holdsAllOthers_10 (by decide) ?_
    exact mv_zret C dX7_holdsAllOthers_11 (Or.inl rfl) hw
  · have hw := hw.2 h1
    refine mv_iload_n C dX7_holdsAllOthers_4 rfl 1 rfl ?_
    refine mv_bipush (v := (40 : Int32)) C dX7_holdsAllOthers_5 (by decide) ?_
    refine mv_icmp_lt (tgt := 12) C dX7_holdsAllOthers_7 (by decide) (fun h2 => ?_) (fun h2 => ?_)
    · have hw := hw.1 h2
      refine mv_iconst (v := (0 : Int32)) C dX7_holdsAllOthers_12 (by decide) ?_
      refine mv_istore_n (lv1 := [(3, .int (0 : Int32)), (0, .ref (a 9)), (1, .int x1), (2, .int x2)]) C dX7_holdsAllOthers_13 rfl (by decide) rfl ?_
      refine mv_sub [1, 2, 3, 0] rfl ?_
      obtain ⟨n, hw⟩ := hw
      exact mL4_of (fun K hK b0 b1 b2 b3 hw => wj_X7_holdsAllOthers_14_ok C hs hlev hK hw) n x1 x2 (0 : Int32) u hw
    · have hw := hw.2 h2
      refine mv_iconst (v := (0 : Int32)) C dX7_holdsAllOthers_10 (by decide) ?_
      exact mv_zret C dX7_holdsAllOthers_11 (Or.inl rfl) hw
set_option maxHeartbeats 4000000 in
set_option maxRecDepth 100000 in
theorem wj_X7_meaning_79_ok (C : mC p s m args meth c cX7_meaning 6 wsX7_meaning RX7 (some .int) (dC, dI) vwCl [(cA, .int)] A) (hs : eA a A s) (hlev : 1 ≤ lev) {post : Int32 → mS → Prop} {K8 : Int32 → Int32 → Int32 → Int32 → Int32 → mS → Prop} (hK8 : ∀ (x1 x2 x3 x4 x5 : Int32) (u : mS), K8 x1 x2 x3 x4 x5 u → mV p l e (mRm lev) s m args below meth c 6 (dC, dI) vwCl A 0 0 (mQi below args s (dC, dI) vwCl [(cA, .int)] (wA cA a) A post) (wA cA a u) 8 [(0, .ref (a 9)), (1, .int x1), (2, .int x2), (3, .int x3), (4, .int x4), (5, .int x5)] []) {x1 x2 x3 x4 x5 : Int32} {u : mS} (hw : wj_X7_meaning_79 K8 post x1 x2 x3 x4 x5 u) : mV p l e (mRm lev) s m args below meth c 6 (dC, dI) vwCl A 0 0 (mQi below args s (dC, dI) vwCl [(cA, .int)] (wA cA a) A post) (wA cA a u) 79 [(0, .ref (a 9)), (1, .int x1), (2, .int x2), (3, .int x3), (4, .int x4), (5, .int x5)] [] := by
  unfold wj_X7_meaning_79 at hw
  obtain ⟨y17, ey17⟩ : ∃ z : Int32, z = x5 + (1 : Int32) := ⟨_, rfl⟩
  have hw := hw y17 ey17
  refine mv_iinc (v := y17) (lv1 := [(5, .int y17), (0, .ref (a 9)), (1, .int x1), (2, .int x2), (3, .int x3), (4, .int x4)]) C dX7_meaning_79 5 rfl (by rw [ey17]; rfl) (by decide) rfl ?_
  refine mv_goto (tgt := 8) C dX7_meaning_82 (by decide) ?_
  refine mv_sub [1, 2, 3, 4, 5, 0] rfl ?_
  exact hK8 x1 x2 x3 x4 y17 u hw
set_option maxHeartbeats 4000000 in
set_option maxRecDepth 100000 in
theorem wj_X7_meaning_98_ok (C : mC p s m args meth c cX7_meaning 6 wsX7_meaning RX7 (some .int) (dC, dI) vwCl [(cA, .int)] A) (hs : eA a A s) (hlev : 1 ≤ lev) {post : Int32 → mS → Prop} {x3 : Int32} {u : mS} (hw : wj_X7_meaning_98 post x3 u) : mV p l e (mRm lev) s m args below meth c 6 (dC, dI) vwCl A 0 0 (mQi below args s (dC, dI) vwCl [(cA, .int)] (wA cA a) A post) (wA cA a u) 98 [(3, .int x3)] [] := by
  unfold wj_X7_meaning_98 at hw
  refine mv_iload_n C dX7_meaning_98 rfl 0 rfl ?_
  refine mv_goto (tgt := 104) C dX7_meaning_99 (by decide) ?_
  exact mv_iret C dX7_meaning_104 hw
set_option maxHeartbeats 4000000 in
set_option maxRecDepth 100000 in
theorem wj_X7_meaning_85_ok (C : mC p s m args meth c cX7_meaning 6 wsX7_meaning RX7 (some .int) (dC, dI) vwCl [(cA, .int)] A) (hs : eA a A s) (hlev : 1 ≤ lev) {post : Int32 → mS → Prop} {x2 x3 : Int32} {u : mS} (hw : wj_X7_meaning_85 post x2 x3 u) : mV p l e (mRm lev) s m args below meth c 6 (dC, dI) vwCl A 0 0 (mQi below args s (dC, dI) vwCl [(cA, .int)] (wA cA a) A post) (wA cA a u) 85 [(0, .ref (a 9)), (2, .int x2), (3, .int x3)] [] := by
  unfold wj_X7_meaning_85 at hw
  refine mv_iload_n C dX7_meaning_85 rfl 2 rfl ?_
  refine mv_if_lt (tgt := 98) C dX7_meaning_86 (by decide) (fun h18 => ?_) (fun h18 => ?_)
  · have hw := hw.1 h18
    refine mv_sub [2] rfl ?_
    exact wj_X7_meaning_98_ok C hs hlev hw
  · have hw := hw.2 h18
    refine mv_aload_n C dX7_meaning_89 rfl 0 rfl ?_
    refine mv_iload_n C dX7_meaning_90 rfl 2 rfl ?_
    refine mv_iload_n C dX7_meaning_91 rfl 1 rfl ?_
    refine mv_callVi (f := wA cA a) (As := [.int x3, .int x2]) (rest := []) C (eA_ok a) hs 9 rfl rfl (X7_holdsAllOthers_met (l := l) (lev := lev - 1) (by omega) hw) (cwV 2 C.2.2.2.2.1 gX7_meaning_X7_holdsAllOthers rfl rfl rfl (by decide +kernel) (mRm_le (by omega) (by decide))) rfl rfl (Nat.le_of_ble_eq_true rfl) dX7_meaning_92 ⟨Nat.le_refl 0, Nat.le_refl 0⟩ (fun r19 u20 hw => ?_)
    obtain ⟨gr19, hw⟩ := hw
    refine mv_if_eq (tgt := 102) C dX7_meaning_95 (by decide) (fun h21 => ?_) (fun h21 => ?_)
    · have hw := hw.1 h21
      refine mv_bipush (v := (-2 : Int32)) C dX7_meaning_102 (by decide) ?_
      exact mv_iret C dX7_meaning_104 hw
    · have hw := hw.2 h21
      refine mv_sub [2] rfl ?_
      exact wj_X7_meaning_98_ok C hs hlev hw
set_option maxHeartbeats 4000000 in
set_option maxRecDepth 100000 in
theorem wj_X7_meaning_8_ok (C : mC p s m args meth c cX7_meaning 6 wsX7_meaning RX7 (some .int) (dC, dI) vwCl [(cA, .int)] A) (hs : eA a A s) (hlev : 1 ≤ lev) {post : Int32 → mS → Prop} {K8 : Int32 → Int32 → Int32 → Int32 → Int32 → mS → Prop} (hK8 : ∀ (x1 x2 x3 x4 x5 : Int32) (u : mS), K8 x1 x2 x3 x4 x5 u → mV p l e (mRm lev) s m args below meth c 6 (dC, dI) vwCl A 0 0 (mQi below args s (dC, dI) vwCl [(cA, .int)] (wA cA a) A post) (wA cA a u) 8 [(0, .ref (a 9)), (1, .int x1), (2, .int x2), (3, .int x3), (4, .int x4), (5, .int x5)] []) {x1 x2 x3 x4 x5 : Int32} {u : mS} (hw : wj_X7_meaning_8 K8 post x1 x2 x3 x4 x5 u) : mV p l e (mRm lev) s m args below meth c 6 (dC, dI) vwCl A 0 0 (mQi below args s (dC, dI) vwCl [(cA, .int)] (wA cA a) A post) (wA cA a u) 8 [(0, .ref (a 9)), (1, .int x1), (2, .int x2), (3, .int x3), (4, .int x4), (5, .int x5)] [] := by
  unfold wj_X7_meaning_8 at hw
  refine mv_iload C dX7_meaning_8 5 rfl ?_
  refine mv_aload_n C dX7_meaning_10 rfl 0 rfl ?_
  refine mv_get (v := .int (u.1 4)) C iw_X7_meaning_X7 9 rfl rfl 4 (by decide) lk_X7_meaning_33 rfl rfl dX7_meaning_11 ?_
  refine mv_topi (fun y1 ey1 => ?_)
  have hw := hw y1 ey1
  refine mv_icmp_ge (tgt := 85) C dX7_meaning_14 (by decide) (fun h2 => ?_) (fun h2 => ?_)
  · have hw := hw.1 h2
    refine mv_sub [0, 2, 3] rfl ?_
    exact wj_X7_meaning_85_ok C hs hlev hw
  · have hw := hw.2 h2
    refine mv_iload C dX7_meaning_17 5 rfl ?_
    refine mv_bipush (v := (40 : Int32)) C dX7_meaning_19 (by decide) ?_
    refine mv_icmp_ge (tgt := 85) C dX7_meaning_21 (by decide) (fun h3 => ?_) (fun h3 => ?_)
    · have hw := hw.1 h3
      refine mv_sub [0, 2, 3] rfl ?_
      exact wj_X7_meaning_85_ok C hs hlev hw
    · have hw := hw.2 h3
      refine mv_aload_n C dX7_meaning_24 rfl 0 rfl ?_
      refine mv_get (v := .ref (a 10)) C iw_X7_meaning_X7 9 rfl rfl 0 (by decide) lk_X7_meaning_9 rfl rfl dX7_meaning_25 ?_
      refine mv_iload C dX7_meaning_28 5 rfl ?_
      refine mv_iald (f := u.2 5) C 10 0 rfl rfl hw.1 dX7_meaning_30 ?_
      refine mv_topi (fun y4 ey4 => ?_)
      have hw := hw.2 y4 ey4
      refine mv_iload_n C dX7_meaning_31 rfl 1 rfl ?_
      refine mv_icmp_ne (tgt := 79) C dX7_meaning_32 (by decide) (fun h5 => ?_) (fun h5 => ?_)
      · have hw := hw.1 h5
        exact wj_X7_meaning_79_ok C hs hlev hK8 hw
      · have hw := hw.2 h5
        refine mv_aload_n C dX7_meaning_35 rfl 0 rfl ?_
        refine mv_get (v := .ref (a 11)) C iw_X7_meaning_X7 9 rfl rfl 1 (by decide) lk_X7_meaning_15 rfl rfl dX7_meaning_36 ?_
        refine mv_iload C dX7_meaning_39 5 rfl ?_
        refine mv_iald (f := u.2 6) C 11 0 rfl rfl hw.1 dX7_meaning_41 ?_
        refine mv_topi (fun y6 ey6 => ?_)
        have hw := hw.2 y6 ey6
        refine mv_iload_n C dX7_meaning_42 rfl 2 rfl ?_
        refine mv_iconst (v := (-1 : Int32)) C dX7_meaning_43 (by decide) ?_
        refine mv_ixor C dX7_meaning_44 ?_
        refine mv_topi (fun y7 ey7 => ?_)
        have hw := hw y7 ey7
        refine mv_iand C dX7_meaning_45 ?_
        refine mv_topi (fun y8 ey8 => ?_)
        have hw := hw y8 ey8
        refine mv_if_ne (tgt := 79) C dX7_meaning_46 (by decide) (fun h9 => ?_) (fun h9 => ?_)
        · have hw := hw.1 h9
          exact wj_X7_meaning_79_ok C hs hlev hK8 hw
        · have hw := hw.2 h9
          refine mv_aload_n C dX7_meaning_49 rfl 0 rfl ?_
          refine mv_get (v := .ref (a 11)) C iw_X7_meaning_X7 9 rfl rfl 1 (by decide) lk_X7_meaning_15 rfl rfl dX7_meaning_50 ?_
          refine mv_iload C dX7_meaning_53 5 rfl ?_
          refine mv_iald (f := u.2 6) C 11 0 rfl rfl hw.1 dX7_meaning_55 ?_
          refine mv_topi (fun y10 ey10 => ?_)
          have hw := hw.2 y10 ey10
          refine mv_callSi (f := wA cA a) (As := [.int y10]) (rest := []) C (eA_ok a) hs (J6_bitCount_0f7a4_met (l := l) (lev := lev - 1) (by omega) hw) (va_cwS 1 C.2.2.2.2.1 gX7_meaning_J6_bitCount_0f7a4 rfl rfl rfl (by decide +kernel) (mRm_le (by omega) (by decide))) rfl rfl (Nat.le_of_ble_eq_true rfl) dX7_meaning_56 ⟨Nat.le_refl 0, Nat.le_refl 0⟩ (fun r11 u12 hw => ?_)
          refine mv_iload C dX7_meaning_59 4 rfl ?_
          refine mv_icmp_le (tgt := 79) C dX7_meaning_61 (by decide) (fun h13 => ?_) (fun h13 => ?_)
          · have hw := hw.1 h13
            exact wj_X7_meaning_79_ok C hs hlev hK8 hw
          · have hw := hw.2 h13
            refine mv_iload C dX7_meaning_64 5 rfl ?_
            refine mv_istore_n (lv1 := [(3, .int x5), (0, .ref (a 9)), (1, .int x1), (2, .int x2), (4, .int x4), (5, .int x5)]) C dX7_meaning_66 rfl (by decide) rfl ?_
            refine mv_aload_n C dX7_meaning_67 rfl 1 rfl ?_
            refine mv_get (v := .ref (a 11)) C iw_X7_meaning_X7 9 rfl rfl 1 (by decide) lk_X7_meaning_15 rfl rfl dX7_meaning_68 ?_
            refine mv_iload C dX7_meaning_71 5 rfl ?_
            refine mv_iald (f := u12.2 6) C 11 0 rfl rfl hw.1 dX7_meaning_73 ?_
            refine mv_topi (fun y14 ey14 => ?_)
            have hw := hw.2 y14 ey14
            refine mv_callSi (f := wA cA a) (As := [.int y14]) (rest := []) C (eA_ok a) hs (J6_bitCount_0f7a4_met (l := l) (lev := lev - 1) (by omega) hw) (va_cwS 1 C.2.2.2.2.1 gX7_meaning_J6_bitCount_0f7a4 rfl rfl rfl (by decide +kernel) (mRm_le (by omega) (by decide))) rfl rfl (Nat.le_of_ble_eq_true rfl) dX7_meaning_74 ⟨Nat.le_refl 0, Nat.le_refl 0⟩ (fun r15 u16 hw => ?_)
            refine mv_istore (lv1 := [(4, .int r15), (3, .int x5), (0, .ref (a 9)), (1, .int x1), (2, .int x2), (5, .int x5)]) C dX7_meaning_77 (by decide) rfl ?_
            refine mv_sub [2, 3, 4, 1, 0, 5] rfl ?_
            exact wj_X7_meaning_79_ok C hs hlev hK8 hw
set_option maxHeartbeats 4000000 in
set_option maxRecDepth 100000 in
theorem X7_meaning_met (hlev : 1 ≤ lev) {x1 x2 : Int32} {u : mS} {post : Int32 → mS → Prop} (hw : wp_X7_meaning x1 x2 u post) : mKi l yX7_meaning wsX7_meaning lev (eA a) (dC, dI) vwCl [(cA, .int)] (wA cA a) [.ref (a 9), .int x1, .int x2] u post := by
  refine mKi_of (cc := cX7_meaning) (maxL := 6) (by decide) rfl rfl (Nat.le_of_ble_eq_true rfl) rfl ?_
  intro p e s m args below meth c A C hs
  unfold wp_X7_meaning at hw
  refine mv_iconst (v := (-1 : Int32)) C dX7_meaning_0 (by decide) ?_
  refine mv_istore_n (lv1 := [(3, .int (-1 : Int32)), (0, .ref (a 9)), (1, .int x1), (2, .int x2)]) C dX7_meaning_1 rfl (by decide) rfl ?_
  refine mv_iconst (v := (-1 : Int32)) C dX7_meaning_2 (by decide) ?_
  refine mv_istore (lv1 := [(4, .int (-1 : Int32)), (3, .int (-1 : Int32)), (0, .ref (a 9)), (1, .int x1), (2, .int x2)]) C dX7_meaning_3 (by decide) rfl ?_
  refine mv_iconst (v := (0 : Int32)) C dX7_meaning_5 (by decide) ?_
  refine mv_istore (lv1 := [(5, .int (0 : Int32)), (4, .int (-1 : Int32)), (3, .int (-1 : Int32)), (0, .ref (a 9)), (1, .int x1), (2, .int x2)]) C dX7_meaning_6 (by decide) rfl ?_
  refine mv_sub [3, 4, 5, 2, 1, 0] rfl ?_
  obtain ⟨n, hw⟩ := hw
  exact mL6_of (fun K hK b0 b1 b2 b3 b4 b5 hw => wj_X7_meaning_8_ok C hs hlev hK hw) n x1 x2 (-1 : Int32) (-1 : Int32) (0 : Int32) u hw
set_option maxHeartbeats 4000000 in
set_option maxRecDepth 100000 in
theorem wj_X0_meaningOf_43_ok (C : mC p s m args meth c cX0_meaningOf 3 wsX0_meaningOf RX0 (some .int) (dC, dI) vwCl [(cA, .int)] A) (hs : eA a A s) (hlev : 2 ≤ lev) {post : Int32 → mS → Prop} {z0 : Int32} {u : mS} (hw : wj_X0_meaningOf_43 post z0 u) : mV p l e (mRm lev) s m args below meth c 3 (dC, dI) vwCl A 0 0 (mQi below args s (dC, dI) vwCl [(cA, .int)] (wA cA a) A post) (wA cA a u) 43 [] [.int z0, .ref (a 14)] := by
  unfold wj_X0_meaningOf_43 at hw
  refine mv_callVv (f := wA cA a) (As := [.int z0]) (rest := []) C (eA_ok a) hs 14 rfl rfl (X2_fail_met (l := l) (lev := lev - 1) (by omega) hw) (cwV 1 C.2.2.2.2.1 gX0_meaningOf_X2_fail rfl rfl rfl (by decide +kernel) (mRm_le (by omega) (by decide))) rfl rfl (Nat.le_of_ble_eq_true rfl) dX0_meaningOf_43 ⟨Nat.le_refl 0, Nat.le_refl 0⟩ (fun u10 hw => ?_)
  refine mv_iconst (v := (-1 : Int32)) C dX0_meaningOf_46 (by decide) ?_
  exact mv_iret C dX0_meaningOf_47 hw
set_option maxHeartbeats 4000000 in
set_option maxRecDepth 100000 in
theorem X0_meaningOf_met (hlev : 2 ≤ lev) {x1 : Int32} {u : mS} {post : Int32 → mS → Prop} (hw : wp_X0_meaningOf x1 u post) : mKi l yX0_meaningOf wsX0_meaningOf lev (eA a) (dC, dI) vwCl [(cA, .int)] (wA cA a) [.ref (a 16), .int x1] u post := by
  refine mKi_of (cc := cX0_meaningOf) (maxL := 3) (by decide) rfl rfl (Nat.le_of_ble_eq_true rfl) rfl ?_
  intro p e s m args below meth c A C hs
  unfold wp_X0_meaningOf at hw
  refine mv_aload_n C dX0_meaningOf_0 rfl 0 rfl ?_
  refine mv_get (v := .ref (a 9)) C iw_X0_meaningOf_X0 16 rfl rfl 2 (by decide) lk_X0_meaningOf_19 rfl rfl dX0_meaningOf_1 ?_
  refine mv_aload_n C dX0_meaningOf_4 rfl 0 rfl ?_
  refine mv_get (v := .ref (a 2)) C iw_X0_meaningOf_X0 16 rfl rfl 0 (by decide) lk_X0_meaningOf_9 rfl rfl dX0_meaningOf_5 ?_
  refine mv_iload_n C dX0_meaningOf_8 rfl 1 rfl ?_
  refine mv_callVi (f := wA cA a) (As := [.int x1]) (rest := [.ref (a 9)]) C (eA_ok a) hs 2 rfl rfl (X5_wordAt_met (l := l) (lev := lev - 1) (by omega) hw) (cwV 1 C.2.2.2.2.1 gX0_meaningOf_X5_wordAt rfl rfl rfl (by decide +kernel) (mRm_le (by omega) (by decide))) rfl rfl (Nat.le_of_ble_eq_true rfl) dX0_meaningOf_9 ⟨Nat.le_refl 0, Nat.le_refl 0⟩ (fun r1 u2 hw => ?_)
  refine mv_aload_n C dX0_meaningOf_12 rfl 0 rfl ?_
  refine mv_get (v := .ref (a 2)) C iw_X0_meaningOf_X0 16 rfl rfl 0 (by decide) lk_X0_meaningOf_9 rfl rfl dX0_meaningOf_13 ?_
  refine mv_iload_n C dX0_meaningOf_16 rfl 1 rfl ?_
  refine mv_callVi (f := wA cA a) (As := [.int x1]) (rest := [.int r1, .ref (a 9)]) C (eA_ok a) hs 2 rfl rfl (X5_marksAt_met (l := l) (lev := lev - 1) (by omega) hw) (cwV 1 C.2.2.2.2.1 gX0_meaningOf_X5_marksAt rfl rfl rfl (by decide +kernel) (mRm_le (by omega) (by decide))) rfl rfl (Nat.le_of_ble_eq_true rfl) dX0_meaningOf_17 ⟨Nat.le_refl 0, Nat.le_refl 0⟩ (fun r3 u4 hw => ?_)
  refine mv_callVi (f := wA cA a) (As := [.int r1, .int r3]) (rest := []) C (eA_ok a) hs 9 rfl rfl (X7_meaning_met (l := l) (lev := lev - 1) (by omega) hw) (cwV 2 C.2.2.2.2.1 gX0_meaningOf_X7_meaning rfl rfl rfl (by decide +kernel) (mRm_le (by omega) (by decide))) rfl rfl (Nat.le_of_ble_eq_true rfl) dX0_meaningOf_20 ⟨Nat.le_refl 0, Nat.le_refl 0⟩ (fun r5 u6 hw => ?_)
  refine mv_istore_n (lv1 := [(2, .int r5), (0, .ref (a 16)), (1, .int x1)]) C dX0_meaningOf_23 rfl (by decide) rfl ?_
  refine mv_iload_n C dX0_meaningOf_24 rfl 0 rfl ?_
  refine mv_if_ge (tgt := 48) C dX0_meaningOf_25 (by decide) (fun h7 => ?_) (fun h7 => ?_)
  · have hw := hw.1 h7
    refine mv_iload_n C dX0_meaningOf_48 rfl 0 rfl ?_
    exact mv_iret C dX0_meaningOf_49 hw
  · have hw := hw.2 h7
    refine mv_aload_n C dX0_meaningOf_28 rfl 1 rfl ?_
    refine mv_get (v := .ref (a 14)) C iw_X0_meaningOf_X0 16 rfl rfl 3 (by decide) lk_X0_meaningOf_23 rfl rfl dX0_meaningOf_29 ?_
    refine mv_iload_n C dX0_meaningOf_32 rfl 0 rfl ?_
    refine mv_bipush (v := (-2 : Int32)) C dX0_meaningOf_33 (by decide) ?_
    refine mv_icmp_ne (tgt := 42) C dX0_meaningOf_35 (by decide) (fun h8 => ?_) (fun h8 => ?_)
    · have hw := hw.1 h8
      refine mv_iconst (v := (1 : Int32)) C dX0_meaningOf_42 (by decide) ?_
      refine mv_sub [] rfl ?_
      exact wj_X0_meaningOf_43_ok C hs hlev hw
    · have hw := hw.2 h8
      refine mv_iconst (v := (2 : Int32)) C dX0_meaningOf_38 (by decide) ?_
      refine mv_goto (tgt := 43) C dX0_meaningOf_39 (by decide) ?_
      refine mv_sub [] rfl ?_
      exact wj_X0_meaningOf_43_ok C hs hlev hw
set_option maxHeartbeats 4000000 in
set_option maxRecDepth 100000 in
theorem X7_kindOf_met (hlev : 0 ≤ lev) {x1 : Int32} {u : mS} {post : Int32 → mS → Prop} (hw : wp_X7_kindOf x1 u post) : mKi l yX7_kindOf wsX7_kindOf lev (eA a) (dC, dI) vwCl [(cA, .int)] (wA cA a) [.ref (a 9), .int x1] u post := by
  refine mKi_of (cc := cX7_kindOf) (maxL := 2) (by decide) rfl rfl (Nat.le_of_ble_eq_true rfl) rfl ?_
  intro p e s m args below meth c A C hs
  unfold wp_X7_kindOf at hw
  refine mv_iload_n C dX7_kindOf_0 rfl 1 rfl ?_
  refine mv_if_lt (tgt := 19) C dX7_kindOf_1 (by decide) (fun h1 => ?_) (fun h1 => ?_)
  · have hw := hw.1 h1
    refine mv_iconst (v := (4 : Int32)) C dX7_kindOf_19 (by decide) ?_
    exact mv_iret C dX7_kindOf_20 hw
  · have hw := hw.2 h1
    refine mv_iload_n C dX7_kindOf_4 rfl 1 rfl ?_
    refine mv_bipush (v := (40 : Int32)) C dX7_kindOf_5 (by decide) ?_
    refine mv_icmp_ge (tgt := 19) C dX7_kindOf_7 (by decide) (fun h2 => ?_) (fun h2 => ?_)
    · have hw := hw.1 h2
      refine mv_iconst (v := (4 : Int32)) C dX7_kindOf_19 (by decide) ?_
      exact mv_iret C dX7_kindOf_20 hw
    · have hw := hw.2 h2
      refine mv_aload_n C dX7_kindOf_10 rfl 0 rfl ?_
      refine mv_get (v := .ref (a 12)) C iw_X7_kindOf_X7 9 rfl rfl 2 (by decide) lk_X7_kindOf_18 rfl rfl dX7_kindOf_11 ?_
      refine mv_iload_n C dX7_kindOf_14 rfl 1 rfl ?_
      refine mv_iald (f := u.2 7) C 12 0 rfl rfl hw.1 dX7_kindOf_15 ?_
      refine mv_topi (fun y3 ey3 => ?_)
      have hw := hw.2 y3 ey3
      refine mv_goto (tgt := 20) C dX7_kindOf_16 (by decide) ?_
      exact mv_iret C dX7_kindOf_20 hw
set_option maxHeartbeats 4000000 in
set_option maxRecDepth 100000 in
theorem X7_valueOf_met (hlev : 0 ≤ lev) {x1 : Int32} {u : mS} {post : Int32 → mS → Prop} (hw : wp_X7_valueOf x1 u post) : mKi l yX7_valueOf wsX7_valueOf lev (eA a) (dC, dI) vwCl [(cA, .int)] (wA cA a) [.ref (a 9), .int x1] u post := by
  refine mKi_of (cc := cX7_valueOf) (maxL := 2) (by decide) rfl rfl (Nat.le_of_ble_eq_true rfl) rfl ?_
  intro p e s m args below meth c A C hs
  unfold wp_X7_valueOf at hw
  refine mv_iload_n C dX7_valueOf_0 rfl 1 rfl ?_
  refine mv_if_lt (tgt := 19) C dX7_valueOf_1 (by decide) (fun h1 => ?_) (fun h1 => ?_)
  · have hw := hw.1 h1
    refine mv_iconst (v := (0 : Int32)) C dX7_valueOf_19 (by decide) ?_
    exact mv_iret C dX7_valueOf_20 hw
  · have hw := hw.2 h1
    refine mv_iload_n C dX7_valueOf_4 rfl 1 rfl ?_
    refine mv_bipush (v := (40 : Int32)) C dX7_valueOf_5 (by decide) ?_
    refine mv_icmp_ge (tgt := 19) C dX7_valueOf_7 (by decide) (fun h2 => ?_) (fun h2 => ?_)
    · have hw := hw.1 h2
      refine mv_iconst (v := (0 : Int32)) C dX7_valueOf_19 (by decide) ?_
      exact mv_iret C dX7_valueOf_20 hw
    · have hw := hw.2 h2
      refine mv_aload_n C dX7_valueOf_10 rfl 0 rfl ?_
      refine mv_get (v := .ref (a 13)) C iw_X7_valueOf_X7 9 rfl rfl 3 (by decide) lk_X7_valueOf_21 rfl rfl dX7_valueOf_11 ?_
      refine mv_iload_n C dX7_valueOf_14 rfl 1 rfl ?_
      refine mv_iald (f := u.2 8) C 13 0 rfl rfl hw.1 dX7_valueOf_15 ?_
      refine mv_topi (fun y3 ey3 => ?_)
      have hw := hw.2 y3 ey3
      refine mv_goto (tgt := 20) C dX7_valueOf_16 (by decide) ?_
      exact mv_iret C dX7_valueOf_20 hw
set_option maxHeartbeats 4000000 in
set_option maxRecDepth 100000 in
theorem X2_putVariable_met (hlev : 2 ≤ lev) {x1 : Int32} {u : mS} {post : mS → Prop} (hw : wp_X2_putVariable x1 u post) : mKv l yX2_putVariable wsX2_putVariable lev (eA a) (dC, dI) vwCl [(cA, .int)] (wA cA a) [.ref (a 14), .int x1] u post := by
  refine mKv_of (cc := cX2_putVariable) (maxL := 2) (by decide) rfl rfl (Nat.le_of_ble_eq_true rfl) rfl ?_
  intro p e s m args below meth c A C hs
  unfold wp_X2_putVariable at hw
  refine mv_aload_n C dX2_putVariable_0 rfl 0 rfl ?_
  refine mv_bipush (v := (118 : Int32)) C dX2_putVariable_1 (by decide) ?_
  refine mv_callVv (f := wA cA a) (As := [.int (118 : Int32)]) (rest := []) C (eA_ok a) hs 14 rfl rfl (X2_put_met (l := l) (lev := lev - 1) (by omega) hw) (cwV 1 C.2.2.2.2.1 gX2_putVariable_X2_put rfl rfl rfl (by decide +kernel) (mRm_le (by omega) (by decide))) rfl rfl (Nat.le_of_ble_eq_true rfl) dX2_putVariable_3 ⟨Nat.le_refl 0, Nat.le_refl 0⟩ (fun u2 hw => ?_)
  refine mv_aload_n C dX2_putVariable_6 rfl 0 rfl ?_
  refine mv_iload_n C dX2_putVariable_7 rfl 1 rfl ?_
  refine mv_callVv (f := wA cA a) (As := [.int x1]) (rest := []) C (eA_ok a) hs 14 rfl rfl (X2_putNumber_met (l := l) (lev := lev - 1) (by omega) hw) (cwV 1 C.2.2.2.2.1 gX2_putVariable_X2_putNumber rfl rfl rfl (by decide +kernel) (mRm_le (by omega) (by decide))) rfl rfl (Nat.le_of_ble_eq_true rfl) dX2_putVariable_8 ⟨Nat.le_refl 0, Nat.le_refl 0⟩ (fun u4 hw => ?_)
  exact mv_vret C dX2_putVariable_11 hw
set_option maxHeartbeats 4000000 in
set_option maxRecDepth 100000 in
theorem wj_X2_putName_27_ok (C : mC p s m args meth c cX2_putName 3 wsX2_putName RX2 none (dC, dI) vwCl [(cA, .int)] A) (hs : eA a A s) (hlev : 1 ≤ lev) {post : mS → Prop} {K3 : Int32 → Int32 → mS → Prop} (hK3 : ∀ (x1 x2 : Int32) (u : mS), K3 x1 x2 u → mV p l e (mRm lev) s m args below meth c 3 (dC, dI) vwCl A 0 0 (mQv below args s (dC, dI) vwCl [(cA, .int)] (wA cA a) A post) (wA cA a u) 3 [(0, .ref (a 14)), (1, .int x1), (2, .int x2)] []) {x1 x2 : Int32} {u : mS} (hw : wj_X2_putName_27 K3 post x1 x2 u) : mV p l e (mRm lev) s m args below meth c 3 (dC, dI) vwCl A 0 0 (mQv below args s (dC, dI) vwCl [(cA, .int)] (wA cA a) A post) (wA cA a u) 27 [(0, .ref (a 14)), (1, .int x1), (2, .int x2)] [] := by
  unfold wj_X2_putName_27 at hw
  obtain ⟨y8, ey8⟩ : ∃ z : Int32, z = x2 + (-8 : Int32) := ⟨_, rfl⟩
  have hw := hw y8 ey8
  refine mv_iinc (v := y8) (lv1 := [(2, .int y8), (0, .ref (a 14)), (1, .int x1)]) C dX2_putName_27 2 rfl (by rw [ey8]; rfl) (by decide) rfl ?_
  refine mv_goto (tgt := 3) C dX2_putName_30 (by decide) ?_
  refine mv_sub [1, 2, 0] rfl ?_
  exact hK3 x1 y8 u hw
set_option maxHeartbeats 4000000 in
set_option maxRecDepth 100000 in
theorem wj_X2_putName_3_ok (C : mC p s m args meth c cX2_putName 3 wsX2_putName RX2 none (dC, dI) vwCl [(cA, .int)] A) (hs : eA a A s) (hlev : 1 ≤ lev) {post : mS → Prop} {K3 : Int32 → Int32 → mS → Prop} (hK3 : ∀ (x1 x2 : Int32) (u : mS), K3 x1 x2 u → mV p l e (mRm lev) s m args below meth c 3 (dC, dI) vwCl A 0 0 (mQv below args s (dC, dI) vwCl [(cA, .int)] (wA cA a) A post) (wA cA a u) 3 [(0, .ref (a 14)), (1, .int x1), (2, .int x2)] []) {x1 x2 : Int32} {u : mS} (hw : wj_X2_putName_3 K3 post x1 x2 u) : mV p l e (mRm lev) s m args below meth c 3 (dC, dI) vwCl A 0 0 (mQv below args s (dC, dI) vwCl [(cA, .int)] (wA cA a) A post) (wA cA a u) 3 [(0, .ref (a 14)), (1, .int x1), (2, .int x2)] [] := by
  unfold wj_X2_putName_3 at hw
  refine mv_iload_n C dX2_putName_3 rfl 2 rfl ?_
  refine mv_if_lt (tgt := 33) C dX2_putName_4 (by decide) (fun h1 => ?_) (fun h1 => ?_)
  · have hw := hw.1 h1
    exact mv_vret C dX2_putName_33 hw
  · have hw := hw.2 h1
    refine mv_iload_n C dX2_putName_7 rfl 1 rfl ?_
    refine mv_iload_n C dX2_putName_8 rfl 2 rfl ?_
    refine mv_ishr C dX2_putName_9 ?_
    refine mv_topi (fun y2 ey2 => ?_)
    have hw := hw y2 ey2
    refine mv_sipush (v := (255 : Int32)) C dX2_putName_10 (by decide) ?_
    refine mv_icmp_le (tgt := 27) C dX2_putName_13 (by decide) (fun h3 => ?_) (fun h3 => ?_)
    · have hw := hw.1 h3
      exact wj_X2_putName_27_ok C hs hlev hK3 hw
    · have hw := hw.2 h3
      refine mv_aload_n C dX2_putName_16 rfl 0 rfl ?_
      refine mv_iload_n C dX2_putName_17 rfl 1 rfl ?_
      refine mv_iload_n C dX2_putName_18 rfl 2 rfl ?_
      refine mv_ishr C dX2_putName_19 ?_
      refine mv_topi (fun y4 ey4 => ?_)
      have hw := hw y4 ey4
      refine mv_sipush (v := (255 : Int32)) C dX2_putName_20 (by decide) ?_
      refine mv_iand C dX2_putName_23 ?_
      refine mv_topi (fun y5 ey5 => ?_)
      have hw := hw y5 ey5
      refine mv_callVv (f := wA cA a) (As := [.int y5]) (rest := []) C (eA_ok a) hs 14 rfl rfl (X2_put_met (l := l) (lev := lev - 1) (by omega) hw) (cwV 1 C.2.2.2.2.1 gX2_putName_X2_put rfl rfl rfl (by decide +kernel) (mRm_le (by omega) (by decide))) rfl rfl (Nat.le_of_ble_eq_true rfl) dX2_putName_24 ⟨Nat.le_refl 0, Nat.le_refl 0⟩ (fun u7 hw => ?_)
      exact wj_X2_putName_27_ok C hs hlev hK3 hw
set_option maxHeartbeats 4000000 in
set_option maxRecDepth 100000 in
theorem X2_putName_met (hlev : 1 ≤ lev) {x1 : Int32} {u : mS} {post : mS → Prop} (hw : wp_X2_putName x1 u post) : mKv l yX2_putName wsX2_putName lev (eA a) (dC, dI) vwCl [(cA, .int)] (wA cA a) [.ref (a 14), .int x1] u post := by
  refine mKv_of (cc := cX2_putName) (maxL := 3) (by decide) rfl rfl (Nat.le_of_ble_eq_true rfl) rfl ?_
  intro p e s m args below meth c A C hs
  unfold wp_X2_putName at hw
  refine mv_bipush (v := (16 : Int32)) C dX2_putName_0 (by decide) ?_
  refine mv_istore_n (lv1 := [(2, .int (16 : Int32)), (0, .ref (a 14)), (1, .int x1)]) C dX2_putName_2 rfl (by decide) rfl ?_
  refine mv_sub [1, 2, 0] rfl ?_
  obtain ⟨n, hw⟩ := hw
  exact mL3_of (fun K hK b0 b1 b2 hw => wj_X2_putName_3_ok C hs hlev hK hw) n x1 (16 : Int32) u hw
set_option maxHeartbeats 4000000 in
set_option maxRecDepth 100000 in
theorem X0_expandName_met (hlev : 3 ≤ lev) {x1 : Int32} {u : mS} {post : mS → Prop} (hw : wp_X0_expandName x1 u post) : mKv l yX0_expandName wsX0_expandName lev (eA a) (dC, dI) vwCl [(cA, .int)] (wA cA a) [.ref (a 16), .int x1] u post := by
  refine mKv_of (cc := cX0_expandName) (maxL := 4) (by decide) rfl rfl (Nat.le_of_ble_eq_true rfl) rfl ?_
  intro p e s m args below meth c A C hs
  unfold wp_X0_expandName at hw
  refine mv_aload_n C dX0_expandName_0 rfl 0 rfl ?_
  refine mv_iload_n C dX0_expandName_1 rfl 1 rfl ?_
  refine mv_callVi (f := wA cA a) (As := [.int x1]) (rest := []) C (eA_ok a) hs 16 rfl rfl (X0_meaningOf_met (l := l) (lev := lev - 1) (by omega) hw) (cwV 1 C.2.2.2.2.1 gX0_expandName_X0_meaningOf rfl rfl rfl (by decide +kernel) (mRm_le (by omega) (by decide))) rfl rfl (Nat.le_of_ble_eq_true rfl) dX0_expandName_2 ⟨Nat.le_refl 0, Nat.le_refl 0⟩ (fun r1 u2 hw => ?_)
  refine mv_istore_n (lv1 := [(2, .int r1), (0, .ref (a 16)), (1, .int x1)]) C dX0_expandName_5 rfl (by decide) rfl ?_
  refine mv_iload_n C dX0_expandName_6 rfl 0 rfl ?_
  refine mv_if_ge (tgt := 11) C dX0_expandName_7 (by decide) (fun h3 => ?_) (fun h3 => ?_)
  · have hw := hw.1 h3
    refine mv_aload_n C dX0_expandName_11 rfl 1 rfl ?_
    refine mv_get (v := .ref (a 9)) C iw_X0_expandName_X0 16 rfl rfl 2 (by decide) lk_X0_expandName_19 rfl rfl dX0_expandName_12 ?_
    refine mv_iload_n C dX0_expandName_15 rfl 0 rfl ?_
    refine mv_callVi (f := wA cA a) (As := [.int r1]) (rest := []) C (eA_ok a) hs 9 rfl rfl (X7_kindOf_met (l := l) (lev := lev - 1) (by omega) hw) (cwV 1 C.2.2.2.2.1 gX0_expandName_X7_kindOf rfl rfl rfl (by decide +kernel) (mRm_le (by omega) (by decide))) rfl rfl (Nat.le_of_ble_eq_true rfl) dX0_expandName_16 ⟨Nat.le_refl 0, Nat.le_refl 0⟩ (fun r4 u5 hw => ?_)
    refine mv_istore_n (lv1 := [(3, .int r4), (2, .int r1), (0, .ref (a 16)), (1, .int x1)]) C dX0_expandName_19 rfl (by decide) rfl ?_
    refine mv_iload_n C dX0_expandName_20 rfl 0 rfl ?_
    refine mv_iconst (v := (4 : Int32)) C dX0_expandName_21 (by decide) ?_
    refine mv_icmp_ne (tgt := 43) C dX0_expandName_22 (by decide) (fun h6 => ?_) (fun h6 => ?_)
    · have hw := hw.1 h6
      refine mv_iload_n C dX0_expandName_43 rfl 0 rfl ?_
      refine mv_iconst (v := (5 : Int32)) C dX0_expandName_44 (by decide) ?_
      refine mv_icmp_ne (tgt := 66) C dX0_expandName_45 (by decide) (fun h7 => ?_) (fun h7 => ?_)
      · have hw := hw.1 h7
        refine mv_aload_n C dX0_expandName_66 rfl 2 rfl ?_
        refine mv_get (v := .ref (a 14)) C iw_X0_expandName_X0 16 rfl rfl 3 (by decide) lk_X0_expandName_23 rfl rfl dX0_expandName_67 ?_
        refine mv_iconst (v := (3 : Int32)) C dX0_expandName_70 (by decide) ?_
        refine mv_callVv (f := wA cA a) (As := [.int (3 : Int32)]) (rest := []) C (eA_ok a) hs 14 rfl rfl (X2_fail_met (l := l) (lev := lev - 1) (by omega) hw) (cwV 1 C.2.2.2.2.1 gX0_expandName_X2_fail rfl rfl rfl (by decide +kernel) (mRm_le (by omega) (by decide))) rfl rfl (Nat.le_of_ble_eq_true rfl) dX0_expandName_71 ⟨Nat.le_refl 0, Nat.le_refl 0⟩ (fun u9 hw => ?_)
        exact mv_vret C dX0_expandName_74 hw
      · have hw := hw.2 h7
        refine mv_aload_n C dX0_expandName_48 rfl 2 rfl ?_
        refine mv_get (v := .ref (a 14)) C iw_X0_expandName_X0 16 rfl rfl 3 (by decide) lk_X0_expandName_23 rfl rfl dX0_expandName_49 ?_
        refine mv_aload_n C dX0_expandName_52 rfl 2 rfl ?_
        refine mv_get (v := .ref (a 9)) C iw_X0_expandName_X0 16 rfl rfl 2 (by decide) lk_X0_expandName_19 rfl rfl dX0_expandName_53 ?_
        refine mv_iload_n C dX0_expandName_56 rfl 1 rfl ?_
        refine mv_callVi (f := wA cA a) (As := [.int r1]) (rest := [.ref (a 14)]) C (eA_ok a) hs 9 rfl rfl (X7_valueOf_met (l := l) (lev := lev - 1) (by omega) hw) (cwV 1 C.2.2.2.2.1 gX0_expandName_X7_valueOf rfl rfl rfl (by decide +kernel) (mRm_le (by omega) (by decide))) rfl rfl (Nat.le_of_ble_eq_true rfl) dX0_expandName_57 ⟨Nat.le_refl 0, Nat.le_refl 0⟩ (fun r10 u11 hw => ?_)
        refine mv_callVv (f := wA cA a) (As := [.int r10]) (rest := []) C (eA_ok a) hs 14 rfl rfl (X2_putVariable_met (l := l) (lev := lev - 1) (by omega) hw) (cwV 1 C.2.2.2.2.1 gX0_expandName_X2_putVariable rfl rfl rfl (by decide +kernel) (mRm_le (by omega) (by decide))) rfl rfl (Nat.le_of_ble_eq_true rfl) dX0_expandName_60 ⟨Nat.le_refl 0, Nat.le_refl 0⟩ (fun u13 hw => ?_)
        refine mv_goto (tgt := 74) C dX0_expandName_63 (by decide) ?_
        exact mv_vret C dX0_expandName_74 hw
    · have hw := hw.2 h6
      refine mv_aload_n C dX0_expandName_25 rfl 2 rfl ?_
      refine mv_get (v := .ref (a 14)) C iw_X0_expandName_X0 16 rfl rfl 3 (by decide) lk_X0_expandName_23 rfl rfl dX0_expandName_26 ?_
      refine mv_aload_n C dX0_expandName_29 rfl 2 rfl ?_
      refine mv_get (v := .ref (a 2)) C iw_X0_expandName_X0 16 rfl rfl 0 (by decide) lk_X0_expandName_9 rfl rfl dX0_expandName_30 ?_
      refine mv_iload_n C dX0_expandName_33 rfl 3 rfl ?_
      refine mv_callVi (f := wA cA a) (As := [.int x1]) (rest := [.ref (a 14)]) C (eA_ok a) hs 2 rfl rfl (X5_wordAt_met (l := l) (lev := lev - 1) (by omega) hw) (cwV 1 C.2.2.2.2.1 gX0_expandName_X5_wordAt rfl rfl rfl (by decide +kernel) (mRm_le (by omega) (by decide))) rfl rfl (Nat.le_of_ble_eq_true rfl) dX0_expandName_34 ⟨Nat.le_refl 0, Nat.le_refl 0⟩ (fun r14 u15 hw => ?_)
      refine mv_callVv (f := wA cA a) (As := [.int r14]) (rest := []) C (eA_ok a) hs 14 rfl rfl (X2_putName_met (l := l) (lev := lev - 1) (by omega) hw) (cwV 1 C.2.2.2.2.1 gX0_expandName_X2_putName rfl rfl rfl (by decide +kernel) (mRm_le (by omega) (by decide))) rfl rfl (Nat.le_of_ble_eq_true rfl) dX0_expandName_37 ⟨Nat.le_refl 0, Nat.le_refl 0⟩ (fun u17 hw => ?_)
      refine mv_goto (tgt := 74) C dX0_expandName_40 (by decide) ?_
      exact mv_vret C dX0_expandName_74 hw
  · have hw := hw.2 h3
    exact mv_vret C dX0_expandName_10 hw
set_option maxHeartbeats 4000000 in
set_option maxRecDepth 100000 in
theorem wj_X5_after_40_ok (C : mC p s m args meth c cX5_after 2 wsX5_after RX5 (some .int) (dC, dI) vwCl [(cA, .int)] A) (hs : eA a A s) (hlev : 0 ≤ lev) {post : Int32 → mS → Prop} {x1 : Int32} {u : mS} (hw : wj_X5_after_40 post x1 u) : mV p l e (mRm lev) s m args below meth c 2 (dC, dI) vwCl A 0 0 (mQi below args s (dC, dI) vwCl [(cA, .int)] (wA cA a) A post) (wA cA a u) 40 [(1, .int x1)] [] := by
  unfold wj_X5_after_40 at hw
  refine mv_iload_n C dX5_after_40 rfl 0 rfl ?_
  refine mv_iconst (v := (1 : Int32)) C dX5_after_41 (by decide) ?_
  refine mv_iadd C dX5_after_42 ?_
  refine mv_topi (fun y9 ey9 => ?_)
  have hw := hw y9 ey9
  exact mv_iret C dX5_after_43 hw
set_option maxHeartbeats 4000000 in
set_option maxRecDepth 100000 in
theorem X5_after_met (hlev : 0 ≤ lev) {x1 : Int32} {u : mS} {post : Int32 → mS → Prop} (hw : wp_X5_after x1 u post) : mKi l yX5_after wsX5_after lev (eA a) (dC, dI) vwCl [(cA, .int)] (wA cA a) [.ref (a 2), .int x1] u post := by
  refine mKi_of (cc := cX5_after) (maxL := 2) (by decide) rfl rfl (Nat.le_of_ble_eq_true rfl) rfl ?_
  intro p e s m args below meth c A C hs
  unfold wp_X5_after at hw
  refine mv_iload_n C dX5_after_0 rfl 1 rfl ?_
  refine mv_if_lt (tgt := 40) C dX5_after_1 (by decide) (fun h1 => ?_) (fun h1 => ?_)
  · have hw := hw.1 h1
    refine mv_sub [1] rfl ?_
    exact wj_X5_after_40_ok C hs hlev hw
  · have hw := hw.2 h1
    refine mv_iload_n C dX5_after_4 rfl 1 rfl ?_
    refine mv_aload_n C dX5_after_5 rfl 0 rfl ?_
    refine mv_get (v := .int (u.1 1)) C iw_X5_after_X5 2 rfl rfl 4 (by decide) lk_X5_after_24 rfl rfl dX5_after_6 ?_
    refine mv_topi (fun y2 ey2 => ?_)
    have hw := hw y2 ey2
    refine mv_icmp_ge (tgt := 40) C dX5_after_9 (by decide) (fun h3 => ?_) (fun h3 => ?_)
    · have hw := hw.1 h3
      refine mv_sub [1] rfl ?_
      exact wj_X5_after_40_ok C hs hlev hw
    · have hw := hw.2 h3
      refine mv_iload_n C dX5_after_12 rfl 1 rfl ?_
      refine mv_sipush (v := (3000 : Int32)) C dX5_after_13 (by decide) ?_
      refine mv_icmp_ge (tgt := 40) C dX5_after_16 (by decide) (fun h4 => ?_) (fun h4 => ?_)
      · have hw := hw.1 h4
        refine mv_sub [1] rfl ?_
        exact wj_X5_after_40_ok C hs hlev hw
      · have hw := hw.2 h4
        refine mv_aload_n C dX5_after_19 rfl 0 rfl ?_
        refine mv_get (v := .ref (a 5)) C iw_X5_after_X5 2 rfl rfl 2 (by decide) lk_X5_after_18 rfl rfl dX5_after_20 ?_
        refine mv_iload_n C dX5_after_23 rfl 1 rfl ?_
        refine mv_iald (f := u.2 3) C 5 0 rfl rfl hw.1 dX5_after_24 ?_
        refine mv_topi (fun y5 ey5 => ?_)
        have hw := hw.2 y5 ey5
        refine mv_iconst (v := (1 : Int32)) C dX5_after_25 (by decide) ?_
        refine mv_icmp_le (tgt := 40) C dX5_after_26 (by decide) (fun h6 => ?_) (fun h6 => ?_)
        · have hw := hw.1 h6
          refine mv_sub [1] rfl ?_
          exact wj_X5_after_40_ok C hs hlev hw
        · have hw := hw.2 h6
          refine mv_iload_n C dX5_after_29 rfl 1 rfl ?_
          refine mv_aload_n C dX5_after_30 rfl 0 rfl ?_
          refine mv_get (v := .ref (a 5)) C iw_X5_after_X5 2 rfl rfl 2 (by decide) lk_X5_after_18 rfl rfl dX5_after_31 ?_
          refine mv_iload_n C dX5_after_34 rfl 1 rfl ?_
          refine mv_iald (f := u.2 3) C 5 0 rfl rfl hw.1 dX5_after_35 ?_
          refine mv_topi (fun y7 ey7 => ?_)
          have hw := hw.2 y7 ey7
          refine mv_iadd C dX5_after_36 ?_
          refine mv_topi (fun y8 ey8 => ?_)
          have hw := hw y8 ey8
          refine mv_goto (tgt := 43) C dX5_after_37 (by decide) ?_
          exact mv_iret C dX5_after_43 hw
set_option maxHeartbeats 4000000 in
set_option maxRecDepth 100000 in
theorem wj_X5_hasDots_81_ok (C : mC p s m args meth c cX5_hasDots 4 wsX5_hasDots RX5 (some .boolean) (dC, dI) vwCl [(cA, .int)] A) (hs : eA a A s) (hlev : 0 ≤ lev) {post : Int32 → mS → Prop} {K14 : Int32 → Int32 → mS → Prop} (hK14 : ∀ (x2 x3 : Int32) (u : mS), K14 x2 x3 u → mV p l e (mRm lev) s m args below meth c 4 (dC, dI) vwCl A 0 0 (mQi below args s (dC, dI) vwCl [(cA, .int)] (wA cA a) A (fun r w => (r = 0 ∨ r = 1) ∧ post r w)) (wA cA a u) 14 [(0, .ref (a 2)), (2, .int x2), (3, .int x3)] []) {x3 z0 z1 : Int32} {u : mS} (hw : wj_X5_hasDots_81 K14 post x3 z0 z1 u) : mV p l e (mRm lev) s m args below meth c 4 (dC, dI) vwCl A 0 0 (mQi below args s (dC, dI) vwCl [(cA, .int)] (wA cA a) A (fun r w => (r = 0 ∨ r = 1) ∧ post r w)) (wA cA a u) 81 [(0, .ref (a 2)), (3, .int x3)] [.int z0, .int z1] := by
  unfold wj_X5_hasDots_81 at hw
  refine mv_iadd C dX5_hasDots_81 ?_
  refine mv_topi (fun y14 ey14 => ?_)
  have hw := hw y14 ey14
  refine mv_istore_n (lv1 := [(2, .int y14), (0, .ref (a 2)), (3, .int x3)]) C dX5_hasDots_82 rfl (by decide) rfl ?_
  obtain ⟨y15, ey15⟩ : ∃ z : Int32, z = x3 + (1 : Int32) := ⟨_, rfl⟩
  have hw := hw y15 ey15
  refine mv_iinc (v := y15) (lv1 := [(3, .int y15), (2, .int y14), (0, .ref (a 2))]) C dX5_hasDots_83 2 rfl (by rw [ey15]; rfl) (by decide) rfl ?_
  refine mv_goto (tgt := 14) C dX5_hasDots_86 (by decide) ?_
  refine mv_sub [2, 1, 0] rfl ?_
  exact hK14 y14 y15 u hw
set_option maxHeartbeats 4000000 in
set_option maxRecDepth 100000 in
theorem wj_X5_hasDots_50_ok (C : mC p s m args meth c cX5_hasDots 4 wsX5_hasDots RX5 (some .boolean) (dC, dI) vwCl [(cA, .int)] A) (hs : eA a A s) (hlev : 0 ≤ lev) {post : Int32 → mS → Prop} {K14 : Int32 → Int32 → mS → Prop} (hK14 : ∀ (x2 x3 : Int32) (u : mS), K14 x2 x3 u → mV p l e (mRm lev) s m args below meth c 4 (dC, dI) vwCl A 0 0 (mQi below args s (dC, dI) vwCl [(cA, .int)] (wA cA a) A (fun r w => (r = 0 ∨ r = 1) ∧ post r w)) (wA cA a u) 14 [(0, .ref (a 2)), (2, .int x2), (3, .int x3)] []) {x2 x3 : Int32} {u : mS} (hw : wj_X5_hasDots_50 K14 post x2 x3 u) : mV p l e (mRm lev) s m args below meth c 4 (dC, dI) vwCl A 0 0 (mQi below args s (dC, dI) vwCl [(cA, .int)] (wA cA a) A (fun r w => (r = 0 ∨ r = 1) ∧ post r w)) (wA cA a u) 50 [(0, .ref (a 2)), (2, .int x2), (3, .int x3)] [] := by
  unfold wj_X5_hasDots_50 at hw
  refine mv_iload_n C dX5_hasDots_50 rfl 1 rfl ?_
  refine mv_aload_n C dX5_hasDots_51 rfl 0 rfl ?_
  refine mv_get (v := .ref (a 3)) C iw_X5_hasDots_X5 2 rfl rfl 0 (by decide) lk_X5_hasDots_9 rfl rfl dX5_hasDots_52 ?_
  refine mv_iload_n C dX5_hasDots_55 rfl 2 rfl ?_
  refine mv_iald (f := u.2 1) C 3 0 rfl rfl hw.1 dX5_hasDots_56 ?_
  refine mv_topi (fun y10 ey10 => ?_)
  have hw := hw.2 y10 ey10
  refine mv_iconst (v := (-1 : Int32)) C dX5_hasDots_57 (by decide) ?_
  refine mv_icmp_ne (tgt := 65) C dX5_hasDots_58 (by decide) (fun h11 => ?_) (fun h11 => ?_)
  · have hw := hw.1 h11
    refine mv_aload_n C dX5_hasDots_65 rfl 0 rfl ?_
    refine mv_get (v := .ref (a 3)) C iw_X5_hasDots_X5 2 rfl rfl 0 (by decide) lk_X5_hasDots_9 rfl rfl dX5_hasDots_66 ?_
    refine mv_iload_n C dX5_hasDots_69 rfl 2 rfl ?_
    refine mv_iald (f := u.2 1) C 3 0 rfl rfl hw.1 dX5_hasDots_70 ?_
    refine mv_topi (fun y12 ey12 => ?_)
    have hw := hw.2 y12 ey12
    refine mv_bipush (v := (-2 : Int32)) C dX5_hasDots_71 (by decide) ?_
    refine mv_icmp_ne (tgt := 80) C dX5_hasDots_73 (by decide) (fun h13 => ?_) (fun h13 => ?_)
    · have hw := hw.1 h13
      refine mv_iconst (v := (0 : Int32)) C dX5_hasDots_80 (by decide) ?_
      refine mv_sub [0, 2] rfl ?_
      exact wj_X5_hasDots_81_ok C hs hlev hK14 hw
    · have hw := hw.2 h13
      refine mv_iconst (v := (-1 : Int32)) C dX5_hasDots_76 (by decide) ?_
      refine mv_goto (tgt := 81) C dX5_hasDots_77 (by decide) ?_
      refine mv_sub [0, 2] rfl ?_
      exact wj_X5_hasDots_81_ok C hs hlev hK14 hw
  · have hw := hw.2 h11
    refine mv_iconst (v := (1 : Int32)) C dX5_hasDots_61 (by decide) ?_
    refine mv_goto (tgt := 81) C dX5_hasDots_62 (by decide) ?_
    refine mv_sub [0, 2] rfl ?_
    exact wj_X5_hasDots_81_ok C hs hlev hK14 hw
set_option maxHeartbeats 4000000 in
set_option maxRecDepth 100000 in
theorem wj_X5_hasDots_14_ok (C : mC p s m args meth c cX5_hasDots 4 wsX5_hasDots RX5 (some .boolean) (dC, dI) vwCl [(cA, .int)] A) (hs : eA a A s) (hlev : 0 ≤ lev) {post : Int32 → mS → Prop} {K14 : Int32 → Int32 → mS → Prop} (hK14 : ∀ (x2 x3 : Int32) (u : mS), K14 x2 x3 u → mV p l e (mRm lev) s m args below meth c 4 (dC, dI) vwCl A 0 0 (mQi below args s (dC, dI) vwCl [(cA, .int)] (wA cA a) A (fun r w => (r = 0 ∨ r = 1) ∧ post r w)) (wA cA a u) 14 [(0, .ref (a 2)), (2, .int x2), (3, .int x3)] []) {x2 x3 : Int32} {u : mS} (hw : wj_X5_hasDots_14 K14 post x2 x3 u) : mV p l e (mRm lev) s m args below meth c 4 (dC, dI) vwCl A 0 0 (mQi below args s (dC, dI) vwCl [(cA, .int)] (wA cA a) A (fun r w => (r = 0 ∨ r = 1) ∧ post r w)) (wA cA a u) 14 [(0, .ref (a 2)), (2, .int x2), (3, .int x3)] [] := by
  unfold wj_X5_hasDots_14 at hw
  refine mv_iload_n C dX5_hasDots_14 rfl 2 rfl ?_
  refine mv_aload_n C dX5_hasDots_15 rfl 0 rfl ?_
  refine mv_get (v := .int (u.1 1)) C iw_X5_hasDots_X5 2 rfl rfl 4 (by decide) lk_X5_hasDots_24 rfl rfl dX5_hasDots_16 ?_
  refine mv_topi (fun y3 ey3 => ?_)
  have hw := hw y3 ey3
  refine mv_icmp_ge (tgt := 89) C dX5_hasDots_19 (by decide) (fun h4 => ?_) (fun h4 => ?_)
  · have hw := hw.1 h4
    refine mv_iconst (v := (0 : Int32)) C dX5_hasDots_89 (by decide) ?_
    exact mv_zret C dX5_hasDots_90 (Or.inl rfl) hw
  · have hw := hw.2 h4
    refine mv_iload_n C dX5_hasDots_22 rfl 2 rfl ?_
    refine mv_sipush (v := (3000 : Int32)) C dX5_hasDots_23 (by decide) ?_
    refine mv_icmp_ge (tgt := 89) C dX5_hasDots_26 (by decide) (fun h5 => ?_) (fun h5 => ?_)
    · have hw := hw.1 h5
      refine mv_iconst (v := (0 : Int32)) C dX5_hasDots_89 (by decide) ?_
      exact mv_zret C dX5_hasDots_90 (Or.inl rfl) hw
    · have hw := hw.2 h5
      refine mv_iload_n C dX5_hasDots_29 rfl 1 rfl ?_
      refine mv_if_lt (tgt := 89) C dX5_hasDots_30 (by decide) (fun h6 => ?_) (fun h6 => ?_)
      · have hw := hw.1 h6
        refine mv_iconst (v := (0 : Int32)) C dX5_hasDots_89 (by decide) ?_
        exact mv_zret C dX5_hasDots_90 (Or.inl rfl) hw
      · have hw := hw.2 h6
        refine mv_aload_n C dX5_hasDots_33 rfl 0 rfl ?_
        refine mv_get (v := .ref (a 3)) C iw_X5_hasDots_X5 2 rfl rfl 0 (by decide) lk_X5_hasDots_9 rfl rfl dX5_hasDots_34 ?_
        refine mv_iload_n C dX5_hasDots_37 rfl 2 rfl ?_
        refine mv_iald (f := u.2 1) C 3 0 rfl rfl hw.1 dX5_hasDots_38 ?_
        refine mv_topi (fun y7 ey7 => ?_)
        have hw := hw.2 y7 ey7
        refine mv_bipush (v := (-3 : Int32)) C dX5_hasDots_39 (by decide) ?_
        refine mv_icmp_ne (tgt := 50) C dX5_hasDots_41 (by decide) (fun h8 => ?_) (fun h8 => ?_)
        · have hw := hw.1 h8
          exact wj_X5_hasDots_50_ok C hs hlev hK14 hw
        · have hw := hw.2 h8
          refine mv_iload_n C dX5_hasDots_44 rfl 1 rfl ?_
          refine mv_if_ne (tgt := 50) C dX5_hasDots_45 (by decide) (fun h9 => ?_) (fun h9 => ?_)
          · have hw := hw.1 h9
            exact wj_X5_hasDots_50_ok C hs hlev hK14 hw
          · have hw := hw.2 h9
            refine mv_iconst (v := (1 : Int32)) C dX5_hasDots_48 (by decide) ?_
            exact mv_zret C dX5_hasDots_49 (Or.inr rfl) hw
set_option maxHeartbeats 4000000 in
set_option maxRecDepth 100000 in
theorem wj_X5_hasDots_13_ok (C : mC p s m args meth c cX5_hasDots 4 wsX5_hasDots RX5 (some .boolean) (dC, dI) vwCl [(cA, .int)] A) (hs : eA a A s) (hlev : 0 ≤ lev) {post : Int32 → mS → Prop} {x2 z0 : Int32} {u : mS} (hw : wj_X5_hasDots_13 post x2 z0 u) : mV p l e (mRm lev) s m args below meth c 4 (dC, dI) vwCl A 0 0 (mQi below args s (dC, dI) vwCl [(cA, .int)] (wA cA a) A (fun r w => (r = 0 ∨ r = 1) ∧ post r w)) (wA cA a u) 13 [(0, .ref (a 2)), (2, .int x2)] [.int z0] := by
  unfold wj_X5_hasDots_13 at hw
  refine mv_istore_n (lv1 := [(3, .int z0), (0, .ref (a 2)), (2, .int x2)]) C dX5_hasDots_13 rfl (by decide) rfl ?_
  refine mv_sub [1, 2, 0] rfl ?_
  obtain ⟨n, hw⟩ := hw
  exact mL3_of (fun K hK b0 b1 b2 hw => wj_X5_hasDots_14_ok C hs hlev hK hw) n x2 z0 u hw
set_option maxHeartbeats 4000000 in
set_option maxRecDepth 100000 in
theorem X5_hasDots_met (hlev : 0 ≤ lev) {x1 : Int32} {u : mS} {post : Int32 → mS → Prop} (hw : wp_X5_hasDots x1 u post) : mKi l yX5_hasDots wsX5_hasDots lev (eA a) (dC, dI) vwCl [(cA, .int)] (wA cA a) [.ref (a 2), .int x1] u (fun r w => (r = 0 ∨ r = 1) ∧ post r w) := by
  refine mKz_of (cc := cX5_hasDots) (maxL := 4) (by decide) rfl rfl (Nat.le_of_ble_eq_true rfl) rfl ?_
  intro p e s m args below meth c A C hs
  unfold wp_X5_hasDots at hw
  refine mv_iconst (v := (0 : Int32)) C dX5_hasDots_0 (by decide) ?_
  refine mv_istore_n (lv1 := [(2, .int (0 : Int32)), (0, .ref (a 2)), (1, .int x1)]) C dX5_hasDots_1 rfl (by decide) rfl ?_
  refine mv_iload_n C dX5_hasDots_2 rfl 2 rfl ?_
  refine mv_if_ge (tgt := 10) C dX5_hasDots_3 (by decide) (fun h1 => ?_) (fun h1 => ?_)
  · have hw := hw.1 h1
    refine mv_iload_n C dX5_hasDots_10 rfl 2 rfl ?_
    refine mv_iconst (v := (1 : Int32)) C dX5_hasDots_11 (by decide) ?_
    refine mv_iadd C dX5_hasDots_12 ?_
    refine mv_topi (fun y2 ey2 => ?_)
    have hw := hw y2 ey2
    refine mv_sub [1, 0] rfl ?_
    exact wj_X5_hasDots_13_ok C hs hlev hw
  · have hw := hw.2 h1
    refine mv_iconst (v := (0 : Int32)) C dX5_hasDots_6 (by decide) ?_
    refine mv_goto (tgt := 13) C dX5_hasDots_7 (by decide) ?_
    refine mv_sub [1, 0] rfl ?_
    exact wj_X5_hasDots_13_ok C hs hlev hw
set_option maxHeartbeats 4000000 in
set_option maxRecDepth 100000 in
theorem wj_X5_itemsFrom_85_ok (C : mC p s m args meth c cX5_itemsFrom 5 wsX5_itemsFrom RX5 (some .int) (dC, dI) vwCl [(cA, .int)] A) (hs : eA a A s) (hlev : 0 ≤ lev) {post : Int32 → mS → Prop} {K15 : Int32 → Int32 → Int32 → mS → Prop} (hK15 : ∀ (x2 x3 x4 : Int32) (u : mS), K15 x2 x3 x4 u → mV p l e (mRm lev) s m args below meth c 5 (dC, dI) vwCl A 0 0 (mQi below args s (dC, dI) vwCl [(cA, .int)] (wA cA a) A post) (wA cA a u) 15 [(0, .ref (a 2)), (2, .int x2), (3, .int x3), (4, .int x4)] []) {x2 x3 x4 : Int32} {u : mS} (hw : wj_X5_itemsFrom_85 K15 post x2 x3 x4 u) : mV p l e (mRm lev) s m args below meth c 5 (dC, dI) vwCl A 0 0 (mQi below args s (dC, dI) vwCl [(cA, .int)] (wA cA a) A post) (wA cA a u) 85 [(0, .ref (a 2)), (2, .int x2), (3, .int x3), (4, .int x4)] [] := by
  unfold wj_X5_itemsFrom_85 at hw
  obtain ⟨y10, ey10⟩ : ∃ z : Int32, z = x4 + (1 : Int32) := ⟨_, rfl⟩
  have hw := hw y10 ey10
  refine mv_iinc (v := y10) (lv1 := [(4, .int y10), (0, .ref (a 2)), (2, .int x2), (3, .int x3)]) C dX5_itemsFrom_85 3 rfl (by rw [ey10]; rfl) (by decide) rfl ?_
  refine mv_goto (tgt := 15) C dX5_itemsFrom_88 (by decide) ?_
  refine mv_sub [1, 2, 3, 0] rfl ?_
  exact hK15 x2 x3 y10 u hw
set_option maxHeartbeats 4000000 in
set_option maxRecDepth 100000 in
theorem wj_X5_itemsFrom_83_ok (C : mC p s m args meth c cX5_itemsFrom 5 wsX5_itemsFrom RX5 (some .int) (dC, dI) vwCl [(cA, .int)] A) (hs : eA a A s) (hlev : 0 ≤ lev) {post : Int32 → mS → Prop} {K15 : Int32 → Int32 → Int32 → mS → Prop} (hK15 : ∀ (x2 x3 x4 : Int32) (u : mS), K15 x2 x3 x4 u → mV p l e (mRm lev) s m args below meth c 5 (dC, dI) vwCl A 0 0 (mQi below args s (dC, dI) vwCl [(cA, .int)] (wA cA a) A post) (wA cA a u) 15 [(0, .ref (a 2)), (2, .int x2), (3, .int x3), (4, .int x4)] []) {x2 x4 z0 z1 : Int32} {u : mS} (hw : wj_X5_itemsFrom_83 K15 post x2 x4 z0 z1 u) : mV p l e (mRm lev) s m args below meth c 5 (dC, dI) vwCl A 0 0 (mQi below args s (dC, dI) vwCl [(cA, .int)] (wA cA a) A post) (wA cA a u) 83 [(0, .ref (a 2)), (2, .int x2), (4, .int x4)] [.int z0, .int z1] := by
  unfold wj_X5_itemsFrom_83 at hw
  refine mv_iadd C dX5_itemsFrom_83 ?_
  refine mv_topi (fun y14 ey14 => ?_)
  have hw := hw y14 ey14
  refine mv_istore_n (lv1 := [(3, .int y14), (0, .ref (a 2)), (2, .int x2), (4, .int x4)]) C dX5_itemsFrom_84 rfl (by decide) rfl ?_
  refine mv_sub [1, 2, 0, 3] rfl ?_
  exact wj_X5_itemsFrom_85_ok C hs hlev hK15 hw
set_option maxHeartbeats 4000000 in
set_option maxRecDepth 100000 in
theorem wj_X5_itemsFrom_64_ok (C : mC p s m args meth c cX5_itemsFrom 5 wsX5_itemsFrom RX5 (some .int) (dC, dI) vwCl [(cA, .int)] A) (hs : eA a A s) (hlev : 0 ≤ lev) {post : Int32 → mS → Prop} {K15 : Int32 → Int32 → Int32 → mS → Prop} (hK15 : ∀ (x2 x3 x4 : Int32) (u : mS), K15 x2 x3 x4 u → mV p l e (mRm lev) s m args below meth c 5 (dC, dI) vwCl A 0 0 (mQi below args s (dC, dI) vwCl [(cA, .int)] (wA cA a) A post) (wA cA a u) 15 [(0, .ref (a 2)), (2, .int x2), (3, .int x3), (4, .int x4)] []) {x3 x4 z0 z1 : Int32} {u : mS} (hw : wj_X5_itemsFrom_64 K15 post x3 x4 z0 z1 u) : mV p l e (mRm lev) s m args below meth c 5 (dC, dI) vwCl A 0 0 (mQi below args s (dC, dI) vwCl [(cA, .int)] (wA cA a) A post) (wA cA a u) 64 [(0, .ref (a 2)), (3, .int x3), (4, .int x4)] [.int z0, .int z1] := by
  unfold wj_X5_itemsFrom_64 at hw
  refine mv_iadd C dX5_itemsFrom_64 ?_
  refine mv_topi (fun y11 ey11 => ?_)
  have hw := hw y11 ey11
  refine mv_istore_n (lv1 := [(2, .int y11), (0, .ref (a 2)), (3, .int x3), (4, .int x4)]) C dX5_itemsFrom_65 rfl (by decide) rfl ?_
  refine mv_iload_n C dX5_itemsFrom_66 rfl 2 rfl ?_
  refine mv_aload_n C dX5_itemsFrom_67 rfl 1 rfl ?_
  refine mv_get (v := .ref (a 3)) C iw_X5_itemsFrom_X5 2 rfl rfl 0 (by decide) lk_X5_itemsFrom_9 rfl rfl dX5_itemsFrom_68 ?_
  refine mv_iload C dX5_itemsFrom_71 3 rfl ?_
  refine mv_iald (f := u.2 1) C 3 0 rfl rfl hw.1 dX5_itemsFrom_73 ?_
  refine mv_topi (fun y12 ey12 => ?_)
  have hw := hw.2 y12 ey12
  refine mv_iconst (v := (-1 : Int32)) C dX5_itemsFrom_74 (by decide) ?_
  refine mv_icmp_ne (tgt := 82) C dX5_itemsFrom_75 (by decide) (fun h13 => ?_) (fun h13 => ?_)
  · have hw := hw.1 h13
    refine mv_iconst (v := (0 : Int32)) C dX5_itemsFrom_82 (by decide) ?_
    refine mv_sub [1, 0, 3] rfl ?_
    exact wj_X5_itemsFrom_83_ok C hs hlev hK15 hw
  · have hw := hw.2 h13
    refine mv_iconst (v := (1 : Int32)) C dX5_itemsFrom_78 (by decide) ?_
    refine mv_goto (tgt := 83) C dX5_itemsFrom_79 (by decide) ?_
    refine mv_sub [1, 0, 3] rfl ?_
    exact wj_X5_itemsFrom_83_ok C hs hlev hK15 hw
set_option maxHeartbeats 4000000 in
set_option maxRecDepth 100000 in
theorem wj_X5_itemsFrom_91_ok (C : mC p s m args meth c cX5_itemsFrom 5 wsX5_itemsFrom RX5 (some .int) (dC, dI) vwCl [(cA, .int)] A) (hs : eA a A s) (hlev : 0 ≤ lev) {post : Int32 → mS → Prop} {x2 : Int32} {u : mS} (hw : wj_X5_itemsFrom_91 post x2 u) : mV p l e (mRm lev) s m args below meth c 5 (dC, dI) vwCl A 0 0 (mQi below args s (dC, dI) vwCl [(cA, .int)] (wA cA a) A post) (wA cA a u) 91 [(2, .int x2)] [] := by
  unfold wj_X5_itemsFrom_91 at hw
  refine mv_iload_n C dX5_itemsFrom_91 rfl 0 rfl ?_
  exact mv_iret C dX5_itemsFrom_92 hw
set_option maxHeartbeats 4000000 in
set_option maxRecDepth 100000 in
theorem wj_X5_itemsFrom_15_ok (C : mC p s m args meth c cX5_itemsFrom 5 wsX5_itemsFrom RX5 (some .int) (dC, dI) vwCl [(cA, .int)] A) (hs : eA a A s) (hlev : 0 ≤ lev) {post : Int32 → mS → Prop} {K15 : Int32 → Int32 → Int32 → mS → Prop} (hK15 : ∀ (x2 x3 x4 : Int32) (u : mS), K15 x2 x3 x4 u → mV p l e (mRm lev) s m args below meth c 5 (dC, dI) vwCl A 0 0 (mQi below args s (dC, dI) vwCl [(cA, .int)] (wA cA a) A post) (wA cA a u) 15 [(0, .ref (a 2)), (2, .int x2), (3, .int x3), (4, .int x4)] []) {x2 x3 x4 : Int32} {u : mS} (hw : wj_X5_itemsFrom_15 K15 post x2 x3 x4 u) : mV p l e (mRm lev) s m args below meth c 5 (dC, dI) vwCl A 0 0 (mQi below args s (dC, dI) vwCl [(cA, .int)] (wA cA a) A post) (wA cA a u) 15 [(0, .ref (a 2)), (2, .int x2), (3, .int x3), (4, .int x4)] [] := by
  unfold wj_X5_itemsFrom_15 at hw
  refine mv_iload C dX5_itemsFrom_15 3 rfl ?_
  refine mv_aload_n C dX5_itemsFrom_17 rfl 0 rfl ?_
  refine mv_get (v := .int (u.1 1)) C iw_X5_itemsFrom_X5 2 rfl rfl 4 (by decide) lk_X5_itemsFrom_24 rfl rfl dX5_itemsFrom_18 ?_
  refine mv_topi (fun y2 ey2 => ?_)
  have hw := hw y2 ey2
  refine mv_icmp_ge (tgt := 91) C dX5_itemsFrom_21 (by decide) (fun h3 => ?_) (fun h3 => ?_)
  · have hw := hw.1 h3
    refine mv_sub [1] rfl ?_
    exact wj_X5_itemsFrom_91_ok C hs hlev hw
  · have hw := hw.2 h3
    refine mv_iload C dX5_itemsFrom_24 3 rfl ?_
    refine mv_sipush (v := (3000 : Int32)) C dX5_itemsFrom_26 (by decide) ?_
    refine mv_icmp_ge (tgt := 91) C dX5_itemsFrom_29 (by decide) (fun h4 => ?_) (fun h4 => ?_)
    · have hw := hw.1 h4
      refine mv_sub [1] rfl ?_
      exact wj_X5_itemsFrom_91_ok C hs hlev hw
    · have hw := hw.2 h4
      refine mv_iload_n C dX5_itemsFrom_32 rfl 2 rfl ?_
      refine mv_if_lt (tgt := 91) C dX5_itemsFrom_33 (by decide) (fun h5 => ?_) (fun h5 => ?_)
      · have hw := hw.1 h5
        refine mv_sub [1] rfl ?_
        exact wj_X5_itemsFrom_91_ok C hs hlev hw
      · have hw := hw.2 h5
        refine mv_aload_n C dX5_itemsFrom_36 rfl 0 rfl ?_
        refine mv_get (v := .ref (a 3)) C iw_X5_itemsFrom_X5 2 rfl rfl 0 (by decide) lk_X5_itemsFrom_9 rfl rfl dX5_itemsFrom_37 ?_
        refine mv_iload C dX5_itemsFrom_40 3 rfl ?_
        refine mv_iald (f := u.2 1) C 3 0 rfl rfl hw.1 dX5_itemsFrom_42 ?_
        refine mv_topi (fun y6 ey6 => ?_)
        have hw := hw.2 y6 ey6
        refine mv_bipush (v := (-2 : Int32)) C dX5_itemsFrom_43 (by decide) ?_
        refine mv_icmp_ne (tgt := 54) C dX5_itemsFrom_45 (by decide) (fun h7 => ?_) (fun h7 => ?_)
        · have hw := hw.1 h7
          refine mv_iload_n C dX5_itemsFrom_54 rfl 1 rfl ?_
          refine mv_iload_n C dX5_itemsFrom_55 rfl 2 rfl ?_
          refine mv_if_ne (tgt := 63) C dX5_itemsFrom_56 (by decide) (fun h8 => ?_) (fun h8 => ?_)
          · have hw := hw.1 h8
            refine mv_iconst (v := (0 : Int32)) C dX5_itemsFrom_63 (by decide) ?_
            refine mv_sub [0, 2, 3] rfl ?_
            exact wj_X5_itemsFrom_64_ok C hs hlev hK15 hw
          · have hw := hw.2 h8
            refine mv_iconst (v := (1 : Int32)) C dX5_itemsFrom_59 (by decide) ?_
            refine mv_goto (tgt := 64) C dX5_itemsFrom_60 (by decide) ?_
            refine mv_sub [0, 2, 3] rfl ?_
            exact wj_X5_itemsFrom_64_ok C hs hlev hK15 hw
        · have hw := hw.2 h7
          obtain ⟨y9, ey9⟩ : ∃ z : Int32, z = x3 + (-1 : Int32) := ⟨_, rfl⟩
          have hw := hw y9 ey9
          refine mv_iinc (v := y9) (lv1 := [(3, .int y9), (0, .ref (a 2)), (2, .int x2), (4, .int x4)]) C dX5_itemsFrom_48 2 rfl (by rw [ey9]; rfl) (by decide) rfl ?_
          refine mv_goto (tgt := 85) C dX5_itemsFrom_51 (by decide) ?_
          refine mv_sub [1, 2, 0, 3] rfl ?_
          exact wj_X5_itemsFrom_85_ok C hs hlev hK15 hw
set_option maxHeartbeats 4000000 in
set_option maxRecDepth 100000 in
theorem wj_X5_itemsFrom_13_ok (C : mC p s m args meth c cX5_itemsFrom 5 wsX5_itemsFrom RX5 (some .int) (dC, dI) vwCl [(cA, .int)] A) (hs : eA a A s) (hlev : 0 ≤ lev) {post : Int32 → mS → Prop} {x2 x3 z0 : Int32} {u : mS} (hw : wj_X5_itemsFrom_13 post x2 x3 z0 u) : mV p l e (mRm lev) s m args below meth c 5 (dC, dI) vwCl A 0 0 (mQi below args s (dC, dI) vwCl [(cA, .int)] (wA cA a) A post) (wA cA a u) 13 [(0, .ref (a 2)), (2, .int x2), (3, .int x3)] [.int z0] := by
  unfold wj_X5_itemsFrom_13 at hw
  refine mv_istore (lv1 := [(4, .int z0), (0, .ref (a 2)), (2, .int x2), (3, .int x3)]) C dX5_itemsFrom_13 (by decide) rfl ?_
  refine mv_sub [1, 2, 3, 0] rfl ?_
  obtain ⟨n, hw⟩ := hw
  exact mL4_of (fun K hK b0 b1 b2 b3 hw => wj_X5_itemsFrom_15_ok C hs hlev hK hw) n x2 x3 z0 u hw
set_option maxHeartbeats 4000000 in
set_option maxRecDepth 100000 in
theorem X5_itemsFrom_met (hlev : 0 ≤ lev) {x1 : Int32} {u : mS} {post : Int32 → mS → Prop} (hw : wp_X5_itemsFrom x1 u post) : mKi l yX5_itemsFrom wsX5_itemsFrom lev (eA a) (dC, dI) vwCl [(cA, .int)] (wA cA a) [.ref (a 2), .int x1] u post := by
  refine mKi_of (cc := cX5_itemsFrom) (maxL := 5) (by decide) rfl rfl (Nat.le_of_ble_eq_true rfl) rfl ?_
  intro p e s m args below meth c A C hs
  unfold wp_X5_itemsFrom at hw
  refine mv_iconst (v := (0 : Int32)) C dX5_itemsFrom_0 (by decide) ?_
  refine mv_istore_n (lv1 := [(2, .int (0 : Int32)), (0, .ref (a 2)), (1, .int x1)]) C dX5_itemsFrom_1 rfl (by decide) rfl ?_
  refine mv_iconst (v := (0 : Int32)) C dX5_itemsFrom_2 (by decide) ?_
  refine mv_istore_n (lv1 := [(3, .int (0 : Int32)), (2, .int (0 : Int32)), (0, .ref (a 2)), (1, .int x1)]) C dX5_itemsFrom_3 rfl (by decide) rfl ?_
  refine mv_iload_n C dX5_itemsFrom_4 rfl 3 rfl ?_
  refine mv_if_ge (tgt := 12) C dX5_itemsFrom_5 (by decide) (fun h1 => ?_) (fun h1 => ?_)
  · have hw := hw.1 h1
    refine mv_iload_n C dX5_itemsFrom_12 rfl 3 rfl ?_
    refine mv_sub [2, 1, 0] rfl ?_
    exact wj_X5_itemsFrom_13_ok C hs hlev hw
  · have hw := hw.2 h1
    refine mv_iconst (v := (0 : Int32)) C dX5_itemsFrom_8 (by decide) ?_
    refine mv_goto (tgt := 13) C dX5_itemsFrom_9 (by decide) ?_
    refine mv_sub [2, 1, 0] rfl ?_
    exact wj_X5_itemsFrom_13_ok C hs hlev hw
set_option maxHeartbeats 4000000 in
set_option maxRecDepth 100000 in
theorem wj_X5_plainLength_17_ok (C : mC p s m args meth c cX5_plainLength 2 wsX5_plainLength RX5 (some .int) (dC, dI) vwCl [(cA, .int)] A) (hs : eA a A s) (hlev : 1 ≤ lev) {post : Int32 → mS → Prop} {u : mS} (hw : wj_X5_plainLength_17 post  u) : mV p l e (mRm lev) s m args below meth c 2 (dC, dI) vwCl A 0 0 (mQi below args s (dC, dI) vwCl [(cA, .int)] (wA cA a) A post) (wA cA a u) 17 [] [] := by
  unfold wj_X5_plainLength_17 at hw
  refine mv_iconst (v := (-1 : Int32)) C dX5_plainLength_17 (by decide) ?_
  refine mv_goto (tgt := 28) C dX5_plainLength_18 (by decide) ?_
  exact mv_iret C dX5_plainLength_28 hw
set_option maxHeartbeats 4000000 in
set_option maxRecDepth 100000 in
theorem X5_plainLength_met (hlev : 1 ≤ lev) {x1 : Int32} {u : mS} {post : Int32 → mS → Prop} (hw : wp_X5_plainLength x1 u post) : mKi l yX5_plainLength wsX5_plainLength lev (eA a) (dC, dI) vwCl [(cA, .int)] (wA cA a) [.ref (a 2), .int x1] u post := by
  refine mKi_of (cc := cX5_plainLength) (maxL := 2) (by decide) rfl rfl (Nat.le_of_ble_eq_true rfl) rfl ?_
  intro p e s m args below meth c A C hs
  unfold wp_X5_plainLength at hw
  refine mv_aload_n C dX5_plainLength_0 rfl 0 rfl ?_
  refine mv_iload_n C dX5_plainLength_1 rfl 1 rfl ?_
  refine mv_callVi (f := wA cA a) (As := [.int x1]) (rest := []) C (eA_ok a) hs 2 rfl rfl (X5_wordAt_met (l := l) (lev := lev - 1) (by omega) hw) (cwV 1 C.2.2.2.2.1 gX5_plainLength_X5_wordAt rfl rfl rfl (by decide +kernel) (mRm_le (by omega) (by decide))) rfl rfl (Nat.le_of_ble_eq_true rfl) dX5_plainLength_2 ⟨Nat.le_refl 0, Nat.le_refl 0⟩ (fun r1 u2 hw => ?_)
  refine mv_iconst (v := (-1 : Int32)) C dX5_plainLength_5 (by decide) ?_
  refine mv_icmp_ne (tgt := 17) C dX5_plainLength_6 (by decide) (fun h3 => ?_) (fun h3 => ?_)
  · have hw := hw.1 h3
    refine mv_sub [] rfl ?_
    exact wj_X5_plainLength_17_ok C hs hlev hw
  · have hw := hw.2 h3
    refine mv_aload_n C dX5_plainLength_9 rfl 0 rfl ?_
    refine mv_iload_n C dX5_plainLength_10 rfl 1 rfl ?_
    refine mv_callVi (f := wA cA a) (As := [.int x1]) (rest := []) C (eA_ok a) hs 2 rfl rfl (X5_hasDots_met (l := l) (lev := lev - 1) (by omega) hw) (cwV 1 C.2.2.2.2.1 gX5_plainLength_X5_hasDots rfl rfl rfl (by decide +kernel) (mRm_le (by omega) (by decide))) rfl rfl (Nat.le_of_ble_eq_true rfl) dX5_plainLength_11 ⟨Nat.le_refl 0, Nat.le_refl 0⟩ (fun r4 u5 hw => ?_)
    obtain ⟨gr4, hw⟩ := hw
    refine mv_if_eq (tgt := 21) C dX5_plainLength_14 (by decide) (fun h6 => ?_) (fun h6 => ?_)
    · have hw := hw.1 h6
      refine mv_aload_n C dX5_plainLength_21 rfl 0 rfl ?_
      refine mv_iload_n C dX5_plainLength_22 rfl 1 rfl ?_
      refine mv_iconst (v := (1 : Int32)) C dX5_plainLength_23 (by decide) ?_
      refine mv_iadd C dX5_plainLength_24 ?_
      refine mv_topi (fun y7 ey7 => ?_)
      have hw := hw y7 ey7
      refine mv_callVi (f := wA cA a) (As := [.int y7]) (rest := []) C (eA_ok a) hs 2 rfl rfl (X5_itemsFrom_met (l := l) (lev := lev - 1) (by omega) hw) (cwV 1 C.2.2.2.2.1 gX5_plainLength_X5_itemsFrom rfl rfl rfl (by decide +kernel) (mRm_le (by omega) (by decide))) rfl rfl (Nat.le_of_ble_eq_true rfl) dX5_plainLength_25 ⟨Nat.le_refl 0, Nat.le_refl 0⟩ (fun r8 u9 hw => ?_)
      exact mv_iret C dX5_plainLength_28 hw
    · have hw := hw.2 h6
      refine mv_sub [] rfl ?_
      exact wj_X5_plainLength_17_ok C hs hlev hw
set_option maxHeartbeats 4000000 in
set_option maxRecDepth 100000 in
theorem wj_X0_areNames_11_ok (C : mC p s m args meth c cX0_areNames 4 wsX0_areNames RX0 (some .boolean) (dC, dI) vwCl [(cA, .int)] A) (hs : eA a A s) (hlev : 2 ≤ lev) {post : Int32 → mS → Prop} {K11 : Int32 → Int32 → Int32 → mS → Prop} (hK11 : ∀ (x1 x2 x3 : Int32) (u : mS), K11 x1 x2 x3 u → mV p l e (mRm lev) s m args below meth c 4 (dC, dI) vwCl A 0 0 (mQi below args s (dC, dI) vwCl [(cA, .int)] (wA cA a) A (fun r w => (r = 0 ∨ r = 1) ∧ post r w)) (wA cA a u) 11 [(0, .ref (a 16)), (1, .int x1), (2, .int x2), (3, .int x3)] []) {x1 x2 x3 : Int32} {u : mS} (hw : wj_X0_areNames_11 K11 post x1 x2 x3 u) : mV p l e (mRm lev) s m args below meth c 4 (dC, dI) vwCl A 0 0 (mQi below args s (dC, dI) vwCl [(cA, .int)] (wA cA a) A (fun r w => (r = 0 ∨ r = 1) ∧ post r w)) (wA cA a u) 11 [(0, .ref (a 16)), (1, .int x1), (2, .int x2), (3, .int x3)] [] := by
  unfold wj_X0_areNames_11 at hw
  refine mv_iload_n C dX0_areNames_11 rfl 3 rfl ?_
  refine mv_iload_n C dX0_areNames_12 rfl 2 rfl ?_
  refine mv_icmp_ge (tgt := 42) C dX0_areNames_13 (by decide) (fun h3 => ?_) (fun h3 => ?_)
  · have hw := hw.1 h3
    refine mv_iload_n C dX0_areNames_42 rfl 2 rfl ?_
    refine mv_if_lt (tgt := 50) C dX0_areNames_43 (by decide) (fun h4 => ?_) (fun h4 => ?_)
    · have hw := hw.1 h4
      refine mv_iconst (v := (0 : Int32)) C dX0_areNames_50 (by decide) ?_
      exact mv_zret C dX0_areNames_51 (Or.inl rfl) hw
    · have hw := hw.2 h4
      refine mv_iconst (v := (1 : Int32)) C dX0_areNames_46 (by decide) ?_
      refine mv_goto (tgt := 51) C dX0_areNames_47 (by decide) ?_
      exact mv_zret C dX0_areNames_51 (Or.inr rfl) hw
  · have hw := hw.2 h3
    refine mv_aload_n C dX0_areNames_16 rfl 0 rfl ?_
    refine mv_get (v := .ref (a 2)) C iw_X0_areNames_X0 16 rfl rfl 0 (by decide) lk_X0_areNames_9 rfl rfl dX0_areNames_17 ?_
    refine mv_iload_n C dX0_areNames_20 rfl 1 rfl ?_
    refine mv_iconst (v := (1 : Int32)) C dX0_areNames_21 (by decide) ?_
    refine mv_iadd C dX0_areNames_22 ?_
    refine mv_topi (fun y5 ey5 => ?_)
    have hw := hw y5 ey5
    refine mv_iload_n C dX0_areNames_23 rfl 3 rfl ?_
    refine mv_iadd C dX0_areNames_24 ?_
    refine mv_topi (fun y6 ey6 => ?_)
    have hw := hw y6 ey6
    refine mv_callVi (f := wA cA a) (As := [.int y6]) (rest := []) C (eA_ok a) hs 2 rfl rfl (X5_wordAt_met (l := l) (lev := lev - 1) (by omega) hw) (cwV 1 C.2.2.2.2.1 gX0_areNames_X5_wordAt rfl rfl rfl (by decide +kernel) (mRm_le (by omega) (by decide))) rfl rfl (Nat.le_of_ble_eq_true rfl) dX0_areNames_25 ⟨Nat.le_refl 0, Nat.le_refl 0⟩ (fun r7 u8 hw => ?_)
    refine mv_callSNi (f := wA cA a) (As := [.int r7]) (rest := []) C (eA_ok a) hs (X8_isName_met (l := l) (lev := lev - 1) (by omega) hw) ⟨va_cnB 1 C.2.2.2.2.1 ggX0_areNames_X8_isName rfl rfl rfl (hs.1 _ nw_17) (C.2.2.2.2.1 _ in_X0_areNames_X8) (by decide +kernel) (mRm_le (by omega) (by decide)), C.2.2.2.2.1 _ st_X0_areNames_X8_isName, trivial⟩ rfl rfl (Nat.le_of_ble_eq_true rfl) dX0_areNames_28 ⟨Nat.le_refl 0, Nat.le_refl 0⟩ (fun r9 u10 hw => ?_)
    obtain ⟨gr9, hw⟩ := hw
    refine mv_if_ne (tgt := 36) C dX0_areNames_31 (by decide) (fun h11 => ?_) (fun h11 => ?_)
    · have hw := hw.1 h11
      obtain ⟨y12, ey12⟩ : ∃ z : Int32, z = x3 + (1 : Int32) := ⟨_, rfl⟩
      have hw := hw y12 ey12
      refine mv_iinc (v := y12) (lv1 := [(3, .int y12), (0, .ref (a 16)), (1, .int x1), (2, .int x2)]) C dX0_areNames_36 3 rfl (by rw [ey12]; rfl) (by decide) rfl ?_
      refine mv_goto (tgt := 11) C dX0_areNames_39 (by decide) ?_
      refine mv_sub [1, 2, 3, 0] rfl ?_
      exact hK11 x1 x2 y12 u10 hw
    · have hw := hw.2 h11
      refine mv_iconst (v := (0 : Int32)) C dX0_areNames_34 (by decide) ?_
      exact mv_zret C dX0_areNames_35 (Or.inl rfl) hw
set_option maxHeartbeats 4000000 in
set_option maxRecDepth 100000 in
theorem X0_areNames_met (hlev : 2 ≤ lev) {x1 : Int32} {u : mS} {post : Int32 → mS → Prop} (hw : wp_X0_areNames x1 u post) : mKi l yX0_areNames wsX0_areNames lev (eA a) (dC, dI) vwCl [(cA, .int)] (wA cA a) [.ref (a 16), .int x1] u (fun r w => (r = 0 ∨ r = 1) ∧ post r w) := by
  refine mKz_of (cc := cX0_areNames) (maxL := 4) (by decide) rfl rfl (Nat.le_of_ble_eq_true rfl) rfl ?_
  intro p e s m args below meth c A C hs
  unfold wp_X0_areNames at hw
  refine mv_aload_n C dX0_areNames_0 rfl 0 rfl ?_
  refine mv_get (v := .ref (a 2)) C iw_X0_areNames_X0 16 rfl rfl 0 (by decide) lk_X0_areNames_9 rfl rfl dX0_areNames_1 ?_
  refine mv_iload_n C dX0_areNames_4 rfl 1 rfl ?_
  refine mv_callVi (f := wA cA a) (As := [.int x1]) (rest := []) C (eA_ok a) hs 2 rfl rfl (X5_plainLength_met (l := l) (lev := lev - 1) (by omega) hw) (cwV 1 C.2.2.2.2.1 gX0_areNames_X5_plainLength rfl rfl rfl (by decide +kernel) (mRm_le (by omega) (by decide))) rfl rfl (Nat.le_of_ble_eq_true rfl) dX0_areNames_5 ⟨Nat.le_refl 0, Nat.le_refl 0⟩ (fun r1 u2 hw => ?_)
  refine mv_istore_n (lv1 := [(2, .int r1), (0, .ref (a 16)), (1, .int x1)]) C dX0_areNames_8 rfl (by decide) rfl ?_
  refine mv_iconst (v := (0 : Int32)) C dX0_areNames_9 (by decide) ?_
  refine mv_istore_n (lv1 := [(3, .int (0 : Int32)), (2, .int r1), (0, .ref (a 16)), (1, .int x1)]) C dX0_areNames_10 rfl (by decide) rfl ?_
  refine mv_sub [2, 3, 1, 0] rfl ?_
  obtain ⟨n, hw⟩ := hw
  exact mL4_of (fun K hK b0 b1 b2 b3 hw => wj_X0_areNames_11_ok C hs hlev hK hw) n x1 r1 (0 : Int32) u2 hw
set_option maxHeartbeats 4000000 in
set_option maxRecDepth 100000 in
theorem X0_newScope_met (hlev : 1 ≤ lev) {u : mS} {post : Int32 → mS → Prop} (hw : wp_X0_newScope  u post) : mKi l yX0_newScope wsX0_newScope lev (eA a) (dC, dI) vwCl [(cA, .int)] (wA cA a) [.ref (a 16)] u post := by
  refine mKi_of (cc := cX0_newScope) (maxL := 1) (by decide) rfl rfl (Nat.le_of_ble_eq_true rfl) rfl ?_
  intro p e s m args below meth c A C hs
  unfold wp_X0_newScope at hw
  refine mv_aload_n C dX0_newScope_0 rfl 0 rfl ?_
  refine mv_get (v := .int (u.1 8)) C iw_X0_newScope_X0 16 rfl rfl 5 (by decide) lk_X0_newScope_36 rfl rfl dX0_newScope_1 ?_
  refine mv_topi (fun y1 ey1 => ?_)
  have hw := hw y1 ey1
  refine mv_bipush (v := (30 : Int32)) C dX0_newScope_4 (by decide) ?_
  refine mv_icmp_lt (tgt := 20) C dX0_newScope_6 (by decide) (fun h2 => ?_) (fun h2 => ?_)
  · have hw := hw.1 h2
    refine mv_aload_n C dX0_newScope_20 rfl 0 rfl ?_
    refine mv_dup C dX0_newScope_21 rfl ?_
    refine mv_get (v := .int (u.1 8)) C iw_X0_newScope_X0 16 rfl rfl 5 (by decide) lk_X0_newScope_36 rfl rfl dX0_newScope_22 ?_
    refine mv_topi (fun y3 ey3 => ?_)
    have hw := hw y3 ey3
    refine mv_iconst (v := (1 : Int32)) C dX0_newScope_25 (by decide) ?_
    refine mv_iadd C dX0_newScope_26 ?_
    refine mv_topi (fun y4 ey4 => ?_)
    have hw := hw y4 ey4
    refine mv_put (ty := .int) (ws1 := wA cA a (mSet u 8 y4)) C iw_X0_newScope_X0 tyX0 tyX0_ok nmX0 16 rfl rfl 5 (by decide) lk_X0_newScope_36 rfl rfl rfl rfl rfl (Nat.le_of_ble_eq_true rfl) rfl dX0_newScope_27 ?_
    refine mv_nm (f := wA cA a) (fun u5 eu5 => ?_)
    have hw := hw u5 eu5
    refine mv_aload_n C dX0_newScope_30 rfl 0 rfl ?_
    refine mv_get (v := .int (u5.1 8)) C iw_X0_newScope_X0 16 rfl rfl 5 (by decide) lk_X0_newScope_36 rfl rfl dX0_newScope_31 ?_
    refine mv_topi (fun y6 ey6 => ?_)
    have hw := hw y6 ey6
    refine mv_iconst (v := (1 : Int32)) C dX0_newScope_34 (by decide) ?_
    refine mv_isub C dX0_newScope_35 ?_
    refine mv_topi (fun y7 ey7 => ?_)
    have hw := hw y7 ey7
    exact mv_iret C dX0_newScope_36 hw
  · have hw := hw.2 h2
    refine mv_aload_n C dX0_newScope_9 rfl 0 rfl ?_
    refine mv_get (v := .ref (a 14)) C iw_X0_newScope_X0 16 rfl rfl 3 (by decide) lk_X0_newScope_23 rfl rfl dX0_newScope_10 ?_
    refine mv_bipush (v := (6 : Int32)) C dX0_newScope_13 (by decide) ?_
    refine mv_callVv (f := wA cA a) (As := [.int (6 : Int32)]) (rest := []) C (eA_ok a) hs 14 rfl rfl (X2_fail_met (l := l) (lev := lev - 1) (by omega) hw) (cwV 1 C.2.2.2.2.1 gX0_newScope_X2_fail rfl rfl rfl (by decide +kernel) (mRm_le (by omega) (by decide))) rfl rfl (Nat.le_of_ble_eq_true rfl) dX0_newScope_15 ⟨Nat.le_refl 0, Nat.le_refl 0⟩ (fun u9 hw => ?_)
    refine mv_iconst (v := (-1 : Int32)) C dX0_newScope_18 (by decide) ?_
    exact mv_iret C dX0_newScope_19 hw
set_option maxHeartbeats 4000000 in
set_option maxRecDepth 100000 in
theorem wj_X5_turnScope_66_ok (C : mC p s m args meth c cX5_turnScope 5 wsX5_turnScope RX5 none (dC, dI) vwCl [(cA, .int)] A) (hs : eA a A s) (hlev : 1 ≤ lev) {post : mS → Prop} {K17 : Int32 → Int32 → Int32 → mS → Prop} (hK17 : ∀ (x2 x3 x4 : Int32) (u : mS), K17 x2 x3 x4 u → mV p l e (mRm lev) s m args below meth c 5 (dC, dI) vwCl A 0 0 (mQv below args s (dC, dI) vwCl [(cA, .int)] (wA cA a) A post) (wA cA a u) 17 [(0, .ref (a 2)), (2, .int x2), (3, .int x3), (4, .int x4)] []) {x2 x3 x4 : Int32} {u : mS} (hw : wj_X5_turnScope_66 K17 post x2 x3 x4 u) : mV p l e (mRm lev) s m args below meth c 5 (dC, dI) vwCl A 0 0 (mQv below args s (dC, dI) vwCl [(cA, .int)] (wA cA a) A post) (wA cA a u) 66 [(0, .ref (a 2)), (2, .int x2), (3, .int x3), (4, .int x4)] [] := by
  unfold wj_X5_turnScope_66 at hw
  obtain ⟨y16, ey16⟩ : ∃ z : Int32, z = x4 + (1 : Int32) := ⟨_, rfl⟩
  have hw := hw y16 ey16
  refine mv_iinc (v := y16) (lv1 := [(4, .int y16), (0, .ref (a 2)), (2, .int x2), (3, .int x3)]) C dX5_turnScope_66 3 rfl (by rw [ey16]; rfl) (by decide) rfl ?_
  refine mv_goto (tgt := 17) C dX5_turnScope_69 (by decide) ?_
  refine mv_sub [1, 2, 3, 0] rfl ?_
  exact hK17 x2 x3 y16 u hw
set_option maxHeartbeats 4000000 in
set_option maxRecDepth 100000 in
theorem wj_X5_turnScope_17_ok (C : mC p s m args meth c cX5_turnScope 5 wsX5_turnScope RX5 none (dC, dI) vwCl [(cA, .int)] A) (hs : eA a A s) (hlev : 1 ≤ lev) {post : mS → Prop} {K17 : Int32 → Int32 → Int32 → mS → Prop} (hK17 : ∀ (x2 x3 x4 : Int32) (u : mS), K17 x2 x3 x4 u → mV p l e (mRm lev) s m args below meth c 5 (dC, dI) vwCl A 0 0 (mQv below args s (dC, dI) vwCl [(cA, .int)] (wA cA a) A post) (wA cA a u) 17 [(0, .ref (a 2)), (2, .int x2), (3, .int x3), (4, .int x4)] []) {x2 x3 x4 : Int32} {u : mS} (hw : wj_X5_turnScope_17 K17 post x2 x3 x4 u) : mV p l e (mRm lev) s m args below meth c 5 (dC, dI) vwCl A 0 0 (mQv below args s (dC, dI) vwCl [(cA, .int)] (wA cA a) A post) (wA cA a u) 17 [(0, .ref (a 2)), (2, .int x2), (3, .int x3), (4, .int x4)] [] := by
  unfold wj_X5_turnScope_17 at hw
  refine mv_iload C dX5_turnScope_17 3 rfl ?_
  refine mv_iload_n C dX5_turnScope_19 rfl 2 rfl ?_
  refine mv_icmp_ge (tgt := 72) C dX5_turnScope_20 (by decide) (fun h4 => ?_) (fun h4 => ?_)
  · have hw := hw.1 h4
    exact mv_vret C dX5_turnScope_72 hw
  · have hw := hw.2 h4
    refine mv_iload C dX5_turnScope_23 3 rfl ?_
    refine mv_aload_n C dX5_turnScope_25 rfl 0 rfl ?_
    refine mv_get (v := .int (u.1 1)) C iw_X5_turnScope_X5 2 rfl rfl 4 (by decide) lk_X5_turnScope_24 rfl rfl dX5_turnScope_26 ?_
    refine mv_topi (fun y5 ey5 => ?_)
    have hw := hw y5 ey5
    refine mv_icmp_ge (tgt := 72) C dX5_turnScope_29 (by decide) (fun h6 => ?_) (fun h6 => ?_)
    · have hw := hw.1 h6
      exact mv_vret C dX5_turnScope_72 hw
    · have hw := hw.2 h6
      refine mv_iload C dX5_turnScope_32 3 rfl ?_
      refine mv_sipush (v := (3000 : Int32)) C dX5_turnScope_34 (by decide) ?_
      refine mv_icmp_ge (tgt := 72) C dX5_turnScope_37 (by decide) (fun h7 => ?_) (fun h7 => ?_)
      · have hw := hw.1 h7
        exact mv_vret C dX5_turnScope_72 hw
      · have hw := hw.2 h7
        refine mv_aload_n C dX5_turnScope_40 rfl 0 rfl ?_
        refine mv_get (v := .ref (a 3)) C iw_X5_turnScope_X5 2 rfl rfl 0 (by decide) lk_X5_turnScope_9 rfl rfl dX5_turnScope_41 ?_
        refine mv_iload C dX5_turnScope_44 3 rfl ?_
        refine mv_iald (f := u.2 1) C 3 0 rfl rfl hw.1 dX5_turnScope_46 ?_
        refine mv_topi (fun y8 ey8 => ?_)
        have hw := hw.2 y8 ey8
        refine mv_callSNi (f := wA cA a) (As := [.int y8]) (rest := []) C (eA_ok a) hs (X8_isName_met (l := l) (lev := lev - 1) (by omega) hw) ⟨va_cnB 1 C.2.2.2.2.1 ggX5_turnScope_X8_isName rfl rfl rfl (hs.1 _ nw_18) (C.2.2.2.2.1 _ in_X5_turnScope_X8) (by decide +kernel) (mRm_le (by omega) (by decide)), C.2.2.2.2.1 _ st_X5_turnScope_X8_isName, trivial⟩ rfl rfl (Nat.le_of_ble_eq_true rfl) dX5_turnScope_47 ⟨Nat.le_refl 0, Nat.le_refl 0⟩ (fun r9 u10 hw => ?_)
        obtain ⟨gr9, hw⟩ := hw
        refine mv_if_eq (tgt := 66) C dX5_turnScope_50 (by decide) (fun h11 => ?_) (fun h11 => ?_)
        · have hw := hw.1 h11
          exact wj_X5_turnScope_66_ok C hs hlev hK17 hw
        · have hw := hw.2 h11
          refine mv_aload_n C dX5_turnScope_53 rfl 0 rfl ?_
          refine mv_get (v := .ref (a 4)) C iw_X5_turnScope_X5 2 rfl rfl 1 (by decide) lk_X5_turnScope_15 rfl rfl dX5_turnScope_54 ?_
          refine mv_iload C dX5_turnScope_57 3 rfl ?_
          refine mv_dup2 C dX5_turnScope_59 rfl rfl ?_
          refine mv_iald (f := u10.2 2) C 4 0 rfl rfl hw.1 dX5_turnScope_60 ?_
          refine mv_topi (fun y12 ey12 => ?_)
          have hw := hw.2 y12 ey12
          refine mv_iconst (v := (1 : Int32)) C dX5_turnScope_61 (by decide) ?_
          refine mv_iload_n C dX5_turnScope_62 rfl 1 rfl ?_
          refine mv_ishl C dX5_turnScope_63 ?_
          refine mv_topi (fun y13 ey13 => ?_)
          have hw := hw y13 ey13
          refine mv_ixor C dX5_turnScope_64 ?_
          refine mv_topi (fun y14 ey14 => ?_)
          have hw := hw y14 ey14
          refine mv_iast (f := u10.2 2) (ws1 := wA cA a (mPut u10 2 x4.toNatClampNeg y14)) C 4 0 rfl rfl hw.1 rfl dX5_turnScope_65 ?_
          refine mv_nm (f := wA cA a) (fun u15 eu15 => ?_)
          have hw := hw.2 u15 eu15
          exact wj_X5_turnScope_66_ok C hs hlev hK17 hw
set_option maxHeartbeats 4000000 in
set_option maxRecDepth 100000 in
theorem wj_X5_turnScope_15_ok (C : mC p s m args meth c cX5_turnScope 5 wsX5_turnScope RX5 none (dC, dI) vwCl [(cA, .int)] A) (hs : eA a A s) (hlev : 1 ≤ lev) {post : mS → Prop} {x2 x3 z0 : Int32} {u : mS} (hw : wj_X5_turnScope_15 post x2 x3 z0 u) : mV p l e (mRm lev) s m args below meth c 5 (dC, dI) vwCl A 0 0 (mQv below args s (dC, dI) vwCl [(cA, .int)] (wA cA a) A post) (wA cA a u) 15 [(0, .ref (a 2)), (2, .int x2), (3, .int x3)] [.int z0] := by
  unfold wj_X5_turnScope_15 at hw
  refine mv_istore (lv1 := [(4, .int z0), (0, .ref (a 2)), (2, .int x2), (3, .int x3)]) C dX5_turnScope_15 (by decide) rfl ?_
  refine mv_sub [1, 2, 3, 0] rfl ?_
  obtain ⟨n, hw⟩ := hw
  exact mL4_of (fun K hK b0 b1 b2 b3 hw => wj_X5_turnScope_17_ok C hs hlev hK hw) n x2 x3 z0 u hw
set_option maxHeartbeats 4000000 in
set_option maxRecDepth 100000 in
theorem X5_turnScope_met (hlev : 1 ≤ lev) {x1 x2 : Int32} {u : mS} {post : mS → Prop} (hw : wp_X5_turnScope x1 x2 u post) : mKv l yX5_turnScope wsX5_turnScope lev (eA a) (dC, dI) vwCl [(cA, .int)] (wA cA a) [.ref (a 2), .int x1, .int x2] u post := by
  refine mKv_of (cc := cX5_turnScope) (maxL := 5) (by decide) rfl rfl (Nat.le_of_ble_eq_true rfl) rfl ?_
  intro p e s m args below meth c A C hs
  unfold wp_X5_turnScope at hw
  refine mv_aload_n C dX5_turnScope_0 rfl 0 rfl ?_
  refine mv_iload_n C dX5_turnScope_1 rfl 1 rfl ?_
  refine mv_callVi (f := wA cA a) (As := [.int x1]) (rest := []) C (eA_ok a) hs 2 rfl rfl (X5_after_met (l := l) (lev := lev - 1) (by omega) hw) (cwV 1 C.2.2.2.2.1 gX5_turnScope_X5_after rfl rfl rfl (by decide +kernel) (mRm_le (by omega) (by decide))) rfl rfl (Nat.le_of_ble_eq_true rfl) dX5_turnScope_2 ⟨Nat.le_refl 0, Nat.le_refl 0⟩ (fun r1 u2 hw => ?_)
  refine mv_istore_n (lv1 := [(3, .int r1), (0, .ref (a 2)), (1, .int x1), (2, .int x2)]) C dX5_turnScope_5 rfl (by decide) rfl ?_
  refine mv_iload_n C dX5_turnScope_6 rfl 2 rfl ?_
  refine mv_if_ge (tgt := 14) C dX5_turnScope_7 (by decide) (fun h3 => ?_) (fun h3 => ?_)
  · have hw := hw.1 h3
    refine mv_iload_n C dX5_turnScope_14 rfl 2 rfl ?_
    refine mv_sub [1, 3, 0] rfl ?_
    exact wj_X5_turnScope_15_ok C hs hlev hw
  · have hw := hw.2 h3
    refine mv_iconst (v := (0 : Int32)) C dX5_turnScope_10 (by decide) ?_
    refine mv_goto (tgt := 15) C dX5_turnScope_11 (by decide) ?_
    refine mv_sub [1, 3, 0] rfl ?_
    exact wj_X5_turnScope_15_ok C hs hlev hw
set_option maxHeartbeats 4000000 in
set_option maxRecDepth 100000 in
theorem wj_X5_findName_102_ok (C : mC p s m args meth c cX5_findName 5 wsX5_findName RX5 (some .int) (dC, dI) vwCl [(cA, .int)] A) (hs : eA a A s) (hlev : 0 ≤ lev) {post : Int32 → mS → Prop} {K44 : Int32 → Int32 → Int32 → mS → Prop} (hK44 : ∀ (x2 x3 x4 : Int32) (u : mS), K44 x2 x3 x4 u → mV p l e (mRm lev) s m args below meth c 5 (dC, dI) vwCl A 0 0 (mQi below args s (dC, dI) vwCl [(cA, .int)] (wA cA a) A post) (wA cA a u) 44 [(0, .ref (a 2)), (2, .int x2), (3, .int x3), (4, .int x4)] []) {x2 x3 x4 : Int32} {u : mS} (hw : wj_X5_findName_102 K44 post x2 x3 x4 u) : mV p l e (mRm lev) s m args below meth c 5 (dC, dI) vwCl A 0 0 (mQi below args s (dC, dI) vwCl [(cA, .int)] (wA cA a) A post) (wA cA a u) 102 [(0, .ref (a 2)), (2, .int x2), (3, .int x3), (4, .int x4)] [] := by
  unfold wj_X5_findName_102 at hw
  obtain ⟨y18, ey18⟩ : ∃ z : Int32, z = x4 + (1 : Int32) := ⟨_, rfl⟩
  have hw := hw y18 ey18
  refine mv_iinc (v := y18) (lv1 := [(4, .int y18), (0, .ref (a 2)), (2, .int x2), (3, .int x3)]) C dX5_findName_102 3 rfl (by rw [ey18]; rfl) (by decide) rfl ?_
  refine mv_goto (tgt := 44) C dX5_findName_105 (by decide) ?_
  refine mv_sub [1, 2, 3, 0] rfl ?_
  exact hK44 x2 x3 y18 u hw
set_option maxHeartbeats 4000000 in
set_option maxRecDepth 100000 in
theorem wj_X5_findName_44_ok (C : mC p s m args meth c cX5_findName 5 wsX5_findName RX5 (some .int) (dC, dI) vwCl [(cA, .int)] A) (hs : eA a A s) (hlev : 0 ≤ lev) {post : Int32 → mS → Prop} {K44 : Int32 → Int32 → Int32 → mS → Prop} (hK44 : ∀ (x2 x3 x4 : Int32) (u : mS), K44 x2 x3 x4 u → mV p l e (mRm lev) s m args below meth c 5 (dC, dI) vwCl A 0 0 (mQi below args s (dC, dI) vwCl [(cA, .int)] (wA cA a) A post) (wA cA a u) 44 [(0, .ref (a 2)), (2, .int x2), (3, .int x3), (4, .int x4)] []) {x2 x3 x4 : Int32} {u : mS} (hw : wj_X5_findName_44 K44 post x2 x3 x4 u) : mV p l e (mRm lev) s m args below meth c 5 (dC, dI) vwCl A 0 0 (mQi below args s (dC, dI) vwCl [(cA, .int)] (wA cA a) A post) (wA cA a u) 44 [(0, .ref (a 2)), (2, .int x2), (3, .int x3), (4, .int x4)] [] := by
  unfold wj_X5_findName_44 at hw
  refine mv_iload C dX5_findName_44 3 rfl ?_
  refine mv_iload_n C dX5_findName_46 rfl 1 rfl ?_
  refine mv_icmp_ge (tgt := 108) C dX5_findName_47 (by decide) (fun h8 => ?_) (fun h8 => ?_)
  · have hw := hw.1 h8
    refine mv_iconst (v := (-1 : Int32)) C dX5_findName_108 (by decide) ?_
    exact mv_iret C dX5_findName_109 hw
  · have hw := hw.2 h8
    refine mv_iload C dX5_findName_50 3 rfl ?_
    refine mv_aload_n C dX5_findName_52 rfl 0 rfl ?_
    refine mv_get (v := .int (u.1 1)) C iw_X5_findName_X5 2 rfl rfl 4 (by decide) lk_X5_findName_24 rfl rfl dX5_findName_53 ?_
    refine mv_topi (fun y9 ey9 => ?_)
    have hw := hw y9 ey9
    refine mv_icmp_ge (tgt := 108) C dX5_findName_56 (by decide) (fun h10 => ?_) (fun h10 => ?_)
    · have hw := hw.1 h10
      refine mv_iconst (v := (-1 : Int32)) C dX5_findName_108 (by decide) ?_
      exact mv_iret C dX5_findName_109 hw
    · have hw := hw.2 h10
      refine mv_iload C dX5_findName_59 3 rfl ?_
      refine mv_sipush (v := (3000 : Int32)) C dX5_findName_61 (by decide) ?_
      refine mv_icmp_ge (tgt := 108) C dX5_findName_64 (by decide) (fun h11 => ?_) (fun h11 => ?_)
      · have hw := hw.1 h11
        refine mv_iconst (v := (-1 : Int32)) C dX5_findName_108 (by decide) ?_
        exact mv_iret C dX5_findName_109 hw
      · have hw := hw.2 h11
        refine mv_aload_n C dX5_findName_67 rfl 0 rfl ?_
        refine mv_get (v := .ref (a 3)) C iw_X5_findName_X5 2 rfl rfl 0 (by decide) lk_X5_findName_9 rfl rfl dX5_findName_68 ?_
        refine mv_iload C dX5_findName_71 3 rfl ?_
        refine mv_iald (f := u.2 1) C 3 0 rfl rfl hw.1 dX5_findName_73 ?_
        refine mv_topi (fun y12 ey12 => ?_)
        have hw := hw.2 y12 ey12
        refine mv_aload_n C dX5_findName_74 rfl 0 rfl ?_
        refine mv_get (v := .ref (a 3)) C iw_X5_findName_X5 2 rfl rfl 0 (by decide) lk_X5_findName_9 rfl rfl dX5_findName_75 ?_
        refine mv_iload_n C dX5_findName_78 rfl 2 rfl ?_
        refine mv_iald (f := u.2 1) C 3 0 rfl rfl hw.1 dX5_findName_79 ?_
        refine mv_topi (fun y13 ey13 => ?_)
        have hw := hw.2 y13 ey13
        refine mv_icmp_ne (tgt := 102) C dX5_findName_80 (by decide) (fun h14 => ?_) (fun h14 => ?_)
        · have hw := hw.1 h14
          exact wj_X5_findName_102_ok C hs hlev hK44 hw
        · have hw := hw.2 h14
          refine mv_aload_n C dX5_findName_83 rfl 0 rfl ?_
          refine mv_get (v := .ref (a 4)) C iw_X5_findName_X5 2 rfl rfl 1 (by decide) lk_X5_findName_15 rfl rfl dX5_findName_84 ?_
          refine mv_iload C dX5_findName_87 3 rfl ?_
          refine mv_iald (f := u.2 2) C 4 0 rfl rfl hw.1 dX5_findName_89 ?_
          refine mv_topi (fun y15 ey15 => ?_)
          have hw := hw.2 y15 ey15
          refine mv_aload_n C dX5_findName_90 rfl 0 rfl ?_
          refine mv_get (v := .ref (a 4)) C iw_X5_findName_X5 2 rfl rfl 1 (by decide) lk_X5_findName_15 rfl rfl dX5_findName_91 ?_
          refine mv_iload_n C dX5_findName_94 rfl 2 rfl ?_
          refine mv_iald (f := u.2 2) C 4 0 rfl rfl hw.1 dX5_findName_95 ?_
          refine mv_topi (fun y16 ey16 => ?_)
          have hw := hw.2 y16 ey16
          refine mv_icmp_ne (tgt := 102) C dX5_findName_96 (by decide) (fun h17 => ?_) (fun h17 => ?_)
          · have hw := hw.1 h17
            exact wj_X5_findName_102_ok C hs hlev hK44 hw
          · have hw := hw.2 h17
            refine mv_iload C dX5_findName_99 3 rfl ?_
            exact mv_iret C dX5_findName_101 hw
set_option maxHeartbeats 4000000 in
set_option maxRecDepth 100000 in
theorem wj_X5_findName_42_ok (C : mC p s m args meth c cX5_findName 5 wsX5_findName RX5 (some .int) (dC, dI) vwCl [(cA, .int)] A) (hs : eA a A s) (hlev : 0 ≤ lev) {post : Int32 → mS → Prop} {x2 x3 z0 : Int32} {u : mS} (hw : wj_X5_findName_42 post x2 x3 z0 u) : mV p l e (mRm lev) s m args below meth c 5 (dC, dI) vwCl A 0 0 (mQi below args s (dC, dI) vwCl [(cA, .int)] (wA cA a) A post) (wA cA a u) 42 [(0, .ref (a 2)), (2, .int x2), (3, .int x3)] [.int z0] := by
  unfold wj_X5_findName_42 at hw
  refine mv_istore (lv1 := [(4, .int z0), (0, .ref (a 2)), (2, .int x2), (3, .int x3)]) C dX5_findName_42 (by decide) rfl ?_
  refine mv_sub [1, 2, 3, 0] rfl ?_
  obtain ⟨n, hw⟩ := hw
  exact mL4_of (fun K hK b0 b1 b2 b3 hw => wj_X5_findName_44_ok C hs hlev hK hw) n x2 x3 z0 u hw
set_option maxHeartbeats 4000000 in
set_option maxRecDepth 100000 in
theorem X5_findName_met (hlev : 0 ≤ lev) {x1 x2 x3 : Int32} {u : mS} {post : Int32 → mS → Prop} (hw : wp_X5_findName x1 x2 x3 u post) : mKi l yX5_findName wsX5_findName lev (eA a) (dC, dI) vwCl [(cA, .int)] (wA cA a) [.ref (a 2), .int x1, .int x2, .int x3] u post := by
  refine mKi_of (cc := cX5_findName) (maxL := 5) (by decide) rfl rfl (Nat.le_of_ble_eq_true rfl) rfl ?_
  intro p e s m args below meth c A C hs
  unfold wp_X5_findName at hw
  refine mv_iload_n C dX5_findName_0 rfl 3 rfl ?_
  refine mv_if_lt (tgt := 31) C dX5_findName_1 (by decide) (fun h1 => ?_) (fun h1 => ?_)
  · have hw := hw.1 h1
    refine mv_iconst (v := (-1 : Int32)) C dX5_findName_31 (by decide) ?_
    exact mv_iret C dX5_findName_32 hw
  · have hw := hw.2 h1
    refine mv_iload_n C dX5_findName_4 rfl 3 rfl ?_
    refine mv_aload_n C dX5_findName_5 rfl 0 rfl ?_
    refine mv_get (v := .int (u.1 1)) C iw_X5_findName_X5 2 rfl rfl 4 (by decide) lk_X5_findName_24 rfl rfl dX5_findName_6 ?_
    refine mv_topi (fun y2 ey2 => ?_)
    have hw := hw y2 ey2
    refine mv_icmp_ge (tgt := 31) C dX5_findName_9 (by decide) (fun h3 => ?_) (fun h3 => ?_)
    · have hw := hw.1 h3
      refine mv_iconst (v := (-1 : Int32)) C dX5_findName_31 (by decide) ?_
      exact mv_iret C dX5_findName_32 hw
    · have hw := hw.2 h3
      refine mv_iload_n C dX5_findName_12 rfl 3 rfl ?_
      refine mv_sipush (v := (3000 : Int32)) C dX5_findName_13 (by decide) ?_
      refine mv_icmp_ge (tgt := 31) C dX5_findName_16 (by decide) (fun h4 => ?_) (fun h4 => ?_)
      · have hw := hw.1 h4
        refine mv_iconst (v := (-1 : Int32)) C dX5_findName_31 (by decide) ?_
        exact mv_iret C dX5_findName_32 hw
      · have hw := hw.2 h4
        refine mv_aload_n C dX5_findName_19 rfl 0 rfl ?_
        refine mv_get (v := .ref (a 3)) C iw_X5_findName_X5 2 rfl rfl 0 (by decide) lk_X5_findName_9 rfl rfl dX5_findName_20 ?_
        refine mv_iload_n C dX5_findName_23 rfl 3 rfl ?_
        refine mv_iald (f := u.2 1) C 3 0 rfl rfl hw.1 dX5_findName_24 ?_
        refine mv_topi (fun y5 ey5 => ?_)
        have hw := hw.2 y5 ey5
        refine mv_sipush (v := (255 : Int32)) C dX5_findName_25 (by decide) ?_
        refine mv_icmp_gt (tgt := 33) C dX5_findName_28 (by decide) (fun h6 => ?_) (fun h6 => ?_)
        · have hw := hw.1 h6
          refine mv_iload_n C dX5_findName_33 rfl 1 rfl ?_
          refine mv_if_ge (tgt := 41) C dX5_findName_34 (by decide) (fun h7 => ?_) (fun h7 => ?_)
          · have hw := hw.1 h7
            refine mv_iload_n C dX5_findName_41 rfl 1 rfl ?_
            refine mv_sub [0, 2, 3] rfl ?_
            exact wj_X5_findName_42_ok C hs hlev hw
          · have hw := hw.2 h7
            refine mv_iconst (v := (0 : Int32)) C dX5_findName_37 (by decide) ?_
            refine mv_goto (tgt := 42) C dX5_findName_38 (by decide) ?_
            refine mv_sub [0, 2, 3] rfl ?_
            exact wj_X5_findName_42_ok C hs hlev hw
        · have hw := hw.2 h6
          refine mv_iconst (v := (-1 : Int32)) C dX5_findName_31 (by decide) ?_
          exact mv_iret C dX5_findName_32 hw
end
