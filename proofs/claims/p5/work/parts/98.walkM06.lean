set_option maxRecDepth 20000 in
theorem ggX9_give_X9_kind : GoodIn wsX9_give wsX9_kind := goodIn_r _ [6, 7] (by decide +kernel) (by decide +kernel)
set_option maxRecDepth 20000 in
theorem gX9_give_X9_kind : GoodIn wsX9_give (va_wsS RX9 107 yX9_kind wsX9_kind) := goodIn_app (goodIn_of _ (by decide +kernel)) ggX9_give_X9_kind
theorem dX9_give_0 : decode cX9_give 0 = .ok (.iload_n 1, 1) := by decide +kernel
theorem dX9_give_1 : decode cX9_give 1 = .ok (.istore 4, 2) := by decide +kernel
theorem dX9_give_3 : decode cX9_give 3 = .ok (.iload 4, 2) := by decide +kernel
theorem dX9_give_5 : decode cX9_give 5 = .ok (.iload_n 2, 1) := by decide +kernel
theorem dX9_give_6 : decode cX9_give 6 = .ok (.if_icmp .ge 48, 3) := by decide +kernel
theorem dX9_give_9 : decode cX9_give 9 = .ok (.aload_n 0, 1) := by decide +kernel
theorem dX9_give_10 : decode cX9_give 10 = .ok (.getfield 16, 3) := by decide +kernel
theorem dX9_give_13 : decode cX9_give 13 = .ok (.iload 4, 2) := by decide +kernel
theorem dX9_give_15 : decode cX9_give 15 = .ok (.aload_n 0, 1) := by decide +kernel
theorem dX9_give_16 : decode cX9_give 16 = .ok (.getfield 13, 3) := by decide +kernel
theorem dX9_give_19 : decode cX9_give 19 = .ok (.iload 4, 2) := by decide +kernel
theorem dX9_give_21 : decode cX9_give 21 = .ok (.invokestatic 107, 3) := by decide +kernel
theorem dX9_give_24 : decode cX9_give 24 = .ok (.iconst 3, 1) := by decide +kernel
theorem dX9_give_25 : decode cX9_give 25 = .ok (.if_icmp .ne 15, 3) := by decide +kernel
theorem dX9_give_28 : decode cX9_give 28 = .ok (.aload_n 0, 1) := by decide +kernel
theorem dX9_give_29 : decode cX9_give 29 = .ok (.getfield 16, 3) := by decide +kernel
theorem dX9_give_32 : decode cX9_give 32 = .ok (.iload 4, 2) := by decide +kernel
theorem dX9_give_34 : decode cX9_give 34 = .ok (.iaload, 1) := by decide +kernel
theorem dX9_give_35 : decode cX9_give 35 = .ok (.iload_n 3, 1) := by decide +kernel
theorem dX9_give_36 : decode cX9_give 36 = .ok (.ior, 1) := by decide +kernel
theorem dX9_give_37 : decode cX9_give 37 = .ok (.goto 10, 3) := by decide +kernel
theorem dX9_give_40 : decode cX9_give 40 = .ok (.aload_n 0, 1) := by decide +kernel
theorem dX9_give_41 : decode cX9_give 41 = .ok (.getfield 16, 3) := by decide +kernel
theorem dX9_give_44 : decode cX9_give 44 = .ok (.iload 4, 2) := by decide +kernel
theorem dX9_give_46 : decode cX9_give 46 = .ok (.iaload, 1) := by decide +kernel
theorem dX9_give_47 : decode cX9_give 47 = .ok (.iastore, 1) := by decide +kernel
theorem dX9_give_48 : decode cX9_give 48 = .ok (.iinc 4 1, 3) := by decide +kernel
theorem dX9_give_51 : decode cX9_give 51 = .ok (.goto (-48), 3) := by decide +kernel
theorem dX9_give_54 : decode cX9_give 54 = .ok (.return_, 1) := by decide +kernel
set_option maxRecDepth 20000 in
theorem ggX9_function_X9_end : GoodIn wsX9_function wsX9_end := goodIn_r _ [10, 11, 12, 9, 13, 14] (by decide +kernel) (by decide +kernel)
set_option maxRecDepth 20000 in
theorem gX9_function_X9_end : GoodIn wsX9_function (va_wsS RX9 111 yX9_end wsX9_end) := goodIn_app (goodIn_of _ (by decide +kernel)) ggX9_function_X9_end
set_option maxRecDepth 20000 in
theorem ggX9_function_X9_isPlain : GoodIn wsX9_function wsX9_isPlain := goodIn_r _ [17, 11, 12, 9, 13, 14, 18, 19, 20, 7, 8, 10, 21, 22, 23] (by decide +kernel) (by decide +kernel)
set_option maxRecDepth 20000 in
theorem gX9_function_X9_isPlain : GoodIn wsX9_function (va_wsS RX9 130 yX9_isPlain wsX9_isPlain) := goodIn_app (goodIn_of _ (by decide +kernel)) ggX9_function_X9_isPlain
set_option maxRecDepth 20000 in
theorem ggX9_function_X9_kind : GoodIn wsX9_function wsX9_kind := goodIn_r _ [13, 14] (by decide +kernel) (by decide +kernel)
set_option maxRecDepth 20000 in
theorem gX9_function_X9_kind : GoodIn wsX9_function (va_wsS RX9 107 yX9_kind wsX9_kind) := goodIn_app (goodIn_of _ (by decide +kernel)) ggX9_function_X9_kind
set_option maxRecDepth 20000 in
theorem ggX9_function_X9_fails : GoodIn wsX9_function wsX9_fails := goodIn_r _ [27, 3, 82, 83, 84, 85, 86, 87, 88, 89, 90, 91, 92, 93, 94, 95, 96, 97, 98, 99, 100, 101, 102, 103, 104, 105, 106, 107, 108, 109, 110, 111, 112, 113, 114, 115, 116, 117] (by decide +kernel) (by decide +kernel)
set_option maxRecDepth 20000 in
theorem gX9_function_X9_fails : GoodIn wsX9_function (wsV RX9 163 RX9 yX9_fails wsX9_fails) := goodIn_app (goodIn_of _ (by decide +kernel)) ggX9_function_X9_fails
set_option maxRecDepth 20000 in
theorem ggX9_function_X9_scope : GoodIn wsX9_function wsX9_scope := goodIn_r _ [31, 32, 24, 25, 26, 9, 27, 3, 82, 83, 84, 85, 86, 87, 88, 89, 90, 91, 92, 93, 94, 95, 96, 97, 98, 99, 100, 101, 102, 103, 104, 105, 106, 107, 108, 109, 110, 111, 112, 113, 114, 115, 116, 117] (by decide +kernel) (by decide +kernel)
set_option maxRecDepth 20000 in
theorem gX9_function_X9_scope : GoodIn wsX9_function (wsV RX9 248 RX9 yX9_scope wsX9_scope) := goodIn_app (goodIn_of _ (by decide +kernel)) ggX9_function_X9_scope
set_option maxRecDepth 20000 in
theorem ggX9_function_X9_give : GoodIn wsX9_function wsX9_give := goodIn_r _ [36, 5, 1, 11, 12, 9, 13, 14, 82, 83, 84, 85, 86, 87, 88, 89, 90, 91, 92, 93, 94, 95, 96, 97, 98, 99, 100, 101, 102, 103, 104, 105, 106, 107, 108, 109, 110, 111, 112, 113, 114, 115, 116, 117] (by decide +kernel) (by decide +kernel)
set_option maxRecDepth 20000 in
theorem gX9_function_X9_give : GoodIn wsX9_function (wsV RX9 261 RX9 yX9_give wsX9_give) := goodIn_app (goodIn_of _ (by decide +kernel)) ggX9_function_X9_give
set_option maxRecDepth 20000 in
theorem ggX9_function_X9_what : GoodIn wsX9_function wsX9_what := goodIn_r _ [39, 14] (by decide +kernel) (by decide +kernel)
set_option maxRecDepth 20000 in
theorem gX9_function_X9_what : GoodIn wsX9_function (va_wsS RX9 151 yX9_what wsX9_what) := goodIn_app (goodIn_of _ (by decide +kernel)) ggX9_function_X9_what
set_option maxRecDepth 100000 in
theorem gpX9_function_X9_bind_0 : GoodIn wsX9_function ([.fieldLink RX9 160 "MarkedNamesModel" "bindings" "I", .fieldLink RX9 31 "MarkedNamesModel" "name" "[I", .fieldLink RX9 34 "MarkedNamesModel" "scopes" "[I", .fieldLink RX9 37 "MarkedNamesModel" "meaning" "[I", .fieldLink RX9 40 "MarkedNamesModel" "from" "[I", .fieldLink RX9 43 "MarkedNamesModel" "to" "[I", .methodLink RX9 163 yX9_fails, .instanceMethod yX9_fails, .selects RX9 yX9_fails yX9_fails, .initialized RX9, .code yX9_fails cX9_fails 2 none, .fieldLink RX9 178 "MarkedNamesModel" "error" "I"] : List Cond) := goodIn_r _ [44, 45, 46, 47, 48, 49, 24, 25, 26, 9, 27, 3] (by decide +kernel) (by decide +kernel)
set_option maxRecDepth 100000 in
theorem gpX9_function_X9_bind_1 : GoodIn wsX9_function wsX90 := goodIn_r _ [82, 83, 84, 85, 86, 87, 88, 89, 90, 91, 92, 93, 94, 95, 96, 97, 98, 99, 100, 101, 102, 103, 104, 105, 106, 107, 108, 109, 110, 111, 112, 113, 114, 115, 116, 117] (by decide +kernel) (by decide +kernel)
set_option maxRecDepth 100000 in
theorem gpX9_function_X9_bind_c : GoodIn wsX9_function [Cond.code yX9_bind cX9_bind 6 none] := goodIn_r _ [43] (by decide +kernel) (by decide +kernel)
theorem ggX9_function_X9_bind : GoodIn wsX9_function wsX9_bind := goodIn_cons2 gpX9_function_X9_bind_c (goodIn_app gpX9_function_X9_bind_0 gpX9_function_X9_bind_1)
set_option maxRecDepth 20000 in
theorem gX9_function_X9_bind : GoodIn wsX9_function (wsV RX9 167 RX9 yX9_bind wsX9_bind) := goodIn_app (goodIn_of _ (by decide +kernel)) ggX9_function_X9_bind
set_option maxRecDepth 100000 in
theorem gpX9_function_X9_putOpen_0 : GoodIn wsX9_function ([.fieldLink RX9 187 "MarkedNamesModel" "gap" "Z", .methodLink RX9 194 yX9_space, .instanceMethod yX9_space, .selects RX9 yX9_space yX9_space, .initialized RX9, .code yX9_space cX9_space 1 none, .methodLink RX9 191 yX9_put, .instanceMethod yX9_put, .selects RX9 yX9_put yX9_put, .code yX9_put cX9_put 2 none, .fieldLink RX9 178 "MarkedNamesModel" "error" "I", .fieldLink RX9 184 "MarkedNamesModel" "size" "I", .fieldLink RX9 67 "MarkedNamesModel" "text" "[I", .methodLink RX9 163 yX9_fails, .instanceMethod yX9_fails, .selects RX9 yX9_fails yX9_fails, .code yX9_fails cX9_fails 2 none] : List Cond) := goodIn_r _ [54, 55, 56, 57, 9, 58, 59, 60, 61, 62, 3, 63, 64, 24, 25, 26, 27] (by decide +kernel) (by decide +kernel)
set_option maxRecDepth 100000 in
theorem gpX9_function_X9_putOpen_1 : GoodIn wsX9_function wsX90 := goodIn_r _ [82, 83, 84, 85, 86, 87, 88, 89, 90, 91, 92, 93, 94, 95, 96, 97, 98, 99, 100, 101, 102, 103, 104, 105, 106, 107, 108, 109, 110, 111, 112, 113, 114, 115, 116, 117] (by decide +kernel) (by decide +kernel)
set_option maxRecDepth 100000 in
theorem gpX9_function_X9_putOpen_c : GoodIn wsX9_function [Cond.code yX9_putOpen cX9_putOpen 1 none] := goodIn_r _ [53] (by decide +kernel) (by decide +kernel)
theorem ggX9_function_X9_putOpen : GoodIn wsX9_function wsX9_putOpen := goodIn_cons2 gpX9_function_X9_putOpen_c (goodIn_app gpX9_function_X9_putOpen_0 gpX9_function_X9_putOpen_1)
set_option maxRecDepth 20000 in
theorem gX9_function_X9_putOpen : GoodIn wsX9_function (wsV RX9 200 RX9 yX9_putOpen wsX9_putOpen) := goodIn_app (goodIn_of _ (by decide +kernel)) ggX9_function_X9_putOpen
set_option maxRecDepth 100000 in
theorem gpX9_function_X9_space_0 : GoodIn wsX9_function ([.fieldLink RX9 187 "MarkedNamesModel" "gap" "Z", .methodLink RX9 191 yX9_put, .instanceMethod yX9_put, .selects RX9 yX9_put yX9_put, .initialized RX9, .code yX9_put cX9_put 2 none, .fieldLink RX9 178 "MarkedNamesModel" "error" "I", .fieldLink RX9 184 "MarkedNamesModel" "size" "I", .fieldLink RX9 67 "MarkedNamesModel" "text" "[I", .methodLink RX9 163 yX9_fails, .instanceMethod yX9_fails, .selects RX9 yX9_fails yX9_fails, .code yX9_fails cX9_fails 2 none] : List Cond) := goodIn_r _ [54, 59, 60, 61, 9, 62, 3, 63, 64, 24, 25, 26, 27] (by decide +kernel) (by decide +kernel)
set_option maxRecDepth 100000 in
theorem gpX9_function_X9_space_1 : GoodIn wsX9_function wsX90 := goodIn_r _ [82, 83, 84, 85, 86, 87, 88, 89, 90, 91, 92, 93, 94, 95, 96, 97, 98, 99, 100, 101, 102, 103, 104, 105, 106, 107, 108, 109, 110, 111, 112, 113, 114, 115, 116, 117] (by decide +kernel) (by decide +kernel)
set_option maxRecDepth 100000 in
theorem gpX9_function_X9_space_c : GoodIn wsX9_function [Cond.code yX9_space cX9_space 1 none] := goodIn_r _ [58] (by decide +kernel) (by decide +kernel)
theorem ggX9_function_X9_space : GoodIn wsX9_function wsX9_space := goodIn_cons2 gpX9_function_X9_space_c (goodIn_app gpX9_function_X9_space_0 gpX9_function_X9_space_1)
set_option maxRecDepth 20000 in
theorem gX9_function_X9_space : GoodIn wsX9_function (wsV RX9 194 RX9 yX9_space wsX9_space) := goodIn_app (goodIn_of _ (by decide +kernel)) ggX9_function_X9_space
set_option maxRecDepth 100000 in
theorem gpX9_function_X9_putName_0 : GoodIn wsX9_function ([.constant RX9 92 (40000), .methodLink RX9 191 yX9_put, .instanceMethod yX9_put, .selects RX9 yX9_put yX9_put, .initialized RX9, .code yX9_put cX9_put 2 none, .fieldLink RX9 178 "MarkedNamesModel" "error" "I", .fieldLink RX9 184 "MarkedNamesModel" "size" "I", .fieldLink RX9 67 "MarkedNamesModel" "text" "[I", .methodLink RX9 163 yX9_fails, .instanceMethod yX9_fails, .selects RX9 yX9_fails yX9_fails, .code yX9_fails cX9_fails 2 none] : List Cond) := goodIn_r _ [69, 59, 60, 61, 9, 62, 3, 63, 64, 24, 25, 26, 27] (by decide +kernel) (by decide +kernel)
set_option maxRecDepth 100000 in
theorem gpX9_function_X9_putName_1 : GoodIn wsX9_function wsX90 := goodIn_r _ [82, 83, 84, 85, 86, 87, 88, 89, 90, 91, 92, 93, 94, 95, 96, 97, 98, 99, 100, 101, 102, 103, 104, 105, 106, 107, 108, 109, 110, 111, 112, 113, 114, 115, 116, 117] (by decide +kernel) (by decide +kernel)
set_option maxRecDepth 100000 in
theorem gpX9_function_X9_putName_c : GoodIn wsX9_function [Cond.code yX9_putName cX9_putName 2 none] := goodIn_r _ [68] (by decide +kernel) (by decide +kernel)
theorem ggX9_function_X9_putName : GoodIn wsX9_function wsX9_putName := goodIn_cons2 gpX9_function_X9_putName_c (goodIn_app gpX9_function_X9_putName_0 gpX9_function_X9_putName_1)
set_option maxRecDepth 20000 in
theorem gX9_function_X9_putName : GoodIn wsX9_function (wsV RX9 206 RX9 yX9_putName wsX9_putName) := goodIn_app (goodIn_of _ (by decide +kernel)) ggX9_function_X9_putName
set_option maxRecDepth 100000 in
theorem gpX9_function_X9_putVariable_0 : GoodIn wsX9_function ([.methodLink RX9 194 yX9_space, .instanceMethod yX9_space, .selects RX9 yX9_space yX9_space, .initialized RX9, .code yX9_space cX9_space 1 none, .fieldLink RX9 187 "MarkedNamesModel" "gap" "Z", .methodLink RX9 191 yX9_put, .instanceMethod yX9_put, .selects RX9 yX9_put yX9_put, .code yX9_put cX9_put 2 none, .fieldLink RX9 178 "MarkedNamesModel" "error" "I", .fieldLink RX9 184 "MarkedNamesModel" "size" "I", .fieldLink RX9 67 "MarkedNamesModel" "text" "[I", .methodLink RX9 163 yX9_fails, .instanceMethod yX9_fails, .selects RX9 yX9_fails yX9_fails, .code yX9_fails cX9_fails 2 none, .methodLink RX9 197 yX9_putNumber, .instanceMethod yX9_putNumber, .selects RX9 yX9_putNumber yX9_putNumber, .code yX9_putNumber cX9_putNumber 2 none] : List Cond) := goodIn_r _ [55, 56, 57, 9, 58, 54, 59, 60, 61, 62, 3, 63, 64, 24, 25, 26, 27, 74, 75, 76, 77] (by decide +kernel) (by decide +kernel)
set_option maxRecDepth 100000 in
theorem gpX9_function_X9_putVariable_1 : GoodIn wsX9_function wsX90 := goodIn_r _ [82, 83, 84, 85, 86, 87, 88, 89, 90, 91, 92, 93, 94, 95, 96, 97, 98, 99, 100, 101, 102, 103, 104, 105, 106, 107, 108, 109, 110, 111, 112, 113, 114, 115, 116, 117] (by decide +kernel) (by decide +kernel)
set_option maxRecDepth 100000 in
theorem gpX9_function_X9_putVariable_c : GoodIn wsX9_function [Cond.code yX9_putVariable cX9_putVariable 2 none] := goodIn_r _ [73] (by decide +kernel) (by decide +kernel)
theorem ggX9_function_X9_putVariable : GoodIn wsX9_function wsX9_putVariable := goodIn_cons2 gpX9_function_X9_putVariable_c (goodIn_app gpX9_function_X9_putVariable_0 gpX9_function_X9_putVariable_1)
set_option maxRecDepth 20000 in
theorem gX9_function_X9_putVariable : GoodIn wsX9_function (wsV RX9 268 RX9 yX9_putVariable wsX9_putVariable) := goodIn_app (goodIn_of _ (by decide +kernel)) ggX9_function_X9_putVariable
set_option maxRecDepth 100000 in
theorem gpX9_function_X9_putClose_0 : GoodIn wsX9_function ([.fieldLink RX9 187 "MarkedNamesModel" "gap" "Z", .methodLink RX9 191 yX9_put, .instanceMethod yX9_put, .selects RX9 yX9_put yX9_put, .initialized RX9, .code yX9_put cX9_put 2 none, .fieldLink RX9 178 "MarkedNamesModel" "error" "I", .fieldLink RX9 184 "MarkedNamesModel" "size" "I", .fieldLink RX9 67 "MarkedNamesModel" "text" "[I", .methodLink RX9 163 yX9_fails, .instanceMethod yX9_fails, .selects RX9 yX9_fails yX9_fails, .code yX9_fails cX9_fails 2 none] : List Cond) := goodIn_r _ [54, 59, 60, 61, 9, 62, 3, 63, 64, 24, 25, 26, 27] (by decide +kernel) (by decide +kernel)
set_option maxRecDepth 100000 in
theorem gpX9_function_X9_putClose_1 : GoodIn wsX9_function wsX90 := goodIn_r _ [82, 83, 84, 85, 86, 87, 88, 89, 90, 91, 92, 93, 94, 95, 96, 97, 98, 99, 100, 101, 102, 103, 104, 105, 106, 107, 108, 109, 110, 111, 112, 113, 114, 115, 116, 117] (by decide +kernel) (by decide +kernel)
set_option maxRecDepth 100000 in
theorem gpX9_function_X9_putClose_c : GoodIn wsX9_function [Cond.code yX9_putClose cX9_putClose 1 none] := goodIn_r _ [81] (by decide +kernel) (by decide +kernel)
theorem ggX9_function_X9_putClose : GoodIn wsX9_function wsX9_putClose := goodIn_cons2 gpX9_function_X9_putClose_c (goodIn_app gpX9_function_X9_putClose_0 gpX9_function_X9_putClose_1)
set_option maxRecDepth 20000 in
theorem gX9_function_X9_putClose : GoodIn wsX9_function (wsV RX9 203 RX9 yX9_putClose wsX9_putClose) := goodIn_app (goodIn_of _ (by decide +kernel)) ggX9_function_X9_putClose
theorem dX9_function_0 : decode cX9_function 0 = .ok (.aload_n 0, 1) := by decide +kernel
theorem dX9_function_1 : decode cX9_function 1 = .ok (.getfield 13, 3) := by decide +kernel
theorem dX9_function_4 : decode cX9_function 4 = .ok (.aload_n 0, 1) := by decide +kernel
theorem dX9_function_5 : decode cX9_function 5 = .ok (.getfield 104, 3) := by decide +kernel
theorem dX9_function_8 : decode cX9_function 8 = .ok (.invokestatic 111, 3) := by decide +kernel
theorem dX9_function_11 : decode cX9_function 11 = .ok (.istore_n 1, 1) := by decide +kernel
theorem dX9_function_12 : decode cX9_function 12 = .ok (.aload_n 0, 1) := by decide +kernel
theorem dX9_function_13 : decode cX9_function 13 = .ok (.getfield 104, 3) := by decide +kernel
theorem dX9_function_16 : decode cX9_function 16 = .ok (.iconst 2, 1) := by decide +kernel
theorem dX9_function_17 : decode cX9_function 17 = .ok (.iadd, 1) := by decide +kernel
theorem dX9_function_18 : decode cX9_function 18 = .ok (.istore_n 2, 1) := by decide +kernel
theorem dX9_function_19 : decode cX9_function 19 = .ok (.aload_n 0, 1) := by decide +kernel
theorem dX9_function_20 : decode cX9_function 20 = .ok (.getfield 13, 3) := by decide +kernel
theorem dX9_function_23 : decode cX9_function 23 = .ok (.aload_n 0, 1) := by decide +kernel
theorem dX9_function_24 : decode cX9_function 24 = .ok (.getfield 104, 3) := by decide +kernel
theorem dX9_function_27 : decode cX9_function 27 = .ok (.iconst 3, 1) := by decide +kernel
theorem dX9_function_28 : decode cX9_function 28 = .ok (.invokestatic 130, 3) := by decide +kernel
theorem dX9_function_31 : decode cX9_function 31 = .ok (.ifCond .eq 19, 3) := by decide +kernel
theorem dX9_function_34 : decode cX9_function 34 = .ok (.aload_n 0, 1) := by decide +kernel
theorem dX9_function_35 : decode cX9_function 35 = .ok (.getfield 13, 3) := by decide +kernel
theorem dX9_function_38 : decode cX9_function 38 = .ok (.iload_n 2, 1) := by decide +kernel
theorem dX9_function_39 : decode cX9_function 39 = .ok (.invokestatic 107, 3) := by decide +kernel
theorem dX9_function_42 : decode cX9_function 42 = .ok (.iconst 1, 1) := by decide +kernel
theorem dX9_function_43 : decode cX9_function 43 = .ok (.if_icmp .ne 7, 3) := by decide +kernel
theorem dX9_function_46 : decode cX9_function 46 = .ok (.iconst 1, 1) := by decide +kernel
theorem dX9_function_47 : decode cX9_function 47 = .ok (.goto 4, 3) := by decide +kernel
theorem dX9_function_50 : decode cX9_function 50 = .ok (.iconst 0, 1) := by decide +kernel
theorem dX9_function_51 : decode cX9_function 51 = .ok (.istore_n 3, 1) := by decide +kernel
theorem dX9_function_52 : decode cX9_function 52 = .ok (.iload_n 3, 1) := by decide +kernel
theorem dX9_function_53 : decode cX9_function 53 = .ok (.ifCond .eq 14, 3) := by decide +kernel
theorem dX9_function_56 : decode cX9_function 56 = .ok (.aload_n 0, 1) := by decide +kernel
theorem dX9_function_57 : decode cX9_function 57 = .ok (.getfield 13, 3) := by decide +kernel
theorem dX9_function_60 : decode cX9_function 60 = .ok (.iload_n 2, 1) := by decide +kernel
theorem dX9_function_61 : decode cX9_function 61 = .ok (.invokestatic 111, 3) := by decide +kernel
theorem dX9_function_64 : decode cX9_function 64 = .ok (.goto 4, 3) := by decide +kernel
theorem dX9_function_67 : decode cX9_function 67 = .ok (.iconst 0, 1) := by decide +kernel
theorem dX9_function_68 : decode cX9_function 68 = .ok (.istore 4, 2) := by decide +kernel
theorem dX9_function_70 : decode cX9_function 70 = .ok (.iload_n 2, 1) := by decide +kernel
theorem dX9_function_71 : decode cX9_function 71 = .ok (.iconst 1, 1) := by decide +kernel
theorem dX9_function_72 : decode cX9_function 72 = .ok (.iadd, 1) := by decide +kernel
theorem dX9_function_73 : decode cX9_function 73 = .ok (.istore 5, 2) := by decide +kernel
theorem dX9_function_75 : decode cX9_function 75 = .ok (.iload 5, 2) := by decide +kernel
theorem dX9_function_77 : decode cX9_function 77 = .ok (.iload 4, 2) := by decide +kernel
theorem dX9_function_79 : decode cX9_function 79 = .ok (.iconst 1, 1) := by decide +kernel
theorem dX9_function_80 : decode cX9_function 80 = .ok (.isub, 1) := by decide +kernel
theorem dX9_function_81 : decode cX9_function 81 = .ok (.if_icmp .ge 32, 3) := by decide +kernel
theorem dX9_function_84 : decode cX9_function 84 = .ok (.iload_n 3, 1) := by decide +kernel
theorem dX9_function_85 : decode cX9_function 85 = .ok (.ifCond .eq 20, 3) := by decide +kernel
theorem dX9_function_88 : decode cX9_function 88 = .ok (.aload_n 0, 1) := by decide +kernel
theorem dX9_function_89 : decode cX9_function 89 = .ok (.getfield 13, 3) := by decide +kernel
theorem dX9_function_92 : decode cX9_function 92 = .ok (.iload 5, 2) := by decide +kernel
theorem dX9_function_94 : decode cX9_function 94 = .ok (.invokestatic 107, 3) := by decide +kernel
theorem dX9_function_97 : decode cX9_function 97 = .ok (.iconst 3, 1) := by decide +kernel
theorem dX9_function_98 : decode cX9_function 98 = .ok (.if_icmp .ne 7, 3) := by decide +kernel
theorem dX9_function_101 : decode cX9_function 101 = .ok (.iconst 1, 1) := by decide +kernel
theorem dX9_function_102 : decode cX9_function 102 = .ok (.goto 4, 3) := by decide +kernel
theorem dX9_function_105 : decode cX9_function 105 = .ok (.iconst 0, 1) := by decide +kernel
theorem dX9_function_106 : decode cX9_function 106 = .ok (.istore_n 3, 1) := by decide +kernel
theorem dX9_function_107 : decode cX9_function 107 = .ok (.iinc 5 1, 3) := by decide +kernel
theorem dX9_function_110 : decode cX9_function 110 = .ok (.goto (-35), 3) := by decide +kernel
theorem dX9_function_113 : decode cX9_function 113 = .ok (.iload_n 3, 1) := by decide +kernel
theorem dX9_function_114 : decode cX9_function 114 = .ok (.ifCond .ne 9, 3) := by decide +kernel
theorem dX9_function_117 : decode cX9_function 117 = .ok (.aload_n 0, 1) := by decide +kernel
theorem dX9_function_118 : decode cX9_function 118 = .ok (.iconst 3, 1) := by decide +kernel
theorem dX9_function_119 : decode cX9_function 119 = .ok (.invokevirtual 163, 3) := by decide +kernel
theorem dX9_function_122 : decode cX9_function 122 = .ok (.return_, 1) := by decide +kernel
theorem dX9_function_123 : decode cX9_function 123 = .ok (.aload_n 0, 1) := by decide +kernel
theorem dX9_function_124 : decode cX9_function 124 = .ok (.invokevirtual 248, 3) := by decide +kernel
theorem dX9_function_127 : decode cX9_function 127 = .ok (.istore 5, 2) := by decide +kernel
theorem dX9_function_129 : decode cX9_function 129 = .ok (.aload_n 0, 1) := by decide +kernel
theorem dX9_function_130 : decode cX9_function 130 = .ok (.getfield 178, 3) := by decide +kernel
theorem dX9_function_133 : decode cX9_function 133 = .ok (.ifCond .eq 4, 3) := by decide +kernel
theorem dX9_function_136 : decode cX9_function 136 = .ok (.return_, 1) := by decide +kernel
theorem dX9_function_137 : decode cX9_function 137 = .ok (.aload_n 0, 1) := by decide +kernel
theorem dX9_function_138 : decode cX9_function 138 = .ok (.iload_n 2, 1) := by decide +kernel
theorem dX9_function_139 : decode cX9_function 139 = .ok (.iload_n 1, 1) := by decide +kernel
theorem dX9_function_140 : decode cX9_function 140 = .ok (.iload 5, 2) := by decide +kernel
theorem dX9_function_142 : decode cX9_function 142 = .ok (.invokevirtual 261, 3) := by decide +kernel
theorem dX9_function_145 : decode cX9_function 145 = .ok (.aload_n 0, 1) := by decide +kernel
theorem dX9_function_146 : decode cX9_function 146 = .ok (.getfield 265, 3) := by decide +kernel
theorem dX9_function_149 : decode cX9_function 149 = .ok (.istore 6, 2) := by decide +kernel
theorem dX9_function_151 : decode cX9_function 151 = .ok (.iload_n 2, 1) := by decide +kernel
theorem dX9_function_152 : decode cX9_function 152 = .ok (.iconst 1, 1) := by decide +kernel
theorem dX9_function_153 : decode cX9_function 153 = .ok (.iadd, 1) := by decide +kernel
theorem dX9_function_154 : decode cX9_function 154 = .ok (.istore 7, 2) := by decide +kernel
theorem dX9_function_156 : decode cX9_function 156 = .ok (.iload 7, 2) := by decide +kernel
theorem dX9_function_158 : decode cX9_function 158 = .ok (.iload 4, 2) := by decide +kernel
theorem dX9_function_160 : decode cX9_function 160 = .ok (.iconst 1, 1) := by decide +kernel
theorem dX9_function_161 : decode cX9_function 161 = .ok (.isub, 1) := by decide +kernel
theorem dX9_function_162 : decode cX9_function 162 = .ok (.if_icmp .ge 130, 3) := by decide +kernel
theorem dX9_function_165 : decode cX9_function 165 = .ok (.aload_n 0, 1) := by decide +kernel
theorem dX9_function_166 : decode cX9_function 166 = .ok (.getfield 178, 3) := by decide +kernel
theorem dX9_function_169 : decode cX9_function 169 = .ok (.ifCond .ne 123, 3) := by decide +kernel
theorem dX9_function_172 : decode cX9_function 172 = .ok (.iload_n 2, 1) := by decide +kernel
theorem dX9_function_173 : decode cX9_function 173 = .ok (.iconst 1, 1) := by decide +kernel
theorem dX9_function_174 : decode cX9_function 174 = .ok (.iadd, 1) := by decide +kernel
theorem dX9_function_175 : decode cX9_function 175 = .ok (.istore 8, 2) := by decide +kernel
theorem dX9_function_177 : decode cX9_function 177 = .ok (.iload 8, 2) := by decide +kernel
theorem dX9_function_179 : decode cX9_function 179 = .ok (.iload 7, 2) := by decide +kernel
theorem dX9_function_181 : decode cX9_function 181 = .ok (.if_icmp .ge 48, 3) := by decide +kernel
theorem dX9_function_184 : decode cX9_function 184 = .ok (.aload_n 0, 1) := by decide +kernel
theorem dX9_function_185 : decode cX9_function 185 = .ok (.getfield 13, 3) := by decide +kernel
theorem dX9_function_188 : decode cX9_function 188 = .ok (.iload 8, 2) := by decide +kernel
theorem dX9_function_190 : decode cX9_function 190 = .ok (.iaload, 1) := by decide +kernel
theorem dX9_function_191 : decode cX9_function 191 = .ok (.aload_n 0, 1) := by decide +kernel
theorem dX9_function_192 : decode cX9_function 192 = .ok (.getfield 13, 3) := by decide +kernel
theorem dX9_function_195 : decode cX9_function 195 = .ok (.iload 7, 2) := by decide +kernel
theorem dX9_function_197 : decode cX9_function 197 = .ok (.iaload, 1) := by decide +kernel
theorem dX9_function_198 : decode cX9_function 198 = .ok (.if_icmp .ne 25, 3) := by decide +kernel
theorem dX9_function_201 : decode cX9_function 201 = .ok (.aload_n 0, 1) := by decide +kernel
theorem dX9_function_202 : decode cX9_function 202 = .ok (.getfield 16, 3) := by decide +kernel
theorem dX9_function_205 : decode cX9_function 205 = .ok (.iload 8, 2) := by decide +kernel
theorem dX9_function_207 : decode cX9_function 207 = .ok (.iaload, 1) := by decide +kernel
theorem dX9_function_208 : decode cX9_function 208 = .ok (.aload_n 0, 1) := by decide +kernel
theorem dX9_function_209 : decode cX9_function 209 = .ok (.getfield 16, 3) := by decide +kernel
theorem dX9_function_212 : decode cX9_function 212 = .ok (.iload 7, 2) := by decide +kernel
theorem dX9_function_214 : decode cX9_function 214 = .ok (.iaload, 1) := by decide +kernel
theorem dX9_function_215 : decode cX9_function 215 = .ok (.if_icmp .ne 8, 3) := by decide +kernel
theorem dX9_function_218 : decode cX9_function 218 = .ok (.aload_n 0, 1) := by decide +kernel
theorem dX9_function_219 : decode cX9_function 219 = .ok (.iconst 3, 1) := by decide +kernel
theorem dX9_function_220 : decode cX9_function 220 = .ok (.invokevirtual 163, 3) := by decide +kernel
theorem dX9_function_223 : decode cX9_function 223 = .ok (.iinc 8 1, 3) := by decide +kernel
theorem dX9_function_226 : decode cX9_function 226 = .ok (.goto (-49), 3) := by decide +kernel
theorem dX9_function_229 : decode cX9_function 229 = .ok (.aload_n 0, 1) := by decide +kernel
theorem dX9_function_230 : decode cX9_function 230 = .ok (.getfield 178, 3) := by decide +kernel
theorem dX9_function_233 : decode cX9_function 233 = .ok (.ifCond .ne 29, 3) := by decide +kernel
theorem dX9_function_236 : decode cX9_function 236 = .ok (.aload_n 0, 1) := by decide +kernel
theorem dX9_function_237 : decode cX9_function 237 = .ok (.aload_n 0, 1) := by decide +kernel
theorem dX9_function_238 : decode cX9_function 238 = .ok (.getfield 13, 3) := by decide +kernel
theorem dX9_function_241 : decode cX9_function 241 = .ok (.iload 7, 2) := by decide +kernel
theorem dX9_function_243 : decode cX9_function 243 = .ok (.invokestatic 151, 3) := by decide +kernel
theorem dX9_function_246 : decode cX9_function 246 = .ok (.aload_n 0, 1) := by decide +kernel
theorem dX9_function_247 : decode cX9_function 247 = .ok (.getfield 16, 3) := by decide +kernel
theorem dX9_function_250 : decode cX9_function 250 = .ok (.iload 7, 2) := by decide +kernel
theorem dX9_function_252 : decode cX9_function 252 = .ok (.iaload, 1) := by decide +kernel
theorem dX9_function_253 : decode cX9_function 253 = .ok (.iconst 2, 1) := by decide +kernel
theorem dX9_function_254 : decode cX9_function 254 = .ok (.aload_n 0, 1) := by decide +kernel
theorem dX9_function_255 : decode cX9_function 255 = .ok (.getfield 265, 3) := by decide +kernel
theorem dX9_function_258 : decode cX9_function 258 = .ok (.iconst 0, 1) := by decide +kernel
theorem dX9_function_259 : decode cX9_function 259 = .ok (.invokevirtual 167, 3) := by decide +kernel
theorem dX9_function_262 : decode cX9_function 262 = .ok (.aload_n 0, 1) := by decide +kernel
theorem dX9_function_263 : decode cX9_function 263 = .ok (.aload_n 0, 1) := by decide +kernel
theorem dX9_function_264 : decode cX9_function 264 = .ok (.getfield 178, 3) := by decide +kernel
theorem dX9_function_267 : decode cX9_function 267 = .ok (.ifCond .ne 12, 3) := by decide +kernel
theorem dX9_function_270 : decode cX9_function 270 = .ok (.aload_n 0, 1) := by decide +kernel
theorem dX9_function_271 : decode cX9_function 271 = .ok (.getfield 265, 3) := by decide +kernel
theorem dX9_function_274 : decode cX9_function 274 = .ok (.iconst 1, 1) := by decide +kernel
theorem dX9_function_275 : decode cX9_function 275 = .ok (.iadd, 1) := by decide +kernel
theorem dX9_function_276 : decode cX9_function 276 = .ok (.goto 7, 3) := by decide +kernel
theorem dX9_function_279 : decode cX9_function 279 = .ok (.aload_n 0, 1) := by decide +kernel
theorem dX9_function_280 : decode cX9_function 280 = .ok (.getfield 265, 3) := by decide +kernel
theorem dX9_function_283 : decode cX9_function 283 = .ok (.putfield 265, 3) := by decide +kernel
theorem dX9_function_286 : decode cX9_function 286 = .ok (.iinc 7 1, 3) := by decide +kernel
theorem dX9_function_289 : decode cX9_function 289 = .ok (.goto (-133), 3) := by decide +kernel
theorem dX9_function_292 : decode cX9_function 292 = .ok (.aload_n 0, 1) := by decide +kernel
theorem dX9_function_293 : decode cX9_function 293 = .ok (.getfield 178, 3) := by decide +kernel
theorem dX9_function_296 : decode cX9_function 296 = .ok (.ifCond .eq 4, 3) := by decide +kernel
theorem dX9_function_299 : decode cX9_function 299 = .ok (.return_, 1) := by decide +kernel
theorem dX9_function_300 : decode cX9_function 300 = .ok (.aload_n 0, 1) := by decide +kernel
theorem dX9_function_301 : decode cX9_function 301 = .ok (.invokevirtual 200, 3) := by decide +kernel
theorem dX9_function_304 : decode cX9_function 304 = .ok (.aload_n 0, 1) := by decide +kernel
theorem dX9_function_305 : decode cX9_function 305 = .ok (.invokevirtual 194, 3) := by decide +kernel
theorem dX9_function_308 : decode cX9_function 308 = .ok (.aload_n 0, 1) := by decide +kernel
theorem dX9_function_309 : decode cX9_function 309 = .ok (.aload_n 0, 1) := by decide +kernel
theorem dX9_function_310 : decode cX9_function 310 = .ok (.getfield 13, 3) := by decide +kernel
theorem dX9_function_313 : decode cX9_function 313 = .ok (.aload_n 0, 1) := by decide +kernel
theorem dX9_function_314 : decode cX9_function 314 = .ok (.getfield 104, 3) := by decide +kernel
theorem dX9_function_317 : decode cX9_function 317 = .ok (.iconst 1, 1) := by decide +kernel
theorem dX9_function_318 : decode cX9_function 318 = .ok (.iadd, 1) := by decide +kernel
theorem dX9_function_319 : decode cX9_function 319 = .ok (.invokestatic 151, 3) := by decide +kernel
theorem dX9_function_322 : decode cX9_function 322 = .ok (.invokevirtual 206, 3) := by decide +kernel
theorem dX9_function_325 : decode cX9_function 325 = .ok (.aload_n 0, 1) := by decide +kernel
theorem dX9_function_326 : decode cX9_function 326 = .ok (.invokevirtual 200, 3) := by decide +kernel
theorem dX9_function_329 : decode cX9_function 329 = .ok (.iload 6, 2) := by decide +kernel
theorem dX9_function_331 : decode cX9_function 331 = .ok (.istore 7, 2) := by decide +kernel
theorem dX9_function_333 : decode cX9_function 333 = .ok (.iload 7, 2) := by decide +kernel
theorem dX9_function_335 : decode cX9_function 335 = .ok (.aload_n 0, 1) := by decide +kernel
theorem dX9_function_336 : decode cX9_function 336 = .ok (.getfield 265, 3) := by decide +kernel
theorem dX9_function_339 : decode cX9_function 339 = .ok (.if_icmp .ge 15, 3) := by decide +kernel
theorem dX9_function_342 : decode cX9_function 342 = .ok (.aload_n 0, 1) := by decide +kernel
theorem dX9_function_343 : decode cX9_function 343 = .ok (.iload 7, 2) := by decide +kernel
theorem dX9_function_345 : decode cX9_function 345 = .ok (.invokevirtual 268, 3) := by decide +kernel
theorem dX9_function_348 : decode cX9_function 348 = .ok (.iinc 7 1, 3) := by decide +kernel
theorem dX9_function_351 : decode cX9_function 351 = .ok (.goto (-18), 3) := by decide +kernel
theorem dX9_function_354 : decode cX9_function 354 = .ok (.aload_n 0, 1) := by decide +kernel
theorem dX9_function_355 : decode cX9_function 355 = .ok (.invokevirtual 203, 3) := by decide +kernel
theorem dX9_function_358 : decode cX9_function 358 = .ok (.aload_n 0, 1) := by decide +kernel
theorem dX9_function_359 : decode cX9_function 359 = .ok (.dup, 1) := by decide +kernel
theorem dX9_function_360 : decode cX9_function 360 = .ok (.getfield 271, 3) := by decide +kernel
theorem dX9_function_363 : decode cX9_function 363 = .ok (.iconst 1, 1) := by decide +kernel
theorem dX9_function_364 : decode cX9_function 364 = .ok (.iadd, 1) := by decide +kernel
theorem dX9_function_365 : decode cX9_function 365 = .ok (.putfield 271, 3) := by decide +kernel
theorem dX9_function_368 : decode cX9_function 368 = .ok (.aload_n 0, 1) := by decide +kernel
theorem dX9_function_369 : decode cX9_function 369 = .ok (.iload 4, 2) := by decide +kernel
theorem dX9_function_371 : decode cX9_function 371 = .ok (.putfield 104, 3) := by decide +kernel
theorem dX9_function_374 : decode cX9_function 374 = .ok (.return_, 1) := by decide +kernel
set_option maxRecDepth 20000 in
theorem ggX9_local_X9_end : GoodIn wsX9_local wsX9_end := goodIn_r _ [11, 12, 13, 10, 14, 15] (by decide +kernel) (by decide +kernel)
set_option maxRecDepth 20000 in
theorem gX9_local_X9_end : GoodIn wsX9_local (va_wsS RX9 111 yX9_end wsX9_end) := goodIn_app (goodIn_of _ (by decide +kernel)) ggX9_local_X9_end
set_option maxRecDepth 20000 in
theorem ggX9_local_X9_isPlain : GoodIn wsX9_local wsX9_isPlain := goodIn_r _ [18, 12, 13, 10, 14, 15, 19, 20, 21, 8, 9, 11, 22, 23, 24] (by decide +kernel) (by decide +kernel)
set_option maxRecDepth 20000 in
theorem gX9_local_X9_isPlain : GoodIn wsX9_local (va_wsS RX9 130 yX9_isPlain wsX9_isPlain) := goodIn_app (goodIn_of _ (by decide +kernel)) ggX9_local_X9_isPlain
set_option maxRecDepth 20000 in
theorem ggX9_local_X9_kind : GoodIn wsX9_local wsX9_kind := goodIn_r _ [14, 15] (by decide +kernel) (by decide +kernel)
set_option maxRecDepth 20000 in
theorem gX9_local_X9_kind : GoodIn wsX9_local (va_wsS RX9 107 yX9_kind wsX9_kind) := goodIn_app (goodIn_of _ (by decide +kernel)) ggX9_local_X9_kind
set_option maxRecDepth 20000 in
theorem ggX9_local_X9_dots : GoodIn wsX9_local wsX9_dots := goodIn_r _ [24, 12, 13, 10, 14, 15, 8, 9, 11] (by decide +kernel) (by decide +kernel)
set_option maxRecDepth 20000 in
theorem gX9_local_X9_dots : GoodIn wsX9_local (va_wsS RX9 117 yX9_dots wsX9_dots) := goodIn_app (goodIn_of _ (by decide +kernel)) ggX9_local_X9_dots
set_option maxRecDepth 20000 in
theorem ggX9_local_X9_keep : GoodIn wsX9_local wsX9_keep := goodIn_r _ [28, 29, 1, 30, 5, 81, 82, 83, 84, 85, 86, 87, 88, 89, 90, 91, 92, 93, 94, 95, 96, 97, 98, 99, 100, 101, 102, 103, 104, 105, 106, 107, 108, 109, 110, 111, 112, 113, 114, 115, 116] (by decide +kernel) (by decide +kernel)
set_option maxRecDepth 20000 in
theorem gX9_local_X9_keep : GoodIn wsX9_local (wsV RX9 145 RX9 yX9_keep wsX9_keep) := goodIn_app (goodIn_of _ (by decide +kernel)) ggX9_local_X9_keep
set_option maxRecDepth 100000 in
theorem gpX9_local_X9_areRules_0 : GoodIn wsX9_local wsX9_areRules_r1 := goodIn_r _ [29, 12, 13, 10, 14, 15, 16, 17, 18, 19, 20, 21, 8, 9, 11, 22, 23, 24, 35, 36, 37, 38, 30, 39] (by decide +kernel) (by decide +kernel)
set_option maxRecDepth 100000 in
theorem gpX9_local_X9_areRules_1 : GoodIn wsX9_local wsX9_areRules_r2 := goodIn_r _ [40, 41, 42, 43, 44, 45, 46, 47, 48, 49, 50, 51, 52, 53, 54] (by decide +kernel) (by decide +kernel)
set_option maxRecDepth 100000 in
theorem gpX9_local_X9_areRules_2 : GoodIn wsX9_local wsX90 := goodIn_r _ [81, 82, 83, 84, 85, 86, 87, 88, 89, 90, 91, 92, 93, 94, 95, 96, 97, 98, 99, 100, 101, 102, 103, 104, 105, 106, 107, 108, 109, 110, 111, 112, 113, 114, 115, 116] (by decide +kernel) (by decide +kernel)
set_option maxRecDepth 100000 in
theorem gpX9_local_X9_areRules_c : GoodIn wsX9_local [Cond.code yX9_areRules cX9_areRules 4 (some .boolean)] := goodIn_r _ [34] (by decide +kernel) (by decide +kernel)
theorem ggX9_local_X9_areRules : GoodIn wsX9_local wsX9_areRules := goodIn_cons2 gpX9_local_X9_areRules_c (goodIn_app (goodIn_app gpX9_local_X9_areRules_0 gpX9_local_X9_areRules_1) gpX9_local_X9_areRules_2)
set_option maxRecDepth 20000 in
theorem gX9_local_X9_areRules : GoodIn wsX9_local (wsV RX9 148 RX9 yX9_areRules wsX9_areRules) := goodIn_app (goodIn_of _ (by decide +kernel)) ggX9_local_X9_areRules
set_option maxRecDepth 20000 in
theorem ggX9_local_X9_fails : GoodIn wsX9_local wsX9_fails := goodIn_r _ [58, 4, 81, 82, 83, 84, 85, 86, 87, 88, 89, 90, 91, 92, 93, 94, 95, 96, 97, 98, 99, 100, 101, 102, 103, 104, 105, 106, 107, 108, 109, 110, 111, 112, 113, 114, 115, 116] (by decide +kernel) (by decide +kernel)
set_option maxRecDepth 20000 in
theorem gX9_local_X9_fails : GoodIn wsX9_local (wsV RX9 163 RX9 yX9_fails wsX9_fails) := goodIn_app (goodIn_of _ (by decide +kernel)) ggX9_local_X9_fails
set_option maxRecDepth 20000 in
theorem ggX9_local_X9_scope : GoodIn wsX9_local wsX9_scope := goodIn_r _ [62, 63, 55, 56, 57, 10, 58, 4, 81, 82, 83, 84, 85, 86, 87, 88, 89, 90, 91, 92, 93, 94, 95, 96, 97, 98, 99, 100, 101, 102, 103, 104, 105, 106, 107, 108, 109, 110, 111, 112, 113, 114, 115, 116] (by decide +kernel) (by decide +kernel)
set_option maxRecDepth 20000 in
theorem gX9_local_X9_scope : GoodIn wsX9_local (wsV RX9 248 RX9 yX9_scope wsX9_scope) := goodIn_app (goodIn_of _ (by decide +kernel)) ggX9_local_X9_scope
set_option maxRecDepth 20000 in
theorem ggX9_local_X9_give : GoodIn wsX9_local wsX9_give := goodIn_r _ [67, 5, 1, 12, 13, 10, 14, 15, 81, 82, 83, 84, 85, 86, 87, 88, 89, 90, 91, 92, 93, 94, 95, 96, 97, 98, 99, 100, 101, 102, 103, 104, 105, 106, 107, 108, 109, 110, 111, 112, 113, 114, 115, 116] (by decide +kernel) (by decide +kernel)
set_option maxRecDepth 20000 in
theorem gX9_local_X9_give : GoodIn wsX9_local (wsV RX9 261 RX9 yX9_give wsX9_give) := goodIn_app (goodIn_of _ (by decide +kernel)) ggX9_local_X9_give
set_option maxRecDepth 20000 in
theorem ggX9_local_X9_what : GoodIn wsX9_local wsX9_what := goodIn_r _ [70, 15] (by decide +kernel) (by decide +kernel)
set_option maxRecDepth 20000 in
theorem gX9_local_X9_what : GoodIn wsX9_local (va_wsS RX9 151 yX9_what wsX9_what) := goodIn_app (goodIn_of _ (by decide +kernel)) ggX9_local_X9_what
set_option maxRecDepth 100000 in
theorem gpX9_local_X9_bind_0 : GoodIn wsX9_local ([.fieldLink RX9 160 "MarkedNamesModel" "bindings" "I", .fieldLink RX9 31 "MarkedNamesModel" "name" "[I", .fieldLink RX9 34 "MarkedNamesModel" "scopes" "[I", .fieldLink RX9 37 "MarkedNamesModel" "meaning" "[I", .fieldLink RX9 40 "MarkedNamesModel" "from" "[I", .fieldLink RX9 43 "MarkedNamesModel" "to" "[I", .methodLink RX9 163 yX9_fails, .instanceMethod yX9_fails, .selects RX9 yX9_fails yX9_fails, .initialized RX9, .code yX9_fails cX9_fails 2 none, .fieldLink RX9 178 "MarkedNamesModel" "error" "I"] : List Cond) := goodIn_r _ [75, 76, 77, 78, 79, 80, 55, 56, 57, 10, 58, 4] (by decide +kernel) (by decide +kernel)
set_option maxRecDepth 100000 in
theorem gpX9_local_X9_bind_1 : GoodIn wsX9_local wsX90 := goodIn_r _ [81, 82, 83, 84, 85, 86, 87, 88, 89, 90, 91, 92, 93, 94, 95, 96, 97, 98, 99, 100, 101, 102, 103, 104, 105, 106, 107, 108, 109, 110, 111, 112, 113, 114, 115, 116] (by decide +kernel) (by decide +kernel)
set_option maxRecDepth 100000 in
theorem gpX9_local_X9_bind_c : GoodIn wsX9_local [Cond.code yX9_bind cX9_bind 6 none] := goodIn_r _ [74] (by decide +kernel) (by decide +kernel)
theorem ggX9_local_X9_bind : GoodIn wsX9_local wsX9_bind := goodIn_cons2 gpX9_local_X9_bind_c (goodIn_app gpX9_local_X9_bind_0 gpX9_local_X9_bind_1)
set_option maxRecDepth 20000 in
theorem gX9_local_X9_bind : GoodIn wsX9_local (wsV RX9 167 RX9 yX9_bind wsX9_bind) := goodIn_app (goodIn_of _ (by decide +kernel)) ggX9_local_X9_bind
theorem dX9_local_0 : decode cX9_local 0 = .ok (.aload_n 0, 1) := by decide +kernel
theorem dX9_local_1 : decode cX9_local 1 = .ok (.getfield 13, 3) := by decide +kernel
theorem dX9_local_4 : decode cX9_local 4 = .ok (.aload_n 0, 1) := by decide +kernel
theorem dX9_local_5 : decode cX9_local 5 = .ok (.getfield 104, 3) := by decide +kernel
theorem dX9_local_8 : decode cX9_local 8 = .ok (.invokestatic 111, 3) := by decide +kernel
theorem dX9_local_11 : decode cX9_local 11 = .ok (.istore_n 1, 1) := by decide +kernel
theorem dX9_local_12 : decode cX9_local 12 = .ok (.aload_n 0, 1) := by decide +kernel
theorem dX9_local_13 : decode cX9_local 13 = .ok (.getfield 104, 3) := by decide +kernel
theorem dX9_local_16 : decode cX9_local 16 = .ok (.iconst 2, 1) := by decide +kernel
theorem dX9_local_17 : decode cX9_local 17 = .ok (.iadd, 1) := by decide +kernel
theorem dX9_local_18 : decode cX9_local 18 = .ok (.istore_n 2, 1) := by decide +kernel
theorem dX9_local_19 : decode cX9_local 19 = .ok (.aload_n 0, 1) := by decide +kernel
theorem dX9_local_20 : decode cX9_local 20 = .ok (.getfield 13, 3) := by decide +kernel
theorem dX9_local_23 : decode cX9_local 23 = .ok (.aload_n 0, 1) := by decide +kernel
theorem dX9_local_24 : decode cX9_local 24 = .ok (.getfield 104, 3) := by decide +kernel
theorem dX9_local_27 : decode cX9_local 27 = .ok (.iconst 3, 1) := by decide +kernel
theorem dX9_local_28 : decode cX9_local 28 = .ok (.invokestatic 130, 3) := by decide +kernel
theorem dX9_local_31 : decode cX9_local 31 = .ok (.ifCond .eq 44, 3) := by decide +kernel
theorem dX9_local_34 : decode cX9_local 34 = .ok (.aload_n 0, 1) := by decide +kernel
theorem dX9_local_35 : decode cX9_local 35 = .ok (.getfield 13, 3) := by decide +kernel
theorem dX9_local_38 : decode cX9_local 38 = .ok (.iload_n 2, 1) := by decide +kernel
theorem dX9_local_39 : decode cX9_local 39 = .ok (.invokestatic 107, 3) := by decide +kernel
theorem dX9_local_42 : decode cX9_local 42 = .ok (.iconst 1, 1) := by decide +kernel
theorem dX9_local_43 : decode cX9_local 43 = .ok (.if_icmp .ne 32, 3) := by decide +kernel
theorem dX9_local_46 : decode cX9_local 46 = .ok (.aload_n 0, 1) := by decide +kernel
theorem dX9_local_47 : decode cX9_local 47 = .ok (.getfield 13, 3) := by decide +kernel
theorem dX9_local_50 : decode cX9_local 50 = .ok (.iload_n 2, 1) := by decide +kernel
theorem dX9_local_51 : decode cX9_local 51 = .ok (.iconst 1, 1) := by decide +kernel
theorem dX9_local_52 : decode cX9_local 52 = .ok (.iadd, 1) := by decide +kernel
theorem dX9_local_53 : decode cX9_local 53 = .ok (.invokestatic 107, 3) := by decide +kernel
theorem dX9_local_56 : decode cX9_local 56 = .ok (.iconst 3, 1) := by decide +kernel
theorem dX9_local_57 : decode cX9_local 57 = .ok (.if_icmp .ne 18, 3) := by decide +kernel
theorem dX9_local_60 : decode cX9_local 60 = .ok (.aload_n 0, 1) := by decide +kernel
theorem dX9_local_61 : decode cX9_local 61 = .ok (.getfield 13, 3) := by decide +kernel
theorem dX9_local_64 : decode cX9_local 64 = .ok (.iload_n 2, 1) := by decide +kernel
theorem dX9_local_65 : decode cX9_local 65 = .ok (.invokestatic 117, 3) := by decide +kernel
theorem dX9_local_68 : decode cX9_local 68 = .ok (.ifCond .ne 7, 3) := by decide +kernel
theorem dX9_local_71 : decode cX9_local 71 = .ok (.iconst 1, 1) := by decide +kernel
theorem dX9_local_72 : decode cX9_local 72 = .ok (.goto 4, 3) := by decide +kernel
theorem dX9_local_75 : decode cX9_local 75 = .ok (.iconst 0, 1) := by decide +kernel
theorem dX9_local_76 : decode cX9_local 76 = .ok (.istore_n 3, 1) := by decide +kernel
theorem dX9_local_77 : decode cX9_local 77 = .ok (.iload_n 3, 1) := by decide +kernel
theorem dX9_local_78 : decode cX9_local 78 = .ok (.ifCond .eq 14, 3) := by decide +kernel
theorem dX9_local_81 : decode cX9_local 81 = .ok (.aload_n 0, 1) := by decide +kernel
theorem dX9_local_82 : decode cX9_local 82 = .ok (.getfield 13, 3) := by decide +kernel
theorem dX9_local_85 : decode cX9_local 85 = .ok (.iload_n 2, 1) := by decide +kernel
theorem dX9_local_86 : decode cX9_local 86 = .ok (.invokestatic 111, 3) := by decide +kernel
theorem dX9_local_89 : decode cX9_local 89 = .ok (.goto 4, 3) := by decide +kernel
theorem dX9_local_92 : decode cX9_local 92 = .ok (.iconst 0, 1) := by decide +kernel
theorem dX9_local_93 : decode cX9_local 93 = .ok (.istore 4, 2) := by decide +kernel
theorem dX9_local_95 : decode cX9_local 95 = .ok (.aload_n 0, 1) := by decide +kernel
theorem dX9_local_96 : decode cX9_local 96 = .ok (.getfield 274, 3) := by decide +kernel
theorem dX9_local_99 : decode cX9_local 99 = .ok (.istore 5, 2) := by decide +kernel
theorem dX9_local_101 : decode cX9_local 101 = .ok (.iload_n 3, 1) := by decide +kernel
theorem dX9_local_102 : decode cX9_local 102 = .ok (.ifCond .eq 19, 3) := by decide +kernel
theorem dX9_local_105 : decode cX9_local 105 = .ok (.aload_n 0, 1) := by decide +kernel
theorem dX9_local_106 : decode cX9_local 106 = .ok (.iload_n 2, 1) := by decide +kernel
theorem dX9_local_107 : decode cX9_local 107 = .ok (.iconst 2, 1) := by decide +kernel
theorem dX9_local_108 : decode cX9_local 108 = .ok (.iadd, 1) := by decide +kernel
theorem dX9_local_109 : decode cX9_local 109 = .ok (.iload 4, 2) := by decide +kernel
theorem dX9_local_111 : decode cX9_local 111 = .ok (.iconst 1, 1) := by decide +kernel
theorem dX9_local_112 : decode cX9_local 112 = .ok (.isub, 1) := by decide +kernel
theorem dX9_local_113 : decode cX9_local 113 = .ok (.iload 5, 2) := by decide +kernel
theorem dX9_local_115 : decode cX9_local 115 = .ok (.invokevirtual 145, 3) := by decide +kernel
theorem dX9_local_118 : decode cX9_local 118 = .ok (.goto 5, 3) := by decide +kernel
theorem dX9_local_121 : decode cX9_local 121 = .ok (.iload 5, 2) := by decide +kernel
theorem dX9_local_123 : decode cX9_local 123 = .ok (.istore 6, 2) := by decide +kernel
theorem dX9_local_125 : decode cX9_local 125 = .ok (.iload_n 3, 1) := by decide +kernel
theorem dX9_local_126 : decode cX9_local 126 = .ok (.ifCond .eq 14, 3) := by decide +kernel
theorem dX9_local_129 : decode cX9_local 129 = .ok (.aload_n 0, 1) := by decide +kernel
theorem dX9_local_130 : decode cX9_local 130 = .ok (.iload 5, 2) := by decide +kernel
theorem dX9_local_132 : decode cX9_local 132 = .ok (.iload 6, 2) := by decide +kernel
theorem dX9_local_134 : decode cX9_local 134 = .ok (.invokevirtual 148, 3) := by decide +kernel
theorem dX9_local_137 : decode cX9_local 137 = .ok (.ifCond .ne 9, 3) := by decide +kernel
theorem dX9_local_140 : decode cX9_local 140 = .ok (.aload_n 0, 1) := by decide +kernel
theorem dX9_local_141 : decode cX9_local 141 = .ok (.iconst 3, 1) := by decide +kernel
theorem dX9_local_142 : decode cX9_local 142 = .ok (.invokevirtual 163, 3) := by decide +kernel
theorem dX9_local_145 : decode cX9_local 145 = .ok (.return_, 1) := by decide +kernel
theorem dX9_local_146 : decode cX9_local 146 = .ok (.aload_n 0, 1) := by decide +kernel
theorem dX9_local_147 : decode cX9_local 147 = .ok (.invokevirtual 248, 3) := by decide +kernel
theorem dX9_local_150 : decode cX9_local 150 = .ok (.istore 7, 2) := by decide +kernel
theorem dX9_local_152 : decode cX9_local 152 = .ok (.aload_n 0, 1) := by decide +kernel
theorem dX9_local_153 : decode cX9_local 153 = .ok (.getfield 178, 3) := by decide +kernel
theorem dX9_local_156 : decode cX9_local 156 = .ok (.ifCond .eq 4, 3) := by decide +kernel
theorem dX9_local_159 : decode cX9_local 159 = .ok (.return_, 1) := by decide +kernel
theorem dX9_local_160 : decode cX9_local 160 = .ok (.aload_n 0, 1) := by decide +kernel
theorem dX9_local_161 : decode cX9_local 161 = .ok (.iload_n 2, 1) := by decide +kernel
theorem dX9_local_162 : decode cX9_local 162 = .ok (.iconst 1, 1) := by decide +kernel
theorem dX9_local_163 : decode cX9_local 163 = .ok (.iadd, 1) := by decide +kernel
theorem dX9_local_164 : decode cX9_local 164 = .ok (.iload_n 2, 1) := by decide +kernel
theorem dX9_local_165 : decode cX9_local 165 = .ok (.iconst 2, 1) := by decide +kernel
theorem dX9_local_166 : decode cX9_local 166 = .ok (.iadd, 1) := by decide +kernel
theorem dX9_local_167 : decode cX9_local 167 = .ok (.iload 7, 2) := by decide +kernel
theorem dX9_local_169 : decode cX9_local 169 = .ok (.invokevirtual 261, 3) := by decide +kernel
theorem dX9_local_172 : decode cX9_local 172 = .ok (.aload_n 0, 1) := by decide +kernel
theorem dX9_local_173 : decode cX9_local 173 = .ok (.iload 4, 2) := by decide +kernel
theorem dX9_local_175 : decode cX9_local 175 = .ok (.iload_n 1, 1) := by decide +kernel
theorem dX9_local_176 : decode cX9_local 176 = .ok (.iload 7, 2) := by decide +kernel
theorem dX9_local_178 : decode cX9_local 178 = .ok (.invokevirtual 261, 3) := by decide +kernel
theorem dX9_local_181 : decode cX9_local 181 = .ok (.aload_n 0, 1) := by decide +kernel
theorem dX9_local_182 : decode cX9_local 182 = .ok (.aload_n 0, 1) := by decide +kernel
theorem dX9_local_183 : decode cX9_local 183 = .ok (.getfield 13, 3) := by decide +kernel
theorem dX9_local_186 : decode cX9_local 186 = .ok (.iload_n 2, 1) := by decide +kernel
theorem dX9_local_187 : decode cX9_local 187 = .ok (.iconst 1, 1) := by decide +kernel
theorem dX9_local_188 : decode cX9_local 188 = .ok (.iadd, 1) := by decide +kernel
theorem dX9_local_189 : decode cX9_local 189 = .ok (.invokestatic 151, 3) := by decide +kernel
theorem dX9_local_192 : decode cX9_local 192 = .ok (.aload_n 0, 1) := by decide +kernel
theorem dX9_local_193 : decode cX9_local 193 = .ok (.getfield 16, 3) := by decide +kernel
theorem dX9_local_196 : decode cX9_local 196 = .ok (.iload_n 2, 1) := by decide +kernel
theorem dX9_local_197 : decode cX9_local 197 = .ok (.iconst 1, 1) := by decide +kernel
theorem dX9_local_198 : decode cX9_local 198 = .ok (.iadd, 1) := by decide +kernel
theorem dX9_local_199 : decode cX9_local 199 = .ok (.iaload, 1) := by decide +kernel
theorem dX9_local_200 : decode cX9_local 200 = .ok (.iconst 3, 1) := by decide +kernel
theorem dX9_local_201 : decode cX9_local 201 = .ok (.iload 5, 2) := by decide +kernel
theorem dX9_local_203 : decode cX9_local 203 = .ok (.iload 6, 2) := by decide +kernel
theorem dX9_local_205 : decode cX9_local 205 = .ok (.invokevirtual 167, 3) := by decide +kernel
theorem dX9_local_208 : decode cX9_local 208 = .ok (.aload_n 0, 1) := by decide +kernel
theorem dX9_local_209 : decode cX9_local 209 = .ok (.iload 6, 2) := by decide +kernel
theorem dX9_local_211 : decode cX9_local 211 = .ok (.putfield 274, 3) := by decide +kernel
theorem dX9_local_214 : decode cX9_local 214 = .ok (.aload_n 0, 1) := by decide +kernel
theorem dX9_local_215 : decode cX9_local 215 = .ok (.getfield 13, 3) := by decide +kernel
theorem dX9_local_218 : decode cX9_local 218 = .ok (.iload_n 1, 1) := by decide +kernel
theorem dX9_local_219 : decode cX9_local 219 = .ok (.iconst 1, 1) := by decide +kernel
theorem dX9_local_220 : decode cX9_local 220 = .ok (.isub, 1) := by decide +kernel
theorem dX9_local_221 : decode cX9_local 221 = .ok (.ldc_w 277, 3) := by decide +kernel
theorem dX9_local_224 : decode cX9_local 224 = .ok (.iastore, 1) := by decide +kernel
theorem dX9_local_225 : decode cX9_local 225 = .ok (.aload_n 0, 1) := by decide +kernel
theorem dX9_local_226 : decode cX9_local 226 = .ok (.dup, 1) := by decide +kernel
theorem dX9_local_227 : decode cX9_local 227 = .ok (.getfield 271, 3) := by decide +kernel
theorem dX9_local_230 : decode cX9_local 230 = .ok (.iconst 1, 1) := by decide +kernel
theorem dX9_local_231 : decode cX9_local 231 = .ok (.iadd, 1) := by decide +kernel
theorem dX9_local_232 : decode cX9_local 232 = .ok (.putfield 271, 3) := by decide +kernel
theorem dX9_local_235 : decode cX9_local 235 = .ok (.aload_n 0, 1) := by decide +kernel
theorem dX9_local_236 : decode cX9_local 236 = .ok (.iload 4, 2) := by decide +kernel
theorem dX9_local_238 : decode cX9_local 238 = .ok (.putfield 104, 3) := by decide +kernel
theorem dX9_local_241 : decode cX9_local 241 = .ok (.return_, 1) := by decide +kernel
theorem iw_X9_local_X9 : ∀ w ∈ wsX90, w ∈ wsX9_local := by decide +kernel
theorem lk_X9_local_13 : Cond.fieldLink RX9 13 "MarkedNamesModel" "row" "[I" ∈ wsX9_local := by decide +kernel
theorem lk_X9_local_104 : Cond.fieldLink RX9 104 "MarkedNamesModel" "head" "I" ∈ wsX9_local := by decide +kernel
theorem lk_X9_local_274 : Cond.fieldLink RX9 274 "MarkedNamesModel" "keptEnd" "I" ∈ wsX9_local := by decide +kernel
theorem lk_X9_local_178 : Cond.fieldLink RX9 178 "MarkedNamesModel" "error" "I" ∈ wsX9_local := by decide +kernel
theorem iw_X9_give_X9 : ∀ w ∈ wsX90, w ∈ wsX9_give := by decide +kernel
theorem lk_X9_give_16 : Cond.fieldLink RX9 16 "MarkedNamesModel" "set" "[I" ∈ wsX9_give := by decide +kernel
theorem lk_X9_give_13 : Cond.fieldLink RX9 13 "MarkedNamesModel" "row" "[I" ∈ wsX9_give := by decide +kernel
theorem lk_X9_local_16 : Cond.fieldLink RX9 16 "MarkedNamesModel" "set" "[I" ∈ wsX9_local := by decide +kernel
theorem mw_X9_local__constant_RX9_277_458752_Int32_ : Cond.constant RX9 277 (458752 : Int32) ∈ wsX9_local := by decide +kernel
theorem lk_X9_local_271 : Cond.fieldLink RX9 271 "MarkedNamesModel" "deep" "I" ∈ wsX9_local := by decide +kernel
theorem iw_X9_function_X9 : ∀ w ∈ wsX90, w ∈ wsX9_function := by decide +kernel
theorem lk_X9_function_13 : Cond.fieldLink RX9 13 "MarkedNamesModel" "row" "[I" ∈ wsX9_function := by decide +kernel
theorem lk_X9_function_104 : Cond.fieldLink RX9 104 "MarkedNamesModel" "head" "I" ∈ wsX9_function := by decide +kernel
theorem lk_X9_function_178 : Cond.fieldLink RX9 178 "MarkedNamesModel" "error" "I" ∈ wsX9_function := by decide +kernel
theorem lk_X9_function_265 : Cond.fieldLink RX9 265 "MarkedNamesModel" "variables" "I" ∈ wsX9_function := by decide +kernel
theorem lk_X9_function_16 : Cond.fieldLink RX9 16 "MarkedNamesModel" "set" "[I" ∈ wsX9_function := by decide +kernel
theorem lk_X9_function_271 : Cond.fieldLink RX9 271 "MarkedNamesModel" "deep" "I" ∈ wsX9_function := by decide +kernel
section
variable {l : Launch} {p : Program} {e : Env} {s : State} {m : MethodId} {args : Array Value} {below : List Frame} {meth : Method} {c : Code} {A : Nat → Prop} {dC : Nat → ClassId} {dI : Nat → Nat → Nat} {cA : ClassId} {a b : Nat → Nat} {lev : Nat}
set_option maxHeartbeats 4000000 in
set_option maxRecDepth 100000 in
theorem wj_X9_give_47_ok (C : mC p s m args meth c cX9_give 5 wsX9_give RX9 none (dC, dI) vwCl [(cA, .int)] A) (hs : eM A s) (hlev : 1 ≤ lev) {post : mS → Prop} {K3 : Int32 → Int32 → Int32 → mS → Prop} (hK3 : ∀ (x2 x3 x4 : Int32) (u : mS), K3 x2 x3 x4 u → mV p l e (mRm lev) s m args below meth c 5 (dC, dI) vwCl A 0 0 (mQv below args s (dC, dI) vwCl [(cA, .int)] (wM cA b) A post) (wM cA b u) 3 [(0, .ref (b 0)), (2, .int x2), (3, .int x3), (4, .int x4)] []) {x2 x3 x4 z0 z1 : Int32} {u : mS} (hw : wj_X9_give_47 K3 post x2 x3 x4 z0 z1 u) : mV p l e (mRm lev) s m args below meth c 5 (dC, dI) vwCl A 0 0 (mQv below args s (dC, dI) vwCl [(cA, .int)] (wM cA b) A post) (wM cA b u) 47 [(0, .ref (b 0)), (2, .int x2), (3, .int x3), (4, .int x4)] [.int z0, .int z1, .ref (b 3)] := by
  unfold wj_X9_give_47 at hw
  refine mv_iast (f := u.2 2) (ws1 := wM cA b (mPut u 2 z1.toNatClampNeg z0)) C 3 0 rfl rfl hw.1 rfl dX9_give_47 ?_
  refine mv_nm (f := wM cA b) (fun u8 eu8 => ?_)
  have hw := hw.2 u8 eu8
  obtain ⟨y9, ey9⟩ : ∃ z : Int32, z = x4 + (1 : Int32) := ⟨_, rfl⟩
  have hw := hw y9 ey9
  refine mv_iinc (v := y9) (lv1 := [(4, .int y9), (0, .ref (b 0)), (2, .int x2), (3, .int x3)]) C dX9_give_48 3 rfl (by rw [ey9]; rfl) (by decide) rfl ?_
  refine mv_goto (tgt := 3) C dX9_give_51 (by decide) ?_
  refine mv_sub [1, 2, 3, 0] rfl ?_
  exact hK3 x2 x3 y9 u8 hw
set_option maxHeartbeats 4000000 in
set_option maxRecDepth 100000 in
theorem wj_X9_give_3_ok (C : mC p s m args meth c cX9_give 5 wsX9_give RX9 none (dC, dI) vwCl [(cA, .int)] A) (hs : eM A s) (hlev : 1 ≤ lev) {post : mS → Prop} {K3 : Int32 → Int32 → Int32 → mS → Prop} (hK3 : ∀ (x2 x3 x4 : Int32) (u : mS), K3 x2 x3 x4 u → mV p l e (mRm lev) s m args below meth c 5 (dC, dI) vwCl A 0 0 (mQv below args s (dC, dI) vwCl [(cA, .int)] (wM cA b) A post) (wM cA b u) 3 [(0, .ref (b 0)), (2, .int x2), (3, .int x3), (4, .int x4)] []) {x2 x3 x4 : Int32} {u : mS} (hw : wj_X9_give_3 K3 post x2 x3 x4 u) : mV p l e (mRm lev) s m args below meth c 5 (dC, dI) vwCl A 0 0 (mQv below args s (dC, dI) vwCl [(cA, .int)] (wM cA b) A post) (wM cA b u) 3 [(0, .ref (b 0)), (2, .int x2), (3, .int x3), (4, .int x4)] [] := by
  unfold wj_X9_give_3 at hw
  refine mv_iload C dX9_give_3 3 rfl ?_
  refine mv_iload_n C dX9_give_5 rfl 1 rfl ?_
  refine mv_icmp_ge (tgt := 54) C dX9_give_6 (by decide) (fun h1 => ?_) (fun h1 => ?_)
  · have hw := hw.1 h1
    exact mv_vret C dX9_give_54 hw
  · have hw := hw.2 h1
    refine mv_aload_n C dX9_give_9 rfl 0 rfl ?_
    refine mv_get (v := .ref (b 3)) C iw_X9_give_X9 0 rfl rfl 3 (by decide) lk_X9_give_16 rfl rfl dX9_give_10 ?_
    refine mv_iload C dX9_give_13 3 rfl ?_
    refine mv_aload_n C dX9_give_15 rfl 0 rfl ?_
    refine mv_get (v := .ref (b 2)) C iw_X9_give_X9 0 rfl rfl 2 (by decide) lk_X9_give_13 rfl rfl dX9_give_16 ?_
    refine mv_iload C dX9_give_19 3 rfl ?_
    refine mv_callSi (f := wM cA b) (As := [.ref (b 2), .int x4]) (rest := [.int x4, .ref (b 3)]) C eM_ok hs (X9_kind_2_met (l := l) (lev := lev - 1) (by omega) hw) (va_cwS 2 C.2.2.2.2.1 gX9_give_X9_kind rfl rfl rfl (by decide +kernel) (mRm_le (by omega) (by decide))) rfl rfl (Nat.le_of_ble_eq_true rfl) dX9_give_21 ⟨Nat.le_refl 0, Nat.le_refl 0⟩ (fun r2 u3 hw => ?_)
    refine mv_iconst (v := (3 : Int32)) C dX9_give_24 (by decide) ?_
    refine mv_icmp_ne (tgt := 40) C dX9_give_25 (by decide) (fun h4 => ?_) (fun h4 => ?_)
    · have hw := hw.1 h4
      refine mv_aload_n C dX9_give_40 rfl 0 rfl ?_
      refine mv_get (v := .ref (b 3)) C iw_X9_give_X9 0 rfl rfl 3 (by decide) lk_X9_give_16 rfl rfl dX9_give_41 ?_
      refine mv_iload C dX9_give_44 3 rfl ?_
      refine mv_iald (f := u3.2 2) C 3 0 rfl rfl hw.1 dX9_give_46 ?_
      refine mv_topi (fun y5 ey5 => ?_)
      have hw := hw.2 y5 ey5
      exact wj_X9_give_47_ok C hs hlev hK3 hw
    · have hw := hw.2 h4
      refine mv_aload_n C dX9_give_28 rfl 0 rfl ?_
      refine mv_get (v := .ref (b 3)) C iw_X9_give_X9 0 rfl rfl 3 (by decide) lk_X9_give_16 rfl rfl dX9_give_29 ?_
      refine mv_iload C dX9_give_32 3 rfl ?_
      refine mv_iald (f := u3.2 2) C 3 0 rfl rfl hw.1 dX9_give_34 ?_
      refine mv_topi (fun y6 ey6 => ?_)
      have hw := hw.2 y6 ey6
      refine mv_iload_n C dX9_give_35 rfl 2 rfl ?_
      refine mv_ior C dX9_give_36 ?_
      refine mv_topi (fun y7 ey7 => ?_)
      have hw := hw y7 ey7
      refine mv_goto (tgt := 47) C dX9_give_37 (by decide) ?_
      exact wj_X9_give_47_ok C hs hlev hK3 hw
set_option maxHeartbeats 4000000 in
set_option maxRecDepth 100000 in
theorem X9_give_met (hlev : 1 ≤ lev) {x1 x2 x3 : Int32} {u : mS} {post : mS → Prop} (hw : wp_X9_give x1 x2 x3 u post) : mKv l yX9_give wsX9_give lev (eM) (dC, dI) vwCl [(cA, .int)] (wM cA b) [.ref (b 0), .int x1, .int x2, .int x3] u post := by
  refine mKv_of (cc := cX9_give) (maxL := 5) (by decide) rfl rfl (Nat.le_of_ble_eq_true rfl) rfl ?_
  intro p e s m args below meth c A C hs
  unfold wp_X9_give at hw
  refine mv_iload_n C dX9_give_0 rfl 1 rfl ?_
  refine mv_istore (lv1 := [(4, .int x1), (0, .ref (b 0)), (1, .int x1), (2, .int x2), (3, .int x3)]) C dX9_give_1 (by decide) rfl ?_
  refine mv_sub [1, 3, 4, 0] rfl ?_
  obtain ⟨n, hw⟩ := hw
  exact mL4_of (fun K hK b0 b1 b2 b3 hw => wj_X9_give_3_ok C hs hlev hK hw) n x2 x3 x1 u hw
set_option maxHeartbeats 4000000 in
set_option maxRecDepth 100000 in
theorem wj_X9_local_140_ok (C : mC p s m args meth c cX9_local 8 wsX9_local RX9 none (dC, dI) vwCl [(cA, .int)] A) (hs : eM A s) (hlev : 6 ≤ lev) {post : mS → Prop} {u : mS} (hw : wj_X9_local_140 post  u) : mV p l e (mRm lev) s m args below meth c 8 (dC, dI) vwCl A 0 0 (mQv below args s (dC, dI) vwCl [(cA, .int)] (wM cA b) A post) (wM cA b u) 140 [(0, .ref (b 0))] [] := by
  unfold wj_X9_local_140 at hw
  refine mv_aload_n C dX9_local_140 rfl 0 rfl ?_
  refine mv_iconst (v := (3 : Int32)) C dX9_local_141 (by decide) ?_
  refine mv_callVv (f := wM cA b) (As := [.int (3 : Int32)]) (rest := []) C eM_ok hs 0 rfl rfl (X9_fails_met (l := l) (lev := lev - 1) (by omega) hw) (cwV 1 C.2.2.2.2.1 gX9_local_X9_fails rfl rfl rfl (by decide +kernel) (mRm_le (by omega) (by decide))) rfl rfl (Nat.le_of_ble_eq_true rfl) dX9_local_142 ⟨Nat.le_refl 0, Nat.le_refl 0⟩ (fun u58 hw => ?_)
  exact mv_vret C dX9_local_145 hw
set_option maxHeartbeats 4000000 in
set_option maxRecDepth 100000 in
theorem wj_X9_local_123_ok (C : mC p s m args meth c cX9_local 8 wsX9_local RX9 none (dC, dI) vwCl [(cA, .int)] A) (hs : eM A s) (hlev : 6 ≤ lev) {post : mS → Prop} {x1 x2 x3 x4 x5 z0 : Int32} {u : mS} (hw : wj_X9_local_123 post x1 x2 x3 x4 x5 z0 u) : mV p l e (mRm lev) s m args below meth c 8 (dC, dI) vwCl A 0 0 (mQv below args s (dC, dI) vwCl [(cA, .int)] (wM cA b) A post) (wM cA b u) 123 [(0, .ref (b 0)), (1, .int x1), (2, .int x2), (3, .int x3), (4, .int x4), (5, .int x5)] [.int z0] := by
  unfold wj_X9_local_123 at hw
  refine mv_istore (lv1 := [(6, .int z0), (0, .ref (b 0)), (1, .int x1), (2, .int x2), (3, .int x3), (4, .int x4), (5, .int x5)]) C dX9_local_123 (by decide) rfl ?_
  refine mv_iload_n C dX9_local_125 rfl 4 rfl ?_
  refine mv_if_eq (tgt := 140) C dX9_local_126 (by decide) (fun h29 => ?_) (fun h29 => ?_)
  · have hw := hw.1 h29
    refine mv_sub [1] rfl ?_
    exact wj_X9_local_140_ok C hs hlev hw
  · have hw := hw.2 h29
    refine mv_aload_n C dX9_local_129 rfl 1 rfl ?_
    refine mv_iload C dX9_local_130 6 rfl ?_
    refine mv_iload C dX9_local_132 0 rfl ?_
    refine mv_callVi (f := wM cA b) (As := [.int x5, .int z0]) (rest := []) C eM_ok hs 0 rfl rfl (X9_areRules_met (l := l) (lev := lev - 1) (by omega) hw) (cwV 2 C.2.2.2.2.1 gX9_local_X9_areRules rfl rfl rfl (by decide +kernel) (mRm_le (by omega) (by decide))) rfl rfl (Nat.le_of_ble_eq_true rfl) dX9_local_134 ⟨Nat.le_refl 0, Nat.le_refl 0⟩ (fun r30 u31 hw => ?_)
    obtain ⟨gr30, hw⟩ := hw
    refine mv_if_ne (tgt := 146) C dX9_local_137 (by decide) (fun h32 => ?_) (fun h32 => ?_)
    · have hw := hw.1 h32
      refine mv_aload_n C dX9_local_146 rfl 1 rfl ?_
      refine mv_callVi (f := wM cA b) (As := []) (rest := []) C eM_ok hs 0 rfl rfl (X9_scope_met (l := l) (lev := lev - 1) (by omega) hw) (cwV 0 C.2.2.2.2.1 gX9_local_X9_scope rfl rfl rfl (by decide +kernel) (mRm_le (by omega) (by decide))) rfl rfl (Nat.le_of_ble_eq_true rfl) dX9_local_147 ⟨Nat.le_refl 0, Nat.le_refl 0⟩ (fun r33 u34 hw => ?_)
      refine mv_istore (lv1 := [(7, .int r33), (6, .int z0), (0, .ref (b 0)), (1, .int x1), (2, .int x2), (3, .int x3), (4, .int x4), (5, .int x5)]) C dX9_local_150 (by decide) rfl ?_
      refine mv_aload_n C dX9_local_152 rfl 2 rfl ?_
      refine mv_get (v := .int (u34.1 12)) C iw_X9_local_X9 0 rfl rfl 32 (by decide) lk_X9_local_178 rfl rfl dX9_local_153 ?_
      refine mv_topi (fun y35 ey35 => ?_)
      have hw := hw y35 ey35
      refine mv_if_eq (tgt := 160) C dX9_local_156 (by decide) (fun h36 => ?_) (fun h36 => ?_)
      · have hw := hw.1 h36
        refine mv_aload_n C dX9_local_160 rfl 2 rfl ?_
        refine mv_iload_n C dX9_local_161 rfl 4 rfl ?_
        refine mv_iconst (v := (1 : Int32)) C dX9_local_162 (by decide) ?_
        refine mv_iadd C dX9_local_163 ?_
        refine mv_topi (fun y37 ey37 => ?_)
        have hw := hw y37 ey37
        refine mv_iload_n C dX9_local_164 rfl 4 rfl ?_
        refine mv_iconst (v := (2 : Int32)) C dX9_local_165 (by decide) ?_
        refine mv_iadd C dX9_local_166 ?_
        refine mv_topi (fun y38 ey38 => ?_)
        have hw := hw y38 ey38
        refine mv_iload C dX9_local_167 0 rfl ?_
        refine mv_callVv (f := wM cA b) (As := [.int y37, .int y38, .int r33]) (rest := []) C eM_ok hs 0 rfl rfl (X9_give_met (l := l) (lev := lev - 1) (by omega) hw) (cwV 3 C.2.2.2.2.1 gX9_local_X9_give rfl rfl rfl (by decide +kernel) (mRm_le (by omega) (by decide))) rfl rfl (Nat.le_of_ble_eq_true rfl) dX9_local_169 ⟨Nat.le_refl 0, Nat.le_refl 0⟩ (fun u40 hw => ?_)
        refine mv_aload_n C dX9_local_172 rfl 2 rfl ?_
        refine mv_iload C dX9_local_173 6 rfl ?_
        refine mv_iload_n C dX9_local_175 rfl 3 rfl ?_
        refine mv_iload C dX9_local_176 0 rfl ?_
        refine mv_callVv (f := wM cA b) (As := [.int x4, .int x1, .int r33]) (rest := []) C eM_ok hs 0 rfl rfl (X9_give_met (l := l) (lev := lev - 1) (by omega) hw) (cwV 3 C.2.2.2.2.1 gX9_local_X9_give rfl rfl rfl (by decide +kernel) (mRm_le (by omega) (by decide))) rfl rfl (Nat.le_of_ble_eq_true rfl) dX9_local_178 ⟨Nat.le_refl 0, Nat.le_refl 0⟩ (fun u42 hw => ?_)
        refine mv_aload_n C dX9_local_181 rfl 2 rfl ?_
        refine mv_aload_n C dX9_local_182 rfl 2 rfl ?_
        refine mv_get (v := .ref (b 2)) C iw_X9_local_X9 0 rfl rfl 2 (by decide) lk_X9_local_13 rfl rfl dX9_local_183 ?_
        refine mv_iload_n C dX9_local_186 rfl 4 rfl ?_
        refine mv_iconst (v := (1 : Int32)) C dX9_local_187 (by decide) ?_
        refine mv_iadd C dX9_local_188 ?_
        refine mv_topi (fun y43 ey43 => ?_)
        have hw := hw y43 ey43
        refine mv_callSi (f := wM cA b) (As := [.ref (b 2), .int y43]) (rest := [.ref (b 0)]) C eM_ok hs (X9_what_2_met (l := l) (lev := lev - 1) (by omega) hw) (va_cwS 2 C.2.2.2.2.1 gX9_local_X9_what rfl rfl rfl (by decide +kernel) (mRm_le (by omega) (by decide))) rfl rfl (Nat.le_of_ble_eq_true rfl) dX9_local_189 ⟨Nat.le_refl 0, Nat.le_refl 0⟩ (fun r44 u45 hw => ?_)
        refine mv_aload_n C dX9_local_192 rfl 2 rfl ?_
        refine mv_get (v := .ref (b 3)) C iw_X9_local_X9 0 rfl rfl 3 (by decide) lk_X9_local_16 rfl rfl dX9_local_193 ?_
        refine mv_iload_n C dX9_local_196 rfl 4 rfl ?_
        refine mv_iconst (v := (1 : Int32)) C dX9_local_197 (by decide) ?_
        refine mv_iadd C dX9_local_198 ?_
        refine mv_topi (fun y46 ey46 => ?_)
        have hw := hw y46 ey46
        refine mv_iald (f := u45.2 2) C 3 0 rfl rfl hw.1 dX9_local_199 ?_
        refine mv_topi (fun y47 ey47 => ?_)
        have hw := hw.2 y47 ey47
        refine mv_iconst (v := (3 : Int32)) C dX9_local_200 (by decide) ?_
        refine mv_iload C dX9_local_201 7 rfl ?_
        refine mv_iload C dX9_local_203 1 rfl ?_
        refine mv_callVv (f := wM cA b) (As := [.int r44, .int y47, .int (3 : Int32), .int x5, .int z0]) (rest := []) C eM_ok hs 0 rfl rfl (X9_bind_met (l := l) (lev := lev - 1) (by omega) hw) (cwV 5 C.2.2.2.2.1 gX9_local_X9_bind rfl rfl rfl (by decide +kernel) (mRm_le (by omega) (by decide))) rfl rfl (Nat.le_of_ble_eq_true rfl) dX9_local_205 ⟨Nat.le_refl 0, Nat.le_refl 0⟩ (fun u49 hw => ?_)
        refine mv_aload_n C dX9_local_208 rfl 2 rfl ?_
        refine mv_iload C dX9_local_209 1 rfl ?_
        refine mv_put (ty := .int) (ws1 := wM cA b (mSet u49 2 z0)) C iw_X9_local_X9 tyX9 tyX9_ok nmX9 0 rfl rfl 7 (by decide) lk_X9_local_274 rfl rfl rfl rfl rfl (Nat.le_of_ble_eq_true rfl) rfl dX9_local_211 ?_
        refine mv_nm (f := wM cA b) (fun u50 eu50 => ?_)
        have hw := hw u50 eu50
        refine mv_aload_n C dX9_local_214 rfl 2 rfl ?_
        refine mv_get (v := .ref (b 2)) C iw_X9_local_X9 0 rfl rfl 2 (by decide) lk_X9_local_13 rfl rfl dX9_local_215 ?_
        refine mv_iload_n C dX9_local_218 rfl 3 rfl ?_
        refine mv_iconst (v := (1 : Int32)) C dX9_local_219 (by decide) ?_
        refine mv_isub C dX9_local_220 ?_
        refine mv_topi (fun y51 ey51 => ?_)
        have hw := hw y51 ey51
        refine mv_ldcw (v := (458752 : Int32)) C mw_X9_local__constant_RX9_277_458752_Int32_ dX9_local_221 ?_
        refine mv_iast (f := u50.2 1) (ws1 := wM cA b (mPut u50 1 y51.toNatClampNeg (458752 : Int32))) C 2 0 rfl rfl hw.1 rfl dX9_local_224 ?_
        refine mv_nm (f := wM cA b) (fun u52 eu52 => ?_)
        have hw := hw.2 u52 eu52
        refine mv_aload_n C dX9_local_225 rfl 2 rfl ?_
        refine mv_dup C dX9_local_226 rfl ?_
        refine mv_get (v := .int (u52.1 11)) C iw_X9_local_X9 0 rfl rfl 31 (by decide) lk_X9_local_271 rfl rfl dX9_local_227 ?_
        refine mv_topi (fun y53 ey53 => ?_)
        have hw := hw y53 ey53
        refine mv_iconst (v := (1 : Int32)) C dX9_local_230 (by decide) ?_
        refine mv_iadd C dX9_local_231 ?_
        refine mv_topi (fun y54 ey54 => ?_)
        have hw := hw y54 ey54
        refine mv_put (ty := .int) (ws1 := wM cA b (mSet u52 11 y54)) C iw_X9_local_X9 tyX9 tyX9_ok nmX9 0 rfl rfl 31 (by decide) lk_X9_local_271 rfl rfl rfl rfl rfl (Nat.le_of_ble_eq_true rfl) rfl dX9_local_232 ?_
        refine mv_nm (f := wM cA b) (fun u55 eu55 => ?_)
        have hw := hw u55 eu55
        refine mv_aload_n C dX9_local_235 rfl 2 rfl ?_
        refine mv_iload C dX9_local_236 6 rfl ?_
        refine mv_put (ty := .int) (ws1 := wM cA b (mSet u55 1 x4)) C iw_X9_local_X9 tyX9 tyX9_ok nmX9 0 rfl rfl 4 (by decide) lk_X9_local_104 rfl rfl rfl rfl rfl (Nat.le_of_ble_eq_true rfl) rfl dX9_local_238 ?_
        refine mv_nm (f := wM cA b) (fun u56 eu56 => ?_)
        have hw := hw u56 eu56
        exact mv_vret C dX9_local_241 hw
      · have hw := hw.2 h36
        exact mv_vret C dX9_local_159 hw
    · have hw := hw.2 h32
      refine mv_sub [1] rfl ?_
      exact wj_X9_local_140_ok C hs hlev hw
set_option maxHeartbeats 4000000 in
set_option maxRecDepth 100000 in
theorem wj_X9_local_93_ok (C : mC p s m args meth c cX9_local 8 wsX9_local RX9 none (dC, dI) vwCl [(cA, .int)] A) (hs : eM A s) (hlev : 6 ≤ lev) {post : mS → Prop} {x1 x2 x3 z0 : Int32} {u : mS} (hw : wj_X9_local_93 post x1 x2 x3 z0 u) : mV p l e (mRm lev) s m args below meth c 8 (dC, dI) vwCl A 0 0 (mQv below args s (dC, dI) vwCl [(cA, .int)] (wM cA b) A post) (wM cA b u) 93 [(0, .ref (b 0)), (1, .int x1), (2, .int x2), (3, .int x3)] [.int z0] := by
  unfold wj_X9_local_93 at hw
  refine mv_istore (lv1 := [(4, .int z0), (0, .ref (b 0)), (1, .int x1), (2, .int x2), (3, .int x3)]) C dX9_local_93 (by decide) rfl ?_
  refine mv_aload_n C dX9_local_95 rfl 1 rfl ?_
  refine mv_get (v := .int (u.1 2)) C iw_X9_local_X9 0 rfl rfl 7 (by decide) lk_X9_local_274 rfl rfl dX9_local_96 ?_
  refine mv_topi (fun y23 ey23 => ?_)
  have hw := hw y23 ey23
  refine mv_istore (lv1 := [(5, .int y23), (4, .int z0), (0, .ref (b 0)), (1, .int x1), (2, .int x2), (3, .int x3)]) C dX9_local_99 (by decide) rfl ?_
  refine mv_iload_n C dX9_local_101 rfl 5 rfl ?_
  refine mv_if_eq (tgt := 121) C dX9_local_102 (by decide) (fun h24 => ?_) (fun h24 => ?_)
  · have hw := hw.1 h24
    refine mv_iload C dX9_local_121 0 rfl ?_
    refine mv_sub [2, 3, 4, 5, 1, 0] rfl ?_
    exact wj_X9_local_123_ok C hs hlev hw
  · have hw := hw.2 h24
    refine mv_aload_n C dX9_local_105 rfl 2 rfl ?_
    refine mv_iload_n C dX9_local_106 rfl 4 rfl ?_
    refine mv_iconst (v := (2 : Int32)) C dX9_local_107 (by decide) ?_
    refine mv_iadd C dX9_local_108 ?_
    refine mv_topi (fun y25 ey25 => ?_)
    have hw := hw y25 ey25
    refine mv_iload C dX9_local_109 1 rfl ?_
    refine mv_iconst (v := (1 : Int32)) C dX9_local_111 (by decide) ?_
    refine mv_isub C dX9_local_112 ?_
    refine mv_topi (fun y26 ey26 => ?_)
    have hw := hw y26 ey26
    refine mv_iload C dX9_local_113 0 rfl ?_
    refine mv_callVi (f := wM cA b) (As := [.int y25, .int y26, .int y23]) (rest := []) C eM_ok hs 0 rfl rfl (X9_keep_met (l := l) (lev := lev - 1) (by omega) hw) (cwV 3 C.2.2.2.2.1 gX9_local_X9_keep rfl rfl rfl (by decide +kernel) (mRm_le (by omega) (by decide))) rfl rfl (Nat.le_of_ble_eq_true rfl) dX9_local_115 ⟨Nat.le_refl 0, Nat.le_refl 0⟩ (fun r27 u28 hw => ?_)
    refine mv_goto (tgt := 123) C dX9_local_118 (by decide) ?_
    refine mv_sub [2, 3, 4, 5, 1, 0] rfl ?_
    exact wj_X9_local_123_ok C hs hlev hw
set_option maxHeartbeats 4000000 in
set_option maxRecDepth 100000 in
theorem wj_X9_local_76_ok (C : mC p s m args meth c cX9_local 8 wsX9_local RX9 none (dC, dI) vwCl [(cA, .int)] A) (hs : eM A s) (hlev : 6 ≤ lev) {post : mS → Prop} {x1 x2 z0 : Int32} {u : mS} (hw : wj_X9_local_76 post x1 x2 z0 u) : mV p l e (mRm lev) s m args below meth c 8 (dC, dI) vwCl A 0 0 (mQv below args s (dC, dI) vwCl [(cA, .int)] (wM cA b) A post) (wM cA b u) 76 [(0, .ref (b 0)), (1, .int x1), (2, .int x2)] [.int z0] := by
  unfold wj_X9_local_76 at hw
  refine mv_istore_n (lv1 := [(3, .int z0), (0, .ref (b 0)), (1, .int x1), (2, .int x2)]) C dX9_local_76 rfl (by decide) rfl ?_
  refine mv_iload_n C dX9_local_77 rfl 0 rfl ?_
  refine mv_if_eq (tgt := 92) C dX9_local_78 (by decide) (fun h20 => ?_) (fun h20 => ?_)
  · have hw := hw.1 h20
    refine mv_iconst (v := (0 : Int32)) C dX9_local_92 (by decide) ?_
    refine mv_sub [1, 2, 3, 0] rfl ?_
    exact wj_X9_local_93_ok C hs hlev hw
  · have hw := hw.2 h20
    refine mv_aload_n C dX9_local_81 rfl 1 rfl ?_
    refine mv_get (v := .ref (b 2)) C iw_X9_local_X9 0 rfl rfl 2 (by decide) lk_X9_local_13 rfl rfl dX9_local_82 ?_
    refine mv_iload_n C dX9_local_85 rfl 3 rfl ?_
    refine mv_callSi (f := wM cA b) (As := [.ref (b 2), .int x2]) (rest := []) C eM_ok hs (X9_end_2_met (l := l) (lev := lev - 1) (by omega) hw) (va_cwS 2 C.2.2.2.2.1 gX9_local_X9_end rfl rfl rfl (by decide +kernel) (mRm_le (by omega) (by decide))) rfl rfl (Nat.le_of_ble_eq_true rfl) dX9_local_86 ⟨Nat.le_refl 0, Nat.le_refl 0⟩ (fun r21 u22 hw => ?_)
    refine mv_goto (tgt := 93) C dX9_local_89 (by decide) ?_
    refine mv_sub [1, 2, 3, 0] rfl ?_
    exact wj_X9_local_93_ok C hs hlev hw
set_option maxHeartbeats 4000000 in
set_option maxRecDepth 100000 in
theorem wj_X9_local_75_ok (C : mC p s m args meth c cX9_local 8 wsX9_local RX9 none (dC, dI) vwCl [(cA, .int)] A) (hs : eM A s) (hlev : 6 ≤ lev) {post : mS → Prop} {x1 x2 : Int32} {u : mS} (hw : wj_X9_local_75 post x1 x2 u) : mV p l e (mRm lev) s m args below meth c 8 (dC, dI) vwCl A 0 0 (mQv below args s (dC, dI) vwCl [(cA, .int)] (wM cA b) A post) (wM cA b u) 75 [(0, .ref (b 0)), (1, .int x1), (2, .int x2)] [] := by
  unfold wj_X9_local_75 at hw
  refine mv_iconst (v := (0 : Int32)) C dX9_local_75 (by decide) ?_
  exact wj_X9_local_76_ok C hs hlev hw
set_option maxHeartbeats 4000000 in
set_option maxRecDepth 100000 in
theorem X9_local_met (hlev : 6 ≤ lev) {u : mS} {post : mS → Prop} (hw : wp_X9_local  u post) : mKv l yX9_local wsX9_local lev (eM) (dC, dI) vwCl [(cA, .int)] (wM cA b) [.ref (b 0)] u post := by
  refine mKv_of (cc := cX9_local) (maxL := 8) (by decide) rfl rfl (Nat.le_of_ble_eq_true rfl) rfl ?_
  intro p e s m args below meth c A C hs
  unfold wp_X9_local at hw
  refine mv_aload_n C dX9_local_0 rfl 0 rfl ?_
  refine mv_get (v := .ref (b 2)) C iw_X9_local_X9 0 rfl rfl 2 (by decide) lk_X9_local_13 rfl rfl dX9_local_1 ?_
  refine mv_aload_n C dX9_local_4 rfl 0 rfl ?_
  refine mv_get (v := .int (u.1 1)) C iw_X9_local_X9 0 rfl rfl 4 (by decide) lk_X9_local_104 rfl rfl dX9_local_5 ?_
  refine mv_topi (fun y1 ey1 => ?_)
  have hw := hw y1 ey1
  refine mv_callSi (f := wM cA b) (As := [.ref (b 2), .int y1]) (rest := []) C eM_ok hs (X9_end_2_met (l := l) (lev := lev - 1) (by omega) hw) (va_cwS 2 C.2.2.2.2.1 gX9_local_X9_end rfl rfl rfl (by decide +kernel) (mRm_le (by omega) (by decide))) rfl rfl (Nat.le_of_ble_eq_true rfl) dX9_local_8 ⟨Nat.le_refl 0, Nat.le_refl 0⟩ (fun r2 u3 hw => ?_)
  refine mv_istore_n (lv1 := [(1, .int r2), (0, .ref (b 0))]) C dX9_local_11 rfl (by decide) rfl ?_
  refine mv_aload_n C dX9_local_12 rfl 1 rfl ?_
  refine mv_get (v := .int (u3.1 1)) C iw_X9_local_X9 0 rfl rfl 4 (by decide) lk_X9_local_104 rfl rfl dX9_local_13 ?_
  refine mv_topi (fun y4 ey4 => ?_)
  have hw := hw y4 ey4
  refine mv_iconst (v := (2 : Int32)) C dX9_local_16 (by decide) ?_
  refine mv_iadd C dX9_local_17 ?_
  refine mv_topi (fun y5 ey5 => ?_)
  have hw := hw y5 ey5
  refine mv_istore_n (lv1 := [(2, .int y5), (1, .int r2), (0, .ref (b 0))]) C dX9_local_18 rfl (by decide) rfl ?_
  refine mv_aload_n C dX9_local_19 rfl 2 rfl ?_
  refine mv_get (v := .ref (b 2)) C iw_X9_local_X9 0 rfl rfl 2 (by decide) lk_X9_local_13 rfl rfl dX9_local_20 ?_
  refine mv_aload_n C dX9_local_23 rfl 2 rfl ?_
  refine mv_get (v := .int (u3.1 1)) C iw_X9_local_X9 0 rfl rfl 4 (by decide) lk_X9_local_104 rfl rfl dX9_local_24 ?_
  refine mv_topi (fun y6 ey6 => ?_)
  have hw := hw y6 ey6
  refine mv_iconst (v := (3 : Int32)) C dX9_local_27 (by decide) ?_
  refine mv_callSi (f := wM cA b) (As := [.ref (b 2), .int y6, .int (3 : Int32)]) (rest := []) C eM_ok hs (X9_isPlain_2_met (l := l) (lev := lev - 1) (by omega) hw) (va_cwS 3 C.2.2.2.2.1 gX9_local_X9_isPlain rfl rfl rfl (by decide +kernel) (mRm_le (by omega) (by decide))) rfl rfl (Nat.le_of_ble_eq_true rfl) dX9_local_28 ⟨Nat.le_refl 0, Nat.le_refl 0⟩ (fun r7 u8 hw => ?_)
  obtain ⟨gr7, hw⟩ := hw
  refine mv_if_eq (tgt := 75) C dX9_local_31 (by decide) (fun h9 => ?_) (fun h9 => ?_)
  · have hw := hw.1 h9
    refine mv_sub [2, 1, 0] rfl ?_
    exact wj_X9_local_75_ok C hs hlev hw
  · have hw := hw.2 h9
    refine mv_aload_n C dX9_local_34 rfl 2 rfl ?_
    refine mv_get (v := .ref (b 2)) C iw_X9_local_X9 0 rfl rfl 2 (by decide) lk_X9_local_13 rfl rfl dX9_local_35 ?_
    refine mv_iload_n C dX9_local_38 rfl 0 rfl ?_
    refine mv_callSi (f := wM cA b) (As := [.ref (b 2), .int y5]) (rest := []) C eM_ok hs (X9_kind_2_met (l := l) (lev := lev - 1) (by omega) hw) (va_cwS 2 C.2.2.2.2.1 gX9_local_X9_kind rfl rfl rfl (by decide +kernel) (mRm_le (by omega) (by decide))) rfl rfl (Nat.le_of_ble_eq_true rfl) dX9_local_39 ⟨Nat.le_refl 0, Nat.le_refl 0⟩ (fun r10 u11 hw => ?_)
    refine mv_iconst (v := (1 : Int32)) C dX9_local_42 (by decide) ?_
    refine mv_icmp_ne (tgt := 75) C dX9_local_43 (by decide) (fun h12 => ?_) (fun h12 => ?_)
    · have hw := hw.1 h12
      refine mv_sub [2, 1, 0] rfl ?_
      exact wj_X9_local_75_ok C hs hlev hw
    · have hw := hw.2 h12
      refine mv_aload_n C dX9_local_46 rfl 2 rfl ?_
      refine mv_get (v := .ref (b 2)) C iw_X9_local_X9 0 rfl rfl 2 (by decide) lk_X9_local_13 rfl rfl dX9_local_47 ?_
      refine mv_iload_n C dX9_local_50 rfl 0 rfl ?_
      refine mv_iconst (v := (1 : Int32)) C dX9_local_51 (by decide) ?_
      refine mv_iadd C dX9_local_52 ?_
      refine mv_topi (fun y13 ey13 => ?_)
      have hw := hw y13 ey13
      refine mv_callSi (f := wM cA b) (As := [.ref (b 2), .int y13]) (rest := []) C eM_ok hs (X9_kind_2_met (l := l) (lev := lev - 1) (by omega) hw) (va_cwS 2 C.2.2.2.2.1 gX9_local_X9_kind rfl rfl rfl (by decide +kernel) (mRm_le (by omega) (by decide))) rfl rfl (Nat.le_of_ble_eq_true rfl) dX9_local_53 ⟨Nat.le_refl 0, Nat.le_refl 0⟩ (fun r14 u15 hw => ?_)
      refine mv_iconst (v := (3 : Int32)) C dX9_local_56 (by decide) ?_
      refine mv_icmp_ne (tgt := 75) C dX9_local_57 (by decide) (fun h16 => ?_) (fun h16 => ?_)
      · have hw := hw.1 h16
        refine mv_sub [2, 1, 0] rfl ?_
        exact wj_X9_local_75_ok C hs hlev hw
      · have hw := hw.2 h16
        refine mv_aload_n C dX9_local_60 rfl 2 rfl ?_
        refine mv_get (v := .ref (b 2)) C iw_X9_local_X9 0 rfl rfl 2 (by decide) lk_X9_local_13 rfl rfl dX9_local_61 ?_
        refine mv_iload_n C dX9_local_64 rfl 0 rfl ?_
        refine mv_callSi (f := wM cA b) (As := [.ref (b 2), .int y5]) (rest := []) C eM_ok hs (X9_dots_2_met (l := l) (lev := lev - 1) (by omega) hw) (va_cwS 2 C.2.2.2.2.1 gX9_local_X9_dots rfl rfl rfl (by decide +kernel) (mRm_le (by omega) (by decide))) rfl rfl (Nat.le_of_ble_eq_true rfl) dX9_local_65 ⟨Nat.le_refl 0, Nat.le_refl 0⟩ (fun r17 u18 hw => ?_)
        refine mv_if_ne (tgt := 75) C dX9_local_68 (by decide) (fun h19 => ?_) (fun h19 => ?_)
        · have hw := hw.1 h19
          refine mv_sub [2, 1, 0] rfl ?_
          exact wj_X9_local_75_ok C hs hlev hw
        · have hw := hw.2 h19
          refine mv_iconst (v := (1 : Int32)) C dX9_local_71 (by decide) ?_
          refine mv_goto (tgt := 76) C dX9_local_72 (by decide) ?_
          refine mv_sub [2, 1, 0] rfl ?_
          exact wj_X9_local_76_ok C hs hlev hw
set_option maxHeartbeats 4000000 in
set_option maxRecDepth 100000 in
theorem wj_X9_function_106_ok (C : mC p s m args meth c cX9_function 9 wsX9_function RX9 none (dC, dI) vwCl [(cA, .int)] A) (hs : eM A s) (hlev : 4 ≤ lev) {post : mS → Prop} {K75 : Int32 → Int32 → Int32 → Int32 → Int32 → mS → Prop} (hK75 : ∀ (x1 x2 x3 x4 x5 : Int32) (u : mS), K75 x1 x2 x3 x4 x5 u → mV p l e (mRm lev) s m args below meth c 9 (dC, dI) vwCl A 0 0 (mQv below args s (dC, dI) vwCl [(cA, .int)] (wM cA b) A post) (wM cA b u) 75 [(0, .ref (b 0)), (1, .int x1), (2, .int x2), (3, .int x3), (4, .int x4), (5, .int x5)] []) {x1 x2 x4 x5 z0 : Int32} {u : mS} (hw : wj_X9_function_106 K75 post x1 x2 x4 x5 z0 u) : mV p l e (mRm lev) s m args below meth c 9 (dC, dI) vwCl A 0 0 (mQv below args s (dC, dI) vwCl [(cA, .int)] (wM cA b) A post) (wM cA b u) 106 [(0, .ref (b 0)), (1, .int x1), (2, .int x2), (4, .int x4), (5, .int x5)] [.int z0] := by
  unfold wj_X9_function_106 at hw
  refine mv_istore_n (lv1 := [(3, .int z0), (0, .ref (b 0)), (1, .int x1), (2, .int x2), (4, .int x4), (5, .int x5)]) C dX9_function_106 rfl (by decide) rfl ?_
  obtain ⟨y34, ey34⟩ : ∃ z : Int32, z = x5 + (1 : Int32) := ⟨_, rfl⟩
  have hw := hw y34 ey34
  refine mv_iinc (v := y34) (lv1 := [(5, .int y34), (3, .int z0), (0, .ref (b 0)), (1, .int x1), (2, .int x2), (4, .int x4)]) C dX9_function_107 5 rfl (by rw [ey34]; rfl) (by decide) rfl ?_
  refine mv_goto (tgt := 75) C dX9_function_110 (by decide) ?_
  refine mv_sub [2, 3, 4, 1, 5, 0] rfl ?_
  exact hK75 x1 x2 z0 x4 y34 u hw
set_option maxHeartbeats 4000000 in
set_option maxRecDepth 100000 in
theorem wj_X9_function_105_ok (C : mC p s m args meth c cX9_function 9 wsX9_function RX9 none (dC, dI) vwCl [(cA, .int)] A) (hs : eM A s) (hlev : 4 ≤ lev) {post : mS → Prop} {K75 : Int32 → Int32 → Int32 → Int32 → Int32 → mS → Prop} (hK75 : ∀ (x1 x2 x3 x4 x5 : Int32) (u : mS), K75 x1 x2 x3 x4 x5 u → mV p l e (mRm lev) s m args below meth c 9 (dC, dI) vwCl A 0 0 (mQv below args s (dC, dI) vwCl [(cA, .int)] (wM cA b) A post) (wM cA b u) 75 [(0, .ref (b 0)), (1, .int x1), (2, .int x2), (3, .int x3), (4, .int x4), (5, .int x5)] []) {x1 x2 x4 x5 : Int32} {u : mS} (hw : wj_X9_function_105 K75 post x1 x2 x4 x5 u) : mV p l e (mRm lev) s m args below meth c 9 (dC, dI) vwCl A 0 0 (mQv below args s (dC, dI) vwCl [(cA, .int)] (wM cA b) A post) (wM cA b u) 105 [(0, .ref (b 0)), (1, .int x1), (2, .int x2), (4, .int x4), (5, .int x5)] [] := by
  unfold wj_X9_function_105 at hw
  refine mv_iconst (v := (0 : Int32)) C dX9_function_105 (by decide) ?_
  exact wj_X9_function_106_ok C hs hlev hK75 hw
set_option maxHeartbeats 4000000 in
set_option maxRecDepth 100000 in
theorem wj_X9_function_223_ok (C : mC p s m args meth c cX9_function 9 wsX9_function RX9 none (dC, dI) vwCl [(cA, .int)] A) (hs : eM A s) (hlev : 4 ≤ lev) {post : mS → Prop} {K156 : Int32 → Int32 → Int32 → Int32 → mS → Prop} (hK156 : ∀ (x2 x4 x6 x7 : Int32) (u : mS), K156 x2 x4 x6 x7 u → mV p l e (mRm lev) s m args below meth c 9 (dC, dI) vwCl A 0 0 (mQv below args s (dC, dI) vwCl [(cA, .int)] (wM cA b) A post) (wM cA b u) 156 [(0, .ref (b 0)), (2, .int x2), (4, .int x4), (6, .int x6), (7, .int x7)] []) {K177 : Int32 → Int32 → Int32 → Int32 → Int32 → mS → Prop} (hK177 : ∀ (x2 x4 x6 x7 x8 : Int32) (u : mS), K177 x2 x4 x6 x7 x8 u → mV p l e (mRm lev) s m args below meth c 9 (dC, dI) vwCl A 0 0 (mQv below args s (dC, dI) vwCl [(cA, .int)] (wM cA b) A post) (wM cA b u) 177 [(0, .ref (b 0)), (2, .int x2), (4, .int x4), (6, .int x6), (7, .int x7), (8, .int x8)] []) {x2 x4 x6 x7 x8 : Int32} {u : mS} (hw : wj_X9_function_223 K156 K177 post x2 x4 x6 x7 x8 u) : mV p l e (mRm lev) s m args below meth c 9 (dC, dI) vwCl A 0 0 (mQv below args s (dC, dI) vwCl [(cA, .int)] (wM cA b) A post) (wM cA b u) 223 [(0, .ref (b 0)), (2, .int x2), (4, .int x4), (6, .int x6), (7, .int x7), (8, .int x8)] [] := by
  unfold wj_X9_function_223 at hw
  obtain ⟨y57, ey57⟩ : ∃ z : Int32, z = x8 + (1 : Int32) := ⟨_, rfl⟩
  have hw := hw y57 ey57
  refine mv_iinc (v := y57) (lv1 := [(8, .int y57), (0, .ref (b 0)), (2, .int x2), (4, .int x4), (6, .int x6), (7, .int x7)]) C dX9_function_223 5 rfl (by rw [ey57]; rfl) (by decide) rfl ?_
  refine mv_goto (tgt := 177) C dX9_function_226 (by decide) ?_
  refine mv_sub [1, 2, 3, 4, 5, 0] rfl ?_
  exact hK177 x2 x4 x6 x7 y57 u hw
set_option maxHeartbeats 4000000 in
set_option maxRecDepth 100000 in
theorem wj_X9_function_283_ok (C : mC p s m args meth c cX9_function 9 wsX9_function RX9 none (dC, dI) vwCl [(cA, .int)] A) (hs : eM A s) (hlev : 4 ≤ lev) {post : mS → Prop} {K156 : Int32 → Int32 → Int32 → Int32 → mS → Prop} (hK156 : ∀ (x2 x4 x6 x7 : Int32) (u : mS), K156 x2 x4 x6 x7 u → mV p l e (mRm lev) s m args below meth c 9 (dC, dI) vwCl A 0 0 (mQv below args s (dC, dI) vwCl [(cA, .int)] (wM cA b) A post) (wM cA b u) 156 [(0, .ref (b 0)), (2, .int x2), (4, .int x4), (6, .int x6), (7, .int x7)] []) {x2 x4 x6 x7 z0 : Int32} {u : mS} (hw : wj_X9_function_283 K156 post x2 x4 x6 x7 z0 u) : mV p l e (mRm lev) s m args below meth c 9 (dC, dI) vwCl A 0 0 (mQv below args s (dC, dI) vwCl [(cA, .int)] (wM cA b) A post) (wM cA b u) 283 [(0, .ref (b 0)), (2, .int x2), (4, .int x4), (6, .int x6), (7, .int x7)] [.int z0, .ref (b 0)] := by
  unfold wj_X9_function_283 at hw
  refine mv_put (ty := .int) (ws1 := wM cA b (mSet u 14 z0)) C iw_X9_function_X9 tyX9 tyX9_ok nmX9 0 rfl rfl 34 (by decide) lk_X9_function_265 rfl rfl rfl rfl rfl (Nat.le_of_ble_eq_true rfl) rfl dX9_function_283 ?_
  refine mv_nm (f := wM cA b) (fun u63 eu63 => ?_)
  have hw := hw u63 eu63
  obtain ⟨y64, ey64⟩ : ∃ z : Int32, z = x7 + (1 : Int32) := ⟨_, rfl⟩
  have hw := hw y64 ey64
  refine mv_iinc (v := y64) (lv1 := [(7, .int y64), (0, .ref (b 0)), (2, .int x2), (4, .int x4), (6, .int x6)]) C dX9_function_286 4 rfl (by rw [ey64]; rfl) (by decide) rfl ?_
  refine mv_goto (tgt := 156) C dX9_function_289 (by decide) ?_
  refine mv_sub [1, 2, 3, 4, 0] rfl ?_
  exact hK156 x2 x4 x6 y64 u63 hw
set_option maxHeartbeats 4000000 in
set_option maxRecDepth 100000 in
theorem wj_X9_function_262_ok (C : mC p s m args meth c cX9_function 9 wsX9_function RX9 none (dC, dI) vwCl [(cA, .int)] A) (hs : eM A s) (hlev : 4 ≤ lev) {post : mS → Prop} {K156 : Int32 → Int32 → Int32 → Int32 → mS → Prop} (hK156 : ∀ (x2 x4 x6 x7 : Int32) (u : mS), K156 x2 x4 x6 x7 u → mV p l e (mRm lev) s m args below meth c 9 (dC, dI) vwCl A 0 0 (mQv below args s (dC, dI) vwCl [(cA, .int)] (wM cA b) A post) (wM cA b u) 156 [(0, .ref (b 0)), (2, .int x2), (4, .int x4), (6, .int x6), (7, .int x7)] []) {x2 x4 x6 x7 : Int32} {u : mS} (hw : wj_X9_function_262 K156 post x2 x4 x6 x7 u) : mV p l e (mRm lev) s m args below meth c 9 (dC, dI) vwCl A 0 0 (mQv below args s (dC, dI) vwCl [(cA, .int)] (wM cA b) A post) (wM cA b u) 262 [(0, .ref (b 0)), (2, .int x2), (4, .int x4), (6, .int x6), (7, .int x7)] [] := by
  unfold wj_X9_function_262 at hw
  refine mv_aload_n C dX9_function_262 rfl 0 rfl ?_
  refine mv_aload_n C dX9_function_263 rfl 0 rfl ?_
  refine mv_get (v := .int (u.1 12)) C iw_X9_function_X9 0 rfl rfl 32 (by decide) lk_X9_function_178 rfl rfl dX9_function_264 ?_
  refine mv_topi (fun y58 ey58 => ?_)
  have hw := hw y58 ey58
  refine mv_if_ne (tgt := 279) C dX9_function_267 (by decide) (fun h59 => ?_) (fun h59 => ?_)
  · have hw := hw.1 h59
    refine mv_aload_n C dX9_function_279 rfl 0 rfl ?_
    refine mv_get (v := .int (u.1 14)) C iw_X9_function_X9 0 rfl rfl 34 (by decide) lk_X9_function_265 rfl rfl dX9_function_280 ?_
    refine mv_topi (fun y60 ey60 => ?_)
    have hw := hw y60 ey60
    exact wj_X9_function_283_ok C hs hlev hK156 hw
  · have hw := hw.2 h59
    refine mv_aload_n C dX9_function_270 rfl 0 rfl ?_
    refine mv_get (v := .int (u.1 14)) C iw_X9_function_X9 0 rfl rfl 34 (by decide) lk_X9_function_265 rfl rfl dX9_function_271 ?_
    refine mv_topi (fun y61 ey61 => ?_)
    have hw := hw y61 ey61
    refine mv_iconst (v := (1 : Int32)) C dX9_function_274 (by decide) ?_
    refine mv_iadd C dX9_function_275 ?_
    refine mv_topi (fun y62 ey62 => ?_)
    have hw := hw y62 ey62
    refine mv_goto (tgt := 283) C dX9_function_276 (by decide) ?_
    exact wj_X9_function_283_ok C hs hlev hK156 hw
set_option maxHeartbeats 4000000 in
set_option maxRecDepth 100000 in
theorem wj_X9_function_177_ok (C : mC p s m args meth c cX9_function 9 wsX9_function RX9 none (dC, dI) vwCl [(cA, .int)] A) (hs : eM A s) (hlev : 4 ≤ lev) {post : mS → Prop} {K177 : Int32 → Int32 → Int32 → Int32 → Int32 → mS → Prop} (hK177 : ∀ (x2 x4 x6 x7 x8 : Int32) (u : mS), K177 x2 x4 x6 x7 x8 u → mV p l e (mRm lev) s m args below meth c 9 (dC, dI) vwCl A 0 0 (mQv below args s (dC, dI) vwCl [(cA, .int)] (wM cA b) A post) (wM cA b u) 177 [(0, .ref (b 0)), (2, .int x2), (4, .int x4), (6, .int x6), (7, .int x7), (8, .int x8)] []) {K156 : Int32 → Int32 → Int32 → Int32 → mS → Prop} (hK156 : ∀ (x2 x4 x6 x7 : Int32) (u : mS), K156 x2 x4 x6 x7 u → mV p l e (mRm lev) s m args below meth c 9 (dC, dI) vwCl A 0 0 (mQv below args s (dC, dI) vwCl [(cA, .int)] (wM cA b) A post) (wM cA b u) 156 [(0, .ref (b 0)), (2, .int x2), (4, .int x4), (6, .int x6), (7, .int x7)] []) {x2 x4 x6 x7 x8 : Int32} {u : mS} (hw : wj_X9_function_177 K177 K156 post x2 x4 x6 x7 x8 u) : mV p l e (mRm lev) s m args below meth c 9 (dC, dI) vwCl A 0 0 (mQv below args s (dC, dI) vwCl [(cA, .int)] (wM cA b) A post) (wM cA b u) 177 [(0, .ref (b 0)), (2, .int x2), (4, .int x4), (6, .int x6), (7, .int x7), (8, .int x8)] [] := by
  unfold wj_X9_function_177 at hw
  refine mv_iload C dX9_function_177 5 rfl ?_
  refine mv_iload C dX9_function_179 4 rfl ?_
  refine mv_icmp_ge (tgt := 229) C dX9_function_181 (by decide) (fun h40 => ?_) (fun h40 => ?_)
  · have hw := hw.1 h40
    refine mv_aload_n C dX9_function_229 rfl 0 rfl ?_
    refine mv_get (v := .int (u.1 12)) C iw_X9_function_X9 0 rfl rfl 32 (by decide) lk_X9_function_178 rfl rfl dX9_function_230 ?_
    refine mv_topi (fun y41 ey41 => ?_)
    have hw := hw y41 ey41
    refine mv_if_ne (tgt := 262) C dX9_function_233 (by decide) (fun h42 => ?_) (fun h42 => ?_)
    · have hw := hw.1 h42
      refine mv_sub [0, 1, 2, 3, 4] rfl ?_
      exact wj_X9_function_262_ok C hs hlev hK156 hw
    · have hw := hw.2 h42
      refine mv_aload_n C dX9_function_236 rfl 0 rfl ?_
      refine mv_aload_n C dX9_function_237 rfl 0 rfl ?_
      refine mv_get (v := .ref (b 2)) C iw_X9_function_X9 0 rfl rfl 2 (by decide) lk_X9_function_13 rfl rfl dX9_function_238 ?_
      refine mv_iload C dX9_function_241 4 rfl ?_
      refine mv_callSi (f := wM cA b) (As := [.ref (b 2), .int x7]) (rest := [.ref (b 0)]) C eM_ok hs (X9_what_2_met (l := l) (lev := lev - 1) (by omega) hw) (va_cwS 2 C.2.2.2.2.1 gX9_function_X9_what rfl rfl rfl (by decide +kernel) (mRm_le (by omega) (by decide))) rfl rfl (Nat.le_of_ble_eq_true rfl) dX9_function_243 ⟨Nat.le_refl 0, Nat.le_refl 0⟩ (fun r43 u44 hw => ?_)
      refine mv_aload_n C dX9_function_246 rfl 0 rfl ?_
      refine mv_get (v := .ref (b 3)) C iw_X9_function_X9 0 rfl rfl 3 (by decide) lk_X9_function_16 rfl rfl dX9_function_247 ?_
      refine mv_iload C dX9_function_250 4 rfl ?_
      refine mv_iald (f := u44.2 2) C 3 0 rfl rfl hw.1 dX9_function_252 ?_
      refine mv_topi (fun y45 ey45 => ?_)
      have hw := hw.2 y45 ey45
      refine mv_iconst (v := (2 : Int32)) C dX9_function_253 (by decide) ?_
      refine mv_aload_n C dX9_function_254 rfl 0 rfl ?_
      refine mv_get (v := .int (u44.1 14)) C iw_X9_function_X9 0 rfl rfl 34 (by decide) lk_X9_function_265 rfl rfl dX9_function_255 ?_
      refine mv_topi (fun y46 ey46 => ?_)
      have hw := hw y46 ey46
      refine mv_iconst (v := (0 : Int32)) C dX9_function_258 (by decide) ?_
      refine mv_callVv (f := wM cA b) (As := [.int r43, .int y45, .int (2 : Int32), .int y46, .int (0 : Int32)]) (rest := []) C eM_ok hs 0 rfl rfl (X9_bind_met (l := l) (lev := lev - 1) (by omega) hw) (cwV 5 C.2.2.2.2.1 gX9_function_X9_bind rfl rfl rfl (by decide +kernel) (mRm_le (by omega) (by decide))) rfl rfl (Nat.le_of_ble_eq_true rfl) dX9_function_259 ⟨Nat.le_refl 0, Nat.le_refl 0⟩ (fun u48 hw => ?_)
      refine mv_sub [0, 1, 2, 3, 4] rfl ?_
      exact wj_X9_function_262_ok C hs hlev hK156 hw
  · have hw := hw.2 h40
    refine mv_aload_n C dX9_function_184 rfl 0 rfl ?_
    refine mv_get (v := .ref (b 2)) C iw_X9_function_X9 0 rfl rfl 2 (by decide) lk_X9_function_13 rfl rfl dX9_function_185 ?_
    refine mv_iload C dX9_function_188 5 rfl ?_
    refine mv_iald (f := u.2 1) C 2 0 rfl rfl hw.1 dX9_function_190 ?_
    refine mv_topi (fun y49 ey49 => ?_)
    have hw := hw.2 y49 ey49
    refine mv_aload_n C dX9_function_191 rfl 0 rfl ?_
    refine mv_get (v := .ref (b 2)) C iw_X9_function_X9 0 rfl rfl 2 (by decide) lk_X9_function_13 rfl rfl dX9_function_192 ?_
    refine mv_iload C dX9_function_195 4 rfl ?_
    refine mv_iald (f := u.2 1) C 2 0 rfl rfl hw.1 dX9_function_197 ?_
    refine mv_topi (fun y50 ey50 => ?_)
    have hw := hw.2 y50 ey50
    refine mv_icmp_ne (tgt := 223) C dX9_function_198 (by decide) (fun h51 => ?_) (fun h51 => ?_)
    · have hw := hw.1 h51
      exact wj_X9_function_223_ok C hs hlev hK156 hK177 hw
    · have hw := hw.2 h51
      refine mv_aload_n C dX9_function_201 rfl 0 rfl ?_
      refine mv_get (v := .ref (b 3)) C iw_X9_function_X9 0 rfl rfl 3 (by decide) lk_X9_function_16 rfl rfl dX9_function_202 ?_
      refine mv_iload C dX9_function_205 5 rfl ?_
      refine mv_iald (f := u.2 2) C 3 0 rfl rfl hw.1 dX9_function_207 ?_
      refine mv_topi (fun y52 ey52 => ?_)
      have hw := hw.2 y52 ey52
      refine mv_aload_n C dX9_function_208 rfl 0 rfl ?_
      refine mv_get (v := .ref (b 3)) C iw_X9_function_X9 0 rfl rfl 3 (by decide) lk_X9_function_16 rfl rfl dX9_function_209 ?_
      refine mv_iload C dX9_function_212 4 rfl ?_
      refine mv_iald (f := u.2 2) C 3 0 rfl rfl hw.1 dX9_function_214 ?_
      refine mv_topi (fun y53 ey53 => ?_)
      have hw := hw.2 y53 ey53
      refine mv_icmp_ne (tgt := 223) C dX9_function_215 (by decide) (fun h54 => ?_) (fun h54 => ?_)
      · have hw := hw.1 h54
        exact wj_X9_function_223_ok C hs hlev hK156 hK177 hw
      · have hw := hw.2 h54
        refine mv_aload_n C dX9_function_218 rfl 0 rfl ?_
        refine mv_iconst (v := (3 : Int32)) C dX9_function_219 (by decide) ?_
        refine mv_callVv (f := wM cA b) (As := [.int (3 : Int32)]) (rest := []) C eM_ok hs 0 rfl rfl (X9_fails_met (l := l) (lev := lev - 1) (by omega) hw) (cwV 1 C.2.2.2.2.1 gX9_function_X9_fails rfl rfl rfl (by decide +kernel) (mRm_le (by omega) (by decide))) rfl rfl (Nat.le_of_ble_eq_true rfl) dX9_function_220 ⟨Nat.le_refl 0, Nat.le_refl 0⟩ (fun u56 hw => ?_)
        exact wj_X9_function_223_ok C hs hlev hK156 hK177 hw
set_option maxHeartbeats 4000000 in
set_option maxRecDepth 100000 in
theorem wj_X9_function_333_ok (C : mC p s m args meth c cX9_function 9 wsX9_function RX9 none (dC, dI) vwCl [(cA, .int)] A) (hs : eM A s) (hlev : 4 ≤ lev) {post : mS → Prop} {K333 : Int32 → Int32 → mS → Prop} (hK333 : ∀ (x4 x7 : Int32) (u : mS), K333 x4 x7 u → mV p l e (mRm lev) s m args below meth c 9 (dC, dI) vwCl A 0 0 (mQv below args s (dC, dI) vwCl [(cA, .int)] (wM cA b) A post) (wM cA b u) 333 [(0, .ref (b 0)), (4, .int x4), (7, .int x7)] []) {x4 x7 : Int32} {u : mS} (hw : wj_X9_function_333 K333 post x4 x7 u) : mV p l e (mRm lev) s m args below meth c 9 (dC, dI) vwCl A 0 0 (mQv below args s (dC, dI) vwCl [(cA, .int)] (wM cA b) A post) (wM cA b u) 333 [(0, .ref (b 0)), (4, .int x4), (7, .int x7)] [] := by
  unfold wj_X9_function_333 at hw
  refine mv_iload C dX9_function_333 2 rfl ?_
  refine mv_aload_n C dX9_function_335 rfl 0 rfl ?_
  refine mv_get (v := .int (u.1 14)) C iw_X9_function_X9 0 rfl rfl 34 (by decide) lk_X9_function_265 rfl rfl dX9_function_336 ?_
  refine mv_topi (fun y79 ey79 => ?_)
  have hw := hw y79 ey79
  refine mv_icmp_ge (tgt := 354) C dX9_function_339 (by decide) (fun h80 => ?_) (fun h80 => ?_)
  · have hw := hw.1 h80
    refine mv_aload_n C dX9_function_354 rfl 0 rfl ?_
    refine mv_callVv (f := wM cA b) (As := []) (rest := []) C eM_ok hs 0 rfl rfl (X9_putClose_met (l := l) (lev := lev - 1) (by omega) hw) (cwV 0 C.2.2.2.2.1 gX9_function_X9_putClose rfl rfl rfl (by decide +kernel) (mRm_le (by omega) (by decide))) rfl rfl (Nat.le_of_ble_eq_true rfl) dX9_function_355 ⟨Nat.le_refl 0, Nat.le_refl 0⟩ (fun u82 hw => ?_)
    refine mv_aload_n C dX9_function_358 rfl 0 rfl ?_
    refine mv_dup C dX9_function_359 rfl ?_
    refine mv_get (v := .int (u82.1 11)) C iw_X9_function_X9 0 rfl rfl 31 (by decide) lk_X9_function_271 rfl rfl dX9_function_360 ?_
    refine mv_topi (fun y83 ey83 => ?_)
    have hw := hw y83 ey83
    refine mv_iconst (v := (1 : Int32)) C dX9_function_363 (by decide) ?_
    refine mv_iadd C dX9_function_364 ?_
    refine mv_topi (fun y84 ey84 => ?_)
    have hw := hw y84 ey84
    refine mv_put (ty := .int) (ws1 := wM cA b (mSet u82 11 y84)) C iw_X9_function_X9 tyX9 tyX9_ok nmX9 0 rfl rfl 31 (by decide) lk_X9_function_271 rfl rfl rfl rfl rfl (Nat.le_of_ble_eq_true rfl) rfl dX9_function_365 ?_
    refine mv_nm (f := wM cA b) (fun u85 eu85 => ?_)
    have hw := hw u85 eu85
    refine mv_aload_n C dX9_function_368 rfl 0 rfl ?_
    refine mv_iload C dX9_function_369 1 rfl ?_
    refine mv_put (ty := .int) (ws1 := wM cA b (mSet u85 1 x4)) C iw_X9_function_X9 tyX9 tyX9_ok nmX9 0 rfl rfl 4 (by decide) lk_X9_function_104 rfl rfl rfl rfl rfl (Nat.le_of_ble_eq_true rfl) rfl dX9_function_371 ?_
    refine mv_nm (f := wM cA b) (fun u86 eu86 => ?_)
    have hw := hw u86 eu86
    exact mv_vret C dX9_function_374 hw
  · have hw := hw.2 h80
    refine mv_aload_n C dX9_function_342 rfl 0 rfl ?_
    refine mv_iload C dX9_function_343 2 rfl ?_
    refine mv_callVv (f := wM cA b) (As := [.int x7]) (rest := []) C eM_ok hs 0 rfl rfl (X9_putVariable_met (l := l) (lev := lev - 1) (by omega) hw) (cwV 1 C.2.2.2.2.1 gX9_function_X9_putVariable rfl rfl rfl (by decide +kernel) (mRm_le (by omega) (by decide))) rfl rfl (Nat.le_of_ble_eq_true rfl) dX9_function_345 ⟨Nat.le_refl 0, Nat.le_refl 0⟩ (fun u88 hw => ?_)
    obtain ⟨y89, ey89⟩ : ∃ z : Int32, z = x7 + (1 : Int32) := ⟨_, rfl⟩
    have hw := hw y89 ey89
    refine mv_iinc (v := y89) (lv1 := [(7, .int y89), (0, .ref (b 0)), (4, .int x4)]) C dX9_function_348 2 rfl (by rw [ey89]; rfl) (by decide) rfl ?_
    refine mv_goto (tgt := 333) C dX9_function_351 (by decide) ?_
    refine mv_sub [1, 2, 0] rfl ?_
    exact hK333 x4 y89 u88 hw
set_option maxHeartbeats 4000000 in
set_option maxRecDepth 100000 in
theorem wj_X9_function_292_ok (C : mC p s m args meth c cX9_function 9 wsX9_function RX9 none (dC, dI) vwCl [(cA, .int)] A) (hs : eM A s) (hlev : 4 ≤ lev) {post : mS → Prop} {x4 x6 : Int32} {u : mS} (hw : wj_X9_function_292 post x4 x6 u) : mV p l e (mRm lev) s m args below meth c 9 (dC, dI) vwCl A 0 0 (mQv below args s (dC, dI) vwCl [(cA, .int)] (wM cA b) A post) (wM cA b u) 292 [(0, .ref (b 0)), (4, .int x4), (6, .int x6)] [] := by
  unfold wj_X9_function_292 at hw
  refine mv_aload_n C dX9_function_292 rfl 0 rfl ?_
  refine mv_get (v := .int (u.1 12)) C iw_X9_function_X9 0 rfl rfl 32 (by decide) lk_X9_function_178 rfl rfl dX9_function_293 ?_
  refine mv_topi (fun y65 ey65 => ?_)
  have hw := hw y65 ey65
  refine mv_if_eq (tgt := 300) C dX9_function_296 (by decide) (fun h66 => ?_) (fun h66 => ?_)
  · have hw := hw.1 h66
    refine mv_aload_n C dX9_function_300 rfl 0 rfl ?_
    refine mv_callVv (f := wM cA b) (As := []) (rest := []) C eM_ok hs 0 rfl rfl (X9_putOpen_met (l := l) (lev := lev - 1) (by omega) hw) (cwV 0 C.2.2.2.2.1 gX9_function_X9_putOpen rfl rfl rfl (by decide +kernel) (mRm_le (by omega) (by decide))) rfl rfl (Nat.le_of_ble_eq_true rfl) dX9_function_301 ⟨Nat.le_refl 0, Nat.le_refl 0⟩ (fun u68 hw => ?_)
    refine mv_aload_n C dX9_function_304 rfl 0 rfl ?_
    refine mv_callVv (f := wM cA b) (As := []) (rest := []) C eM_ok hs 0 rfl rfl (X9_space_met (l := l) (lev := lev - 1) (by omega) hw) (cwV 0 C.2.2.2.2.1 gX9_function_X9_space rfl rfl rfl (by decide +kernel) (mRm_le (by omega) (by decide))) rfl rfl (Nat.le_of_ble_eq_true rfl) dX9_function_305 ⟨Nat.le_refl 0, Nat.le_refl 0⟩ (fun u70 hw => ?_)
    refine mv_aload_n C dX9_function_308 rfl 0 rfl ?_
    refine mv_aload_n C dX9_function_309 rfl 0 rfl ?_
    refine mv_get (v := .ref (b 2)) C iw_X9_function_X9 0 rfl rfl 2 (by decide) lk_X9_function_13 rfl rfl dX9_function_310 ?_
    refine mv_aload_n C dX9_function_313 rfl 0 rfl ?_
    refine mv_get (v := .int (u70.1 1)) C iw_X9_function_X9 0 rfl rfl 4 (by decide) lk_X9_function_104 rfl rfl dX9_function_314 ?_
    refine mv_topi (fun y71 ey71 => ?_)
    have hw := hw y71 ey71
    refine mv_iconst (v := (1 : Int32)) C dX9_function_317 (by decide) ?_
    refine mv_iadd C dX9_function_318 ?_
    refine mv_topi (fun y72 ey72 => ?_)
    have hw := hw y72 ey72
    refine mv_callSi (f := wM cA b) (As := [.ref (b 2), .int y72]) (rest := [.ref (b 0)]) C eM_ok hs (X9_what_2_met (l := l) (lev := lev - 1) (by omega) hw) (va_cwS 2 C.2.2.2.2.1 gX9_function_X9_what rfl rfl rfl (by decide +kernel) (mRm_le (by omega) (by decide))) rfl rfl (Nat.le_of_ble_eq_true rfl) dX9_function_319 ⟨Nat.le_refl 0, Nat.le_refl 0⟩ (fun r73 u74 hw => ?_)
    refine mv_callVv (f := wM cA b) (As := [.int r73]) (rest := []) C eM_ok hs 0 rfl rfl (X9_putName_met (l := l) (lev := lev - 1) (by omega) hw) (cwV 1 C.2.2.2.2.1 gX9_function_X9_putName rfl rfl rfl (by decide +kernel) (mRm_le (by omega) (by decide))) rfl rfl (Nat.le_of_ble_eq_true rfl) dX9_function_322 ⟨Nat.le_refl 0, Nat.le_refl 0⟩ (fun u76 hw => ?_)
    refine mv_aload_n C dX9_function_325 rfl 0 rfl ?_
    refine mv_callVv (f := wM cA b) (As := []) (rest := []) C eM_ok hs 0 rfl rfl (X9_putOpen_met (l := l) (lev := lev - 1) (by omega) hw) (cwV 0 C.2.2.2.2.1 gX9_function_X9_putOpen rfl rfl rfl (by decide +kernel) (mRm_le (by omega) (by decide))) rfl rfl (Nat.le_of_ble_eq_true rfl) dX9_function_326 ⟨Nat.le_refl 0, Nat.le_refl 0⟩ (fun u78 hw => ?_)
    refine mv_iload C dX9_function_329 2 rfl ?_
    refine mv_istore (lv1 := [(7, .int x6), (0, .ref (b 0)), (4, .int x4), (6, .int x6)]) C dX9_function_331 (by decide) rfl ?_
    refine mv_sub [1, 2, 0] rfl ?_
    obtain ⟨n, hw⟩ := hw
    exact mL3_of (fun K hK b0 b1 b2 hw => wj_X9_function_333_ok C hs hlev hK hw) n x4 x6 u78 hw
  · have hw := hw.2 h66
    exact mv_vret C dX9_function_299 hw
set_option maxHeartbeats 4000000 in
set_option maxRecDepth 100000 in
theorem wj_X9_function_156_ok (C : mC p s m args meth c cX9_function 9 wsX9_function RX9 none (dC, dI) vwCl [(cA, .int)] A) (hs : eM A s) (hlev : 4 ≤ lev) {post : mS → Prop} {K156 : Int32 → Int32 → Int32 → Int32 → mS → Prop} (hK156 : ∀ (x2 x4 x6 x7 : Int32) (u : mS), K156 x2 x4 x6 x7 u → mV p l e (mRm lev) s m args below meth c 9 (dC, dI) vwCl A 0 0 (mQv below args s (dC, dI) vwCl [(cA, .int)] (wM cA b) A post) (wM cA b u) 156 [(0, .ref (b 0)), (2, .int x2), (4, .int x4), (6, .int x6), (7, .int x7)] []) {x2 x4 x6 x7 : Int32} {u : mS} (hw : wj_X9_function_156 K156 post x2 x4 x6 x7 u) : mV p l e (mRm lev) s m args below meth c 9 (dC, dI) vwCl A 0 0 (mQv below args s (dC, dI) vwCl [(cA, .int)] (wM cA b) A post) (wM cA b u) 156 [(0, .ref (b 0)), (2, .int x2), (4, .int x4), (6, .int x6), (7, .int x7)] [] := by
  unfold wj_X9_function_156 at hw
  refine mv_iload C dX9_function_156 4 rfl ?_
  refine mv_iload C dX9_function_158 2 rfl ?_
  refine mv_iconst (v := (1 : Int32)) C dX9_function_160 (by decide) ?_
  refine mv_isub C dX9_function_161 ?_
  refine mv_topi (fun y35 ey35 => ?_)
  have hw := hw y35 ey35
  refine mv_icmp_ge (tgt := 292) C dX9_function_162 (by decide) (fun h36 => ?_) (fun h36 => ?_)
  · have hw := hw.1 h36
    refine mv_sub [0, 2, 3] rfl ?_
    exact wj_X9_function_292_ok C hs hlev hw
  · have hw := hw.2 h36
    refine mv_aload_n C dX9_function_165 rfl 0 rfl ?_
    refine mv_get (v := .int (u.1 12)) C iw_X9_function_X9 0 rfl rfl 32 (by decide) lk_X9_function_178 rfl rfl dX9_function_166 ?_
    refine mv_topi (fun y37 ey37 => ?_)
    have hw := hw y37 ey37
    refine mv_if_ne (tgt := 292) C dX9_function_169 (by decide) (fun h38 => ?_) (fun h38 => ?_)
    · have hw := hw.1 h38
      refine mv_sub [0, 2, 3] rfl ?_
      exact wj_X9_function_292_ok C hs hlev hw
    · have hw := hw.2 h38
      refine mv_iload_n C dX9_function_172 rfl 1 rfl ?_
      refine mv_iconst (v := (1 : Int32)) C dX9_function_173 (by decide) ?_
      refine mv_iadd C dX9_function_174 ?_
      refine mv_topi (fun y39 ey39 => ?_)
      have hw := hw y39 ey39
      refine mv_istore (lv1 := [(8, .int y39), (0, .ref (b 0)), (2, .int x2), (4, .int x4), (6, .int x6), (7, .int x7)]) C dX9_function_175 (by decide) rfl ?_
      refine mv_sub [1, 2, 3, 4, 5, 0] rfl ?_
      obtain ⟨n, hw⟩ := hw
      exact mL6_of (fun K hK b0 b1 b2 b3 b4 b5 hw => wj_X9_function_177_ok C hs hlev hK hK156 hw) n x2 x4 x6 x7 y39 u hw
set_option maxHeartbeats 4000000 in
set_option maxRecDepth 100000 in
theorem wj_X9_function_75_ok (C : mC p s m args meth c cX9_function 9 wsX9_function RX9 none (dC, dI) vwCl [(cA, .int)] A) (hs : eM A s) (hlev : 4 ≤ lev) {post : mS → Prop} {K75 : Int32 → Int32 → Int32 → Int32 → Int32 → mS → Prop} (hK75 : ∀ (x1 x2 x3 x4 x5 : Int32) (u : mS), K75 x1 x2 x3 x4 x5 u → mV p l e (mRm lev) s m args below meth c 9 (dC, dI) vwCl A 0 0 (mQv below args s (dC, dI) vwCl [(cA, .int)] (wM cA b) A post) (wM cA b u) 75 [(0, .ref (b 0)), (1, .int x1), (2, .int x2), (3, .int x3), (4, .int x4), (5, .int x5)] []) {x1 x2 x3 x4 x5 : Int32} {u : mS} (hw : wj_X9_function_75 K75 post x1 x2 x3 x4 x5 u) : mV p l e (mRm lev) s m args below meth c 9 (dC, dI) vwCl A 0 0 (mQv below args s (dC, dI) vwCl [(cA, .int)] (wM cA b) A post) (wM cA b u) 75 [(0, .ref (b 0)), (1, .int x1), (2, .int x2), (3, .int x3), (4, .int x4), (5, .int x5)] [] := by
  unfold wj_X9_function_75 at hw
  refine mv_iload C dX9_function_75 5 rfl ?_
  refine mv_iload C dX9_function_77 4 rfl ?_
  refine mv_iconst (v := (1 : Int32)) C dX9_function_79 (by decide) ?_
  refine mv_isub C dX9_function_80 ?_
  refine mv_topi (fun y17 ey17 => ?_)
  have hw := hw y17 ey17
  refine mv_icmp_ge (tgt := 113) C dX9_function_81 (by decide) (fun h18 => ?_) (fun h18 => ?_)
  · have hw := hw.1 h18
    refine mv_iload_n C dX9_function_113 rfl 3 rfl ?_
    refine mv_if_ne (tgt := 123) C dX9_function_114 (by decide) (fun h19 => ?_) (fun h19 => ?_)
    · have hw := hw.1 h19
      refine mv_aload_n C dX9_function_123 rfl 0 rfl ?_
      refine mv_callVi (f := wM cA b) (As := []) (rest := []) C eM_ok hs 0 rfl rfl (X9_scope_met (l := l) (lev := lev - 1) (by omega) hw) (cwV 0 C.2.2.2.2.1 gX9_function_X9_scope rfl rfl rfl (by decide +kernel) (mRm_le (by omega) (by decide))) rfl rfl (Nat.le_of_ble_eq_true rfl) dX9_function_124 ⟨Nat.le_refl 0, Nat.le_refl 0⟩ (fun r20 u21 hw => ?_)
      refine mv_istore (lv1 := [(5, .int r20), (0, .ref (b 0)), (1, .int x1), (2, .int x2), (3, .int x3), (4, .int x4)]) C dX9_function_127 (by decide) rfl ?_
      refine mv_aload_n C dX9_function_129 rfl 1 rfl ?_
      refine mv_get (v := .int (u21.1 12)) C iw_X9_function_X9 0 rfl rfl 32 (by decide) lk_X9_function_178 rfl rfl dX9_function_130 ?_
      refine mv_topi (fun y22 ey22 => ?_)
      have hw := hw y22 ey22
      refine mv_if_eq (tgt := 137) C dX9_function_133 (by decide) (fun h23 => ?_) (fun h23 => ?_)
      · have hw := hw.1 h23
        refine mv_aload_n C dX9_function_137 rfl 1 rfl ?_
        refine mv_iload_n C dX9_function_138 rfl 3 rfl ?_
        refine mv_iload_n C dX9_function_139 rfl 2 rfl ?_
        refine mv_iload C dX9_function_140 0 rfl ?_
        refine mv_callVv (f := wM cA b) (As := [.int x2, .int x1, .int r20]) (rest := []) C eM_ok hs 0 rfl rfl (X9_give_met (l := l) (lev := lev - 1) (by omega) hw) (cwV 3 C.2.2.2.2.1 gX9_function_X9_give rfl rfl rfl (by decide +kernel) (mRm_le (by omega) (by decide))) rfl rfl (Nat.le_of_ble_eq_true rfl) dX9_function_142 ⟨Nat.le_refl 0, Nat.le_refl 0⟩ (fun u25 hw => ?_)
        refine mv_aload_n C dX9_function_145 rfl 1 rfl ?_
        refine mv_get (v := .int (u25.1 14)) C iw_X9_function_X9 0 rfl rfl 34 (by decide) lk_X9_function_265 rfl rfl dX9_function_146 ?_
        refine mv_topi (fun y26 ey26 => ?_)
        have hw := hw y26 ey26
        refine mv_istore (lv1 := [(6, .int y26), (5, .int r20), (0, .ref (b 0)), (1, .int x1), (2, .int x2), (3, .int x3), (4, .int x4)]) C dX9_function_149 (by decide) rfl ?_
        refine mv_iload_n C dX9_function_151 rfl 4 rfl ?_
        refine mv_iconst (v := (1 : Int32)) C dX9_function_152 (by decide) ?_
        refine mv_iadd C dX9_function_153 ?_
        refine mv_topi (fun y27 ey27 => ?_)
        have hw := hw y27 ey27
        refine mv_istore (lv1 := [(7, .int y27), (6, .int y26), (5, .int r20), (0, .ref (b 0)), (1, .int x1), (2, .int x2), (3, .int x3), (4, .int x4)]) C dX9_function_154 (by decide) rfl ?_
        refine mv_sub [3, 5, 7, 1, 0] rfl ?_
        obtain ⟨n, hw⟩ := hw
        exact mL5_of (fun K hK b0 b1 b2 b3 b4 hw => wj_X9_function_156_ok C hs hlev hK hw) n x2 x4 y26 y27 u25 hw
      · have hw := hw.2 h23
        exact mv_vret C dX9_function_136 hw
    · have hw := hw.2 h19
      refine mv_aload_n C dX9_function_117 rfl 0 rfl ?_
      refine mv_iconst (v := (3 : Int32)) C dX9_function_118 (by decide) ?_
      refine mv_callVv (f := wM cA b) (As := [.int (3 : Int32)]) (rest := []) C eM_ok hs 0 rfl rfl (X9_fails_met (l := l) (lev := lev - 1) (by omega) hw) (cwV 1 C.2.2.2.2.1 gX9_function_X9_fails rfl rfl rfl (by decide +kernel) (mRm_le (by omega) (by decide))) rfl rfl (Nat.le_of_ble_eq_true rfl) dX9_function_119 ⟨Nat.le_refl 0, Nat.le_refl 0⟩ (fun u29 hw => ?_)
      exact mv_vret C dX9_function_122 hw
  · have hw := hw.2 h18
    refine mv_iload_n C dX9_function_84 rfl 3 rfl ?_
    refine mv_if_eq (tgt := 105) C dX9_function_85 (by decide) (fun h30 => ?_) (fun h30 => ?_)
    · have hw := hw.1 h30
      refine mv_sub [0, 1, 2, 4, 5] rfl ?_
      exact wj_X9_function_105_ok C hs hlev hK75 hw
    · have hw := hw.2 h30
      refine mv_aload_n C dX9_function_88 rfl 0 rfl ?_
      refine mv_get (v := .ref (b 2)) C iw_X9_function_X9 0 rfl rfl 2 (by decide) lk_X9_function_13 rfl rfl dX9_function_89 ?_
      refine mv_iload C dX9_function_92 5 rfl ?_
      refine mv_callSi (f := wM cA b) (As := [.ref (b 2), .int x5]) (rest := []) C eM_ok hs (X9_kind_2_met (l := l) (lev := lev - 1) (by omega) hw) (va_cwS 2 C.2.2.2.2.1 gX9_function_X9_kind rfl rfl rfl (by decide +kernel) (mRm_le (by omega) (by decide))) rfl rfl (Nat.le_of_ble_eq_true rfl) dX9_function_94 ⟨Nat.le_refl 0, Nat.le_refl 0⟩ (fun r31 u32 hw => ?_)
      refine mv_iconst (v := (3 : Int32)) C dX9_function_97 (by decide) ?_
      refine mv_icmp_ne (tgt := 105) C dX9_function_98 (by decide) (fun h33 => ?_) (fun h33 => ?_)
      · have hw := hw.1 h33
        refine mv_sub [0, 1, 2, 4, 5] rfl ?_
        exact wj_X9_function_105_ok C hs hlev hK75 hw
      · have hw := hw.2 h33
        refine mv_iconst (v := (1 : Int32)) C dX9_function_101 (by decide) ?_
        refine mv_goto (tgt := 106) C dX9_function_102 (by decide) ?_
        refine mv_sub [0, 1, 2, 4, 5] rfl ?_
        exact wj_X9_function_106_ok C hs hlev hK75 hw
set_option maxHeartbeats 4000000 in
set_option maxRecDepth 100000 in
theorem wj_X9_function_68_ok (C : mC p s m args meth c cX9_function 9 wsX9_function RX9 none (dC, dI) vwCl [(cA, .int)] A) (hs : eM A s) (hlev : 4 ≤ lev) {post : mS → Prop} {x1 x2 x3 z0 : Int32} {u : mS} (hw : wj_X9_function_68 post x1 x2 x3 z0 u) : mV p l e (mRm lev) s m args below meth c 9 (dC, dI) vwCl A 0 0 (mQv below args s (dC, dI) vwCl [(cA, .int)] (wM cA b) A post) (wM cA b u) 68 [(0, .ref (b 0)), (1, .int x1), (2, .int x2), (3, .int x3)] [.int z0] := by
  unfold wj_X9_function_68 at hw
  refine mv_istore (lv1 := [(4, .int z0), (0, .ref (b 0)), (1, .int x1), (2, .int x2), (3, .int x3)]) C dX9_function_68 (by decide) rfl ?_
  refine mv_iload_n C dX9_function_70 rfl 3 rfl ?_
  refine mv_iconst (v := (1 : Int32)) C dX9_function_71 (by decide) ?_
  refine mv_iadd C dX9_function_72 ?_
  refine mv_topi (fun y16 ey16 => ?_)
  have hw := hw y16 ey16
  refine mv_istore (lv1 := [(5, .int y16), (4, .int z0), (0, .ref (b 0)), (1, .int x1), (2, .int x2), (3, .int x3)]) C dX9_function_73 (by decide) rfl ?_
  refine mv_sub [2, 3, 4, 5, 1, 0] rfl ?_
  obtain ⟨n, hw⟩ := hw
  exact mL6_of (fun K hK b0 b1 b2 b3 b4 b5 hw => wj_X9_function_75_ok C hs hlev hK hw) n x1 x2 x3 z0 y16 u hw
set_option maxHeartbeats 4000000 in
set_option maxRecDepth 100000 in
theorem wj_X9_function_51_ok (C : mC p s m args meth c cX9_function 9 wsX9_function RX9 none (dC, dI) vwCl [(cA, .int)] A) (hs : eM A s) (hlev : 4 ≤ lev) {post : mS → Prop} {x1 x2 z0 : Int32} {u : mS} (hw : wj_X9_function_51 post x1 x2 z0 u) : mV p l e (mRm lev) s m args below meth c 9 (dC, dI) vwCl A 0 0 (mQv below args s (dC, dI) vwCl [(cA, .int)] (wM cA b) A post) (wM cA b u) 51 [(0, .ref (b 0)), (1, .int x1), (2, .int x2)] [.int z0] := by
  unfold wj_X9_function_51 at hw
  refine mv_istore_n (lv1 := [(3, .int z0), (0, .ref (b 0)), (1, .int x1), (2, .int x2)]) C dX9_function_51 rfl (by decide) rfl ?_
  refine mv_iload_n C dX9_function_52 rfl 0 rfl ?_
  refine mv_if_eq (tgt := 67) C dX9_function_53 (by decide) (fun h13 => ?_) (fun h13 => ?_)
  · have hw := hw.1 h13
    refine mv_iconst (v := (0 : Int32)) C dX9_function_67 (by decide) ?_
    refine mv_sub [1, 2, 3, 0] rfl ?_
    exact wj_X9_function_68_ok C hs hlev hw
  · have hw := hw.2 h13
    refine mv_aload_n C dX9_function_56 rfl 1 rfl ?_
    refine mv_get (v := .ref (b 2)) C iw_X9_function_X9 0 rfl rfl 2 (by decide) lk_X9_function_13 rfl rfl dX9_function_57 ?_
    refine mv_iload_n C dX9_function_60 rfl 3 rfl ?_
    refine mv_callSi (f := wM cA b) (As := [.ref (b 2), .int x2]) (rest := []) C eM_ok hs (X9_end_2_met (l := l) (lev := lev - 1) (by omega) hw) (va_cwS 2 C.2.2.2.2.1 gX9_function_X9_end rfl rfl rfl (by decide +kernel) (mRm_le (by omega) (by decide))) rfl rfl (Nat.le_of_ble_eq_true rfl) dX9_function_61 ⟨Nat.le_refl 0, Nat.le_refl 0⟩ (fun r14 u15 hw => ?_)
    refine mv_goto (tgt := 68) C dX9_function_64 (by decide) ?_
    refine mv_sub [1, 2, 3, 0] rfl ?_
    exact wj_X9_function_68_ok C hs hlev hw
set_option maxHeartbeats 4000000 in
set_option maxRecDepth 100000 in
theorem wj_X9_function_50_ok (C : mC p s m args meth c cX9_function 9 wsX9_function RX9 none (dC, dI) vwCl [(cA, .int)] A) (hs : eM A s) (hlev : 4 ≤ lev) {post : mS → Prop} {x1 x2 : Int32} {u : mS} (hw : wj_X9_function_50 post x1 x2 u) : mV p l e (mRm lev) s m args below meth c 9 (dC, dI) vwCl A 0 0 (mQv below args s (dC, dI) vwCl [(cA, .int)] (wM cA b) A post) (wM cA b u) 50 [(0, .ref (b 0)), (1, .int x1), (2, .int x2)] [] := by
  unfold wj_X9_function_50 at hw
  refine mv_iconst (v := (0 : Int32)) C dX9_function_50 (by decide) ?_
  exact wj_X9_function_51_ok C hs hlev hw
set_option maxHeartbeats 4000000 in
set_option maxRecDepth 100000 in
theorem X9_function_met (hlev : 4 ≤ lev) {u : mS} {post : mS → Prop} (hw : wp_X9_function  u post) : mKv l yX9_function wsX9_function lev (eM) (dC, dI) vwCl [(cA, .int)] (wM cA b) [.ref (b 0)] u post := by
  refine mKv_of (cc := cX9_function) (maxL := 9) (by decide) rfl rfl (Nat.le_of_ble_eq_true rfl) rfl ?_
  intro p e s m args below meth c A C hs
  unfold wp_X9_function at hw
  refine mv_aload_n C dX9_function_0 rfl 0 rfl ?_
  refine mv_get (v := .ref (b 2)) C iw_X9_function_X9 0 rfl rfl 2 (by decide) lk_X9_function_13 rfl rfl dX9_function_1 ?_
  refine mv_aload_n C dX9_function_4 rfl 0 rfl ?_
  refine mv_get (v := .int (u.1 1)) C iw_X9_function_X9 0 rfl rfl 4 (by decide) lk_X9_function_104 rfl rfl dX9_function_5 ?_
  refine mv_topi (fun y1 ey1 => ?_)
  have hw := hw y1 ey1
  refine mv_callSi (f := wM cA b) (As := [.ref (b 2), .int y1]) (rest := []) C eM_ok hs (X9_end_2_met (l := l) (lev := lev - 1) (by omega) hw) (va_cwS 2 C.2.2.2.2.1 gX9_function_X9_end rfl rfl rfl (by decide +kernel) (mRm_le (by omega) (by decide))) rfl rfl (Nat.le_of_ble_eq_true rfl) dX9_function_8 ⟨Nat.le_refl 0, Nat.le_refl 0⟩ (fun r2 u3 hw => ?_)
  refine mv_istore_n (lv1 := [(1, .int r2), (0, .ref (b 0))]) C dX9_function_11 rfl (by decide) rfl ?_
  refine mv_aload_n C dX9_function_12 rfl 1 rfl ?_
  refine mv_get (v := .int (u3.1 1)) C iw_X9_function_X9 0 rfl rfl 4 (by decide) lk_X9_function_104 rfl rfl dX9_function_13 ?_
  refine mv_topi (fun y4 ey4 => ?_)
  have hw := hw y4 ey4
  refine mv_iconst (v := (2 : Int32)) C dX9_function_16 (by decide) ?_
  refine mv_iadd C dX9_function_17 ?_
  refine mv_topi (fun y5 ey5 => ?_)
  have hw := hw y5 ey5
  refine mv_istore_n (lv1 := [(2, .int y5), (1, .int r2), (0, .ref (b 0))]) C dX9_function_18 rfl (by decide) rfl ?_
  refine mv_aload_n C dX9_function_19 rfl 2 rfl ?_
  refine mv_get (v := .ref (b 2)) C iw_X9_function_X9 0 rfl rfl 2 (by decide) lk_X9_function_13 rfl rfl dX9_function_20 ?_
  refine mv_aload_n C dX9_function_23 rfl 2 rfl ?_
  refine mv_get (v := .int (u3.1 1)) C iw_X9_function_X9 0 rfl rfl 4 (by decide) lk_X9_function_104 rfl rfl dX9_function_24 ?_
  refine mv_topi (fun y6 ey6 => ?_)
  have hw := hw y6 ey6
  refine mv_iconst (v := (3 : Int32)) C dX9_function_27 (by decide) ?_
  refine mv_callSi (f := wM cA b) (As := [.ref (b 2), .int y6, .int (3 : Int32)]) (rest := []) C eM_ok hs (X9_isPlain_2_met (l := l) (lev := lev - 1) (by omega) hw) (va_cwS 3 C.2.2.2.2.1 gX9_function_X9_isPlain rfl rfl rfl (by decide +kernel) (mRm_le (by omega) (by decide))) rfl rfl (Nat.le_of_ble_eq_true rfl) dX9_function_28 ⟨Nat.le_refl 0, Nat.le_refl 0⟩ (fun r7 u8 hw => ?_)
  obtain ⟨gr7, hw⟩ := hw
  refine mv_if_eq (tgt := 50) C dX9_function_31 (by decide) (fun h9 => ?_) (fun h9 => ?_)
  · have hw := hw.1 h9
    refine mv_sub [2, 1, 0] rfl ?_
    exact wj_X9_function_50_ok C hs hlev hw
  · have hw := hw.2 h9
    refine mv_aload_n C dX9_function_34 rfl 2 rfl ?_
    refine mv_get (v := .ref (b 2)) C iw_X9_function_X9 0 rfl rfl 2 (by decide) lk_X9_function_13 rfl rfl dX9_function_35 ?_
    refine mv_iload_n C dX9_function_38 rfl 0 rfl ?_
    refine mv_callSi (f := wM cA b) (As := [.ref (b 2), .int y5]) (rest := []) C eM_ok hs (X9_kind_2_met (l := l) (lev := lev - 1) (by omega) hw) (va_cwS 2 C.2.2.2.2.1 gX9_function_X9_kind rfl rfl rfl (by decide +kernel) (mRm_le (by omega) (by decide))) rfl rfl (Nat.le_of_ble_eq_true rfl) dX9_function_39 ⟨Nat.le_refl 0, Nat.le_refl 0⟩ (fun r10 u11 hw => ?_)
    refine mv_iconst (v := (1 : Int32)) C dX9_function_42 (by decide) ?_
    refine mv_icmp_ne (tgt := 50) C dX9_function_43 (by decide) (fun h12 => ?_) (fun h12 => ?_)
    · have hw := hw.1 h12
      refine mv_sub [2, 1, 0] rfl ?_
      exact wj_X9_function_50_ok C hs hlev hw
    · have hw := hw.2 h12
      refine mv_iconst (v := (1 : Int32)) C dX9_function_46 (by decide) ?_
      refine mv_goto (tgt := 51) C dX9_function_47 (by decide) ?_
      refine mv_sub [2, 1, 0] rfl ?_
      exact wj_X9_function_51_ok C hs hlev hw
end
