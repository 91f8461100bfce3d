theorem dX7_at_29 : decode cX7_at 29 = .ok (.dconst 0, 1) := by decide +kernel
theorem dX7_at_30 : decode cX7_at 30 = .ok (.dreturn, 1) := by decide +kernel
theorem dX7_at_31 : decode cX7_at 31 = .ok (.iload_n 2, 1) := by decide +kernel
theorem dX7_at_32 : decode cX7_at 32 = .ok (.ifCond .ne 10, 3) := by decide +kernel
theorem dX7_at_35 : decode cX7_at 35 = .ok (.aload_n 0, 1) := by decide +kernel
theorem dX7_at_36 : decode cX7_at 36 = .ok (.getfield 63, 3) := by decide +kernel
theorem dX7_at_39 : decode cX7_at 39 = .ok (.iload_n 1, 1) := by decide +kernel
theorem dX7_at_40 : decode cX7_at 40 = .ok (.daload, 1) := by decide +kernel
theorem dX7_at_41 : decode cX7_at 41 = .ok (.dreturn, 1) := by decide +kernel
theorem dX7_at_42 : decode cX7_at 42 = .ok (.dconst 0, 1) := by decide +kernel
theorem dX7_at_43 : decode cX7_at 43 = .ok (.dstore_n 3, 1) := by decide +kernel
theorem dX7_at_44 : decode cX7_at 44 = .ok (.iconst 0, 1) := by decide +kernel
theorem dX7_at_45 : decode cX7_at 45 = .ok (.istore 5, 2) := by decide +kernel
theorem dX7_at_47 : decode cX7_at 47 = .ok (.iload 5, 2) := by decide +kernel
theorem dX7_at_49 : decode cX7_at 49 = .ok (.aload_n 0, 1) := by decide +kernel
theorem dX7_at_50 : decode cX7_at 50 = .ok (.getfield 95, 3) := by decide +kernel
theorem dX7_at_53 : decode cX7_at 53 = .ok (.if_icmp .ge 59, 3) := by decide +kernel
theorem dX7_at_56 : decode cX7_at 56 = .ok (.iload_n 1, 1) := by decide +kernel
theorem dX7_at_57 : decode cX7_at 57 = .ok (.ifCond .le 55, 3) := by decide +kernel
theorem dX7_at_60 : decode cX7_at 60 = .ok (.aload_n 0, 1) := by decide +kernel
theorem dX7_at_61 : decode cX7_at 61 = .ok (.getfield 17, 3) := by decide +kernel
theorem dX7_at_64 : decode cX7_at 64 = .ok (.iload 5, 2) := by decide +kernel
theorem dX7_at_66 : decode cX7_at 66 = .ok (.iaload, 1) := by decide +kernel
theorem dX7_at_67 : decode cX7_at 67 = .ok (.iload_n 1, 1) := by decide +kernel
theorem dX7_at_68 : decode cX7_at 68 = .ok (.if_icmp .ne 14, 3) := by decide +kernel
theorem dX7_at_71 : decode cX7_at 71 = .ok (.dload_n 3, 1) := by decide +kernel
theorem dX7_at_72 : decode cX7_at 72 = .ok (.aload_n 0, 1) := by decide +kernel
theorem dX7_at_73 : decode cX7_at 73 = .ok (.iload 5, 2) := by decide +kernel
theorem dX7_at_75 : decode cX7_at 75 = .ok (.invokevirtual 145, 3) := by decide +kernel
theorem dX7_at_78 : decode cX7_at 78 = .ok (.dadd, 1) := by decide +kernel
theorem dX7_at_79 : decode cX7_at 79 = .ok (.goto 26, 3) := by decide +kernel
theorem dX7_at_82 : decode cX7_at 82 = .ok (.aload_n 0, 1) := by decide +kernel
theorem dX7_at_83 : decode cX7_at 83 = .ok (.getfield 13, 3) := by decide +kernel
theorem dX7_at_86 : decode cX7_at 86 = .ok (.iload 5, 2) := by decide +kernel
theorem dX7_at_88 : decode cX7_at 88 = .ok (.iaload, 1) := by decide +kernel
theorem dX7_at_89 : decode cX7_at 89 = .ok (.iload_n 1, 1) := by decide +kernel
theorem dX7_at_90 : decode cX7_at 90 = .ok (.if_icmp .ne 14, 3) := by decide +kernel
theorem dX7_at_93 : decode cX7_at 93 = .ok (.dload_n 3, 1) := by decide +kernel
theorem dX7_at_94 : decode cX7_at 94 = .ok (.aload_n 0, 1) := by decide +kernel
theorem dX7_at_95 : decode cX7_at 95 = .ok (.iload 5, 2) := by decide +kernel
theorem dX7_at_97 : decode cX7_at 97 = .ok (.invokevirtual 145, 3) := by decide +kernel
theorem dX7_at_100 : decode cX7_at 100 = .ok (.dsub, 1) := by decide +kernel
theorem dX7_at_101 : decode cX7_at 101 = .ok (.goto 4, 3) := by decide +kernel
theorem dX7_at_104 : decode cX7_at 104 = .ok (.dload_n 3, 1) := by decide +kernel
theorem dX7_at_105 : decode cX7_at 105 = .ok (.dstore_n 3, 1) := by decide +kernel
theorem dX7_at_106 : decode cX7_at 106 = .ok (.iinc 5 1, 3) := by decide +kernel
theorem dX7_at_109 : decode cX7_at 109 = .ok (.goto (-62), 3) := by decide +kernel
theorem dX7_at_112 : decode cX7_at 112 = .ok (.iconst 0, 1) := by decide +kernel
theorem dX7_at_113 : decode cX7_at 113 = .ok (.istore 5, 2) := by decide +kernel
theorem dX7_at_115 : decode cX7_at 115 = .ok (.iload 5, 2) := by decide +kernel
theorem dX7_at_117 : decode cX7_at 117 = .ok (.aload_n 0, 1) := by decide +kernel
theorem dX7_at_118 : decode cX7_at 118 = .ok (.getfield 100, 3) := by decide +kernel
theorem dX7_at_121 : decode cX7_at 121 = .ok (.if_icmp .ge 47, 3) := by decide +kernel
theorem dX7_at_124 : decode cX7_at 124 = .ok (.iload_n 1, 1) := by decide +kernel
theorem dX7_at_125 : decode cX7_at 125 = .ok (.ifCond .le 43, 3) := by decide +kernel
theorem dX7_at_128 : decode cX7_at 128 = .ok (.aload_n 0, 1) := by decide +kernel
theorem dX7_at_129 : decode cX7_at 129 = .ok (.getfield 49, 3) := by decide +kernel
theorem dX7_at_132 : decode cX7_at 132 = .ok (.iload 5, 2) := by decide +kernel
theorem dX7_at_134 : decode cX7_at 134 = .ok (.baload, 1) := by decide +kernel
theorem dX7_at_135 : decode cX7_at 135 = .ok (.ifCond .eq 25, 3) := by decide +kernel
theorem dX7_at_138 : decode cX7_at 138 = .ok (.aload_n 0, 1) := by decide +kernel
theorem dX7_at_139 : decode cX7_at 139 = .ok (.getfield 37, 3) := by decide +kernel
theorem dX7_at_142 : decode cX7_at 142 = .ok (.iload 5, 2) := by decide +kernel
theorem dX7_at_144 : decode cX7_at 144 = .ok (.iaload, 1) := by decide +kernel
theorem dX7_at_145 : decode cX7_at 145 = .ok (.iload_n 1, 1) := by decide +kernel
theorem dX7_at_146 : decode cX7_at 146 = .ok (.if_icmp .ne 14, 3) := by decide +kernel
theorem dX7_at_149 : decode cX7_at 149 = .ok (.dload_n 3, 1) := by decide +kernel
theorem dX7_at_150 : decode cX7_at 150 = .ok (.aload_n 0, 1) := by decide +kernel
theorem dX7_at_151 : decode cX7_at 151 = .ok (.iload 5, 2) := by decide +kernel
theorem dX7_at_153 : decode cX7_at 153 = .ok (.invokevirtual 122, 3) := by decide +kernel
theorem dX7_at_156 : decode cX7_at 156 = .ok (.dadd, 1) := by decide +kernel
theorem dX7_at_157 : decode cX7_at 157 = .ok (.goto 4, 3) := by decide +kernel
theorem dX7_at_160 : decode cX7_at 160 = .ok (.dload_n 3, 1) := by decide +kernel
theorem dX7_at_161 : decode cX7_at 161 = .ok (.dstore_n 3, 1) := by decide +kernel
theorem dX7_at_162 : decode cX7_at 162 = .ok (.iinc 5 1, 3) := by decide +kernel
theorem dX7_at_165 : decode cX7_at 165 = .ok (.goto (-50), 3) := by decide +kernel
theorem dX7_at_168 : decode cX7_at 168 = .ok (.dload_n 3, 1) := by decide +kernel
theorem dX7_at_169 : decode cX7_at 169 = .ok (.dreturn, 1) := by decide +kernel
theorem dX7_sizeOf_0 : decode cX7_sizeOf 0 = .ok (.dload_n 0, 1) := by decide +kernel
theorem dX7_sizeOf_1 : decode cX7_sizeOf 1 = .ok (.dconst 0, 1) := by decide +kernel
theorem dX7_sizeOf_2 : decode cX7_sizeOf 2 = .ok (.dcmp .g, 1) := by decide +kernel
theorem dX7_sizeOf_3 : decode cX7_sizeOf 3 = .ok (.ifCond .ge 8, 3) := by decide +kernel
theorem dX7_sizeOf_6 : decode cX7_sizeOf 6 = .ok (.dload_n 0, 1) := by decide +kernel
theorem dX7_sizeOf_7 : decode cX7_sizeOf 7 = .ok (.dneg, 1) := by decide +kernel
theorem dX7_sizeOf_8 : decode cX7_sizeOf 8 = .ok (.goto 4, 3) := by decide +kernel
theorem dX7_sizeOf_11 : decode cX7_sizeOf 11 = .ok (.dload_n 0, 1) := by decide +kernel
theorem dX7_sizeOf_12 : decode cX7_sizeOf 12 = .ok (.dreturn, 1) := by decide +kernel
set_option maxRecDepth 20000 in
theorem ggX7_speedOf_X7_flowOf : GoodIn wsX7_speedOf wsX7_flowOf := goodIn_r _ [6, 7, 8, 9, 10, 11, 12, 5, 13, 1, 14, 18, 19, 20, 21, 22, 23, 24, 25, 26, 27, 28, 29, 30, 31, 32, 33, 34, 35, 36, 37, 38, 39, 40, 41] (by decide +kernel) (by decide +kernel)
set_option maxRecDepth 20000 in
theorem gX7_speedOf_X7_flowOf : GoodIn wsX7_speedOf (wsV RX7 145 RX7 yX7_flowOf wsX7_flowOf) := goodIn_app (goodIn_of _ (by decide +kernel)) ggX7_speedOf_X7_flowOf
set_option maxRecDepth 20000 in
theorem ggX7_speedOf_X7_sizeOf : GoodIn wsX7_speedOf wsX7_sizeOf := goodIn_r _ [17] (by decide +kernel) (by decide +kernel)
set_option maxRecDepth 20000 in
theorem gX7_speedOf_X7_sizeOf : GoodIn wsX7_speedOf (va_wsS RX7 148 yX7_sizeOf wsX7_sizeOf) := goodIn_app (goodIn_of _ (by decide +kernel)) ggX7_speedOf_X7_sizeOf
theorem dX7_speedOf_0 : decode cX7_speedOf 0 = .ok (.aload_n 0, 1) := by decide +kernel
theorem dX7_speedOf_1 : decode cX7_speedOf 1 = .ok (.iload_n 1, 1) := by decide +kernel
theorem dX7_speedOf_2 : decode cX7_speedOf 2 = .ok (.invokevirtual 145, 3) := by decide +kernel
theorem dX7_speedOf_5 : decode cX7_speedOf 5 = .ok (.invokestatic 148, 3) := by decide +kernel
theorem dX7_speedOf_8 : decode cX7_speedOf 8 = .ok (.aload_n 0, 1) := by decide +kernel
theorem dX7_speedOf_9 : decode cX7_speedOf 9 = .ok (.getfield 24, 3) := by decide +kernel
theorem dX7_speedOf_12 : decode cX7_speedOf 12 = .ok (.iload_n 1, 1) := by decide +kernel
theorem dX7_speedOf_13 : decode cX7_speedOf 13 = .ok (.daload, 1) := by decide +kernel
theorem dX7_speedOf_14 : decode cX7_speedOf 14 = .ok (.aload_n 0, 1) := by decide +kernel
theorem dX7_speedOf_15 : decode cX7_speedOf 15 = .ok (.getfield 24, 3) := by decide +kernel
theorem dX7_speedOf_18 : decode cX7_speedOf 18 = .ok (.iload_n 1, 1) := by decide +kernel
theorem dX7_speedOf_19 : decode cX7_speedOf 19 = .ok (.daload, 1) := by decide +kernel
theorem dX7_speedOf_20 : decode cX7_speedOf 20 = .ok (.dmul, 1) := by decide +kernel
theorem dX7_speedOf_21 : decode cX7_speedOf 21 = .ok (.ddiv, 1) := by decide +kernel
theorem dX7_speedOf_22 : decode cX7_speedOf 22 = .ok (.dreturn, 1) := by decide +kernel
set_option maxRecDepth 20000 in
theorem ggX7_of_X7_isIn : GoodIn wsX7_of wsX7_isIn := goodIn_r _ [6] (by decide +kernel) (by decide +kernel)
set_option maxRecDepth 20000 in
theorem gX7_of_X7_isIn : GoodIn wsX7_of (va_wsS RX7 79 yX7_isIn wsX7_isIn) := goodIn_app (goodIn_of _ (by decide +kernel)) ggX7_of_X7_isIn
set_option maxRecDepth 20000 in
theorem ggX7_of_X7_isWrong : GoodIn wsX7_of wsX7_isWrong := goodIn_r _ [10, 11, 12, 33, 34, 35, 36, 37, 38, 39, 40, 41, 42, 43, 44, 45, 46, 47, 48, 49, 50, 51, 52, 53, 54, 55, 56] (by decide +kernel) (by decide +kernel)
set_option maxRecDepth 20000 in
theorem gX7_of_X7_isWrong : GoodIn wsX7_of (wsV RX7 141 RX7 yX7_isWrong wsX7_isWrong) := goodIn_app (goodIn_of _ (by decide +kernel)) ggX7_of_X7_isWrong
set_option maxRecDepth 20000 in
theorem ggX7_of_X7_flowOf : GoodIn wsX7_of wsX7_flowOf := goodIn_r _ [16, 17, 18, 19, 20, 21, 22, 5, 23, 24, 25, 33, 34, 35, 36, 37, 38, 39, 40, 41, 42, 43, 44, 45, 46, 47, 48, 49, 50, 51, 52, 53, 54, 55, 56] (by decide +kernel) (by decide +kernel)
set_option maxRecDepth 20000 in
theorem gX7_of_X7_flowOf : GoodIn wsX7_of (wsV RX7 145 RX7 yX7_flowOf wsX7_flowOf) := goodIn_app (goodIn_of _ (by decide +kernel)) ggX7_of_X7_flowOf
set_option maxRecDepth 20000 in
theorem ggX7_of_X7_speedOf : GoodIn wsX7_of wsX7_speedOf := goodIn_r _ [29, 24, 13, 14, 15, 5, 16, 17, 18, 19, 20, 21, 22, 23, 25, 30, 31, 32, 33, 34, 35, 36, 37, 38, 39, 40, 41, 42, 43, 44, 45, 46, 47, 48, 49, 50, 51, 52, 53, 54, 55, 56] (by decide +kernel) (by decide +kernel)
set_option maxRecDepth 20000 in
theorem gX7_of_X7_speedOf : GoodIn wsX7_of (wsV RX7 152 RX7 yX7_speedOf wsX7_speedOf) := goodIn_app (goodIn_of _ (by decide +kernel)) ggX7_of_X7_speedOf
set_option maxRecDepth 20000 in
theorem ggX7_of_X7_ease : GoodIn wsX7_of wsX7_ease := goodIn_r _ [23, 24, 25, 33, 34, 35, 36, 37, 38, 39, 40, 41, 42, 43, 44, 45, 46, 47, 48, 49, 50, 51, 52, 53, 54, 55, 56] (by decide +kernel) (by decide +kernel)
set_option maxRecDepth 20000 in
theorem gX7_of_X7_ease : GoodIn wsX7_of (wsV RX7 110 RX7 yX7_ease wsX7_ease) := goodIn_app (goodIn_of _ (by decide +kernel)) ggX7_of_X7_ease
theorem dX7_of_0 : decode cX7_of 0 = .ok (.aload_n 0, 1) := by decide +kernel
theorem dX7_of_1 : decode cX7_of 1 = .ok (.iload_n 1, 1) := by decide +kernel
theorem dX7_of_2 : decode cX7_of 2 = .ok (.iconst 0, 1) := by decide +kernel
theorem dX7_of_3 : decode cX7_of 3 = .ok (.aload_n 0, 1) := by decide +kernel
theorem dX7_of_4 : decode cX7_of 4 = .ok (.getfield 95, 3) := by decide +kernel
theorem dX7_of_7 : decode cX7_of 7 = .ok (.iconst 1, 1) := by decide +kernel
theorem dX7_of_8 : decode cX7_of 8 = .ok (.isub, 1) := by decide +kernel
theorem dX7_of_9 : decode cX7_of 9 = .ok (.invokestatic 79, 3) := by decide +kernel
theorem dX7_of_12 : decode cX7_of 12 = .ok (.ifCond .eq 16, 3) := by decide +kernel
theorem dX7_of_15 : decode cX7_of 15 = .ok (.iload_n 2, 1) := by decide +kernel
theorem dX7_of_16 : decode cX7_of 16 = .ok (.iconst 0, 1) := by decide +kernel
theorem dX7_of_17 : decode cX7_of 17 = .ok (.iconst 3, 1) := by decide +kernel
theorem dX7_of_18 : decode cX7_of 18 = .ok (.invokestatic 79, 3) := by decide +kernel
theorem dX7_of_21 : decode cX7_of 21 = .ok (.ifCond .eq 7, 3) := by decide +kernel
theorem dX7_of_24 : decode cX7_of 24 = .ok (.iconst 1, 1) := by decide +kernel
theorem dX7_of_25 : decode cX7_of 25 = .ok (.goto 4, 3) := by decide +kernel
theorem dX7_of_28 : decode cX7_of 28 = .ok (.iconst 0, 1) := by decide +kernel
theorem dX7_of_29 : decode cX7_of 29 = .ok (.invokevirtual 141, 3) := by decide +kernel
theorem dX7_of_32 : decode cX7_of 32 = .ok (.ifCond .eq 5, 3) := by decide +kernel
theorem dX7_of_35 : decode cX7_of 35 = .ok (.dconst 0, 1) := by decide +kernel
theorem dX7_of_36 : decode cX7_of 36 = .ok (.dreturn, 1) := by decide +kernel
theorem dX7_of_37 : decode cX7_of 37 = .ok (.iload_n 2, 1) := by decide +kernel
theorem dX7_of_38 : decode cX7_of 38 = .ok (.ifCond .ne 11, 3) := by decide +kernel
theorem dX7_of_41 : decode cX7_of 41 = .ok (.aload_n 0, 1) := by decide +kernel
theorem dX7_of_42 : decode cX7_of 42 = .ok (.iload_n 1, 1) := by decide +kernel
theorem dX7_of_43 : decode cX7_of 43 = .ok (.invokevirtual 145, 3) := by decide +kernel
theorem dX7_of_46 : decode cX7_of 46 = .ok (.goto 35, 3) := by decide +kernel
theorem dX7_of_49 : decode cX7_of 49 = .ok (.iload_n 2, 1) := by decide +kernel
theorem dX7_of_50 : decode cX7_of 50 = .ok (.iconst 1, 1) := by decide +kernel
theorem dX7_of_51 : decode cX7_of 51 = .ok (.if_icmp .ne 11, 3) := by decide +kernel
theorem dX7_of_54 : decode cX7_of 54 = .ok (.aload_n 0, 1) := by decide +kernel
theorem dX7_of_55 : decode cX7_of 55 = .ok (.iload_n 1, 1) := by decide +kernel
theorem dX7_of_56 : decode cX7_of 56 = .ok (.invokevirtual 152, 3) := by decide +kernel
theorem dX7_of_59 : decode cX7_of 59 = .ok (.goto 22, 3) := by decide +kernel
theorem dX7_of_62 : decode cX7_of 62 = .ok (.iload_n 2, 1) := by decide +kernel
theorem dX7_of_63 : decode cX7_of 63 = .ok (.iconst 2, 1) := by decide +kernel
theorem dX7_of_64 : decode cX7_of 64 = .ok (.if_icmp .ne 11, 3) := by decide +kernel
theorem dX7_of_67 : decode cX7_of 67 = .ok (.aload_n 0, 1) := by decide +kernel
theorem dX7_of_68 : decode cX7_of 68 = .ok (.iload_n 1, 1) := by decide +kernel
theorem dX7_of_69 : decode cX7_of 69 = .ok (.invokevirtual 110, 3) := by decide +kernel
theorem dX7_of_72 : decode cX7_of 72 = .ok (.goto 9, 3) := by decide +kernel
theorem dX7_of_75 : decode cX7_of 75 = .ok (.aload_n 0, 1) := by decide +kernel
theorem dX7_of_76 : decode cX7_of 76 = .ok (.getfield 27, 3) := by decide +kernel
theorem dX7_of_79 : decode cX7_of 79 = .ok (.iload_n 1, 1) := by decide +kernel
theorem dX7_of_80 : decode cX7_of 80 = .ok (.daload, 1) := by decide +kernel
theorem dX7_of_81 : decode cX7_of 81 = .ok (.dreturn, 1) := by decide +kernel
set_option maxRecDepth 20000 in
theorem ggX7_draws_X7_isMachine : GoodIn wsX7_draws wsX7_isMachine := goodIn_r _ [6, 7, 8, 9, 5, 10, 25, 26, 27, 28, 29, 30, 31, 32, 33, 34, 35, 36, 37, 38, 39, 40, 41, 42, 43, 44, 45, 46, 47, 48] (by decide +kernel) (by decide +kernel)
set_option maxRecDepth 20000 in
theorem gX7_draws_X7_isMachine : GoodIn wsX7_draws (wsV RX7 103 RX7 yX7_isMachine wsX7_isMachine) := goodIn_app (goodIn_of _ (by decide +kernel)) ggX7_draws_X7_isMachine
set_option maxRecDepth 20000 in
theorem ggX7_draws_X7_isIn : GoodIn wsX7_draws wsX7_isIn := goodIn_r _ [10] (by decide +kernel) (by decide +kernel)
set_option maxRecDepth 20000 in
theorem gX7_draws_X7_isIn : GoodIn wsX7_draws (va_wsS RX7 79 yX7_isIn wsX7_isIn) := goodIn_app (goodIn_of _ (by decide +kernel)) ggX7_draws_X7_isIn
set_option maxRecDepth 20000 in
theorem ggX7_draws_X7_isWrong : GoodIn wsX7_draws wsX7_isWrong := goodIn_r _ [14, 15, 16, 25, 26, 27, 28, 29, 30, 31, 32, 33, 34, 35, 36, 37, 38, 39, 40, 41, 42, 43, 44, 45, 46, 47, 48] (by decide +kernel) (by decide +kernel)
set_option maxRecDepth 20000 in
theorem gX7_draws_X7_isWrong : GoodIn wsX7_draws (wsV RX7 141 RX7 yX7_isWrong wsX7_isWrong) := goodIn_app (goodIn_of _ (by decide +kernel)) ggX7_draws_X7_isWrong
set_option maxRecDepth 20000 in
theorem ggX7_draws_X7_drawOf : GoodIn wsX7_draws wsX7_drawOf := goodIn_r _ [20, 21, 1, 22, 23, 24, 25, 26, 27, 28, 29, 30, 31, 32, 33, 34, 35, 36, 37, 38, 39, 40, 41, 42, 43, 44, 45, 46, 47, 48] (by decide +kernel) (by decide +kernel)
set_option maxRecDepth 20000 in
theorem gX7_draws_X7_drawOf : GoodIn wsX7_draws (wsV RX7 122 RX7 yX7_drawOf wsX7_drawOf) := goodIn_app (goodIn_of _ (by decide +kernel)) ggX7_draws_X7_drawOf
theorem dX7_draws_0 : decode cX7_draws 0 = .ok (.aload_n 0, 1) := by decide +kernel
theorem dX7_draws_1 : decode cX7_draws 1 = .ok (.aload_n 0, 1) := by decide +kernel
theorem dX7_draws_2 : decode cX7_draws 2 = .ok (.iload_n 1, 1) := by decide +kernel
theorem dX7_draws_3 : decode cX7_draws 3 = .ok (.invokevirtual 103, 3) := by decide +kernel
theorem dX7_draws_6 : decode cX7_draws 6 = .ok (.ifCond .eq 16, 3) := by decide +kernel
theorem dX7_draws_9 : decode cX7_draws 9 = .ok (.iload_n 2, 1) := by decide +kernel
theorem dX7_draws_10 : decode cX7_draws 10 = .ok (.iconst 0, 1) := by decide +kernel
theorem dX7_draws_11 : decode cX7_draws 11 = .ok (.iconst 1, 1) := by decide +kernel
theorem dX7_draws_12 : decode cX7_draws 12 = .ok (.invokestatic 79, 3) := by decide +kernel
theorem dX7_draws_15 : decode cX7_draws 15 = .ok (.ifCond .eq 7, 3) := by decide +kernel
theorem dX7_draws_18 : decode cX7_draws 18 = .ok (.iconst 1, 1) := by decide +kernel
theorem dX7_draws_19 : decode cX7_draws 19 = .ok (.goto 4, 3) := by decide +kernel
theorem dX7_draws_22 : decode cX7_draws 22 = .ok (.iconst 0, 1) := by decide +kernel
theorem dX7_draws_23 : decode cX7_draws 23 = .ok (.invokevirtual 141, 3) := by decide +kernel
theorem dX7_draws_26 : decode cX7_draws 26 = .ok (.ifCond .eq 5, 3) := by decide +kernel
theorem dX7_draws_29 : decode cX7_draws 29 = .ok (.dconst 0, 1) := by decide +kernel
theorem dX7_draws_30 : decode cX7_draws 30 = .ok (.dreturn, 1) := by decide +kernel
theorem dX7_draws_31 : decode cX7_draws 31 = .ok (.iload_n 2, 1) := by decide +kernel
theorem dX7_draws_32 : decode cX7_draws 32 = .ok (.ifCond .ne 12, 3) := by decide +kernel
theorem dX7_draws_35 : decode cX7_draws 35 = .ok (.aload_n 0, 1) := by decide +kernel
theorem dX7_draws_36 : decode cX7_draws 36 = .ok (.getfield 46, 3) := by decide +kernel
theorem dX7_draws_39 : decode cX7_draws 39 = .ok (.iload_n 1, 1) := by decide +kernel
theorem dX7_draws_40 : decode cX7_draws 40 = .ok (.daload, 1) := by decide +kernel
theorem dX7_draws_41 : decode cX7_draws 41 = .ok (.goto 8, 3) := by decide +kernel
theorem dX7_draws_44 : decode cX7_draws 44 = .ok (.aload_n 0, 1) := by decide +kernel
theorem dX7_draws_45 : decode cX7_draws 45 = .ok (.iload_n 1, 1) := by decide +kernel
theorem dX7_draws_46 : decode cX7_draws 46 = .ok (.invokevirtual 122, 3) := by decide +kernel
theorem dX7_draws_49 : decode cX7_draws 49 = .ok (.dreturn, 1) := by decide +kernel
set_option maxRecDepth 20000 in
theorem ggX7_keeps_X7_speedOf : GoodIn wsX7_keeps wsX7_speedOf := goodIn_r _ [8, 9, 10, 11, 12, 7, 13, 14, 15, 16, 17, 18, 19, 20, 21, 22, 23, 24, 25, 26, 27, 28, 29, 30, 31, 32, 33, 34, 35, 36, 37, 38, 39, 40, 41, 42, 43, 44, 45, 46, 47, 48] (by decide +kernel) (by decide +kernel)
set_option maxRecDepth 20000 in
theorem gX7_keeps_X7_speedOf : GoodIn wsX7_keeps (wsV RX7 152 RX7 yX7_speedOf wsX7_speedOf) := goodIn_app (goodIn_of _ (by decide +kernel)) ggX7_keeps_X7_speedOf
theorem dX7_keeps_0 : decode cX7_keeps 0 = .ok (.aload_n 0, 1) := by decide +kernel
theorem dX7_keeps_1 : decode cX7_keeps 1 = .ok (.dload_n 1, 1) := by decide +kernel
theorem dX7_keeps_2 : decode cX7_keeps 2 = .ok (.dconst 0, 1) := by decide +kernel
theorem dX7_keeps_3 : decode cX7_keeps 3 = .ok (.dcmp .l, 1) := by decide +kernel
theorem dX7_keeps_4 : decode cX7_keeps 4 = .ok (.ifCond .ge 7, 3) := by decide +kernel
theorem dX7_keeps_7 : decode cX7_keeps 7 = .ok (.iconst 1, 1) := by decide +kernel
theorem dX7_keeps_8 : decode cX7_keeps 8 = .ok (.goto 15, 3) := by decide +kernel
theorem dX7_keeps_11 : decode cX7_keeps 11 = .ok (.aload_n 0, 1) := by decide +kernel
theorem dX7_keeps_12 : decode cX7_keeps 12 = .ok (.getfield 75, 3) := by decide +kernel
theorem dX7_keeps_15 : decode cX7_keeps 15 = .ok (.ifCond .eq 7, 3) := by decide +kernel
theorem dX7_keeps_18 : decode cX7_keeps 18 = .ok (.iconst 0, 1) := by decide +kernel
theorem dX7_keeps_19 : decode cX7_keeps 19 = .ok (.goto 4, 3) := by decide +kernel
theorem dX7_keeps_22 : decode cX7_keeps 22 = .ok (.iconst 2, 1) := by decide +kernel
theorem dX7_keeps_23 : decode cX7_keeps 23 = .ok (.putfield 72, 3) := by decide +kernel
theorem dX7_keeps_26 : decode cX7_keeps 26 = .ok (.aload_n 0, 1) := by decide +kernel
theorem dX7_keeps_27 : decode cX7_keeps 27 = .ok (.getfield 72, 3) := by decide +kernel
theorem dX7_keeps_30 : decode cX7_keeps 30 = .ok (.ifCond .ne 7, 3) := by decide +kernel
theorem dX7_keeps_33 : decode cX7_keeps 33 = .ok (.iconst 1, 1) := by decide +kernel
theorem dX7_keeps_34 : decode cX7_keeps 34 = .ok (.goto 4, 3) := by decide +kernel
theorem dX7_keeps_37 : decode cX7_keeps 37 = .ok (.iconst 0, 1) := by decide +kernel
theorem dX7_keeps_38 : decode cX7_keeps 38 = .ok (.istore_n 3, 1) := by decide +kernel
theorem dX7_keeps_39 : decode cX7_keeps 39 = .ok (.iconst 0, 1) := by decide +kernel
theorem dX7_keeps_40 : decode cX7_keeps 40 = .ok (.istore 4, 2) := by decide +kernel
theorem dX7_keeps_42 : decode cX7_keeps 42 = .ok (.iload 4, 2) := by decide +kernel
theorem dX7_keeps_44 : decode cX7_keeps 44 = .ok (.aload_n 0, 1) := by decide +kernel
theorem dX7_keeps_45 : decode cX7_keeps 45 = .ok (.getfield 95, 3) := by decide +kernel
theorem dX7_keeps_48 : decode cX7_keeps 48 = .ok (.if_icmp .ge 30, 3) := by decide +kernel
theorem dX7_keeps_51 : decode cX7_keeps 51 = .ok (.iload_n 3, 1) := by decide +kernel
theorem dX7_keeps_52 : decode cX7_keeps 52 = .ok (.ifCond .eq 26, 3) := by decide +kernel
theorem dX7_keeps_55 : decode cX7_keeps 55 = .ok (.aload_n 0, 1) := by decide +kernel
theorem dX7_keeps_56 : decode cX7_keeps 56 = .ok (.iload 4, 2) := by decide +kernel
theorem dX7_keeps_58 : decode cX7_keeps 58 = .ok (.invokevirtual 152, 3) := by decide +kernel
theorem dX7_keeps_61 : decode cX7_keeps 61 = .ok (.dload_n 1, 1) := by decide +kernel
theorem dX7_keeps_62 : decode cX7_keeps 62 = .ok (.dcmp .l, 1) := by decide +kernel
theorem dX7_keeps_63 : decode cX7_keeps 63 = .ok (.ifCond .lt 7, 3) := by decide +kernel
theorem dX7_keeps_66 : decode cX7_keeps 66 = .ok (.iconst 1, 1) := by decide +kernel
theorem dX7_keeps_67 : decode cX7_keeps 67 = .ok (.goto 4, 3) := by decide +kernel
theorem dX7_keeps_70 : decode cX7_keeps 70 = .ok (.iconst 0, 1) := by decide +kernel
theorem dX7_keeps_71 : decode cX7_keeps 71 = .ok (.istore_n 3, 1) := by decide +kernel
theorem dX7_keeps_72 : decode cX7_keeps 72 = .ok (.iinc 4 1, 3) := by decide +kernel
theorem dX7_keeps_75 : decode cX7_keeps 75 = .ok (.goto (-33), 3) := by decide +kernel
theorem dX7_keeps_78 : decode cX7_keeps 78 = .ok (.iload_n 3, 1) := by decide +kernel
theorem dX7_keeps_79 : decode cX7_keeps 79 = .ok (.ireturn, 1) := by decide +kernel
set_option maxRecDepth 20000 in
theorem ggX7_list_X7_between : GoodIn wsX7_list wsX7_between := goodIn_r _ [11] (by decide +kernel) (by decide +kernel)
set_option maxRecDepth 20000 in
theorem gX7_list_X7_between : GoodIn wsX7_list (va_wsS RX7 87 yX7_between wsX7_between) := goodIn_app (goodIn_of _ (by decide +kernel)) ggX7_list_X7_between
set_option maxRecDepth 20000 in
theorem ggX7_list_X7_isIn : GoodIn wsX7_list wsX7_isIn := goodIn_r _ [14] (by decide +kernel) (by decide +kernel)
set_option maxRecDepth 20000 in
theorem gX7_list_X7_isIn : GoodIn wsX7_list (va_wsS RX7 79 yX7_isIn wsX7_isIn) := goodIn_app (goodIn_of _ (by decide +kernel)) ggX7_list_X7_isIn
theorem dX7_list_0 : decode cX7_list 0 = .ok (.aload_n 0, 1) := by decide +kernel
theorem dX7_list_1 : decode cX7_list 1 = .ok (.dload_n 1, 1) := by decide +kernel
theorem dX7_list_2 : decode cX7_list 2 = .ok (.ldc2_w 83, 3) := by decide +kernel
theorem dX7_list_5 : decode cX7_list 5 = .ok (.ldc2_w 85, 3) := by decide +kernel
theorem dX7_list_8 : decode cX7_list 8 = .ok (.invokestatic 87, 3) := by decide +kernel
theorem dX7_list_11 : decode cX7_list 11 = .ok (.ifCond .eq 13, 3) := by decide +kernel
theorem dX7_list_14 : decode cX7_list 14 = .ok (.iload_n 3, 1) := by decide +kernel
theorem dX7_list_15 : decode cX7_list 15 = .ok (.iconst 0, 1) := by decide +kernel
theorem dX7_list_16 : decode cX7_list 16 = .ok (.ldc 155, 2) := by decide +kernel
theorem dX7_list_18 : decode cX7_list 18 = .ok (.invokestatic 79, 3) := by decide +kernel
theorem dX7_list_21 : decode cX7_list 21 = .ok (.ifCond .ne 7, 3) := by decide +kernel
theorem dX7_list_24 : decode cX7_list 24 = .ok (.iconst 1, 1) := by decide +kernel
theorem dX7_list_25 : decode cX7_list 25 = .ok (.goto 17, 3) := by decide +kernel
theorem dX7_list_28 : decode cX7_list 28 = .ok (.aload_n 0, 1) := by decide +kernel
theorem dX7_list_29 : decode cX7_list 29 = .ok (.getfield 156, 3) := by decide +kernel
theorem dX7_list_32 : decode cX7_list 32 = .ok (.bipush 6, 2) := by decide +kernel
theorem dX7_list_34 : decode cX7_list 34 = .ok (.if_icmp .ne 7, 3) := by decide +kernel
theorem dX7_list_37 : decode cX7_list 37 = .ok (.iconst 2, 1) := by decide +kernel
theorem dX7_list_38 : decode cX7_list 38 = .ok (.goto 4, 3) := by decide +kernel
theorem dX7_list_41 : decode cX7_list 41 = .ok (.iconst 0, 1) := by decide +kernel
theorem dX7_list_42 : decode cX7_list 42 = .ok (.putfield 72, 3) := by decide +kernel
theorem dX7_list_45 : decode cX7_list 45 = .ok (.aload_n 0, 1) := by decide +kernel
theorem dX7_list_46 : decode cX7_list 46 = .ok (.getfield 72, 3) := by decide +kernel
theorem dX7_list_49 : decode cX7_list 49 = .ok (.ifCond .le 5, 3) := by decide +kernel
theorem dX7_list_52 : decode cX7_list 52 = .ok (.iconst 0, 1) := by decide +kernel
theorem dX7_list_53 : decode cX7_list 53 = .ok (.ireturn, 1) := by decide +kernel
theorem dX7_list_54 : decode cX7_list 54 = .ok (.aload_n 0, 1) := by decide +kernel
theorem dX7_list_55 : decode cX7_list 55 = .ok (.getfield 66, 3) := by decide +kernel
theorem dX7_list_58 : decode cX7_list 58 = .ok (.aload_n 0, 1) := by decide +kernel
theorem dX7_list_59 : decode cX7_list 59 = .ok (.getfield 156, 3) := by decide +kernel
theorem dX7_list_62 : decode cX7_list 62 = .ok (.dload_n 1, 1) := by decide +kernel
theorem dX7_list_63 : decode cX7_list 63 = .ok (.dastore, 1) := by decide +kernel
theorem dX7_list_64 : decode cX7_list 64 = .ok (.aload_n 0, 1) := by decide +kernel
theorem dX7_list_65 : decode cX7_list 65 = .ok (.getfield 69, 3) := by decide +kernel
theorem dX7_list_68 : decode cX7_list 68 = .ok (.aload_n 0, 1) := by decide +kernel
theorem dX7_list_69 : decode cX7_list 69 = .ok (.getfield 156, 3) := by decide +kernel
theorem dX7_list_72 : decode cX7_list 72 = .ok (.iload_n 3, 1) := by decide +kernel
theorem dX7_list_73 : decode cX7_list 73 = .ok (.iastore, 1) := by decide +kernel
theorem dX7_list_74 : decode cX7_list 74 = .ok (.aload_n 0, 1) := by decide +kernel
theorem dX7_list_75 : decode cX7_list 75 = .ok (.dup, 1) := by decide +kernel
theorem dX7_list_76 : decode cX7_list 76 = .ok (.getfield 156, 3) := by decide +kernel
theorem dX7_list_79 : decode cX7_list 79 = .ok (.iconst 1, 1) := by decide +kernel
theorem dX7_list_80 : decode cX7_list 80 = .ok (.iadd, 1) := by decide +kernel
theorem dX7_list_81 : decode cX7_list 81 = .ok (.putfield 156, 3) := by decide +kernel
theorem dX7_list_84 : decode cX7_list 84 = .ok (.aload_n 0, 1) := by decide +kernel
theorem dX7_list_85 : decode cX7_list 85 = .ok (.getfield 156, 3) := by decide +kernel
theorem dX7_list_88 : decode cX7_list 88 = .ok (.iconst 1, 1) := by decide +kernel
theorem dX7_list_89 : decode cX7_list 89 = .ok (.isub, 1) := by decide +kernel
theorem dX7_list_90 : decode cX7_list 90 = .ok (.ireturn, 1) := by decide +kernel
theorem dX7_sizeAt_0 : decode cX7_sizeAt 0 = .ok (.iconst 0, 1) := by decide +kernel
theorem dX7_sizeAt_1 : decode cX7_sizeAt 1 = .ok (.istore_n 2, 1) := by decide +kernel
theorem dX7_sizeAt_2 : decode cX7_sizeAt 2 = .ok (.iload_n 2, 1) := by decide +kernel
theorem dX7_sizeAt_3 : decode cX7_sizeAt 3 = .ok (.aload_n 0, 1) := by decide +kernel
theorem dX7_sizeAt_4 : decode cX7_sizeAt 4 = .ok (.getfield 156, 3) := by decide +kernel
theorem dX7_sizeAt_7 : decode cX7_sizeAt 7 = .ok (.if_icmp .ge 82, 3) := by decide +kernel
theorem dX7_sizeAt_10 : decode cX7_sizeAt 10 = .ok (.iconst 0, 1) := by decide +kernel
theorem dX7_sizeAt_11 : decode cX7_sizeAt 11 = .ok (.istore_n 3, 1) := by decide +kernel
theorem dX7_sizeAt_12 : decode cX7_sizeAt 12 = .ok (.iconst 0, 1) := by decide +kernel
theorem dX7_sizeAt_13 : decode cX7_sizeAt 13 = .ok (.istore 4, 2) := by decide +kernel
theorem dX7_sizeAt_15 : decode cX7_sizeAt 15 = .ok (.iload 4, 2) := by decide +kernel
theorem dX7_sizeAt_17 : decode cX7_sizeAt 17 = .ok (.aload_n 0, 1) := by decide +kernel
theorem dX7_sizeAt_18 : decode cX7_sizeAt 18 = .ok (.getfield 156, 3) := by decide +kernel
theorem dX7_sizeAt_21 : decode cX7_sizeAt 21 = .ok (.if_icmp .ge 55, 3) := by decide +kernel
theorem dX7_sizeAt_24 : decode cX7_sizeAt 24 = .ok (.aload_n 0, 1) := by decide +kernel
theorem dX7_sizeAt_25 : decode cX7_sizeAt 25 = .ok (.getfield 69, 3) := by decide +kernel
theorem dX7_sizeAt_28 : decode cX7_sizeAt 28 = .ok (.iload 4, 2) := by decide +kernel
theorem dX7_sizeAt_30 : decode cX7_sizeAt 30 = .ok (.iaload, 1) := by decide +kernel
theorem dX7_sizeAt_31 : decode cX7_sizeAt 31 = .ok (.aload_n 0, 1) := by decide +kernel
theorem dX7_sizeAt_32 : decode cX7_sizeAt 32 = .ok (.getfield 69, 3) := by decide +kernel
theorem dX7_sizeAt_35 : decode cX7_sizeAt 35 = .ok (.iload_n 2, 1) := by decide +kernel
theorem dX7_sizeAt_36 : decode cX7_sizeAt 36 = .ok (.iaload, 1) := by decide +kernel
theorem dX7_sizeAt_37 : decode cX7_sizeAt 37 = .ok (.if_icmp .lt 25, 3) := by decide +kernel
theorem dX7_sizeAt_40 : decode cX7_sizeAt 40 = .ok (.aload_n 0, 1) := by decide +kernel
theorem dX7_sizeAt_41 : decode cX7_sizeAt 41 = .ok (.getfield 69, 3) := by decide +kernel
theorem dX7_sizeAt_44 : decode cX7_sizeAt 44 = .ok (.iload 4, 2) := by decide +kernel
theorem dX7_sizeAt_46 : decode cX7_sizeAt 46 = .ok (.iaload, 1) := by decide +kernel
theorem dX7_sizeAt_47 : decode cX7_sizeAt 47 = .ok (.aload_n 0, 1) := by decide +kernel
theorem dX7_sizeAt_48 : decode cX7_sizeAt 48 = .ok (.getfield 69, 3) := by decide +kernel
theorem dX7_sizeAt_51 : decode cX7_sizeAt 51 = .ok (.iload_n 2, 1) := by decide +kernel
theorem dX7_sizeAt_52 : decode cX7_sizeAt 52 = .ok (.iaload, 1) := by decide +kernel
theorem dX7_sizeAt_53 : decode cX7_sizeAt 53 = .ok (.if_icmp .ne 15, 3) := by decide +kernel
theorem dX7_sizeAt_56 : decode cX7_sizeAt 56 = .ok (.iload 4, 2) := by decide +kernel
theorem dX7_sizeAt_58 : decode cX7_sizeAt 58 = .ok (.iload_n 2, 1) := by decide +kernel
theorem dX7_sizeAt_59 : decode cX7_sizeAt 59 = .ok (.if_icmp .ge 9, 3) := by decide +kernel
theorem dX7_sizeAt_62 : decode cX7_sizeAt 62 = .ok (.iload_n 3, 1) := by decide +kernel
theorem dX7_sizeAt_63 : decode cX7_sizeAt 63 = .ok (.iconst 1, 1) := by decide +kernel
theorem dX7_sizeAt_64 : decode cX7_sizeAt 64 = .ok (.iadd, 1) := by decide +kernel
theorem dX7_sizeAt_65 : decode cX7_sizeAt 65 = .ok (.goto 4, 3) := by decide +kernel
theorem dX7_sizeAt_68 : decode cX7_sizeAt 68 = .ok (.iload_n 3, 1) := by decide +kernel
theorem dX7_sizeAt_69 : decode cX7_sizeAt 69 = .ok (.istore_n 3, 1) := by decide +kernel
theorem dX7_sizeAt_70 : decode cX7_sizeAt 70 = .ok (.iinc 4 1, 3) := by decide +kernel
theorem dX7_sizeAt_73 : decode cX7_sizeAt 73 = .ok (.goto (-58), 3) := by decide +kernel
theorem dX7_sizeAt_76 : decode cX7_sizeAt 76 = .ok (.iload_n 3, 1) := by decide +kernel
theorem dX7_sizeAt_77 : decode cX7_sizeAt 77 = .ok (.iload_n 1, 1) := by decide +kernel
theorem dX7_sizeAt_78 : decode cX7_sizeAt 78 = .ok (.if_icmp .ne 5, 3) := by decide +kernel
theorem dX7_sizeAt_81 : decode cX7_sizeAt 81 = .ok (.iload_n 2, 1) := by decide +kernel
theorem dX7_sizeAt_82 : decode cX7_sizeAt 82 = .ok (.ireturn, 1) := by decide +kernel
theorem dX7_sizeAt_83 : decode cX7_sizeAt 83 = .ok (.iinc 2 1, 3) := by decide +kernel
theorem dX7_sizeAt_86 : decode cX7_sizeAt 86 = .ok (.goto (-84), 3) := by decide +kernel
theorem dX7_sizeAt_89 : decode cX7_sizeAt 89 = .ok (.iconst (-1), 1) := by decide +kernel
theorem dX7_sizeAt_90 : decode cX7_sizeAt 90 = .ok (.ireturn, 1) := by decide +kernel
set_option maxRecDepth 20000 in
theorem ggX7_isEnough_X7_drawOf : GoodIn wsX7_isEnough wsX7_drawOf := goodIn_r _ [9, 2, 10, 11, 12, 13, 14, 15, 16, 17, 18, 19, 20, 21, 22, 23, 24, 25, 26, 27, 28, 29, 30, 31, 32, 33, 34, 35, 36, 37] (by decide +kernel) (by decide +kernel)
set_option maxRecDepth 20000 in
theorem gX7_isEnough_X7_drawOf : GoodIn wsX7_isEnough (wsV RX7 122 RX7 yX7_drawOf wsX7_drawOf) := goodIn_app (goodIn_of _ (by decide +kernel)) ggX7_isEnough_X7_drawOf
theorem dX7_isEnough_0 : decode cX7_isEnough 0 = .ok (.iconst 1, 1) := by decide +kernel
theorem dX7_isEnough_1 : decode cX7_isEnough 1 = .ok (.istore_n 1, 1) := by decide +kernel
theorem dX7_isEnough_2 : decode cX7_isEnough 2 = .ok (.iconst 0, 1) := by decide +kernel
theorem dX7_isEnough_3 : decode cX7_isEnough 3 = .ok (.istore_n 2, 1) := by decide +kernel
theorem dX7_isEnough_4 : decode cX7_isEnough 4 = .ok (.iload_n 2, 1) := by decide +kernel
theorem dX7_isEnough_5 : decode cX7_isEnough 5 = .ok (.aload_n 0, 1) := by decide +kernel
theorem dX7_isEnough_6 : decode cX7_isEnough 6 = .ok (.getfield 100, 3) := by decide +kernel
theorem dX7_isEnough_9 : decode cX7_isEnough 9 = .ok (.if_icmp .ge 47, 3) := by decide +kernel
theorem dX7_isEnough_12 : decode cX7_isEnough 12 = .ok (.iload_n 1, 1) := by decide +kernel
theorem dX7_isEnough_13 : decode cX7_isEnough 13 = .ok (.ifCond .eq 35, 3) := by decide +kernel
theorem dX7_isEnough_16 : decode cX7_isEnough 16 = .ok (.aload_n 0, 1) := by decide +kernel
theorem dX7_isEnough_17 : decode cX7_isEnough 17 = .ok (.getfield 49, 3) := by decide +kernel
theorem dX7_isEnough_20 : decode cX7_isEnough 20 = .ok (.iload_n 2, 1) := by decide +kernel
theorem dX7_isEnough_21 : decode cX7_isEnough 21 = .ok (.baload, 1) := by decide +kernel
theorem dX7_isEnough_22 : decode cX7_isEnough 22 = .ok (.ifCond .eq 22, 3) := by decide +kernel
theorem dX7_isEnough_25 : decode cX7_isEnough 25 = .ok (.aload_n 0, 1) := by decide +kernel
theorem dX7_isEnough_26 : decode cX7_isEnough 26 = .ok (.iload_n 2, 1) := by decide +kernel
theorem dX7_isEnough_27 : decode cX7_isEnough 27 = .ok (.invokevirtual 122, 3) := by decide +kernel
theorem dX7_isEnough_30 : decode cX7_isEnough 30 = .ok (.aload_n 0, 1) := by decide +kernel
theorem dX7_isEnough_31 : decode cX7_isEnough 31 = .ok (.getfield 40, 3) := by decide +kernel
theorem dX7_isEnough_34 : decode cX7_isEnough 34 = .ok (.iload_n 2, 1) := by decide +kernel
theorem dX7_isEnough_35 : decode cX7_isEnough 35 = .ok (.daload, 1) := by decide +kernel
theorem dX7_isEnough_36 : decode cX7_isEnough 36 = .ok (.ldc2_w 159, 3) := by decide +kernel
theorem dX7_isEnough_39 : decode cX7_isEnough 39 = .ok (.dmul, 1) := by decide +kernel
theorem dX7_isEnough_40 : decode cX7_isEnough 40 = .ok (.dcmp .l, 1) := by decide +kernel
theorem dX7_isEnough_41 : decode cX7_isEnough 41 = .ok (.ifCond .lt 7, 3) := by decide +kernel
theorem dX7_isEnough_44 : decode cX7_isEnough 44 = .ok (.iconst 1, 1) := by decide +kernel
theorem dX7_isEnough_45 : decode cX7_isEnough 45 = .ok (.goto 4, 3) := by decide +kernel
theorem dX7_isEnough_48 : decode cX7_isEnough 48 = .ok (.iconst 0, 1) := by decide +kernel
theorem dX7_isEnough_49 : decode cX7_isEnough 49 = .ok (.istore_n 1, 1) := by decide +kernel
theorem dX7_isEnough_50 : decode cX7_isEnough 50 = .ok (.iinc 2 1, 3) := by decide +kernel
theorem dX7_isEnough_53 : decode cX7_isEnough 53 = .ok (.goto (-49), 3) := by decide +kernel
theorem dX7_isEnough_56 : decode cX7_isEnough 56 = .ok (.iload_n 1, 1) := by decide +kernel
theorem dX7_isEnough_57 : decode cX7_isEnough 57 = .ok (.ireturn, 1) := by decide +kernel
set_option maxRecDepth 20000 in
theorem ggX7_size_X7_isIn : GoodIn wsX7_size wsX7_isIn := goodIn_r _ [9] (by decide +kernel) (by decide +kernel)
set_option maxRecDepth 20000 in
theorem gX7_size_X7_isIn : GoodIn wsX7_size (va_wsS RX7 79 yX7_isIn wsX7_isIn) := goodIn_app (goodIn_of _ (by decide +kernel)) ggX7_size_X7_isIn
set_option maxRecDepth 20000 in
theorem ggX7_size_X7_sizeAt : GoodIn wsX7_size wsX7_sizeAt := goodIn_r _ [13, 1, 14, 67, 68, 69, 70, 71, 72, 73, 74, 75, 76, 77, 78, 79, 80, 81, 82, 83, 84, 85, 86, 87, 88, 89, 90] (by decide +kernel) (by decide +kernel)
set_option maxRecDepth 20000 in
theorem gX7_size_X7_sizeAt : GoodIn wsX7_size (wsV RX7 161 RX7 yX7_sizeAt wsX7_sizeAt) := goodIn_app (goodIn_of _ (by decide +kernel)) ggX7_size_X7_sizeAt
set_option maxRecDepth 20000 in
theorem ggX7_size_X7_solveNow : GoodIn wsX7_size wsX7_solveNow := goodIn_r _ [18, 19, 20, 21, 22, 23, 24, 25, 26, 27, 28, 29, 8, 30, 31, 32, 33, 3, 34, 35, 36, 37, 38, 39, 40, 41, 42, 43, 44, 45, 46, 47, 48, 49, 4, 50, 51, 52, 53, 54, 55, 56, 57, 58, 59, 60, 61, 67, 68, 69, 70, 71, 72, 73, 74, 75, 76, 77, 78, 79, 80, 81, 82, 83, 84, 85, 86, 87, 88, 89, 90] (by decide +kernel) (by decide +kernel)
set_option maxRecDepth 20000 in
theorem gX7_size_X7_solveNow : GoodIn wsX7_size (wsV RX7 137 RX7 yX7_solveNow wsX7_solveNow) := goodIn_app (goodIn_of _ (by decide +kernel)) ggX7_size_X7_solveNow
set_option maxRecDepth 20000 in
theorem ggX7_size_X7_isEnough : GoodIn wsX7_size wsX7_isEnough := goodIn_r _ [65, 21, 20, 55, 66, 58, 59, 60, 8, 61, 23, 39, 19, 38, 67, 68, 69, 70, 71, 72, 73, 74, 75, 76, 77, 78, 79, 80, 81, 82, 83, 84, 85, 86, 87, 88, 89, 90] (by decide +kernel) (by decide +kernel)
set_option maxRecDepth 20000 in
theorem gX7_size_X7_isEnough : GoodIn wsX7_size (wsV RX7 164 RX7 yX7_isEnough wsX7_isEnough) := goodIn_app (goodIn_of _ (by decide +kernel)) ggX7_size_X7_isEnough
theorem dX7_size_0 : decode cX7_size 0 = .ok (.aload_n 0, 1) := by decide +kernel
theorem dX7_size_1 : decode cX7_size 1 = .ok (.iload_n 1, 1) := by decide +kernel
theorem dX7_size_2 : decode cX7_size 2 = .ok (.iconst 0, 1) := by decide +kernel
theorem dX7_size_3 : decode cX7_size 3 = .ok (.iconst 3, 1) := by decide +kernel
theorem dX7_size_4 : decode cX7_size 4 = .ok (.invokestatic 79, 3) := by decide +kernel
theorem dX7_size_7 : decode cX7_size 7 = .ok (.ifCond .ne 7, 3) := by decide +kernel
theorem dX7_size_10 : decode cX7_size 10 = .ok (.iconst 1, 1) := by decide +kernel
theorem dX7_size_11 : decode cX7_size 11 = .ok (.goto 15, 3) := by decide +kernel
theorem dX7_size_14 : decode cX7_size 14 = .ok (.aload_n 0, 1) := by decide +kernel
theorem dX7_size_15 : decode cX7_size 15 = .ok (.getfield 156, 3) := by decide +kernel
theorem dX7_size_18 : decode cX7_size 18 = .ok (.ifCond .ne 7, 3) := by decide +kernel
theorem dX7_size_21 : decode cX7_size 21 = .ok (.iconst 2, 1) := by decide +kernel
theorem dX7_size_22 : decode cX7_size 22 = .ok (.goto 4, 3) := by decide +kernel
theorem dX7_size_25 : decode cX7_size 25 = .ok (.iconst 0, 1) := by decide +kernel
theorem dX7_size_26 : decode cX7_size 26 = .ok (.putfield 72, 3) := by decide +kernel
theorem dX7_size_29 : decode cX7_size 29 = .ok (.aload_n 0, 1) := by decide +kernel
theorem dX7_size_30 : decode cX7_size 30 = .ok (.getfield 72, 3) := by decide +kernel
theorem dX7_size_33 : decode cX7_size 33 = .ok (.ifCond .le 5, 3) := by decide +kernel
theorem dX7_size_36 : decode cX7_size 36 = .ok (.iconst 0, 1) := by decide +kernel
theorem dX7_size_37 : decode cX7_size 37 = .ok (.ireturn, 1) := by decide +kernel
theorem dX7_size_38 : decode cX7_size 38 = .ok (.iconst 0, 1) := by decide +kernel
theorem dX7_size_39 : decode cX7_size 39 = .ok (.istore_n 2, 1) := by decide +kernel
theorem dX7_size_40 : decode cX7_size 40 = .ok (.iload_n 2, 1) := by decide +kernel
theorem dX7_size_41 : decode cX7_size 41 = .ok (.aload_n 0, 1) := by decide +kernel
theorem dX7_size_42 : decode cX7_size 42 = .ok (.getfield 156, 3) := by decide +kernel
theorem dX7_size_45 : decode cX7_size 45 = .ok (.if_icmp .ge 64, 3) := by decide +kernel
theorem dX7_size_48 : decode cX7_size 48 = .ok (.aload_n 0, 1) := by decide +kernel
theorem dX7_size_49 : decode cX7_size 49 = .ok (.iload_n 2, 1) := by decide +kernel
theorem dX7_size_50 : decode cX7_size 50 = .ok (.invokevirtual 161, 3) := by decide +kernel
theorem dX7_size_53 : decode cX7_size 53 = .ok (.istore_n 3, 1) := by decide +kernel
theorem dX7_size_54 : decode cX7_size 54 = .ok (.iconst 0, 1) := by decide +kernel
theorem dX7_size_55 : decode cX7_size 55 = .ok (.istore 4, 2) := by decide +kernel
theorem dX7_size_57 : decode cX7_size 57 = .ok (.iload 4, 2) := by decide +kernel
theorem dX7_size_59 : decode cX7_size 59 = .ok (.aload_n 0, 1) := by decide +kernel
theorem dX7_size_60 : decode cX7_size 60 = .ok (.getfield 95, 3) := by decide +kernel
theorem dX7_size_63 : decode cX7_size 63 = .ok (.if_icmp .ge 22, 3) := by decide +kernel
theorem dX7_size_66 : decode cX7_size 66 = .ok (.aload_n 0, 1) := by decide +kernel
theorem dX7_size_67 : decode cX7_size 67 = .ok (.getfield 24, 3) := by decide +kernel
theorem dX7_size_70 : decode cX7_size 70 = .ok (.iload 4, 2) := by decide +kernel
theorem dX7_size_72 : decode cX7_size 72 = .ok (.aload_n 0, 1) := by decide +kernel
theorem dX7_size_73 : decode cX7_size 73 = .ok (.getfield 66, 3) := by decide +kernel
theorem dX7_size_76 : decode cX7_size 76 = .ok (.iload_n 3, 1) := by decide +kernel
theorem dX7_size_77 : decode cX7_size 77 = .ok (.daload, 1) := by decide +kernel
theorem dX7_size_78 : decode cX7_size 78 = .ok (.dastore, 1) := by decide +kernel
theorem dX7_size_79 : decode cX7_size 79 = .ok (.iinc 4 1, 3) := by decide +kernel
theorem dX7_size_82 : decode cX7_size 82 = .ok (.goto (-25), 3) := by decide +kernel
theorem dX7_size_85 : decode cX7_size 85 = .ok (.aload_n 0, 1) := by decide +kernel
theorem dX7_size_86 : decode cX7_size 86 = .ok (.iload_n 1, 1) := by decide +kernel
theorem dX7_size_87 : decode cX7_size 87 = .ok (.invokevirtual 137, 3) := by decide +kernel
theorem dX7_size_90 : decode cX7_size 90 = .ok (.iconst (-1), 1) := by decide +kernel
theorem dX7_size_91 : decode cX7_size 91 = .ok (.if_icmp .eq 12, 3) := by decide +kernel
theorem dX7_size_94 : decode cX7_size 94 = .ok (.aload_n 0, 1) := by decide +kernel
theorem dX7_size_95 : decode cX7_size 95 = .ok (.invokevirtual 164, 3) := by decide +kernel
theorem dX7_size_98 : decode cX7_size 98 = .ok (.ifCond .eq 5, 3) := by decide +kernel
theorem dX7_size_101 : decode cX7_size 101 = .ok (.iload_n 3, 1) := by decide +kernel
theorem dX7_size_102 : decode cX7_size 102 = .ok (.ireturn, 1) := by decide +kernel
theorem dX7_size_103 : decode cX7_size 103 = .ok (.iinc 2 1, 3) := by decide +kernel
theorem dX7_size_106 : decode cX7_size 106 = .ok (.goto (-66), 3) := by decide +kernel
theorem dX7_size_109 : decode cX7_size 109 = .ok (.iconst (-1), 1) := by decide +kernel
theorem dX7_size_110 : decode cX7_size 110 = .ok (.ireturn, 1) := by decide +kernel
set_option maxRecDepth 20000 in
theorem ggX7_read_X7_isIn : GoodIn wsX7_read wsX7_isIn := goodIn_r _ [9] (by decide +kernel) (by decide +kernel)
set_option maxRecDepth 20000 in
theorem gX7_read_X7_isIn : GoodIn wsX7_read (va_wsS RX7 79 yX7_isIn wsX7_isIn) := goodIn_app (goodIn_of _ (by decide +kernel)) ggX7_read_X7_isIn
set_option maxRecDepth 20000 in
theorem ggX7_read_X7_between : GoodIn wsX7_read wsX7_between := goodIn_r _ [12] (by decide +kernel) (by decide +kernel)
set_option maxRecDepth 20000 in
theorem gX7_read_X7_between : GoodIn wsX7_read (va_wsS RX7 87 yX7_between wsX7_between) := goodIn_app (goodIn_of _ (by decide +kernel)) ggX7_read_X7_between
theorem dX7_read_0 : decode cX7_read 0 = .ok (.aload_n 0, 1) := by decide +kernel
theorem dX7_read_1 : decode cX7_read 1 = .ok (.iload_n 1, 1) := by decide +kernel
theorem dX7_read_2 : decode cX7_read 2 = .ok (.iconst 0, 1) := by decide +kernel
theorem dX7_read_3 : decode cX7_read 3 = .ok (.aload_n 0, 1) := by decide +kernel
theorem dX7_read_4 : decode cX7_read 4 = .ok (.getfield 95, 3) := by decide +kernel
theorem dX7_read_7 : decode cX7_read 7 = .ok (.iconst 1, 1) := by decide +kernel
theorem dX7_read_8 : decode cX7_read 8 = .ok (.isub, 1) := by decide +kernel
theorem dX7_read_9 : decode cX7_read 9 = .ok (.invokestatic 79, 3) := by decide +kernel
theorem dX7_read_12 : decode cX7_read 12 = .ok (.ifCond .ne 7, 3) := by decide +kernel
theorem dX7_read_15 : decode cX7_read 15 = .ok (.iconst 1, 1) := by decide +kernel
theorem dX7_read_16 : decode cX7_read 16 = .ok (.goto 19, 3) := by decide +kernel
theorem dX7_read_19 : decode cX7_read 19 = .ok (.dload_n 2, 1) := by decide +kernel
theorem dX7_read_20 : decode cX7_read 20 = .ok (.dconst 0, 1) := by decide +kernel
theorem dX7_read_21 : decode cX7_read 21 = .ok (.ldc2_w 167, 3) := by decide +kernel
theorem dX7_read_24 : decode cX7_read 24 = .ok (.invokestatic 87, 3) := by decide +kernel
theorem dX7_read_27 : decode cX7_read 27 = .ok (.ifCond .eq 7, 3) := by decide +kernel
theorem dX7_read_30 : decode cX7_read 30 = .ok (.iconst 0, 1) := by decide +kernel
theorem dX7_read_31 : decode cX7_read 31 = .ok (.goto 4, 3) := by decide +kernel
theorem dX7_read_34 : decode cX7_read 34 = .ok (.iconst 2, 1) := by decide +kernel
theorem dX7_read_35 : decode cX7_read 35 = .ok (.putfield 72, 3) := by decide +kernel
theorem dX7_read_38 : decode cX7_read 38 = .ok (.aload_n 0, 1) := by decide +kernel
theorem dX7_read_39 : decode cX7_read 39 = .ok (.getfield 72, 3) := by decide +kernel
theorem dX7_read_42 : decode cX7_read 42 = .ok (.ifCond .ne 17, 3) := by decide +kernel
theorem dX7_read_45 : decode cX7_read 45 = .ok (.aload_n 0, 1) := by decide +kernel
theorem dX7_read_46 : decode cX7_read 46 = .ok (.getfield 30, 3) := by decide +kernel
theorem dX7_read_49 : decode cX7_read 49 = .ok (.iload_n 1, 1) := by decide +kernel
theorem dX7_read_50 : decode cX7_read 50 = .ok (.iconst 1, 1) := by decide +kernel
theorem dX7_read_51 : decode cX7_read 51 = .ok (.bastore, 1) := by decide +kernel
theorem dX7_read_52 : decode cX7_read 52 = .ok (.aload_n 0, 1) := by decide +kernel
theorem dX7_read_53 : decode cX7_read 53 = .ok (.getfield 34, 3) := by decide +kernel
theorem dX7_read_56 : decode cX7_read 56 = .ok (.iload_n 1, 1) := by decide +kernel
theorem dX7_read_57 : decode cX7_read 57 = .ok (.dload_n 2, 1) := by decide +kernel
theorem dX7_read_58 : decode cX7_read 58 = .ok (.dastore, 1) := by decide +kernel
theorem dX7_read_59 : decode cX7_read 59 = .ok (.return_, 1) := by decide +kernel
set_option maxRecDepth 20000 in
theorem ggX7_fit_X7_isIn : GoodIn wsX7_fit wsX7_isIn := goodIn_r _ [11] (by decide +kernel) (by decide +kernel)
set_option maxRecDepth 20000 in
theorem gX7_fit_X7_isIn : GoodIn wsX7_fit (va_wsS RX7 79 yX7_isIn wsX7_isIn) := goodIn_app (goodIn_of _ (by decide +kernel)) ggX7_fit_X7_isIn
set_option maxRecDepth 20000 in
theorem ggX7_fit_X7_flowOf : GoodIn wsX7_fit wsX7_flowOf := goodIn_r _ [15, 16, 17, 18, 19, 20, 21, 10, 22, 23, 24, 28, 29, 30, 31, 32, 33, 34, 35, 36, 37, 38, 39, 40, 41, 42, 43, 44, 45, 46, 47, 48, 49, 50, 51] (by decide +kernel) (by decide +kernel)
set_option maxRecDepth 20000 in
theorem gX7_fit_X7_flowOf : GoodIn wsX7_fit (wsV RX7 145 RX7 yX7_flowOf wsX7_flowOf) := goodIn_app (goodIn_of _ (by decide +kernel)) ggX7_fit_X7_flowOf
set_option maxRecDepth 20000 in
theorem ggX7_fit_X7_sizeOf : GoodIn wsX7_fit wsX7_sizeOf := goodIn_r _ [27] (by decide +kernel) (by decide +kernel)
set_option maxRecDepth 20000 in
theorem gX7_fit_X7_sizeOf : GoodIn wsX7_fit (va_wsS RX7 148 yX7_sizeOf wsX7_sizeOf) := goodIn_app (goodIn_of _ (by decide +kernel)) ggX7_fit_X7_sizeOf
theorem dX7_fit_0 : decode cX7_fit 0 = .ok (.aload_n 0, 1) := by decide +kernel
theorem dX7_fit_1 : decode cX7_fit 1 = .ok (.iload_n 1, 1) := by decide +kernel
theorem dX7_fit_2 : decode cX7_fit 2 = .ok (.iconst 0, 1) := by decide +kernel
theorem dX7_fit_3 : decode cX7_fit 3 = .ok (.bipush 50, 2) := by decide +kernel
theorem dX7_fit_5 : decode cX7_fit 5 = .ok (.invokestatic 79, 3) := by decide +kernel
theorem dX7_fit_8 : decode cX7_fit 8 = .ok (.ifCond .ne 7, 3) := by decide +kernel
theorem dX7_fit_11 : decode cX7_fit 11 = .ok (.iconst 1, 1) := by decide +kernel
theorem dX7_fit_12 : decode cX7_fit 12 = .ok (.goto 15, 3) := by decide +kernel
theorem dX7_fit_15 : decode cX7_fit 15 = .ok (.aload_n 0, 1) := by decide +kernel
theorem dX7_fit_16 : decode cX7_fit 16 = .ok (.getfield 75, 3) := by decide +kernel
theorem dX7_fit_19 : decode cX7_fit 19 = .ok (.ifCond .eq 7, 3) := by decide +kernel
theorem dX7_fit_22 : decode cX7_fit 22 = .ok (.iconst 0, 1) := by decide +kernel
theorem dX7_fit_23 : decode cX7_fit 23 = .ok (.goto 4, 3) := by decide +kernel
theorem dX7_fit_26 : decode cX7_fit 26 = .ok (.iconst 2, 1) := by decide +kernel
theorem dX7_fit_27 : decode cX7_fit 27 = .ok (.putfield 72, 3) := by decide +kernel
theorem dX7_fit_30 : decode cX7_fit 30 = .ok (.aload_n 0, 1) := by decide +kernel
theorem dX7_fit_31 : decode cX7_fit 31 = .ok (.getfield 72, 3) := by decide +kernel
theorem dX7_fit_34 : decode cX7_fit 34 = .ok (.ifCond .le 5, 3) := by decide +kernel
theorem dX7_fit_37 : decode cX7_fit 37 = .ok (.dconst 0, 1) := by decide +kernel
theorem dX7_fit_38 : decode cX7_fit 38 = .ok (.dreturn, 1) := by decide +kernel
theorem dX7_fit_39 : decode cX7_fit 39 = .ok (.iconst 0, 1) := by decide +kernel
theorem dX7_fit_40 : decode cX7_fit 40 = .ok (.istore_n 2, 1) := by decide +kernel
theorem dX7_fit_41 : decode cX7_fit 41 = .ok (.iload_n 2, 1) := by decide +kernel
theorem dX7_fit_42 : decode cX7_fit 42 = .ok (.iload_n 1, 1) := by decide +kernel
theorem dX7_fit_43 : decode cX7_fit 43 = .ok (.if_icmp .ge 88, 3) := by decide +kernel
theorem dX7_fit_46 : decode cX7_fit 46 = .ok (.iconst 0, 1) := by decide +kernel
theorem dX7_fit_47 : decode cX7_fit 47 = .ok (.istore_n 3, 1) := by decide +kernel
theorem dX7_fit_48 : decode cX7_fit 48 = .ok (.iload_n 3, 1) := by decide +kernel
theorem dX7_fit_49 : decode cX7_fit 49 = .ok (.aload_n 0, 1) := by decide +kernel
theorem dX7_fit_50 : decode cX7_fit 50 = .ok (.getfield 95, 3) := by decide +kernel
theorem dX7_fit_53 : decode cX7_fit 53 = .ok (.if_icmp .ge 72, 3) := by decide +kernel
theorem dX7_fit_56 : decode cX7_fit 56 = .ok (.aload_n 0, 1) := by decide +kernel
theorem dX7_fit_57 : decode cX7_fit 57 = .ok (.getfield 30, 3) := by decide +kernel
theorem dX7_fit_60 : decode cX7_fit 60 = .ok (.iload_n 3, 1) := by decide +kernel
theorem dX7_fit_61 : decode cX7_fit 61 = .ok (.baload, 1) := by decide +kernel
theorem dX7_fit_62 : decode cX7_fit 62 = .ok (.ifCond .eq 57, 3) := by decide +kernel
theorem dX7_fit_65 : decode cX7_fit 65 = .ok (.aload_n 0, 1) := by decide +kernel
theorem dX7_fit_66 : decode cX7_fit 66 = .ok (.getfield 27, 3) := by decide +kernel
theorem dX7_fit_69 : decode cX7_fit 69 = .ok (.iload_n 3, 1) := by decide +kernel
theorem dX7_fit_70 : decode cX7_fit 70 = .ok (.daload, 1) := by decide +kernel
theorem dX7_fit_71 : decode cX7_fit 71 = .ok (.aload_n 0, 1) := by decide +kernel
theorem dX7_fit_72 : decode cX7_fit 72 = .ok (.getfield 34, 3) := by decide +kernel
theorem dX7_fit_75 : decode cX7_fit 75 = .ok (.iload_n 3, 1) := by decide +kernel
theorem dX7_fit_76 : decode cX7_fit 76 = .ok (.daload, 1) := by decide +kernel
theorem dX7_fit_77 : decode cX7_fit 77 = .ok (.aload_n 0, 1) := by decide +kernel
theorem dX7_fit_78 : decode cX7_fit 78 = .ok (.iload_n 3, 1) := by decide +kernel
theorem dX7_fit_79 : decode cX7_fit 79 = .ok (.invokevirtual 145, 3) := by decide +kernel
theorem dX7_fit_82 : decode cX7_fit 82 = .ok (.invokestatic 148, 3) := by decide +kernel
theorem dX7_fit_85 : decode cX7_fit 85 = .ok (.dsub, 1) := by decide +kernel
theorem dX7_fit_86 : decode cX7_fit 86 = .ok (.aload_n 0, 1) := by decide +kernel
theorem dX7_fit_87 : decode cX7_fit 87 = .ok (.getfield 27, 3) := by decide +kernel
theorem dX7_fit_90 : decode cX7_fit 90 = .ok (.iload_n 3, 1) := by decide +kernel
theorem dX7_fit_91 : decode cX7_fit 91 = .ok (.daload, 1) := by decide +kernel
theorem dX7_fit_92 : decode cX7_fit 92 = .ok (.dsub, 1) := by decide +kernel
theorem dX7_fit_93 : decode cX7_fit 93 = .ok (.ldc2_w 169, 3) := by decide +kernel
theorem dX7_fit_96 : decode cX7_fit 96 = .ok (.ddiv, 1) := by decide +kernel
theorem dX7_fit_97 : decode cX7_fit 97 = .ok (.dadd, 1) := by decide +kernel
theorem dX7_fit_98 : decode cX7_fit 98 = .ok (.dstore 4, 2) := by decide +kernel
theorem dX7_fit_100 : decode cX7_fit 100 = .ok (.aload_n 0, 1) := by decide +kernel
theorem dX7_fit_101 : decode cX7_fit 101 = .ok (.getfield 27, 3) := by decide +kernel
theorem dX7_fit_104 : decode cX7_fit 104 = .ok (.iload_n 3, 1) := by decide +kernel
theorem dX7_fit_105 : decode cX7_fit 105 = .ok (.dload 4, 2) := by decide +kernel
theorem dX7_fit_107 : decode cX7_fit 107 = .ok (.dconst 0, 1) := by decide +kernel
theorem dX7_fit_108 : decode cX7_fit 108 = .ok (.dcmp .g, 1) := by decide +kernel
theorem dX7_fit_109 : decode cX7_fit 109 = .ok (.ifCond .ge 7, 3) := by decide +kernel
theorem dX7_fit_112 : decode cX7_fit 112 = .ok (.dconst 0, 1) := by decide +kernel
theorem dX7_fit_113 : decode cX7_fit 113 = .ok (.goto 5, 3) := by decide +kernel
theorem dX7_fit_116 : decode cX7_fit 116 = .ok (.dload 4, 2) := by decide +kernel
theorem dX7_fit_118 : decode cX7_fit 118 = .ok (.dastore, 1) := by decide +kernel
theorem dX7_fit_119 : decode cX7_fit 119 = .ok (.iinc 3 1, 3) := by decide +kernel
theorem dX7_fit_122 : decode cX7_fit 122 = .ok (.goto (-74), 3) := by decide +kernel
theorem dX7_fit_125 : decode cX7_fit 125 = .ok (.iinc 2 1, 3) := by decide +kernel
theorem dX7_fit_128 : decode cX7_fit 128 = .ok (.goto (-87), 3) := by decide +kernel
theorem dX7_fit_131 : decode cX7_fit 131 = .ok (.dconst 0, 1) := by decide +kernel
theorem dX7_fit_132 : decode cX7_fit 132 = .ok (.dstore_n 2, 1) := by decide +kernel
theorem dX7_fit_133 : decode cX7_fit 133 = .ok (.iconst 0, 1) := by decide +kernel
theorem dX7_fit_134 : decode cX7_fit 134 = .ok (.istore 4, 2) := by decide +kernel
theorem dX7_fit_136 : decode cX7_fit 136 = .ok (.iload 4, 2) := by decide +kernel
theorem dX7_fit_138 : decode cX7_fit 138 = .ok (.aload_n 0, 1) := by decide +kernel
theorem dX7_fit_139 : decode cX7_fit 139 = .ok (.getfield 95, 3) := by decide +kernel
theorem dX7_fit_142 : decode cX7_fit 142 = .ok (.if_icmp .ge 72, 3) := by decide +kernel
theorem dX7_fit_145 : decode cX7_fit 145 = .ok (.aload_n 0, 1) := by decide +kernel
theorem dX7_fit_146 : decode cX7_fit 146 = .ok (.getfield 30, 3) := by decide +kernel
theorem dX7_fit_149 : decode cX7_fit 149 = .ok (.iload 4, 2) := by decide +kernel
theorem dX7_fit_151 : decode cX7_fit 151 = .ok (.baload, 1) := by decide +kernel
theorem dX7_fit_152 : decode cX7_fit 152 = .ok (.ifCond .eq 31, 3) := by decide +kernel
theorem dX7_fit_155 : decode cX7_fit 155 = .ok (.aload_n 0, 1) := by decide +kernel
theorem dX7_fit_156 : decode cX7_fit 156 = .ok (.getfield 34, 3) := by decide +kernel
theorem dX7_fit_159 : decode cX7_fit 159 = .ok (.iload 4, 2) := by decide +kernel
theorem dX7_fit_161 : decode cX7_fit 161 = .ok (.daload, 1) := by decide +kernel
theorem dX7_fit_162 : decode cX7_fit 162 = .ok (.aload_n 0, 1) := by decide +kernel
theorem dX7_fit_163 : decode cX7_fit 163 = .ok (.iload 4, 2) := by decide +kernel
theorem dX7_fit_165 : decode cX7_fit 165 = .ok (.invokevirtual 145, 3) := by decide +kernel
theorem dX7_fit_168 : decode cX7_fit 168 = .ok (.invokestatic 148, 3) := by decide +kernel
theorem dX7_fit_171 : decode cX7_fit 171 = .ok (.dsub, 1) := by decide +kernel
theorem dX7_fit_172 : decode cX7_fit 172 = .ok (.aload_n 0, 1) := by decide +kernel
theorem dX7_fit_173 : decode cX7_fit 173 = .ok (.getfield 27, 3) := by decide +kernel
theorem dX7_fit_176 : decode cX7_fit 176 = .ok (.iload 4, 2) := by decide +kernel
theorem dX7_fit_178 : decode cX7_fit 178 = .ok (.daload, 1) := by decide +kernel
theorem dX7_fit_179 : decode cX7_fit 179 = .ok (.dsub, 1) := by decide +kernel
theorem dX7_fit_180 : decode cX7_fit 180 = .ok (.goto 4, 3) := by decide +kernel
theorem dX7_fit_183 : decode cX7_fit 183 = .ok (.dconst 0, 1) := by decide +kernel
theorem dX7_fit_184 : decode cX7_fit 184 = .ok (.dstore 5, 2) := by decide +kernel
theorem dX7_fit_186 : decode cX7_fit 186 = .ok (.aload_n 0, 1) := by decide +kernel
theorem dX7_fit_187 : decode cX7_fit 187 = .ok (.getfield 30, 3) := by decide +kernel
theorem dX7_fit_190 : decode cX7_fit 190 = .ok (.iload 4, 2) := by decide +kernel
theorem dX7_fit_192 : decode cX7_fit 192 = .ok (.baload, 1) := by decide +kernel
theorem dX7_fit_193 : decode cX7_fit 193 = .ok (.ifCond .eq 13, 3) := by decide +kernel
theorem dX7_fit_196 : decode cX7_fit 196 = .ok (.dload_n 2, 1) := by decide +kernel
theorem dX7_fit_197 : decode cX7_fit 197 = .ok (.dload 5, 2) := by decide +kernel
theorem dX7_fit_199 : decode cX7_fit 199 = .ok (.dload 5, 2) := by decide +kernel
theorem dX7_fit_201 : decode cX7_fit 201 = .ok (.dmul, 1) := by decide +kernel
theorem dX7_fit_202 : decode cX7_fit 202 = .ok (.dadd, 1) := by decide +kernel
theorem dX7_fit_203 : decode cX7_fit 203 = .ok (.goto 4, 3) := by decide +kernel
theorem dX7_fit_206 : decode cX7_fit 206 = .ok (.dload_n 2, 1) := by decide +kernel
theorem dX7_fit_207 : decode cX7_fit 207 = .ok (.dstore_n 2, 1) := by decide +kernel
theorem dX7_fit_208 : decode cX7_fit 208 = .ok (.iinc 4 1, 3) := by decide +kernel
theorem dX7_fit_211 : decode cX7_fit 211 = .ok (.goto (-75), 3) := by decide +kernel
theorem dX7_fit_214 : decode cX7_fit 214 = .ok (.dload_n 2, 1) := by decide +kernel
theorem dX7_fit_215 : decode cX7_fit 215 = .ok (.dreturn, 1) := by decide +kernel
set_option maxRecDepth 20000 in
theorem ggX7_count_X7_isIn : GoodIn wsX7_count wsX7_isIn := goodIn_r _ [9] (by decide +kernel) (by decide +kernel)
set_option maxRecDepth 20000 in
theorem gX7_count_X7_isIn : GoodIn wsX7_count (va_wsS RX7 79 yX7_isIn wsX7_isIn) := goodIn_app (goodIn_of _ (by decide +kernel)) ggX7_count_X7_isIn
theorem dX7_count_0 : decode cX7_count 0 = .ok (.aload_n 0, 1) := by decide +kernel
theorem dX7_count_1 : decode cX7_count 1 = .ok (.iload_n 1, 1) := by decide +kernel
theorem dX7_count_2 : decode cX7_count 2 = .ok (.iconst 0, 1) := by decide +kernel
theorem dX7_count_3 : decode cX7_count 3 = .ok (.iconst 3, 1) := by decide +kernel
theorem dX7_count_4 : decode cX7_count 4 = .ok (.invokestatic 79, 3) := by decide +kernel
theorem dX7_count_7 : decode cX7_count 7 = .ok (.ifCond .eq 7, 3) := by decide +kernel
theorem dX7_count_10 : decode cX7_count 10 = .ok (.iconst 0, 1) := by decide +kernel
theorem dX7_count_11 : decode cX7_count 11 = .ok (.goto 4, 3) := by decide +kernel
theorem dX7_count_14 : decode cX7_count 14 = .ok (.iconst 1, 1) := by decide +kernel
theorem dX7_count_15 : decode cX7_count 15 = .ok (.putfield 72, 3) := by decide +kernel
theorem dX7_count_18 : decode cX7_count 18 = .ok (.aload_n 0, 1) := by decide +kernel
theorem dX7_count_19 : decode cX7_count 19 = .ok (.getfield 72, 3) := by decide +kernel
theorem dX7_count_22 : decode cX7_count 22 = .ok (.ifCond .le 7, 3) := by decide +kernel
theorem dX7_count_25 : decode cX7_count 25 = .ok (.iconst 0, 1) := by decide +kernel
theorem dX7_count_26 : decode cX7_count 26 = .ok (.goto 42, 3) := by decide +kernel
theorem dX7_count_29 : decode cX7_count 29 = .ok (.iload_n 1, 1) := by decide +kernel
theorem dX7_count_30 : decode cX7_count 30 = .ok (.ifCond .ne 10, 3) := by decide +kernel
theorem dX7_count_33 : decode cX7_count 33 = .ok (.aload_n 0, 1) := by decide +kernel
theorem dX7_count_34 : decode cX7_count 34 = .ok (.getfield 7, 3) := by decide +kernel
theorem dX7_count_37 : decode cX7_count 37 = .ok (.goto 31, 3) := by decide +kernel
theorem dX7_count_40 : decode cX7_count 40 = .ok (.iload_n 1, 1) := by decide +kernel
theorem dX7_count_41 : decode cX7_count 41 = .ok (.iconst 1, 1) := by decide +kernel
theorem dX7_count_42 : decode cX7_count 42 = .ok (.if_icmp .ne 10, 3) := by decide +kernel
theorem dX7_count_45 : decode cX7_count 45 = .ok (.aload_n 0, 1) := by decide +kernel
theorem dX7_count_46 : decode cX7_count 46 = .ok (.getfield 95, 3) := by decide +kernel
theorem dX7_count_49 : decode cX7_count 49 = .ok (.goto 19, 3) := by decide +kernel
theorem dX7_count_52 : decode cX7_count 52 = .ok (.iload_n 1, 1) := by decide +kernel
theorem dX7_count_53 : decode cX7_count 53 = .ok (.iconst 2, 1) := by decide +kernel
theorem dX7_count_54 : decode cX7_count 54 = .ok (.if_icmp .ne 10, 3) := by decide +kernel
theorem dX7_count_57 : decode cX7_count 57 = .ok (.aload_n 0, 1) := by decide +kernel
theorem dX7_count_58 : decode cX7_count 58 = .ok (.getfield 100, 3) := by decide +kernel
theorem dX7_count_61 : decode cX7_count 61 = .ok (.goto 7, 3) := by decide +kernel
theorem dX7_count_64 : decode cX7_count 64 = .ok (.aload_n 0, 1) := by decide +kernel
theorem dX7_count_65 : decode cX7_count 65 = .ok (.getfield 156, 3) := by decide +kernel
theorem dX7_count_68 : decode cX7_count 68 = .ok (.ireturn, 1) := by decide +kernel
set_option maxRecDepth 20000 in
theorem ggL_joint_X6_joint : GoodIn wsL_joint wsX6_joint := goodIn_ca (goodIn_r _ [6, 7, 8, 9, 10, 5, 11, 12, 13, 14, 15, 16, 17, 18, 19, 20] (by decide +kernel) (by decide +kernel)) (goodIn_sub (fun _ h => List.mem_cons_of_mem _ (List.mem_append_right _ h)) (by decide +kernel))
set_option maxRecDepth 20000 in
theorem gL_joint_X6_joint : GoodIn wsL_joint (wsV RL 7 RX6 yX6_joint wsX6_joint) := goodIn_app (goodIn_of _ (by decide +kernel)) ggL_joint_X6_joint
theorem dL_joint_0 : decode cL_joint 0 = .ok (.aload_n 1, 1) := by decide +kernel
theorem dL_joint_1 : decode cL_joint 1 = .ok (.iconst 0, 1) := by decide +kernel
theorem dL_joint_2 : decode cL_joint 2 = .ok (.aload_n 0, 1) := by decide +kernel
theorem dL_joint_3 : decode cL_joint 3 = .ok (.invokevirtual 7, 3) := by decide +kernel
theorem dL_joint_6 : decode cL_joint 6 = .ok (.i2l, 1) := by decide +kernel
theorem dL_joint_7 : decode cL_joint 7 = .ok (.lastore, 1) := by decide +kernel
theorem dL_joint_8 : decode cL_joint 8 = .ok (.goto 6, 3) := by decide +kernel
theorem dL_joint_11 : decode cL_joint 11 = .ok (.astore_n 2, 1) := by decide +kernel
theorem dL_joint_12 : decode cL_joint 12 = .ok (.iconst 1, 1) := by decide +kernel
theorem dL_joint_13 : decode cL_joint 13 = .ok (.ireturn, 1) := by decide +kernel
theorem dL_joint_14 : decode cL_joint 14 = .ok (.iconst 0, 1) := by decide +kernel
theorem dL_joint_15 : decode cL_joint 15 = .ok (.ireturn, 1) := by decide +kernel
set_option maxRecDepth 20000 in
theorem ggL_duct_X6_duct : GoodIn wsL_duct wsX6_duct := goodIn_ca (goodIn_ca (goodIn_ca (goodIn_r _ [8, 9, 10, 11, 12, 13, 14, 15, 16, 7, 17, 18, 19, 20, 21, 22, 23, 24, 25, 26, 27, 28, 29, 30, 31, 32, 33, 34, 35, 36, 37, 38, 39, 40, 41, 42, 43, 44, 45, 46, 47, 48, 49, 50, 51, 52, 53, 54, 55, 56, 57, 58, 59, 60, 61, 62, 63, 64, 65, 66, 67, 68] (by decide +kernel) (by decide +kernel)) (goodIn_sub (fun _ h => List.mem_cons_of_mem _ (List.mem_append_left _ (List.mem_append_left _ (List.mem_append_right _ h)))) (by decide +kernel))) (goodIn_sub (fun _ h => List.mem_cons_of_mem _ (List.mem_append_left _ (List.mem_append_right _ h))) (by decide +kernel))) (goodIn_sub (fun _ h => List.mem_cons_of_mem _ (List.mem_append_right _ h)) (by decide +kernel))
set_option maxRecDepth 20000 in
theorem gL_duct_X6_duct : GoodIn wsL_duct (wsV RL 15 RX6 yX6_duct wsX6_duct) := goodIn_app (goodIn_of _ (by decide +kernel)) ggL_duct_X6_duct
theorem dL_duct_0 : decode cL_duct 0 = .ok (.aload 7, 2) := by decide +kernel
theorem dL_duct_2 : decode cL_duct 2 = .ok (.iconst 0, 1) := by decide +kernel
theorem dL_duct_3 : decode cL_duct 3 = .ok (.aload_n 0, 1) := by decide +kernel
theorem dL_duct_4 : decode cL_duct 4 = .ok (.iload_n 1, 1) := by decide +kernel
theorem dL_duct_5 : decode cL_duct 5 = .ok (.iload_n 2, 1) := by decide +kernel
theorem dL_duct_6 : decode cL_duct 6 = .ok (.dload_n 3, 1) := by decide +kernel
theorem dL_duct_7 : decode cL_duct 7 = .ok (.dload 5, 2) := by decide +kernel
theorem dL_duct_9 : decode cL_duct 9 = .ok (.invokevirtual 15, 3) := by decide +kernel
theorem dL_duct_12 : decode cL_duct 12 = .ok (.i2l, 1) := by decide +kernel
theorem dL_duct_13 : decode cL_duct 13 = .ok (.lastore, 1) := by decide +kernel
theorem dL_duct_14 : decode cL_duct 14 = .ok (.goto 15, 3) := by decide +kernel
theorem dL_duct_17 : decode cL_duct 17 = .ok (.astore 8, 2) := by decide +kernel
theorem dL_duct_19 : decode cL_duct 19 = .ok (.iconst 1, 1) := by decide +kernel
theorem dL_duct_20 : decode cL_duct 20 = .ok (.ireturn, 1) := by decide +kernel
theorem dL_duct_21 : decode cL_duct 21 = .ok (.astore 8, 2) := by decide +kernel
theorem dL_duct_23 : decode cL_duct 23 = .ok (.iconst 2, 1) := by decide +kernel
theorem dL_duct_24 : decode cL_duct 24 = .ok (.ireturn, 1) := by decide +kernel
theorem dL_duct_25 : decode cL_duct 25 = .ok (.astore 8, 2) := by decide +kernel
theorem dL_duct_27 : decode cL_duct 27 = .ok (.iconst 3, 1) := by decide +kernel
theorem dL_duct_28 : decode cL_duct 28 = .ok (.ireturn, 1) := by decide +kernel
theorem dL_duct_29 : decode cL_duct 29 = .ok (.iconst 0, 1) := by decide +kernel
theorem dL_duct_30 : decode cL_duct 30 = .ok (.ireturn, 1) := by decide +kernel
set_option maxRecDepth 20000 in
theorem ggL_machine_X6_machine : GoodIn wsL_machine wsX6_machine := goodIn_ca (goodIn_ca (goodIn_ca (goodIn_r _ [8, 9, 10, 11, 12, 13, 14, 15, 16, 7, 17, 18, 19, 20, 21, 22, 23, 24, 25, 26, 27, 28, 29, 30, 31, 32, 33, 34, 35, 36, 37, 38, 39, 40, 41, 42, 43, 44, 45, 46, 47, 48, 49, 50, 51, 52, 53] (by decide +kernel) (by decide +kernel)) (goodIn_sub (fun _ h => List.mem_cons_of_mem _ (List.mem_append_left _ (List.mem_append_left _ (List.mem_append_right _ h)))) (by decide +kernel))) (goodIn_sub (fun _ h => List.mem_cons_of_mem _ (List.mem_append_left _ (List.mem_append_right _ h))) (by decide +kernel))) (goodIn_sub (fun _ h => List.mem_cons_of_mem _ (List.mem_append_right _ h)) (by decide +kernel))
set_option maxRecDepth 20000 in
theorem gL_machine_X6_machine : GoodIn wsL_machine (wsV RL 23 RX6 yX6_machine wsX6_machine) := goodIn_app (goodIn_of _ (by decide +kernel)) ggL_machine_X6_machine
theorem dL_machine_0 : decode cL_machine 0 = .ok (.aload 4, 2) := by decide +kernel
theorem dL_machine_2 : decode cL_machine 2 = .ok (.iconst 0, 1) := by decide +kernel
theorem dL_machine_3 : decode cL_machine 3 = .ok (.aload_n 0, 1) := by decide +kernel
theorem dL_machine_4 : decode cL_machine 4 = .ok (.iload_n 1, 1) := by decide +kernel
theorem dL_machine_5 : decode cL_machine 5 = .ok (.dload_n 2, 1) := by decide +kernel
theorem dL_machine_6 : decode cL_machine 6 = .ok (.invokevirtual 23, 3) := by decide +kernel
theorem dL_machine_9 : decode cL_machine 9 = .ok (.i2l, 1) := by decide +kernel
theorem dL_machine_10 : decode cL_machine 10 = .ok (.lastore, 1) := by decide +kernel
theorem dL_machine_11 : decode cL_machine 11 = .ok (.goto 15, 3) := by decide +kernel
theorem dL_machine_14 : decode cL_machine 14 = .ok (.astore 5, 2) := by decide +kernel
theorem dL_machine_16 : decode cL_machine 16 = .ok (.iconst 1, 1) := by decide +kernel
theorem dL_machine_17 : decode cL_machine 17 = .ok (.ireturn, 1) := by decide +kernel
theorem dL_machine_18 : decode cL_machine 18 = .ok (.astore 5, 2) := by decide +kernel
theorem dL_machine_20 : decode cL_machine 20 = .ok (.iconst 2, 1) := by decide +kernel
theorem dL_machine_21 : decode cL_machine 21 = .ok (.ireturn, 1) := by decide +kernel
theorem dL_machine_22 : decode cL_machine 22 = .ok (.astore 5, 2) := by decide +kernel
theorem dL_machine_24 : decode cL_machine 24 = .ok (.iconst 3, 1) := by decide +kernel
theorem dL_machine_25 : decode cL_machine 25 = .ok (.ireturn, 1) := by decide +kernel
theorem dL_machine_26 : decode cL_machine 26 = .ok (.iconst 0, 1) := by decide +kernel
theorem dL_machine_27 : decode cL_machine 27 = .ok (.ireturn, 1) := by decide +kernel
set_option maxRecDepth 20000 in
theorem ggL_use_X6_use : GoodIn wsL_use wsX6_use := goodIn_ca (goodIn_r _ [6, 7, 8, 9, 10, 11, 5, 12, 13, 14, 15, 16, 17, 18, 19, 20, 21, 22, 23, 24, 25, 26, 27, 28, 29, 30, 31, 32, 33] (by decide +kernel) (by decide +kernel)) (goodIn_sub (fun _ h => List.mem_cons_of_mem _ (List.mem_append_right _ h)) (by decide +kernel))
set_option maxRecDepth 20000 in
theorem gL_use_X6_use : GoodIn wsL_use (wsV RL 27 RX6 yX6_use wsX6_use) := goodIn_app (goodIn_of _ (by decide +kernel)) ggL_use_X6_use
theorem dL_use_0 : decode cL_use 0 = .ok (.aload_n 0, 1) := by decide +kernel
theorem dL_use_1 : decode cL_use 1 = .ok (.iload_n 1, 1) := by decide +kernel
theorem dL_use_2 : decode cL_use 2 = .ok (.iload_n 2, 1) := by decide +kernel
theorem dL_use_3 : decode cL_use 3 = .ok (.iload_n 3, 1) := by decide +kernel
theorem dL_use_4 : decode cL_use 4 = .ok (.invokevirtual 27, 3) := by decide +kernel
theorem dL_use_7 : decode cL_use 7 = .ok (.goto 7, 3) := by decide +kernel
theorem dL_use_10 : decode cL_use 10 = .ok (.astore 4, 2) := by decide +kernel
theorem dL_use_12 : decode cL_use 12 = .ok (.iconst 1, 1) := by decide +kernel
theorem dL_use_13 : decode cL_use 13 = .ok (.ireturn, 1) := by decide +kernel
theorem dL_use_14 : decode cL_use 14 = .ok (.iconst 0, 1) := by decide +kernel
theorem dL_use_15 : decode cL_use 15 = .ok (.ireturn, 1) := by decide +kernel
set_option maxRecDepth 20000 in
theorem ggL_fan_X6_fan : GoodIn wsL_fan wsX6_fan := goodIn_ca (goodIn_r _ [6, 7, 8, 9, 10, 11, 12, 13, 14, 5, 15, 16, 17, 18, 19, 20, 21, 22, 23, 24, 25, 26, 27, 28, 29, 30, 31, 32, 33, 34, 35] (by decide +kernel) (by decide +kernel)) (goodIn_sub (fun _ h => List.mem_cons_of_mem _ (List.mem_append_right _ h)) (by decide +kernel))
set_option maxRecDepth 20000 in
theorem gL_fan_X6_fan : GoodIn wsL_fan (wsV RL 31 RX6 yX6_fan wsX6_fan) := goodIn_app (goodIn_of _ (by decide +kernel)) ggL_fan_X6_fan
theorem dL_fan_0 : decode cL_fan 0 = .ok (.aload_n 0, 1) := by decide +kernel
theorem dL_fan_1 : decode cL_fan 1 = .ok (.dload_n 1, 1) := by decide +kernel
theorem dL_fan_2 : decode cL_fan 2 = .ok (.dload_n 3, 1) := by decide +kernel
theorem dL_fan_3 : decode cL_fan 3 = .ok (.invokevirtual 31, 3) := by decide +kernel
theorem dL_fan_6 : decode cL_fan 6 = .ok (.goto 7, 3) := by decide +kernel
theorem dL_fan_9 : decode cL_fan 9 = .ok (.astore 5, 2) := by decide +kernel
theorem dL_fan_11 : decode cL_fan 11 = .ok (.iconst 1, 1) := by decide +kernel
theorem dL_fan_12 : decode cL_fan 12 = .ok (.ireturn, 1) := by decide +kernel
theorem dL_fan_13 : decode cL_fan 13 = .ok (.iconst 0, 1) := by decide +kernel
theorem dL_fan_14 : decode cL_fan 14 = .ok (.ireturn, 1) := by decide +kernel
set_option maxRecDepth 20000 in
theorem ggL_solve_X6_solve : GoodIn wsL_solve wsX6_solve := goodIn_ca (goodIn_r _ [6, 7, 8, 9, 10, 5, 11, 12, 13, 14, 15, 16, 17, 18, 19, 20, 21, 22, 23, 24, 25, 26, 27, 28, 29, 30, 31, 32, 33, 34, 35, 36, 37, 38, 39, 40, 41, 42, 43, 44, 45, 46, 47, 48, 49, 50, 51, 52, 53, 54, 55, 56, 57, 58, 59, 60, 61, 62, 63, 64, 65, 66, 67, 68, 69, 70, 71, 72, 73, 74, 75, 76, 77, 78, 79, 80, 81, 82, 83, 84, 85, 86, 87, 88, 89, 90, 91, 92, 93, 94, 95, 96, 97, 98, 99, 100, 101, 102, 103, 104, 105, 106, 107, 108, 109, 110, 111, 112, 113, 114, 115, 116, 117, 118, 119, 120, 121, 122, 123, 124, 125, 126, 127, 128, 129, 130] (by decide +kernel) (by decide +kernel)) (goodIn_sub (fun _ h => List.mem_cons_of_mem _ (List.mem_append_right _ h)) (by decide +kernel))
set_option maxRecDepth 20000 in
theorem gL_solve_X6_solve : GoodIn wsL_solve (wsV RL 35 RX6 yX6_solve wsX6_solve) := goodIn_app (goodIn_of _ (by decide +kernel)) ggL_solve_X6_solve
theorem dL_solve_0 : decode cL_solve 0 = .ok (.aload_n 2, 1) := by decide +kernel
theorem dL_solve_1 : decode cL_solve 1 = .ok (.iconst 0, 1) := by decide +kernel
theorem dL_solve_2 : decode cL_solve 2 = .ok (.aload_n 0, 1) := by decide +kernel
theorem dL_solve_3 : decode cL_solve 3 = .ok (.iload_n 1, 1) := by decide +kernel
theorem dL_solve_4 : decode cL_solve 4 = .ok (.invokevirtual 35, 3) := by decide +kernel
theorem dL_solve_7 : decode cL_solve 7 = .ok (.i2l, 1) := by decide +kernel
theorem dL_solve_8 : decode cL_solve 8 = .ok (.lastore, 1) := by decide +kernel
theorem dL_solve_9 : decode cL_solve 9 = .ok (.goto 6, 3) := by decide +kernel
theorem dL_solve_12 : decode cL_solve 12 = .ok (.astore_n 3, 1) := by decide +kernel
theorem dL_solve_13 : decode cL_solve 13 = .ok (.iconst 1, 1) := by decide +kernel
theorem dL_solve_14 : decode cL_solve 14 = .ok (.ireturn, 1) := by decide +kernel
theorem dL_solve_15 : decode cL_solve 15 = .ok (.iconst 0, 1) := by decide +kernel
theorem dL_solve_16 : decode cL_solve 16 = .ok (.ireturn, 1) := by decide +kernel
set_option maxRecDepth 20000 in
theorem ggL_at_X6_at : GoodIn wsL_at wsX6_at := goodIn_ca (goodIn_ca (goodIn_r _ [7, 8, 9, 10, 11, 12, 13, 6, 14, 15, 16, 17, 18, 19, 20, 21, 22, 23, 24, 25, 26, 27, 28, 29, 30, 31, 32, 33, 34, 35, 36, 37, 38, 39, 40, 41, 42, 43, 44, 45, 46, 47, 48, 49, 50, 51, 52, 53, 54, 55, 56, 57, 58, 59, 60, 61, 62, 63, 64, 65, 66, 67, 68, 69, 70, 71, 72, 73, 74, 75, 76, 77, 78, 79, 80, 81, 82, 83, 84, 85, 86, 87] (by decide +kernel) (by decide +kernel)) (goodIn_sub (fun _ h => List.mem_cons_of_mem _ (List.mem_append_left _ (List.mem_append_right _ h))) (by decide +kernel))) (goodIn_sub (fun _ h => List.mem_cons_of_mem _ (List.mem_append_right _ h)) (by decide +kernel))
set_option maxRecDepth 20000 in
theorem gL_at_X6_at : GoodIn wsL_at (wsV RL 39 RX6 yX6_at wsX6_at) := goodIn_app (goodIn_of _ (by decide +kernel)) ggL_at_X6_at
theorem dL_at_0 : decode cL_at 0 = .ok (.aload_n 3, 1) := by decide +kernel
theorem dL_at_1 : decode cL_at 1 = .ok (.iconst 0, 1) := by decide +kernel
theorem dL_at_2 : decode cL_at 2 = .ok (.aload_n 0, 1) := by decide +kernel
theorem dL_at_3 : decode cL_at 3 = .ok (.iload_n 1, 1) := by decide +kernel
theorem dL_at_4 : decode cL_at 4 = .ok (.iload_n 2, 1) := by decide +kernel
theorem dL_at_5 : decode cL_at 5 = .ok (.invokevirtual 39, 3) := by decide +kernel
theorem dL_at_8 : decode cL_at 8 = .ok (.dastore, 1) := by decide +kernel
theorem dL_at_9 : decode cL_at 9 = .ok (.goto 11, 3) := by decide +kernel
theorem dL_at_12 : decode cL_at 12 = .ok (.astore 4, 2) := by decide +kernel
theorem dL_at_14 : decode cL_at 14 = .ok (.iconst 1, 1) := by decide +kernel
theorem dL_at_15 : decode cL_at 15 = .ok (.ireturn, 1) := by decide +kernel
theorem dL_at_16 : decode cL_at 16 = .ok (.astore 4, 2) := by decide +kernel
theorem dL_at_18 : decode cL_at 18 = .ok (.iconst 2, 1) := by decide +kernel
theorem dL_at_19 : decode cL_at 19 = .ok (.ireturn, 1) := by decide +kernel
theorem dL_at_20 : decode cL_at 20 = .ok (.iconst 0, 1) := by decide +kernel
theorem dL_at_21 : decode cL_at 21 = .ok (.ireturn, 1) := by decide +kernel
set_option maxRecDepth 20000 in
theorem ggL_of_X6_of : GoodIn wsL_of wsX6_of := goodIn_ca (goodIn_ca (goodIn_r _ [7, 8, 9, 10, 11, 12, 13, 14, 15, 16, 6, 17, 18, 19, 20, 21, 22, 23, 24, 25, 26, 27, 28, 29, 30, 31, 32, 33, 34, 35, 36, 37, 38, 39, 40, 41, 42, 43, 44, 45, 46, 47, 48, 49, 50, 51, 52, 53, 54, 55, 56, 57, 58, 59, 60, 61, 62, 63, 64, 65] (by decide +kernel) (by decide +kernel)) (goodIn_sub (fun _ h => List.mem_cons_of_mem _ (List.mem_append_left _ (List.mem_append_right _ h))) (by decide +kernel))) (goodIn_sub (fun _ h => List.mem_cons_of_mem _ (List.mem_append_right _ h)) (by decide +kernel))
set_option maxRecDepth 20000 in
theorem gL_of_X6_of : GoodIn wsL_of (wsV RL 43 RX6 yX6_of wsX6_of) := goodIn_app (goodIn_of _ (by decide +kernel)) ggL_of_X6_of
theorem dL_of_0 : decode cL_of 0 = .ok (.aload_n 3, 1) := by decide +kernel
theorem dL_of_1 : decode cL_of 1 = .ok (.iconst 0, 1) := by decide +kernel
theorem dL_of_2 : decode cL_of 2 = .ok (.aload_n 0, 1) := by decide +kernel
theorem dL_of_3 : decode cL_of 3 = .ok (.iload_n 1, 1) := by decide +kernel
theorem dL_of_4 : decode cL_of 4 = .ok (.iload_n 2, 1) := by decide +kernel
theorem dL_of_5 : decode cL_of 5 = .ok (.invokevirtual 43, 3) := by decide +kernel
theorem dL_of_8 : decode cL_of 8 = .ok (.dastore, 1) := by decide +kernel
theorem dL_of_9 : decode cL_of 9 = .ok (.goto 11, 3) := by decide +kernel
theorem dL_of_12 : decode cL_of 12 = .ok (.astore 4, 2) := by decide +kernel
theorem dL_of_14 : decode cL_of 14 = .ok (.iconst 1, 1) := by decide +kernel
theorem dL_of_15 : decode cL_of 15 = .ok (.ireturn, 1) := by decide +kernel
theorem dL_of_16 : decode cL_of 16 = .ok (.astore 4, 2) := by decide +kernel
theorem dL_of_18 : decode cL_of 18 = .ok (.iconst 2, 1) := by decide +kernel
theorem dL_of_19 : decode cL_of 19 = .ok (.ireturn, 1) := by decide +kernel
theorem dL_of_20 : decode cL_of 20 = .ok (.iconst 0, 1) := by decide +kernel
theorem dL_of_21 : decode cL_of 21 = .ok (.ireturn, 1) := by decide +kernel
set_option maxRecDepth 20000 in
theorem ggL_draws_X6_draws : GoodIn wsL_draws wsX6_draws := goodIn_ca (goodIn_ca (goodIn_r _ [7, 8, 9, 10, 11, 12, 13, 14, 6, 15, 16, 17, 18, 19, 20, 21, 22, 23, 24, 25, 26, 27, 28, 29, 30, 31, 32, 33, 34, 35, 36, 37, 38, 39, 40, 41, 42, 43, 44, 45, 46, 47, 48, 49, 50, 51, 52, 53] (by decide +kernel) (by decide +kernel)) (goodIn_sub (fun _ h => List.mem_cons_of_mem _ (List.mem_append_left _ (List.mem_append_right _ h))) (by decide +kernel))) (goodIn_sub (fun _ h => List.mem_cons_of_mem _ (List.mem_append_right _ h)) (by decide +kernel))
set_option maxRecDepth 20000 in
theorem gL_draws_X6_draws : GoodIn wsL_draws (wsV RL 46 RX6 yX6_draws wsX6_draws) := goodIn_app (goodIn_of _ (by decide +kernel)) ggL_draws_X6_draws
theorem dL_draws_0 : decode cL_draws 0 = .ok (.aload_n 3, 1) := by decide +kernel
theorem dL_draws_1 : decode cL_draws 1 = .ok (.iconst 0, 1) := by decide +kernel
theorem dL_draws_2 : decode cL_draws 2 = .ok (.aload_n 0, 1) := by decide +kernel
theorem dL_draws_3 : decode cL_draws 3 = .ok (.iload_n 1, 1) := by decide +kernel
theorem dL_draws_4 : decode cL_draws 4 = .ok (.iload_n 2, 1) := by decide +kernel
theorem dL_draws_5 : decode cL_draws 5 = .ok (.invokevirtual 46, 3) := by decide +kernel
theorem dL_draws_8 : decode cL_draws 8 = .ok (.dastore, 1) := by decide +kernel
theorem dL_draws_9 : decode cL_draws 9 = .ok (.goto 11, 3) := by decide +kernel
theorem dL_draws_12 : decode cL_draws 12 = .ok (.astore 4, 2) := by decide +kernel
theorem dL_draws_14 : decode cL_draws 14 = .ok (.iconst 1, 1) := by decide +kernel
theorem dL_draws_15 : decode cL_draws 15 = .ok (.ireturn, 1) := by decide +kernel
theorem dL_draws_16 : decode cL_draws 16 = .ok (.astore 4, 2) := by decide +kernel
theorem dL_draws_18 : decode cL_draws 18 = .ok (.iconst 2, 1) := by decide +kernel
theorem dL_draws_19 : decode cL_draws 19 = .ok (.ireturn, 1) := by decide +kernel
theorem dL_draws_20 : decode cL_draws 20 = .ok (.iconst 0, 1) := by decide +kernel
theorem dL_draws_21 : decode cL_draws 21 = .ok (.ireturn, 1) := by decide +kernel
set_option maxRecDepth 20000 in
theorem ggL_keeps_X6_keeps : GoodIn wsL_keeps wsX6_keeps := goodIn_ca (goodIn_ca (goodIn_r _ [7, 8, 9, 10, 11, 6, 12, 13, 14, 15, 16, 17, 18, 19, 20, 21, 22, 23, 24, 25, 26, 27, 28, 29, 30, 31, 32, 33, 34, 35, 36, 37, 38, 39, 40, 41, 42, 43, 44, 45, 46, 47, 48, 49, 50, 51, 52, 53, 54, 55, 56, 57, 58, 59, 60, 61] (by decide +kernel) (by decide +kernel)) (goodIn_sub (fun _ h => List.mem_cons_of_mem _ (List.mem_append_left _ (List.mem_append_right _ h))) (by decide +kernel))) (goodIn_sub (fun _ h => List.mem_cons_of_mem _ (List.mem_append_right _ h)) (by decide +kernel))
set_option maxRecDepth 20000 in
theorem gL_keeps_X6_keeps : GoodIn wsL_keeps (wsV RL 49 RX6 yX6_keeps wsX6_keeps) := goodIn_app (goodIn_of _ (by decide +kernel)) ggL_keeps_X6_keeps
theorem dL_keeps_0 : decode cL_keeps 0 = .ok (.aload_n 3, 1) := by decide +kernel
theorem dL_keeps_1 : decode cL_keeps 1 = .ok (.iconst 0, 1) := by decide +kernel
theorem dL_keeps_2 : decode cL_keeps 2 = .ok (.aload_n 0, 1) := by decide +kernel
theorem dL_keeps_3 : decode cL_keeps 3 = .ok (.dload_n 1, 1) := by decide +kernel
theorem dL_keeps_4 : decode cL_keeps 4 = .ok (.invokevirtual 49, 3) := by decide +kernel
theorem dL_keeps_7 : decode cL_keeps 7 = .ok (.ifCond .eq 7, 3) := by decide +kernel
theorem dL_keeps_10 : decode cL_keeps 10 = .ok (.lconst 1, 1) := by decide +kernel
theorem dL_keeps_11 : decode cL_keeps 11 = .ok (.goto 4, 3) := by decide +kernel
theorem dL_keeps_14 : decode cL_keeps 14 = .ok (.lconst 0, 1) := by decide +kernel
theorem dL_keeps_15 : decode cL_keeps 15 = .ok (.lastore, 1) := by decide +kernel
theorem dL_keeps_16 : decode cL_keeps 16 = .ok (.goto 11, 3) := by decide +kernel
theorem dL_keeps_19 : decode cL_keeps 19 = .ok (.astore 4, 2) := by decide +kernel
theorem dL_keeps_21 : decode cL_keeps 21 = .ok (.iconst 1, 1) := by decide +kernel
theorem dL_keeps_22 : decode cL_keeps 22 = .ok (.ireturn, 1) := by decide +kernel
theorem dL_keeps_23 : decode cL_keeps 23 = .ok (.astore 4, 2) := by decide +kernel
theorem dL_keeps_25 : decode cL_keeps 25 = .ok (.iconst 2, 1) := by decide +kernel
theorem dL_keeps_26 : decode cL_keeps 26 = .ok (.ireturn, 1) := by decide +kernel
theorem dL_keeps_27 : decode cL_keeps 27 = .ok (.iconst 0, 1) := by decide +kernel
theorem dL_keeps_28 : decode cL_keeps 28 = .ok (.ireturn, 1) := by decide +kernel
set_option maxRecDepth 20000 in
theorem ggL_list_X6_list : GoodIn wsL_list wsX6_list := goodIn_ca (goodIn_ca (goodIn_r _ [7, 8, 9, 10, 11, 12, 13, 14, 6, 15, 16, 17, 18, 19, 20, 21, 22, 23, 24, 25, 26, 27, 28, 29, 30, 31, 32, 33, 34, 35, 36, 37, 38, 39, 40, 41, 42, 43, 44, 45] (by decide +kernel) (by decide +kernel)) (goodIn_sub (fun _ h => List.mem_cons_of_mem _ (List.mem_append_left _ (List.mem_append_right _ h))) (by decide +kernel))) (goodIn_sub (fun _ h => List.mem_cons_of_mem _ (List.mem_append_right _ h)) (by decide +kernel))
set_option maxRecDepth 20000 in
theorem gL_list_X6_list : GoodIn wsL_list (wsV RL 53 RX6 yX6_list wsX6_list) := goodIn_app (goodIn_of _ (by decide +kernel)) ggL_list_X6_list
theorem dL_list_0 : decode cL_list 0 = .ok (.aload 4, 2) := by decide +kernel
theorem dL_list_2 : decode cL_list 2 = .ok (.iconst 0, 1) := by decide +kernel
theorem dL_list_3 : decode cL_list 3 = .ok (.aload_n 0, 1) := by decide +kernel
theorem dL_list_4 : decode cL_list 4 = .ok (.dload_n 1, 1) := by decide +kernel
theorem dL_list_5 : decode cL_list 5 = .ok (.iload_n 3, 1) := by decide +kernel
theorem dL_list_6 : decode cL_list 6 = .ok (.invokevirtual 53, 3) := by decide +kernel
theorem dL_list_9 : decode cL_list 9 = .ok (.i2l, 1) := by decide +kernel
theorem dL_list_10 : decode cL_list 10 = .ok (.lastore, 1) := by decide +kernel
theorem dL_list_11 : decode cL_list 11 = .ok (.goto 11, 3) := by decide +kernel
theorem dL_list_14 : decode cL_list 14 = .ok (.astore 5, 2) := by decide +kernel
theorem dL_list_16 : decode cL_list 16 = .ok (.iconst 1, 1) := by decide +kernel
theorem dL_list_17 : decode cL_list 17 = .ok (.ireturn, 1) := by decide +kernel
theorem dL_list_18 : decode cL_list 18 = .ok (.astore 5, 2) := by decide +kernel
theorem dL_list_20 : decode cL_list 20 = .ok (.iconst 2, 1) := by decide +kernel
theorem dL_list_21 : decode cL_list 21 = .ok (.ireturn, 1) := by decide +kernel
theorem dL_list_22 : decode cL_list 22 = .ok (.iconst 0, 1) := by decide +kernel
theorem dL_list_23 : decode cL_list 23 = .ok (.ireturn, 1) := by decide +kernel
set_option maxRecDepth 20000 in
theorem ggL_size_X6_size : GoodIn wsL_size wsX6_size := goodIn_ca (goodIn_ca (goodIn_r _ [7, 8, 9, 10, 11, 12, 13, 14, 15, 16, 6, 17, 18, 19, 20, 21, 22, 23, 24, 25, 26, 27, 28, 29, 30, 31, 32, 33, 34, 35, 36, 37, 38, 39, 40, 41, 42, 43, 44, 45, 46, 47, 48, 49, 50, 51, 52, 53, 54, 55, 56, 57, 58, 59, 60, 61, 62, 63, 64, 65, 66, 67, 68, 69, 70, 71, 72, 73, 74, 75, 76, 77, 78, 79, 80, 81, 82, 83, 84, 85, 86, 87, 88, 89, 90, 91, 92, 93, 94, 95, 96, 97, 98, 99, 100, 101, 102, 103, 104, 105, 106, 107, 108, 109, 110, 111, 112, 113, 114, 115, 116, 117, 118, 119, 120, 121, 122, 123, 124, 125, 126, 127, 128, 129, 130, 131, 132, 133, 134, 135, 136, 137, 138, 139, 140, 141, 142, 143, 144, 145, 146, 147, 148, 149, 150, 151, 152, 153, 154, 155, 156, 157, 158, 159, 160, 161, 162] (by decide +kernel) (by decide +kernel)) (goodIn_sub (fun _ h => List.mem_cons_of_mem _ (List.mem_append_left _ (List.mem_append_right _ h))) (by decide +kernel))) (goodIn_sub (fun _ h => List.mem_cons_of_mem _ (List.mem_append_right _ h)) (by decide +kernel))
set_option maxRecDepth 20000 in
theorem gL_size_X6_size : GoodIn wsL_size (wsV RL 57 RX6 yX6_size wsX6_size) := goodIn_app (goodIn_of _ (by decide +kernel)) ggL_size_X6_size
theorem dL_size_0 : decode cL_size 0 = .ok (.aload_n 2, 1) := by decide +kernel
theorem dL_size_1 : decode cL_size 1 = .ok (.iconst 0, 1) := by decide +kernel
theorem dL_size_2 : decode cL_size 2 = .ok (.aload_n 0, 1) := by decide +kernel
