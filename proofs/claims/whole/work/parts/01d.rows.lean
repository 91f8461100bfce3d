theorem dX4_init_0 : decode cX4_init 0 = .ok (.aload_n 0, 1) := by decide +kernel
theorem dX4_init_1 : decode cX4_init 1 = .ok (.invokespecial 3, 3) := by decide +kernel
theorem dX4_init_4 : decode cX4_init 4 = .ok (.aload_n 0, 1) := by decide +kernel
theorem dX4_init_5 : decode cX4_init 5 = .ok (.iconst 0, 1) := by decide +kernel
theorem dX4_init_6 : decode cX4_init 6 = .ok (.putfield 9, 3) := by decide +kernel
theorem dX4_init_9 : decode cX4_init 9 = .ok (.aload_n 0, 1) := by decide +kernel
theorem dX4_init_10 : decode cX4_init 10 = .ok (.bipush 8, 2) := by decide +kernel
theorem dX4_init_12 : decode cX4_init 12 = .ok (.newarray .int, 2) := by decide +kernel
theorem dX4_init_14 : decode cX4_init 14 = .ok (.putfield 15, 3) := by decide +kernel
theorem dX4_init_17 : decode cX4_init 17 = .ok (.aload_n 0, 1) := by decide +kernel
theorem dX4_init_18 : decode cX4_init 18 = .ok (.bipush 8, 2) := by decide +kernel
theorem dX4_init_20 : decode cX4_init 20 = .ok (.newarray .double, 2) := by decide +kernel
theorem dX4_init_22 : decode cX4_init 22 = .ok (.putfield 19, 3) := by decide +kernel
theorem dX4_init_25 : decode cX4_init 25 = .ok (.aload_n 0, 1) := by decide +kernel
theorem dX4_init_26 : decode cX4_init 26 = .ok (.bipush 8, 2) := by decide +kernel
theorem dX4_init_28 : decode cX4_init 28 = .ok (.newarray .double, 2) := by decide +kernel
theorem dX4_init_30 : decode cX4_init 30 = .ok (.putfield 23, 3) := by decide +kernel
theorem dX4_init_33 : decode cX4_init 33 = .ok (.aload_n 0, 1) := by decide +kernel
theorem dX4_init_34 : decode cX4_init 34 = .ok (.bipush 8, 2) := by decide +kernel
theorem dX4_init_36 : decode cX4_init 36 = .ok (.newarray .boolean, 2) := by decide +kernel
theorem dX4_init_38 : decode cX4_init 38 = .ok (.putfield 26, 3) := by decide +kernel
theorem dX4_init_41 : decode cX4_init 41 = .ok (.aload_n 0, 1) := by decide +kernel
theorem dX4_init_42 : decode cX4_init 42 = .ok (.bipush 8, 2) := by decide +kernel
theorem dX4_init_44 : decode cX4_init 44 = .ok (.newarray .int, 2) := by decide +kernel
theorem dX4_init_46 : decode cX4_init 46 = .ok (.putfield 30, 3) := by decide +kernel
theorem dX4_init_49 : decode cX4_init 49 = .ok (.return_, 1) := by decide +kernel
theorem dX4_add_0 : decode cX4_add 0 = .ok (.aload_n 0, 1) := by decide +kernel
theorem dX4_add_1 : decode cX4_add 1 = .ok (.getfield 9, 3) := by decide +kernel
theorem dX4_add_4 : decode cX4_add 4 = .ok (.istore 4, 2) := by decide +kernel
theorem dX4_add_6 : decode cX4_add 6 = .ok (.aload_n 0, 1) := by decide +kernel
theorem dX4_add_7 : decode cX4_add 7 = .ok (.dup, 1) := by decide +kernel
theorem dX4_add_8 : decode cX4_add 8 = .ok (.getfield 9, 3) := by decide +kernel
theorem dX4_add_11 : decode cX4_add 11 = .ok (.iconst 1, 1) := by decide +kernel
theorem dX4_add_12 : decode cX4_add 12 = .ok (.iadd, 1) := by decide +kernel
theorem dX4_add_13 : decode cX4_add 13 = .ok (.putfield 9, 3) := by decide +kernel
theorem dX4_add_16 : decode cX4_add 16 = .ok (.aload_n 0, 1) := by decide +kernel
theorem dX4_add_17 : decode cX4_add 17 = .ok (.getfield 15, 3) := by decide +kernel
theorem dX4_add_20 : decode cX4_add 20 = .ok (.iload 4, 2) := by decide +kernel
theorem dX4_add_22 : decode cX4_add 22 = .ok (.iload_n 1, 1) := by decide +kernel
theorem dX4_add_23 : decode cX4_add 23 = .ok (.iastore, 1) := by decide +kernel
theorem dX4_add_24 : decode cX4_add 24 = .ok (.aload_n 0, 1) := by decide +kernel
theorem dX4_add_25 : decode cX4_add 25 = .ok (.getfield 19, 3) := by decide +kernel
theorem dX4_add_28 : decode cX4_add 28 = .ok (.iload 4, 2) := by decide +kernel
theorem dX4_add_30 : decode cX4_add 30 = .ok (.dload_n 2, 1) := by decide +kernel
theorem dX4_add_31 : decode cX4_add 31 = .ok (.dastore, 1) := by decide +kernel
theorem dX4_add_32 : decode cX4_add 32 = .ok (.iload 4, 2) := by decide +kernel
theorem dX4_add_34 : decode cX4_add 34 = .ok (.ireturn, 1) := by decide +kernel
theorem dX4_setUsed_0 : decode cX4_setUsed 0 = .ok (.iconst 1, 1) := by decide +kernel
theorem dX4_setUsed_1 : decode cX4_setUsed 1 = .ok (.iload_n 1, 1) := by decide +kernel
theorem dX4_setUsed_2 : decode cX4_setUsed 2 = .ok (.ishl, 1) := by decide +kernel
theorem dX4_setUsed_3 : decode cX4_setUsed 3 = .ok (.istore 4, 2) := by decide +kernel
theorem dX4_setUsed_5 : decode cX4_setUsed 5 = .ok (.aload_n 0, 1) := by decide +kernel
theorem dX4_setUsed_6 : decode cX4_setUsed 6 = .ok (.getfield 30, 3) := by decide +kernel
theorem dX4_setUsed_9 : decode cX4_setUsed 9 = .ok (.iload_n 2, 1) := by decide +kernel
theorem dX4_setUsed_10 : decode cX4_setUsed 10 = .ok (.iload_n 3, 1) := by decide +kernel
theorem dX4_setUsed_11 : decode cX4_setUsed 11 = .ok (.ifCond .eq 15, 3) := by decide +kernel
theorem dX4_setUsed_14 : decode cX4_setUsed 14 = .ok (.aload_n 0, 1) := by decide +kernel
theorem dX4_setUsed_15 : decode cX4_setUsed 15 = .ok (.getfield 30, 3) := by decide +kernel
theorem dX4_setUsed_18 : decode cX4_setUsed 18 = .ok (.iload_n 2, 1) := by decide +kernel
theorem dX4_setUsed_19 : decode cX4_setUsed 19 = .ok (.iaload, 1) := by decide +kernel
theorem dX4_setUsed_20 : decode cX4_setUsed 20 = .ok (.iload 4, 2) := by decide +kernel
theorem dX4_setUsed_22 : decode cX4_setUsed 22 = .ok (.ior, 1) := by decide +kernel
theorem dX4_setUsed_23 : decode cX4_setUsed 23 = .ok (.goto 14, 3) := by decide +kernel
theorem dX4_setUsed_26 : decode cX4_setUsed 26 = .ok (.aload_n 0, 1) := by decide +kernel
theorem dX4_setUsed_27 : decode cX4_setUsed 27 = .ok (.getfield 30, 3) := by decide +kernel
theorem dX4_setUsed_30 : decode cX4_setUsed 30 = .ok (.iload_n 2, 1) := by decide +kernel
theorem dX4_setUsed_31 : decode cX4_setUsed 31 = .ok (.iaload, 1) := by decide +kernel
theorem dX4_setUsed_32 : decode cX4_setUsed 32 = .ok (.iload 4, 2) := by decide +kernel
theorem dX4_setUsed_34 : decode cX4_setUsed 34 = .ok (.iconst (-1), 1) := by decide +kernel
theorem dX4_setUsed_35 : decode cX4_setUsed 35 = .ok (.ixor, 1) := by decide +kernel
theorem dX4_setUsed_36 : decode cX4_setUsed 36 = .ok (.iand, 1) := by decide +kernel
theorem dX4_setUsed_37 : decode cX4_setUsed 37 = .ok (.iastore, 1) := by decide +kernel
theorem dX4_setUsed_38 : decode cX4_setUsed 38 = .ok (.return_, 1) := by decide +kernel
theorem dX4_openFor_0 : decode cX4_openFor 0 = .ok (.iconst 0, 1) := by decide +kernel
theorem dX4_openFor_1 : decode cX4_openFor 1 = .ok (.istore_n 2, 1) := by decide +kernel
theorem dX4_openFor_2 : decode cX4_openFor 2 = .ok (.iload_n 2, 1) := by decide +kernel
theorem dX4_openFor_3 : decode cX4_openFor 3 = .ok (.aload_n 0, 1) := by decide +kernel
theorem dX4_openFor_4 : decode cX4_openFor 4 = .ok (.getfield 9, 3) := by decide +kernel
theorem dX4_openFor_7 : decode cX4_openFor 7 = .ok (.if_icmp .ge 54, 3) := by decide +kernel
theorem dX4_openFor_10 : decode cX4_openFor 10 = .ok (.aload_n 0, 1) := by decide +kernel
theorem dX4_openFor_11 : decode cX4_openFor 11 = .ok (.getfield 26, 3) := by decide +kernel
theorem dX4_openFor_14 : decode cX4_openFor 14 = .ok (.iload_n 2, 1) := by decide +kernel
theorem dX4_openFor_15 : decode cX4_openFor 15 = .ok (.aload_n 0, 1) := by decide +kernel
theorem dX4_openFor_16 : decode cX4_openFor 16 = .ok (.getfield 30, 3) := by decide +kernel
theorem dX4_openFor_19 : decode cX4_openFor 19 = .ok (.iload_n 2, 1) := by decide +kernel
theorem dX4_openFor_20 : decode cX4_openFor 20 = .ok (.iaload, 1) := by decide +kernel
theorem dX4_openFor_21 : decode cX4_openFor 21 = .ok (.iload_n 1, 1) := by decide +kernel
theorem dX4_openFor_22 : decode cX4_openFor 22 = .ok (.ishr, 1) := by decide +kernel
theorem dX4_openFor_23 : decode cX4_openFor 23 = .ok (.iconst 1, 1) := by decide +kernel
theorem dX4_openFor_24 : decode cX4_openFor 24 = .ok (.iand, 1) := by decide +kernel
theorem dX4_openFor_25 : decode cX4_openFor 25 = .ok (.iconst 1, 1) := by decide +kernel
theorem dX4_openFor_26 : decode cX4_openFor 26 = .ok (.if_icmp .ne 7, 3) := by decide +kernel
theorem dX4_openFor_29 : decode cX4_openFor 29 = .ok (.iconst 1, 1) := by decide +kernel
theorem dX4_openFor_30 : decode cX4_openFor 30 = .ok (.goto 4, 3) := by decide +kernel
theorem dX4_openFor_33 : decode cX4_openFor 33 = .ok (.iconst 0, 1) := by decide +kernel
theorem dX4_openFor_34 : decode cX4_openFor 34 = .ok (.bastore, 1) := by decide +kernel
theorem dX4_openFor_35 : decode cX4_openFor 35 = .ok (.aload_n 0, 1) := by decide +kernel
theorem dX4_openFor_36 : decode cX4_openFor 36 = .ok (.getfield 23, 3) := by decide +kernel
theorem dX4_openFor_39 : decode cX4_openFor 39 = .ok (.iload_n 2, 1) := by decide +kernel
theorem dX4_openFor_40 : decode cX4_openFor 40 = .ok (.aload_n 0, 1) := by decide +kernel
theorem dX4_openFor_41 : decode cX4_openFor 41 = .ok (.getfield 26, 3) := by decide +kernel
theorem dX4_openFor_44 : decode cX4_openFor 44 = .ok (.iload_n 2, 1) := by decide +kernel
theorem dX4_openFor_45 : decode cX4_openFor 45 = .ok (.baload, 1) := by decide +kernel
theorem dX4_openFor_46 : decode cX4_openFor 46 = .ok (.ifCond .eq 7, 3) := by decide +kernel
theorem dX4_openFor_49 : decode cX4_openFor 49 = .ok (.dconst 1, 1) := by decide +kernel
theorem dX4_openFor_50 : decode cX4_openFor 50 = .ok (.goto 4, 3) := by decide +kernel
theorem dX4_openFor_53 : decode cX4_openFor 53 = .ok (.dconst 0, 1) := by decide +kernel
theorem dX4_openFor_54 : decode cX4_openFor 54 = .ok (.dastore, 1) := by decide +kernel
theorem dX4_openFor_55 : decode cX4_openFor 55 = .ok (.iinc 2 1, 3) := by decide +kernel
theorem dX4_openFor_58 : decode cX4_openFor 58 = .ok (.goto (-56), 3) := by decide +kernel
theorem dX4_openFor_61 : decode cX4_openFor 61 = .ok (.return_, 1) := by decide +kernel
theorem dX4_isOpenAt_0 : decode cX4_isOpenAt 0 = .ok (.aload_n 0, 1) := by decide +kernel
theorem dX4_isOpenAt_1 : decode cX4_isOpenAt 1 = .ok (.getfield 26, 3) := by decide +kernel
theorem dX4_isOpenAt_4 : decode cX4_isOpenAt 4 = .ok (.iload_n 1, 1) := by decide +kernel
theorem dX4_isOpenAt_5 : decode cX4_isOpenAt 5 = .ok (.baload, 1) := by decide +kernel
theorem dX4_isOpenAt_6 : decode cX4_isOpenAt 6 = .ok (.ifCond .eq 17, 3) := by decide +kernel
theorem dX4_isOpenAt_9 : decode cX4_isOpenAt 9 = .ok (.aload_n 0, 1) := by decide +kernel
theorem dX4_isOpenAt_10 : decode cX4_isOpenAt 10 = .ok (.getfield 15, 3) := by decide +kernel
theorem dX4_isOpenAt_13 : decode cX4_isOpenAt 13 = .ok (.iload_n 1, 1) := by decide +kernel
theorem dX4_isOpenAt_14 : decode cX4_isOpenAt 14 = .ok (.iaload, 1) := by decide +kernel
theorem dX4_isOpenAt_15 : decode cX4_isOpenAt 15 = .ok (.iload_n 2, 1) := by decide +kernel
theorem dX4_isOpenAt_16 : decode cX4_isOpenAt 16 = .ok (.if_icmp .ne 7, 3) := by decide +kernel
theorem dX4_isOpenAt_19 : decode cX4_isOpenAt 19 = .ok (.iconst 1, 1) := by decide +kernel
theorem dX4_isOpenAt_20 : decode cX4_isOpenAt 20 = .ok (.goto 4, 3) := by decide +kernel
theorem dX4_isOpenAt_23 : decode cX4_isOpenAt 23 = .ok (.iconst 0, 1) := by decide +kernel
theorem dX4_isOpenAt_24 : decode cX4_isOpenAt 24 = .ok (.ireturn, 1) := by decide +kernel
theorem dX5_init_0 : decode cX5_init 0 = .ok (.aload_n 0, 1) := by decide +kernel
theorem dX5_init_1 : decode cX5_init 1 = .ok (.invokespecial 3, 3) := by decide +kernel
theorem dX5_init_4 : decode cX5_init 4 = .ok (.aload_n 0, 1) := by decide +kernel
theorem dX5_init_5 : decode cX5_init 5 = .ok (.iconst 0, 1) := by decide +kernel
theorem dX5_init_6 : decode cX5_init 6 = .ok (.putfield 9, 3) := by decide +kernel
theorem dX5_init_9 : decode cX5_init 9 = .ok (.aload_n 0, 1) := by decide +kernel
theorem dX5_init_10 : decode cX5_init 10 = .ok (.bipush 6, 2) := by decide +kernel
theorem dX5_init_12 : decode cX5_init 12 = .ok (.newarray .double, 2) := by decide +kernel
theorem dX5_init_14 : decode cX5_init 14 = .ok (.putfield 15, 3) := by decide +kernel
theorem dX5_init_17 : decode cX5_init 17 = .ok (.aload_n 0, 1) := by decide +kernel
theorem dX5_init_18 : decode cX5_init 18 = .ok (.bipush 6, 2) := by decide +kernel
theorem dX5_init_20 : decode cX5_init 20 = .ok (.newarray .int, 2) := by decide +kernel
theorem dX5_init_22 : decode cX5_init 22 = .ok (.putfield 19, 3) := by decide +kernel
theorem dX5_init_25 : decode cX5_init 25 = .ok (.aload_n 0, 1) := by decide +kernel
theorem dX5_init_26 : decode cX5_init 26 = .ok (.bipush 6, 2) := by decide +kernel
theorem dX5_init_28 : decode cX5_init 28 = .ok (.newarray .int, 2) := by decide +kernel
theorem dX5_init_30 : decode cX5_init 30 = .ok (.putfield 23, 3) := by decide +kernel
theorem dX5_init_33 : decode cX5_init 33 = .ok (.return_, 1) := by decide +kernel
theorem dX5_add_0 : decode cX5_add 0 = .ok (.aload_n 0, 1) := by decide +kernel
theorem dX5_add_1 : decode cX5_add 1 = .ok (.getfield 9, 3) := by decide +kernel
theorem dX5_add_4 : decode cX5_add 4 = .ok (.istore 4, 2) := by decide +kernel
theorem dX5_add_6 : decode cX5_add 6 = .ok (.aload_n 0, 1) := by decide +kernel
theorem dX5_add_7 : decode cX5_add 7 = .ok (.getfield 15, 3) := by decide +kernel
theorem dX5_add_10 : decode cX5_add 10 = .ok (.iload 4, 2) := by decide +kernel
theorem dX5_add_12 : decode cX5_add 12 = .ok (.dload_n 1, 1) := by decide +kernel
theorem dX5_add_13 : decode cX5_add 13 = .ok (.dastore, 1) := by decide +kernel
theorem dX5_add_14 : decode cX5_add 14 = .ok (.aload_n 0, 1) := by decide +kernel
theorem dX5_add_15 : decode cX5_add 15 = .ok (.getfield 19, 3) := by decide +kernel
theorem dX5_add_18 : decode cX5_add 18 = .ok (.iload 4, 2) := by decide +kernel
theorem dX5_add_20 : decode cX5_add 20 = .ok (.iload_n 3, 1) := by decide +kernel
theorem dX5_add_21 : decode cX5_add 21 = .ok (.iastore, 1) := by decide +kernel
theorem dX5_add_22 : decode cX5_add 22 = .ok (.iload 4, 2) := by decide +kernel
theorem dX5_add_24 : decode cX5_add 24 = .ok (.istore 5, 2) := by decide +kernel
theorem dX5_add_26 : decode cX5_add 26 = .ok (.iload 5, 2) := by decide +kernel
theorem dX5_add_28 : decode cX5_add 28 = .ok (.ifCond .le 43, 3) := by decide +kernel
theorem dX5_add_31 : decode cX5_add 31 = .ok (.aload_n 0, 1) := by decide +kernel
theorem dX5_add_32 : decode cX5_add 32 = .ok (.getfield 19, 3) := by decide +kernel
theorem dX5_add_35 : decode cX5_add 35 = .ok (.aload_n 0, 1) := by decide +kernel
theorem dX5_add_36 : decode cX5_add 36 = .ok (.getfield 23, 3) := by decide +kernel
theorem dX5_add_39 : decode cX5_add 39 = .ok (.iload 5, 2) := by decide +kernel
theorem dX5_add_41 : decode cX5_add 41 = .ok (.iconst 1, 1) := by decide +kernel
theorem dX5_add_42 : decode cX5_add 42 = .ok (.isub, 1) := by decide +kernel
theorem dX5_add_43 : decode cX5_add 43 = .ok (.iaload, 1) := by decide +kernel
theorem dX5_add_44 : decode cX5_add 44 = .ok (.iaload, 1) := by decide +kernel
theorem dX5_add_45 : decode cX5_add 45 = .ok (.iload_n 3, 1) := by decide +kernel
theorem dX5_add_46 : decode cX5_add 46 = .ok (.if_icmp .le 25, 3) := by decide +kernel
theorem dX5_add_49 : decode cX5_add 49 = .ok (.aload_n 0, 1) := by decide +kernel
theorem dX5_add_50 : decode cX5_add 50 = .ok (.getfield 23, 3) := by decide +kernel
theorem dX5_add_53 : decode cX5_add 53 = .ok (.iload 5, 2) := by decide +kernel
theorem dX5_add_55 : decode cX5_add 55 = .ok (.aload_n 0, 1) := by decide +kernel
theorem dX5_add_56 : decode cX5_add 56 = .ok (.getfield 23, 3) := by decide +kernel
theorem dX5_add_59 : decode cX5_add 59 = .ok (.iload 5, 2) := by decide +kernel
theorem dX5_add_61 : decode cX5_add 61 = .ok (.iconst 1, 1) := by decide +kernel
theorem dX5_add_62 : decode cX5_add 62 = .ok (.isub, 1) := by decide +kernel
theorem dX5_add_63 : decode cX5_add 63 = .ok (.iaload, 1) := by decide +kernel
theorem dX5_add_64 : decode cX5_add 64 = .ok (.iastore, 1) := by decide +kernel
theorem dX5_add_65 : decode cX5_add 65 = .ok (.iinc 5 (-1), 3) := by decide +kernel
theorem dX5_add_68 : decode cX5_add 68 = .ok (.goto (-42), 3) := by decide +kernel
theorem dX5_add_71 : decode cX5_add 71 = .ok (.aload_n 0, 1) := by decide +kernel
theorem dX5_add_72 : decode cX5_add 72 = .ok (.getfield 23, 3) := by decide +kernel
theorem dX5_add_75 : decode cX5_add 75 = .ok (.iload 5, 2) := by decide +kernel
theorem dX5_add_77 : decode cX5_add 77 = .ok (.iload 4, 2) := by decide +kernel
theorem dX5_add_79 : decode cX5_add 79 = .ok (.iastore, 1) := by decide +kernel
theorem dX5_add_80 : decode cX5_add 80 = .ok (.aload_n 0, 1) := by decide +kernel
theorem dX5_add_81 : decode cX5_add 81 = .ok (.dup, 1) := by decide +kernel
theorem dX5_add_82 : decode cX5_add 82 = .ok (.getfield 9, 3) := by decide +kernel
theorem dX5_add_85 : decode cX5_add 85 = .ok (.iconst 1, 1) := by decide +kernel
theorem dX5_add_86 : decode cX5_add 86 = .ok (.iadd, 1) := by decide +kernel
theorem dX5_add_87 : decode cX5_add 87 = .ok (.putfield 9, 3) := by decide +kernel
theorem dX5_add_90 : decode cX5_add 90 = .ok (.iload 4, 2) := by decide +kernel
theorem dX5_add_92 : decode cX5_add 92 = .ok (.ireturn, 1) := by decide +kernel
set_option maxRecDepth 20000 in
theorem ggX6_init_X0_init : GoodIn wsX6_init wsX0_init := goodIn_r _ [23, 24, 2, 3, 25, 26, 27, 28, 29, 30, 31, 32, 33, 34, 35, 36, 37, 38, 39, 40, 41, 42, 43, 44, 45, 46, 47, 48, 49, 50, 51, 52, 53, 54, 55, 56, 57, 58, 59, 60, 61, 62, 63, 64, 65, 66, 67, 68, 69, 70, 103, 104, 105, 106, 107, 108, 109, 110, 84, 85, 86, 87, 88, 111, 112, 113, 114, 115, 116, 117, 118, 119] (by decide +kernel) (by decide +kernel)
set_option maxRecDepth 20000 in
theorem gX6_init_X0_init_n9 : GoodIn wsX6_init (wsX0_init) := ggX6_init_X0_init
set_option maxRecDepth 20000 in
theorem ggX6_init_X3_init : GoodIn wsX6_init wsX3_init := goodIn_r _ [72, 73, 2, 3, 37, 74, 75, 60, 76, 96, 97, 98] (by decide +kernel) (by decide +kernel)
set_option maxRecDepth 20000 in
theorem gX6_init_X3_init_n28 : GoodIn wsX6_init (wsX3_init) := ggX6_init_X3_init
set_option maxRecDepth 20000 in
theorem ggX6_init_X5_init : GoodIn wsX6_init wsX5_init := goodIn_r _ [78, 79, 2, 3, 80, 37, 81, 44, 82, 83, 99, 100, 101, 102] (by decide +kernel) (by decide +kernel)
set_option maxRecDepth 20000 in
theorem gX6_init_X5_init_n35 : GoodIn wsX6_init (wsX5_init) := ggX6_init_X5_init
theorem dX6_init_0 : decode cX6_init 0 = .ok (.aload_n 0, 1) := by decide +kernel
theorem dX6_init_1 : decode cX6_init 1 = .ok (.invokespecial 1, 3) := by decide +kernel
theorem dX6_init_4 : decode cX6_init 4 = .ok (.aload_n 0, 1) := by decide +kernel
theorem dX6_init_5 : decode cX6_init 5 = .ok (.new 7, 3) := by decide +kernel
theorem dX6_init_8 : decode cX6_init 8 = .ok (.dup, 1) := by decide +kernel
theorem dX6_init_9 : decode cX6_init 9 = .ok (.invokespecial 9, 3) := by decide +kernel
theorem dX6_init_12 : decode cX6_init 12 = .ok (.putfield 10, 3) := by decide +kernel
theorem dX6_init_15 : decode cX6_init 15 = .ok (.aload_n 0, 1) := by decide +kernel
theorem dX6_init_16 : decode cX6_init 16 = .ok (.aload_n 0, 1) := by decide +kernel
theorem dX6_init_17 : decode cX6_init 17 = .ok (.getfield 10, 3) := by decide +kernel
theorem dX6_init_20 : decode cX6_init 20 = .ok (.getfield 16, 3) := by decide +kernel
theorem dX6_init_23 : decode cX6_init 23 = .ok (.putfield 20, 3) := by decide +kernel
theorem dX6_init_26 : decode cX6_init 26 = .ok (.aload_n 0, 1) := by decide +kernel
theorem dX6_init_27 : decode cX6_init 27 = .ok (.aload_n 0, 1) := by decide +kernel
theorem dX6_init_28 : decode cX6_init 28 = .ok (.getfield 10, 3) := by decide +kernel
theorem dX6_init_31 : decode cX6_init 31 = .ok (.getfield 21, 3) := by decide +kernel
theorem dX6_init_34 : decode cX6_init 34 = .ok (.putfield 25, 3) := by decide +kernel
theorem dX6_init_37 : decode cX6_init 37 = .ok (.aload_n 0, 1) := by decide +kernel
theorem dX6_init_38 : decode cX6_init 38 = .ok (.new 26, 3) := by decide +kernel
theorem dX6_init_41 : decode cX6_init 41 = .ok (.dup, 1) := by decide +kernel
theorem dX6_init_42 : decode cX6_init 42 = .ok (.invokespecial 28, 3) := by decide +kernel
theorem dX6_init_45 : decode cX6_init 45 = .ok (.putfield 29, 3) := by decide +kernel
theorem dX6_init_48 : decode cX6_init 48 = .ok (.aload_n 0, 1) := by decide +kernel
theorem dX6_init_49 : decode cX6_init 49 = .ok (.new 33, 3) := by decide +kernel
theorem dX6_init_52 : decode cX6_init 52 = .ok (.dup, 1) := by decide +kernel
theorem dX6_init_53 : decode cX6_init 53 = .ok (.invokespecial 35, 3) := by decide +kernel
theorem dX6_init_56 : decode cX6_init 56 = .ok (.putfield 36, 3) := by decide +kernel
theorem dX6_init_59 : decode cX6_init 59 = .ok (.aload_n 0, 1) := by decide +kernel
theorem dX6_init_60 : decode cX6_init 60 = .ok (.iconst 1, 1) := by decide +kernel
theorem dX6_init_61 : decode cX6_init 61 = .ok (.putfield 40, 3) := by decide +kernel
theorem dX6_init_64 : decode cX6_init 64 = .ok (.aload_n 0, 1) := by decide +kernel
theorem dX6_init_65 : decode cX6_init 65 = .ok (.iconst 0, 1) := by decide +kernel
theorem dX6_init_66 : decode cX6_init 66 = .ok (.putfield 44, 3) := by decide +kernel
theorem dX6_init_69 : decode cX6_init 69 = .ok (.return_, 1) := by decide +kernel
set_option maxRecDepth 20000 in
theorem ggX6_joint_X6_checkState : GoodIn wsX6_joint wsX6_checkState := goodIn_ca (goodIn_r _ [6, 7, 8] (by decide +kernel) (by decide +kernel)) (goodIn_sub (fun _ h => List.mem_cons_of_mem _ (List.mem_append_right _ h)) (by decide +kernel))
set_option maxRecDepth 20000 in
theorem gX6_joint_X6_checkState : GoodIn wsX6_joint (va_wsS RX6 48 yX6_checkState wsX6_checkState) := goodIn_app (goodIn_of _ (by decide +kernel)) ggX6_joint_X6_checkState
theorem dX6_joint_0 : decode cX6_joint 0 = .ok (.aload_n 0, 1) := by decide +kernel
theorem dX6_joint_1 : decode cX6_joint 1 = .ok (.getfield 40, 3) := by decide +kernel
theorem dX6_joint_4 : decode cX6_joint 4 = .ok (.bipush 10, 2) := by decide +kernel
theorem dX6_joint_6 : decode cX6_joint 6 = .ok (.if_icmp .ge 7, 3) := by decide +kernel
theorem dX6_joint_9 : decode cX6_joint 9 = .ok (.iconst 1, 1) := by decide +kernel
theorem dX6_joint_10 : decode cX6_joint 10 = .ok (.goto 4, 3) := by decide +kernel
theorem dX6_joint_13 : decode cX6_joint 13 = .ok (.iconst 0, 1) := by decide +kernel
theorem dX6_joint_14 : decode cX6_joint 14 = .ok (.invokestatic 48, 3) := by decide +kernel
theorem dX6_joint_17 : decode cX6_joint 17 = .ok (.aload_n 0, 1) := by decide +kernel
theorem dX6_joint_18 : decode cX6_joint 18 = .ok (.iconst 0, 1) := by decide +kernel
theorem dX6_joint_19 : decode cX6_joint 19 = .ok (.putfield 44, 3) := by decide +kernel
theorem dX6_joint_22 : decode cX6_joint 22 = .ok (.aload_n 0, 1) := by decide +kernel
theorem dX6_joint_23 : decode cX6_joint 23 = .ok (.dup, 1) := by decide +kernel
theorem dX6_joint_24 : decode cX6_joint 24 = .ok (.getfield 40, 3) := by decide +kernel
theorem dX6_joint_27 : decode cX6_joint 27 = .ok (.iconst 1, 1) := by decide +kernel
theorem dX6_joint_28 : decode cX6_joint 28 = .ok (.iadd, 1) := by decide +kernel
theorem dX6_joint_29 : decode cX6_joint 29 = .ok (.putfield 40, 3) := by decide +kernel
theorem dX6_joint_32 : decode cX6_joint 32 = .ok (.aload_n 0, 1) := by decide +kernel
theorem dX6_joint_33 : decode cX6_joint 33 = .ok (.getfield 40, 3) := by decide +kernel
theorem dX6_joint_36 : decode cX6_joint 36 = .ok (.iconst 1, 1) := by decide +kernel
theorem dX6_joint_37 : decode cX6_joint 37 = .ok (.isub, 1) := by decide +kernel
theorem dX6_joint_38 : decode cX6_joint 38 = .ok (.ireturn, 1) := by decide +kernel
set_option maxRecDepth 20000 in
theorem ggX6_duct_X6_checkIndex : GoodIn wsX6_duct wsX6_checkIndex := goodIn_ca (goodIn_r _ [10, 11, 12] (by decide +kernel) (by decide +kernel)) (goodIn_sub (fun _ h => List.mem_cons_of_mem _ (List.mem_append_left _ (List.mem_append_left _ (List.mem_append_right _ h)))) (by decide +kernel))
set_option maxRecDepth 20000 in
theorem gX6_duct_X6_checkIndex : GoodIn wsX6_duct (va_wsS RX6 52 yX6_checkIndex wsX6_checkIndex) := goodIn_app (goodIn_of _ (by decide +kernel)) ggX6_duct_X6_checkIndex
set_option maxRecDepth 20000 in
theorem ggX6_duct_X6_isWithin : GoodIn wsX6_duct wsX6_isWithin := goodIn_r _ [15] (by decide +kernel) (by decide +kernel)
set_option maxRecDepth 20000 in
theorem gX6_duct_X6_isWithin : GoodIn wsX6_duct (va_wsS RX6 60 yX6_isWithin wsX6_isWithin) := goodIn_app (goodIn_of _ (by decide +kernel)) ggX6_duct_X6_isWithin
set_option maxRecDepth 20000 in
theorem ggX6_duct_X6_checkArgument : GoodIn wsX6_duct wsX6_checkArgument := goodIn_ca (goodIn_r _ [18, 19, 20] (by decide +kernel) (by decide +kernel)) (goodIn_sub (fun _ h => List.mem_cons_of_mem _ (List.mem_append_left _ (List.mem_append_right _ h))) (by decide +kernel))
set_option maxRecDepth 20000 in
theorem gX6_duct_X6_checkArgument : GoodIn wsX6_duct (va_wsS RX6 64 yX6_checkArgument wsX6_checkArgument) := goodIn_app (goodIn_of _ (by decide +kernel)) ggX6_duct_X6_checkArgument
set_option maxRecDepth 20000 in
theorem ggX6_duct_X6_checkState : GoodIn wsX6_duct wsX6_checkState := goodIn_ca (goodIn_r _ [23, 24, 25] (by decide +kernel) (by decide +kernel)) (goodIn_sub (fun _ h => List.mem_cons_of_mem _ (List.mem_append_right _ h)) (by decide +kernel))
set_option maxRecDepth 20000 in
theorem gX6_duct_X6_checkState : GoodIn wsX6_duct (va_wsS RX6 48 yX6_checkState wsX6_checkState) := goodIn_app (goodIn_of _ (by decide +kernel)) ggX6_duct_X6_checkState
set_option maxRecDepth 20000 in
theorem ggX6_duct_X1_add : GoodIn wsX6_duct wsX1_add := goodIn_r _ [30, 31, 32, 33, 34, 35, 36, 37, 29, 38, 39, 40, 41, 42, 43, 44, 45, 46, 54, 55, 56, 57, 58, 59, 60, 61] (by decide +kernel) (by decide +kernel)
set_option maxRecDepth 20000 in
theorem gX6_duct_X1_add : GoodIn wsX6_duct (wsV RX6 72 RX1 yX1_add wsX1_add) := goodIn_app (goodIn_of _ (by decide +kernel)) ggX6_duct_X1_add
theorem dX6_duct_0 : decode cX6_duct 0 = .ok (.iload_n 1, 1) := by decide +kernel
theorem dX6_duct_1 : decode cX6_duct 1 = .ok (.aload_n 0, 1) := by decide +kernel
theorem dX6_duct_2 : decode cX6_duct 2 = .ok (.getfield 40, 3) := by decide +kernel
theorem dX6_duct_5 : decode cX6_duct 5 = .ok (.invokestatic 52, 3) := by decide +kernel
theorem dX6_duct_8 : decode cX6_duct 8 = .ok (.iload_n 2, 1) := by decide +kernel
theorem dX6_duct_9 : decode cX6_duct 9 = .ok (.aload_n 0, 1) := by decide +kernel
theorem dX6_duct_10 : decode cX6_duct 10 = .ok (.getfield 40, 3) := by decide +kernel
theorem dX6_duct_13 : decode cX6_duct 13 = .ok (.invokestatic 52, 3) := by decide +kernel
theorem dX6_duct_16 : decode cX6_duct 16 = .ok (.iload_n 1, 1) := by decide +kernel
theorem dX6_duct_17 : decode cX6_duct 17 = .ok (.iload_n 2, 1) := by decide +kernel
theorem dX6_duct_18 : decode cX6_duct 18 = .ok (.if_icmp .eq 34, 3) := by decide +kernel
theorem dX6_duct_21 : decode cX6_duct 21 = .ok (.dload_n 3, 1) := by decide +kernel
theorem dX6_duct_22 : decode cX6_duct 22 = .ok (.ldc2_w 56, 3) := by decide +kernel
theorem dX6_duct_25 : decode cX6_duct 25 = .ok (.ldc2_w 58, 3) := by decide +kernel
theorem dX6_duct_28 : decode cX6_duct 28 = .ok (.invokestatic 60, 3) := by decide +kernel
theorem dX6_duct_31 : decode cX6_duct 31 = .ok (.ifCond .eq 21, 3) := by decide +kernel
theorem dX6_duct_34 : decode cX6_duct 34 = .ok (.dload 5, 2) := by decide +kernel
theorem dX6_duct_36 : decode cX6_duct 36 = .ok (.ldc2_w 56, 3) := by decide +kernel
theorem dX6_duct_39 : decode cX6_duct 39 = .ok (.ldc2_w 58, 3) := by decide +kernel
theorem dX6_duct_42 : decode cX6_duct 42 = .ok (.invokestatic 60, 3) := by decide +kernel
theorem dX6_duct_45 : decode cX6_duct 45 = .ok (.ifCond .eq 7, 3) := by decide +kernel
theorem dX6_duct_48 : decode cX6_duct 48 = .ok (.iconst 1, 1) := by decide +kernel
theorem dX6_duct_49 : decode cX6_duct 49 = .ok (.goto 4, 3) := by decide +kernel
theorem dX6_duct_52 : decode cX6_duct 52 = .ok (.iconst 0, 1) := by decide +kernel
theorem dX6_duct_53 : decode cX6_duct 53 = .ok (.invokestatic 64, 3) := by decide +kernel
theorem dX6_duct_56 : decode cX6_duct 56 = .ok (.aload_n 0, 1) := by decide +kernel
theorem dX6_duct_57 : decode cX6_duct 57 = .ok (.getfield 20, 3) := by decide +kernel
theorem dX6_duct_60 : decode cX6_duct 60 = .ok (.getfield 67, 3) := by decide +kernel
theorem dX6_duct_63 : decode cX6_duct 63 = .ok (.bipush 16, 2) := by decide +kernel
theorem dX6_duct_65 : decode cX6_duct 65 = .ok (.if_icmp .ge 7, 3) := by decide +kernel
theorem dX6_duct_68 : decode cX6_duct 68 = .ok (.iconst 1, 1) := by decide +kernel
theorem dX6_duct_69 : decode cX6_duct 69 = .ok (.goto 4, 3) := by decide +kernel
theorem dX6_duct_72 : decode cX6_duct 72 = .ok (.iconst 0, 1) := by decide +kernel
theorem dX6_duct_73 : decode cX6_duct 73 = .ok (.invokestatic 48, 3) := by decide +kernel
theorem dX6_duct_76 : decode cX6_duct 76 = .ok (.aload_n 0, 1) := by decide +kernel
theorem dX6_duct_77 : decode cX6_duct 77 = .ok (.iconst 0, 1) := by decide +kernel
theorem dX6_duct_78 : decode cX6_duct 78 = .ok (.putfield 44, 3) := by decide +kernel
theorem dX6_duct_81 : decode cX6_duct 81 = .ok (.aload_n 0, 1) := by decide +kernel
theorem dX6_duct_82 : decode cX6_duct 82 = .ok (.getfield 20, 3) := by decide +kernel
theorem dX6_duct_85 : decode cX6_duct 85 = .ok (.iload_n 1, 1) := by decide +kernel
theorem dX6_duct_86 : decode cX6_duct 86 = .ok (.iload_n 2, 1) := by decide +kernel
theorem dX6_duct_87 : decode cX6_duct 87 = .ok (.dload_n 3, 1) := by decide +kernel
theorem dX6_duct_88 : decode cX6_duct 88 = .ok (.dload 5, 2) := by decide +kernel
theorem dX6_duct_90 : decode cX6_duct 90 = .ok (.invokevirtual 72, 3) := by decide +kernel
theorem dX6_duct_93 : decode cX6_duct 93 = .ok (.ireturn, 1) := by decide +kernel
set_option maxRecDepth 20000 in
theorem ggX6_machine_X6_checkIndex : GoodIn wsX6_machine wsX6_checkIndex := goodIn_ca (goodIn_r _ [10, 11, 12] (by decide +kernel) (by decide +kernel)) (goodIn_sub (fun _ h => List.mem_cons_of_mem _ (List.mem_append_left _ (List.mem_append_left _ (List.mem_append_right _ h)))) (by decide +kernel))
set_option maxRecDepth 20000 in
theorem gX6_machine_X6_checkIndex : GoodIn wsX6_machine (va_wsS RX6 52 yX6_checkIndex wsX6_checkIndex) := goodIn_app (goodIn_of _ (by decide +kernel)) ggX6_machine_X6_checkIndex
set_option maxRecDepth 20000 in
theorem ggX6_machine_X6_isWithin : GoodIn wsX6_machine wsX6_isWithin := goodIn_r _ [15] (by decide +kernel) (by decide +kernel)
set_option maxRecDepth 20000 in
theorem gX6_machine_X6_isWithin : GoodIn wsX6_machine (va_wsS RX6 60 yX6_isWithin wsX6_isWithin) := goodIn_app (goodIn_of _ (by decide +kernel)) ggX6_machine_X6_isWithin
set_option maxRecDepth 20000 in
theorem ggX6_machine_X6_checkArgument : GoodIn wsX6_machine wsX6_checkArgument := goodIn_ca (goodIn_r _ [18, 19, 20] (by decide +kernel) (by decide +kernel)) (goodIn_sub (fun _ h => List.mem_cons_of_mem _ (List.mem_append_left _ (List.mem_append_right _ h))) (by decide +kernel))
set_option maxRecDepth 20000 in
theorem gX6_machine_X6_checkArgument : GoodIn wsX6_machine (va_wsS RX6 64 yX6_checkArgument wsX6_checkArgument) := goodIn_app (goodIn_of _ (by decide +kernel)) ggX6_machine_X6_checkArgument
set_option maxRecDepth 20000 in
theorem ggX6_machine_X6_checkState : GoodIn wsX6_machine wsX6_checkState := goodIn_ca (goodIn_r _ [23, 24, 25] (by decide +kernel) (by decide +kernel)) (goodIn_sub (fun _ h => List.mem_cons_of_mem _ (List.mem_append_right _ h)) (by decide +kernel))
set_option maxRecDepth 20000 in
theorem gX6_machine_X6_checkState : GoodIn wsX6_machine (va_wsS RX6 48 yX6_checkState wsX6_checkState) := goodIn_app (goodIn_of _ (by decide +kernel)) ggX6_machine_X6_checkState
set_option maxRecDepth 20000 in
theorem ggX6_machine_X4_add : GoodIn wsX6_machine wsX4_add := goodIn_r _ [30, 31, 32, 33, 41, 42, 43, 44, 45, 46] (by decide +kernel) (by decide +kernel)
set_option maxRecDepth 20000 in
theorem gX6_machine_X4_add : GoodIn wsX6_machine (wsV RX6 81 RX4 yX4_add wsX4_add) := goodIn_app (goodIn_of _ (by decide +kernel)) ggX6_machine_X4_add
theorem dX6_machine_0 : decode cX6_machine 0 = .ok (.iload_n 1, 1) := by decide +kernel
theorem dX6_machine_1 : decode cX6_machine 1 = .ok (.aload_n 0, 1) := by decide +kernel
theorem dX6_machine_2 : decode cX6_machine 2 = .ok (.getfield 40, 3) := by decide +kernel
theorem dX6_machine_5 : decode cX6_machine 5 = .ok (.invokestatic 52, 3) := by decide +kernel
theorem dX6_machine_8 : decode cX6_machine 8 = .ok (.iload_n 1, 1) := by decide +kernel
theorem dX6_machine_9 : decode cX6_machine 9 = .ok (.ifCond .eq 20, 3) := by decide +kernel
theorem dX6_machine_12 : decode cX6_machine 12 = .ok (.dload_n 2, 1) := by decide +kernel
theorem dX6_machine_13 : decode cX6_machine 13 = .ok (.ldc2_w 56, 3) := by decide +kernel
theorem dX6_machine_16 : decode cX6_machine 16 = .ok (.ldc2_w 76, 3) := by decide +kernel
theorem dX6_machine_19 : decode cX6_machine 19 = .ok (.invokestatic 60, 3) := by decide +kernel
theorem dX6_machine_22 : decode cX6_machine 22 = .ok (.ifCond .eq 7, 3) := by decide +kernel
theorem dX6_machine_25 : decode cX6_machine 25 = .ok (.iconst 1, 1) := by decide +kernel
theorem dX6_machine_26 : decode cX6_machine 26 = .ok (.goto 4, 3) := by decide +kernel
theorem dX6_machine_29 : decode cX6_machine 29 = .ok (.iconst 0, 1) := by decide +kernel
theorem dX6_machine_30 : decode cX6_machine 30 = .ok (.invokestatic 64, 3) := by decide +kernel
theorem dX6_machine_33 : decode cX6_machine 33 = .ok (.aload_n 0, 1) := by decide +kernel
theorem dX6_machine_34 : decode cX6_machine 34 = .ok (.getfield 25, 3) := by decide +kernel
theorem dX6_machine_37 : decode cX6_machine 37 = .ok (.getfield 78, 3) := by decide +kernel
theorem dX6_machine_40 : decode cX6_machine 40 = .ok (.bipush 8, 2) := by decide +kernel
theorem dX6_machine_42 : decode cX6_machine 42 = .ok (.if_icmp .ge 7, 3) := by decide +kernel
theorem dX6_machine_45 : decode cX6_machine 45 = .ok (.iconst 1, 1) := by decide +kernel
theorem dX6_machine_46 : decode cX6_machine 46 = .ok (.goto 4, 3) := by decide +kernel
theorem dX6_machine_49 : decode cX6_machine 49 = .ok (.iconst 0, 1) := by decide +kernel
theorem dX6_machine_50 : decode cX6_machine 50 = .ok (.invokestatic 48, 3) := by decide +kernel
theorem dX6_machine_53 : decode cX6_machine 53 = .ok (.aload_n 0, 1) := by decide +kernel
theorem dX6_machine_54 : decode cX6_machine 54 = .ok (.iconst 0, 1) := by decide +kernel
theorem dX6_machine_55 : decode cX6_machine 55 = .ok (.putfield 44, 3) := by decide +kernel
theorem dX6_machine_58 : decode cX6_machine 58 = .ok (.aload_n 0, 1) := by decide +kernel
theorem dX6_machine_59 : decode cX6_machine 59 = .ok (.getfield 25, 3) := by decide +kernel
theorem dX6_machine_62 : decode cX6_machine 62 = .ok (.iload_n 1, 1) := by decide +kernel
theorem dX6_machine_63 : decode cX6_machine 63 = .ok (.dload_n 2, 1) := by decide +kernel
theorem dX6_machine_64 : decode cX6_machine 64 = .ok (.invokevirtual 81, 3) := by decide +kernel
theorem dX6_machine_67 : decode cX6_machine 67 = .ok (.ireturn, 1) := by decide +kernel
set_option maxRecDepth 20000 in
theorem ggX6_use_X6_checkIndex : GoodIn wsX6_use wsX6_checkIndex := goodIn_ca (goodIn_r _ [7, 8, 9] (by decide +kernel) (by decide +kernel)) (goodIn_sub (fun _ h => List.mem_cons_of_mem _ (List.mem_append_right _ h)) (by decide +kernel))
set_option maxRecDepth 20000 in
theorem gX6_use_X6_checkIndex : GoodIn wsX6_use (va_wsS RX6 52 yX6_checkIndex wsX6_checkIndex) := goodIn_app (goodIn_of _ (by decide +kernel)) ggX6_use_X6_checkIndex
set_option maxRecDepth 20000 in
theorem ggX6_use_X4_setUsed : GoodIn wsX6_use wsX4_setUsed := goodIn_r _ [14, 15, 23, 24, 25, 26, 27, 28] (by decide +kernel) (by decide +kernel)
set_option maxRecDepth 20000 in
theorem gX6_use_X4_setUsed : GoodIn wsX6_use (wsV RX6 84 RX4 yX4_setUsed wsX4_setUsed) := goodIn_app (goodIn_of _ (by decide +kernel)) ggX6_use_X4_setUsed
theorem dX6_use_0 : decode cX6_use 0 = .ok (.iload_n 1, 1) := by decide +kernel
theorem dX6_use_1 : decode cX6_use 1 = .ok (.iconst 4, 1) := by decide +kernel
theorem dX6_use_2 : decode cX6_use 2 = .ok (.invokestatic 52, 3) := by decide +kernel
theorem dX6_use_5 : decode cX6_use 5 = .ok (.iload_n 2, 1) := by decide +kernel
theorem dX6_use_6 : decode cX6_use 6 = .ok (.aload_n 0, 1) := by decide +kernel
theorem dX6_use_7 : decode cX6_use 7 = .ok (.getfield 25, 3) := by decide +kernel
theorem dX6_use_10 : decode cX6_use 10 = .ok (.getfield 78, 3) := by decide +kernel
theorem dX6_use_13 : decode cX6_use 13 = .ok (.invokestatic 52, 3) := by decide +kernel
theorem dX6_use_16 : decode cX6_use 16 = .ok (.aload_n 0, 1) := by decide +kernel
theorem dX6_use_17 : decode cX6_use 17 = .ok (.iconst 0, 1) := by decide +kernel
theorem dX6_use_18 : decode cX6_use 18 = .ok (.putfield 44, 3) := by decide +kernel
theorem dX6_use_21 : decode cX6_use 21 = .ok (.aload_n 0, 1) := by decide +kernel
theorem dX6_use_22 : decode cX6_use 22 = .ok (.getfield 25, 3) := by decide +kernel
theorem dX6_use_25 : decode cX6_use 25 = .ok (.iload_n 1, 1) := by decide +kernel
theorem dX6_use_26 : decode cX6_use 26 = .ok (.iload_n 2, 1) := by decide +kernel
theorem dX6_use_27 : decode cX6_use 27 = .ok (.iload_n 3, 1) := by decide +kernel
theorem dX6_use_28 : decode cX6_use 28 = .ok (.invokevirtual 84, 3) := by decide +kernel
theorem dX6_use_31 : decode cX6_use 31 = .ok (.return_, 1) := by decide +kernel
set_option maxRecDepth 20000 in
theorem ggX6_fan_X6_isWithin : GoodIn wsX6_fan wsX6_isWithin := goodIn_r _ [10] (by decide +kernel) (by decide +kernel)
set_option maxRecDepth 20000 in
theorem gX6_fan_X6_isWithin : GoodIn wsX6_fan (va_wsS RX6 60 yX6_isWithin wsX6_isWithin) := goodIn_app (goodIn_of _ (by decide +kernel)) ggX6_fan_X6_isWithin
set_option maxRecDepth 20000 in
theorem ggX6_fan_X6_checkArgument : GoodIn wsX6_fan wsX6_checkArgument := goodIn_ca (goodIn_r _ [13, 14, 15] (by decide +kernel) (by decide +kernel)) (goodIn_sub (fun _ h => List.mem_cons_of_mem _ (List.mem_append_right _ h)) (by decide +kernel))
set_option maxRecDepth 20000 in
theorem gX6_fan_X6_checkArgument : GoodIn wsX6_fan (va_wsS RX6 64 yX6_checkArgument wsX6_checkArgument) := goodIn_app (goodIn_of _ (by decide +kernel)) ggX6_fan_X6_checkArgument
theorem dX6_fan_0 : decode cX6_fan 0 = .ok (.dload_n 1, 1) := by decide +kernel
theorem dX6_fan_1 : decode cX6_fan 1 = .ok (.dconst 0, 1) := by decide +kernel
theorem dX6_fan_2 : decode cX6_fan 2 = .ok (.ldc2_w 76, 3) := by decide +kernel
theorem dX6_fan_5 : decode cX6_fan 5 = .ok (.invokestatic 60, 3) := by decide +kernel
theorem dX6_fan_8 : decode cX6_fan 8 = .ok (.ifCond .eq 18, 3) := by decide +kernel
theorem dX6_fan_11 : decode cX6_fan 11 = .ok (.dload_n 3, 1) := by decide +kernel
theorem dX6_fan_12 : decode cX6_fan 12 = .ok (.dconst 0, 1) := by decide +kernel
theorem dX6_fan_13 : decode cX6_fan 13 = .ok (.ldc2_w 76, 3) := by decide +kernel
theorem dX6_fan_16 : decode cX6_fan 16 = .ok (.invokestatic 60, 3) := by decide +kernel
theorem dX6_fan_19 : decode cX6_fan 19 = .ok (.ifCond .eq 7, 3) := by decide +kernel
theorem dX6_fan_22 : decode cX6_fan 22 = .ok (.iconst 1, 1) := by decide +kernel
theorem dX6_fan_23 : decode cX6_fan 23 = .ok (.goto 4, 3) := by decide +kernel
theorem dX6_fan_26 : decode cX6_fan 26 = .ok (.iconst 0, 1) := by decide +kernel
theorem dX6_fan_27 : decode cX6_fan 27 = .ok (.invokestatic 64, 3) := by decide +kernel
theorem dX6_fan_30 : decode cX6_fan 30 = .ok (.aload_n 0, 1) := by decide +kernel
theorem dX6_fan_31 : decode cX6_fan 31 = .ok (.iconst 0, 1) := by decide +kernel
theorem dX6_fan_32 : decode cX6_fan 32 = .ok (.putfield 44, 3) := by decide +kernel
theorem dX6_fan_35 : decode cX6_fan 35 = .ok (.aload_n 0, 1) := by decide +kernel
theorem dX6_fan_36 : decode cX6_fan 36 = .ok (.getfield 10, 3) := by decide +kernel
theorem dX6_fan_39 : decode cX6_fan 39 = .ok (.getfield 88, 3) := by decide +kernel
theorem dX6_fan_42 : decode cX6_fan 42 = .ok (.dload_n 1, 1) := by decide +kernel
theorem dX6_fan_43 : decode cX6_fan 43 = .ok (.putfield 92, 3) := by decide +kernel
theorem dX6_fan_46 : decode cX6_fan 46 = .ok (.aload_n 0, 1) := by decide +kernel
theorem dX6_fan_47 : decode cX6_fan 47 = .ok (.getfield 10, 3) := by decide +kernel
theorem dX6_fan_50 : decode cX6_fan 50 = .ok (.getfield 88, 3) := by decide +kernel
theorem dX6_fan_53 : decode cX6_fan 53 = .ok (.dload_n 3, 1) := by decide +kernel
theorem dX6_fan_54 : decode cX6_fan 54 = .ok (.putfield 98, 3) := by decide +kernel
theorem dX6_fan_57 : decode cX6_fan 57 = .ok (.return_, 1) := by decide +kernel
set_option maxRecDepth 20000 in
theorem ggX6_solve_X6_checkIndex : GoodIn wsX6_solve wsX6_checkIndex := goodIn_ca (goodIn_r _ [6, 7, 8] (by decide +kernel) (by decide +kernel)) (goodIn_sub (fun _ h => List.mem_cons_of_mem _ (List.mem_append_right _ h)) (by decide +kernel))
set_option maxRecDepth 20000 in
theorem gX6_solve_X6_checkIndex : GoodIn wsX6_solve (va_wsS RX6 52 yX6_checkIndex wsX6_checkIndex) := goodIn_app (goodIn_of _ (by decide +kernel)) ggX6_solve_X6_checkIndex
set_option maxRecDepth 20000 in
theorem ggX6_solve_X0_balance : GoodIn wsX6_solve wsX0_balance := goodIn_r _ [13, 14, 15, 16, 17, 18, 19, 20, 21, 22, 23, 24, 25, 26, 27, 28, 29, 12, 30, 31, 32, 33, 34, 35, 36, 37, 38, 39, 40, 41, 42, 43, 44, 45, 46, 47, 48, 49, 50, 51, 52, 53, 54, 55, 56, 57, 58, 59, 60, 61, 62, 63, 64, 65, 66, 67, 68, 69, 70, 71, 72, 73, 74, 75, 76, 5, 77, 78, 79, 80, 81, 82, 83, 84, 85, 86, 87, 88, 89, 90, 91, 92, 93, 94, 95, 96, 104, 105, 106, 107, 108, 109, 110, 111, 112, 113, 114, 115, 116, 117, 118, 119, 120, 121, 122, 123, 124, 125] (by decide +kernel) (by decide +kernel)
set_option maxRecDepth 20000 in
theorem gX6_solve_X0_balance : GoodIn wsX6_solve (wsV RX6 101 RX0 yX0_balance wsX0_balance) := goodIn_app (goodIn_of _ (by decide +kernel)) ggX6_solve_X0_balance
theorem dX6_solve_0 : decode cX6_solve 0 = .ok (.iload_n 1, 1) := by decide +kernel
theorem dX6_solve_1 : decode cX6_solve 1 = .ok (.iconst 4, 1) := by decide +kernel
theorem dX6_solve_2 : decode cX6_solve 2 = .ok (.invokestatic 52, 3) := by decide +kernel
theorem dX6_solve_5 : decode cX6_solve 5 = .ok (.aload_n 0, 1) := by decide +kernel
theorem dX6_solve_6 : decode cX6_solve 6 = .ok (.getfield 10, 3) := by decide +kernel
theorem dX6_solve_9 : decode cX6_solve 9 = .ok (.iload_n 1, 1) := by decide +kernel
theorem dX6_solve_10 : decode cX6_solve 10 = .ok (.invokevirtual 101, 3) := by decide +kernel
theorem dX6_solve_13 : decode cX6_solve 13 = .ok (.istore_n 2, 1) := by decide +kernel
theorem dX6_solve_14 : decode cX6_solve 14 = .ok (.aload_n 0, 1) := by decide +kernel
theorem dX6_solve_15 : decode cX6_solve 15 = .ok (.iload_n 2, 1) := by decide +kernel
theorem dX6_solve_16 : decode cX6_solve 16 = .ok (.iconst (-1), 1) := by decide +kernel
theorem dX6_solve_17 : decode cX6_solve 17 = .ok (.if_icmp .eq 7, 3) := by decide +kernel
theorem dX6_solve_20 : decode cX6_solve 20 = .ok (.iconst 1, 1) := by decide +kernel
theorem dX6_solve_21 : decode cX6_solve 21 = .ok (.goto 4, 3) := by decide +kernel
theorem dX6_solve_24 : decode cX6_solve 24 = .ok (.iconst 0, 1) := by decide +kernel
theorem dX6_solve_25 : decode cX6_solve 25 = .ok (.putfield 44, 3) := by decide +kernel
theorem dX6_solve_28 : decode cX6_solve 28 = .ok (.iload_n 2, 1) := by decide +kernel
theorem dX6_solve_29 : decode cX6_solve 29 = .ok (.ireturn, 1) := by decide +kernel
set_option maxRecDepth 20000 in
theorem ggX6_at_X6_checkIndex : GoodIn wsX6_at wsX6_checkIndex := goodIn_ca (goodIn_r _ [8, 9, 10] (by decide +kernel) (by decide +kernel)) (goodIn_sub (fun _ h => List.mem_cons_of_mem _ (List.mem_append_left _ (List.mem_append_right _ h))) (by decide +kernel))
set_option maxRecDepth 20000 in
theorem gX6_at_X6_checkIndex : GoodIn wsX6_at (va_wsS RX6 52 yX6_checkIndex wsX6_checkIndex) := goodIn_app (goodIn_of _ (by decide +kernel)) ggX6_at_X6_checkIndex
set_option maxRecDepth 20000 in
theorem ggX6_at_X6_checkState : GoodIn wsX6_at wsX6_checkState := goodIn_ca (goodIn_r _ [13, 14, 15] (by decide +kernel) (by decide +kernel)) (goodIn_sub (fun _ h => List.mem_cons_of_mem _ (List.mem_append_right _ h)) (by decide +kernel))
set_option maxRecDepth 20000 in
theorem gX6_at_X6_checkState : GoodIn wsX6_at (va_wsS RX6 48 yX6_checkState wsX6_checkState) := goodIn_app (goodIn_of _ (by decide +kernel)) ggX6_at_X6_checkState
set_option maxRecDepth 20000 in
theorem ggX6_at_X0_residual : GoodIn wsX6_at wsX0_residual := goodIn_r _ [20, 21, 22, 23, 24, 25, 19, 26, 27, 28, 29, 30, 31, 32, 33, 34, 35, 36, 37, 38, 39, 40, 41, 42, 43, 44, 45, 46, 47, 48, 49, 50, 51, 52, 53, 54, 7, 55, 63, 64, 65, 66, 67, 68, 69, 70, 71, 72, 73, 74, 75, 76, 77, 78, 79, 80, 81] (by decide +kernel) (by decide +kernel)
set_option maxRecDepth 20000 in
theorem gX6_at_X0_residual : GoodIn wsX6_at (wsV RX6 109 RX0 yX0_residual wsX0_residual) := goodIn_app (goodIn_of _ (by decide +kernel)) ggX6_at_X0_residual
theorem dX6_at_0 : decode cX6_at 0 = .ok (.iload_n 1, 1) := by decide +kernel
theorem dX6_at_1 : decode cX6_at 1 = .ok (.aload_n 0, 1) := by decide +kernel
theorem dX6_at_2 : decode cX6_at 2 = .ok (.getfield 40, 3) := by decide +kernel
theorem dX6_at_5 : decode cX6_at 5 = .ok (.invokestatic 52, 3) := by decide +kernel
theorem dX6_at_8 : decode cX6_at 8 = .ok (.iload_n 2, 1) := by decide +kernel
theorem dX6_at_9 : decode cX6_at 9 = .ok (.iconst 2, 1) := by decide +kernel
theorem dX6_at_10 : decode cX6_at 10 = .ok (.invokestatic 52, 3) := by decide +kernel
theorem dX6_at_13 : decode cX6_at 13 = .ok (.aload_n 0, 1) := by decide +kernel
theorem dX6_at_14 : decode cX6_at 14 = .ok (.getfield 44, 3) := by decide +kernel
theorem dX6_at_17 : decode cX6_at 17 = .ok (.invokestatic 48, 3) := by decide +kernel
theorem dX6_at_20 : decode cX6_at 20 = .ok (.iload_n 2, 1) := by decide +kernel
theorem dX6_at_21 : decode cX6_at 21 = .ok (.ifCond .ne 15, 3) := by decide +kernel
theorem dX6_at_24 : decode cX6_at 24 = .ok (.aload_n 0, 1) := by decide +kernel
theorem dX6_at_25 : decode cX6_at 25 = .ok (.getfield 10, 3) := by decide +kernel
theorem dX6_at_28 : decode cX6_at 28 = .ok (.getfield 105, 3) := by decide +kernel
theorem dX6_at_31 : decode cX6_at 31 = .ok (.iload_n 1, 1) := by decide +kernel
theorem dX6_at_32 : decode cX6_at 32 = .ok (.daload, 1) := by decide +kernel
theorem dX6_at_33 : decode cX6_at 33 = .ok (.goto 11, 3) := by decide +kernel
theorem dX6_at_36 : decode cX6_at 36 = .ok (.aload_n 0, 1) := by decide +kernel
theorem dX6_at_37 : decode cX6_at 37 = .ok (.getfield 10, 3) := by decide +kernel
theorem dX6_at_40 : decode cX6_at 40 = .ok (.iload_n 1, 1) := by decide +kernel
theorem dX6_at_41 : decode cX6_at 41 = .ok (.invokevirtual 109, 3) := by decide +kernel
theorem dX6_at_44 : decode cX6_at 44 = .ok (.dreturn, 1) := by decide +kernel
set_option maxRecDepth 20000 in
theorem ggX6_of_X6_checkIndex : GoodIn wsX6_of wsX6_checkIndex := goodIn_ca (goodIn_r _ [11, 12, 13] (by decide +kernel) (by decide +kernel)) (goodIn_sub (fun _ h => List.mem_cons_of_mem _ (List.mem_append_left _ (List.mem_append_right _ h))) (by decide +kernel))
set_option maxRecDepth 20000 in
theorem gX6_of_X6_checkIndex : GoodIn wsX6_of (va_wsS RX6 52 yX6_checkIndex wsX6_checkIndex) := goodIn_app (goodIn_of _ (by decide +kernel)) ggX6_of_X6_checkIndex
set_option maxRecDepth 20000 in
theorem ggX6_of_X6_checkState : GoodIn wsX6_of wsX6_checkState := goodIn_ca (goodIn_r _ [16, 17, 18] (by decide +kernel) (by decide +kernel)) (goodIn_sub (fun _ h => List.mem_cons_of_mem _ (List.mem_append_right _ h)) (by decide +kernel))
set_option maxRecDepth 20000 in
theorem gX6_of_X6_checkState : GoodIn wsX6_of (va_wsS RX6 48 yX6_checkState wsX6_checkState) := goodIn_app (goodIn_of _ (by decide +kernel)) ggX6_of_X6_checkState
set_option maxRecDepth 20000 in
theorem ggX6_of_X0_flow : GoodIn wsX6_of wsX0_flow := goodIn_r _ [23, 24, 25, 26, 27, 28, 55, 56, 57, 58, 59, 44, 45, 46, 47, 48, 49, 50, 51] (by decide +kernel) (by decide +kernel)
set_option maxRecDepth 20000 in
theorem gX6_of_X0_flow : GoodIn wsX6_of (wsV RX6 113 RX0 yX0_flow wsX0_flow) := goodIn_app (goodIn_of _ (by decide +kernel)) ggX6_of_X0_flow
set_option maxRecDepth 20000 in
theorem ggX6_of_X0_speed : GoodIn wsX6_of wsX0_speed := goodIn_r _ [32, 24, 33, 34, 20, 21, 22, 23, 25, 26, 27, 28, 35, 10, 36, 55, 56, 57, 58, 59, 44, 45, 46, 47, 48, 49, 50, 51] (by decide +kernel) (by decide +kernel)
set_option maxRecDepth 20000 in
theorem gX6_of_X0_speed : GoodIn wsX6_of (wsV RX6 116 RX0 yX0_speed wsX0_speed) := goodIn_app (goodIn_of _ (by decide +kernel)) ggX6_of_X0_speed
theorem dX6_of_0 : decode cX6_of 0 = .ok (.iload_n 1, 1) := by decide +kernel
theorem dX6_of_1 : decode cX6_of 1 = .ok (.aload_n 0, 1) := by decide +kernel
theorem dX6_of_2 : decode cX6_of 2 = .ok (.getfield 20, 3) := by decide +kernel
theorem dX6_of_5 : decode cX6_of 5 = .ok (.getfield 67, 3) := by decide +kernel
theorem dX6_of_8 : decode cX6_of 8 = .ok (.invokestatic 52, 3) := by decide +kernel
theorem dX6_of_11 : decode cX6_of 11 = .ok (.iload_n 2, 1) := by decide +kernel
theorem dX6_of_12 : decode cX6_of 12 = .ok (.iconst 4, 1) := by decide +kernel
theorem dX6_of_13 : decode cX6_of 13 = .ok (.invokestatic 52, 3) := by decide +kernel
theorem dX6_of_16 : decode cX6_of 16 = .ok (.aload_n 0, 1) := by decide +kernel
theorem dX6_of_17 : decode cX6_of 17 = .ok (.getfield 44, 3) := by decide +kernel
theorem dX6_of_20 : decode cX6_of 20 = .ok (.invokestatic 48, 3) := by decide +kernel
theorem dX6_of_23 : decode cX6_of 23 = .ok (.iload_n 2, 1) := by decide +kernel
theorem dX6_of_24 : decode cX6_of 24 = .ok (.tableswitch 56 0 2 #[28, 37, 46], 28) := by decide +kernel
theorem dX6_of_52 : decode cX6_of 52 = .ok (.aload_n 0, 1) := by decide +kernel
theorem dX6_of_53 : decode cX6_of 53 = .ok (.getfield 10, 3) := by decide +kernel
theorem dX6_of_56 : decode cX6_of 56 = .ok (.iload_n 1, 1) := by decide +kernel
theorem dX6_of_57 : decode cX6_of 57 = .ok (.invokevirtual 113, 3) := by decide +kernel
theorem dX6_of_60 : decode cX6_of 60 = .ok (.dreturn, 1) := by decide +kernel
theorem dX6_of_61 : decode cX6_of 61 = .ok (.aload_n 0, 1) := by decide +kernel
theorem dX6_of_62 : decode cX6_of 62 = .ok (.getfield 10, 3) := by decide +kernel
theorem dX6_of_65 : decode cX6_of 65 = .ok (.iload_n 1, 1) := by decide +kernel
theorem dX6_of_66 : decode cX6_of 66 = .ok (.invokevirtual 116, 3) := by decide +kernel
theorem dX6_of_69 : decode cX6_of 69 = .ok (.dreturn, 1) := by decide +kernel
theorem dX6_of_70 : decode cX6_of 70 = .ok (.aload_n 0, 1) := by decide +kernel
theorem dX6_of_71 : decode cX6_of 71 = .ok (.getfield 20, 3) := by decide +kernel
theorem dX6_of_74 : decode cX6_of 74 = .ok (.getfield 119, 3) := by decide +kernel
theorem dX6_of_77 : decode cX6_of 77 = .ok (.iload_n 1, 1) := by decide +kernel
theorem dX6_of_78 : decode cX6_of 78 = .ok (.daload, 1) := by decide +kernel
theorem dX6_of_79 : decode cX6_of 79 = .ok (.dreturn, 1) := by decide +kernel
theorem dX6_of_80 : decode cX6_of 80 = .ok (.aload_n 0, 1) := by decide +kernel
theorem dX6_of_81 : decode cX6_of 81 = .ok (.getfield 29, 3) := by decide +kernel
theorem dX6_of_84 : decode cX6_of 84 = .ok (.getfield 122, 3) := by decide +kernel
theorem dX6_of_87 : decode cX6_of 87 = .ok (.iload_n 1, 1) := by decide +kernel
theorem dX6_of_88 : decode cX6_of 88 = .ok (.daload, 1) := by decide +kernel
theorem dX6_of_89 : decode cX6_of 89 = .ok (.dreturn, 1) := by decide +kernel
set_option maxRecDepth 20000 in
theorem ggX6_draws_X6_checkIndex : GoodIn wsX6_draws wsX6_checkIndex := goodIn_ca (goodIn_r _ [9, 10, 11] (by decide +kernel) (by decide +kernel)) (goodIn_sub (fun _ h => List.mem_cons_of_mem _ (List.mem_append_left _ (List.mem_append_right _ h))) (by decide +kernel))
set_option maxRecDepth 20000 in
theorem gX6_draws_X6_checkIndex : GoodIn wsX6_draws (va_wsS RX6 52 yX6_checkIndex wsX6_checkIndex) := goodIn_app (goodIn_of _ (by decide +kernel)) ggX6_draws_X6_checkIndex
set_option maxRecDepth 20000 in
theorem ggX6_draws_X6_checkState : GoodIn wsX6_draws wsX6_checkState := goodIn_ca (goodIn_r _ [14, 15, 16] (by decide +kernel) (by decide +kernel)) (goodIn_sub (fun _ h => List.mem_cons_of_mem _ (List.mem_append_right _ h)) (by decide +kernel))
set_option maxRecDepth 20000 in
theorem gX6_draws_X6_checkState : GoodIn wsX6_draws (va_wsS RX6 48 yX6_checkState wsX6_checkState) := goodIn_app (goodIn_of _ (by decide +kernel)) ggX6_draws_X6_checkState
set_option maxRecDepth 20000 in
theorem ggX6_draws_X0_draw : GoodIn wsX6_draws wsX0_draw := goodIn_r _ [21, 22, 23, 24, 25, 26, 27, 28, 8, 29, 43, 44, 45, 46, 47, 37, 38, 39, 40, 41, 42] (by decide +kernel) (by decide +kernel)
set_option maxRecDepth 20000 in
theorem gX6_draws_X0_draw : GoodIn wsX6_draws (wsV RX6 128 RX0 yX0_draw wsX0_draw) := goodIn_app (goodIn_of _ (by decide +kernel)) ggX6_draws_X0_draw
theorem dX6_draws_0 : decode cX6_draws 0 = .ok (.iload_n 1, 1) := by decide +kernel
theorem dX6_draws_1 : decode cX6_draws 1 = .ok (.aload_n 0, 1) := by decide +kernel
theorem dX6_draws_2 : decode cX6_draws 2 = .ok (.getfield 25, 3) := by decide +kernel
theorem dX6_draws_5 : decode cX6_draws 5 = .ok (.getfield 78, 3) := by decide +kernel
theorem dX6_draws_8 : decode cX6_draws 8 = .ok (.invokestatic 52, 3) := by decide +kernel
theorem dX6_draws_11 : decode cX6_draws 11 = .ok (.iload_n 2, 1) := by decide +kernel
theorem dX6_draws_12 : decode cX6_draws 12 = .ok (.iconst 2, 1) := by decide +kernel
theorem dX6_draws_13 : decode cX6_draws 13 = .ok (.invokestatic 52, 3) := by decide +kernel
theorem dX6_draws_16 : decode cX6_draws 16 = .ok (.aload_n 0, 1) := by decide +kernel
theorem dX6_draws_17 : decode cX6_draws 17 = .ok (.getfield 44, 3) := by decide +kernel
theorem dX6_draws_20 : decode cX6_draws 20 = .ok (.invokestatic 48, 3) := by decide +kernel
theorem dX6_draws_23 : decode cX6_draws 23 = .ok (.iload_n 2, 1) := by decide +kernel
theorem dX6_draws_24 : decode cX6_draws 24 = .ok (.ifCond .ne 15, 3) := by decide +kernel
theorem dX6_draws_27 : decode cX6_draws 27 = .ok (.aload_n 0, 1) := by decide +kernel
theorem dX6_draws_28 : decode cX6_draws 28 = .ok (.getfield 25, 3) := by decide +kernel
theorem dX6_draws_31 : decode cX6_draws 31 = .ok (.getfield 125, 3) := by decide +kernel
theorem dX6_draws_34 : decode cX6_draws 34 = .ok (.iload_n 1, 1) := by decide +kernel
theorem dX6_draws_35 : decode cX6_draws 35 = .ok (.daload, 1) := by decide +kernel
theorem dX6_draws_36 : decode cX6_draws 36 = .ok (.goto 11, 3) := by decide +kernel
theorem dX6_draws_39 : decode cX6_draws 39 = .ok (.aload_n 0, 1) := by decide +kernel
theorem dX6_draws_40 : decode cX6_draws 40 = .ok (.getfield 10, 3) := by decide +kernel
theorem dX6_draws_43 : decode cX6_draws 43 = .ok (.iload_n 1, 1) := by decide +kernel
theorem dX6_draws_44 : decode cX6_draws 44 = .ok (.invokevirtual 128, 3) := by decide +kernel
theorem dX6_draws_47 : decode cX6_draws 47 = .ok (.dreturn, 1) := by decide +kernel
set_option maxRecDepth 20000 in
theorem ggX6_keeps_X6_checkArgument : GoodIn wsX6_keeps wsX6_checkArgument := goodIn_ca (goodIn_r _ [6, 7, 8] (by decide +kernel) (by decide +kernel)) (goodIn_sub (fun _ h => List.mem_cons_of_mem _ (List.mem_append_left _ (List.mem_append_right _ h))) (by decide +kernel))
set_option maxRecDepth 20000 in
theorem gX6_keeps_X6_checkArgument : GoodIn wsX6_keeps (va_wsS RX6 64 yX6_checkArgument wsX6_checkArgument) := goodIn_app (goodIn_of _ (by decide +kernel)) ggX6_keeps_X6_checkArgument
set_option maxRecDepth 20000 in
theorem ggX6_keeps_X6_checkState : GoodIn wsX6_keeps wsX6_checkState := goodIn_ca (goodIn_r _ [11, 12, 13] (by decide +kernel) (by decide +kernel)) (goodIn_sub (fun _ h => List.mem_cons_of_mem _ (List.mem_append_right _ h)) (by decide +kernel))
set_option maxRecDepth 20000 in
theorem gX6_keeps_X6_checkState : GoodIn wsX6_keeps (va_wsS RX6 48 yX6_checkState wsX6_checkState) := goodIn_app (goodIn_of _ (by decide +kernel)) ggX6_keeps_X6_checkState
set_option maxRecDepth 20000 in
theorem ggX6_keeps_X0_isEachSpeedAtLeast : GoodIn wsX6_keeps wsX0_isEachSpeedAtLeast := goodIn_r _ [18, 19, 20, 21, 22, 23, 17, 24, 25, 26, 27, 28, 29, 30, 31, 32, 33, 34, 5, 35, 43, 44, 45, 46, 47, 48, 49, 50, 51, 52, 53, 54, 55] (by decide +kernel) (by decide +kernel)
set_option maxRecDepth 20000 in
theorem gX6_keeps_X0_isEachSpeedAtLeast : GoodIn wsX6_keeps (wsV RX6 131 RX0 yX0_isEachSpeedAtLeast wsX0_isEachSpeedAtLeast) := goodIn_app (goodIn_of _ (by decide +kernel)) ggX6_keeps_X0_isEachSpeedAtLeast
theorem dX6_keeps_0 : decode cX6_keeps 0 = .ok (.dload_n 1, 1) := by decide +kernel
theorem dX6_keeps_1 : decode cX6_keeps 1 = .ok (.dconst 0, 1) := by decide +kernel
theorem dX6_keeps_2 : decode cX6_keeps 2 = .ok (.dcmp .g, 1) := by decide +kernel
theorem dX6_keeps_3 : decode cX6_keeps 3 = .ok (.ifCond .lt 7, 3) := by decide +kernel
theorem dX6_keeps_6 : decode cX6_keeps 6 = .ok (.iconst 1, 1) := by decide +kernel
theorem dX6_keeps_7 : decode cX6_keeps 7 = .ok (.goto 4, 3) := by decide +kernel
theorem dX6_keeps_10 : decode cX6_keeps 10 = .ok (.iconst 0, 1) := by decide +kernel
theorem dX6_keeps_11 : decode cX6_keeps 11 = .ok (.invokestatic 64, 3) := by decide +kernel
theorem dX6_keeps_14 : decode cX6_keeps 14 = .ok (.aload_n 0, 1) := by decide +kernel
theorem dX6_keeps_15 : decode cX6_keeps 15 = .ok (.getfield 44, 3) := by decide +kernel
theorem dX6_keeps_18 : decode cX6_keeps 18 = .ok (.invokestatic 48, 3) := by decide +kernel
theorem dX6_keeps_21 : decode cX6_keeps 21 = .ok (.aload_n 0, 1) := by decide +kernel
theorem dX6_keeps_22 : decode cX6_keeps 22 = .ok (.getfield 10, 3) := by decide +kernel
theorem dX6_keeps_25 : decode cX6_keeps 25 = .ok (.dload_n 1, 1) := by decide +kernel
theorem dX6_keeps_26 : decode cX6_keeps 26 = .ok (.invokevirtual 131, 3) := by decide +kernel
theorem dX6_keeps_29 : decode cX6_keeps 29 = .ok (.ireturn, 1) := by decide +kernel
set_option maxRecDepth 20000 in
theorem ggX6_list_X6_isWithin : GoodIn wsX6_list wsX6_isWithin := goodIn_r _ [9] (by decide +kernel) (by decide +kernel)
set_option maxRecDepth 20000 in
theorem gX6_list_X6_isWithin : GoodIn wsX6_list (va_wsS RX6 60 yX6_isWithin wsX6_isWithin) := goodIn_app (goodIn_of _ (by decide +kernel)) ggX6_list_X6_isWithin
set_option maxRecDepth 20000 in
theorem ggX6_list_X6_checkArgument : GoodIn wsX6_list wsX6_checkArgument := goodIn_ca (goodIn_r _ [12, 13, 14] (by decide +kernel) (by decide +kernel)) (goodIn_sub (fun _ h => List.mem_cons_of_mem _ (List.mem_append_left _ (List.mem_append_right _ h))) (by decide +kernel))
set_option maxRecDepth 20000 in
theorem gX6_list_X6_checkArgument : GoodIn wsX6_list (va_wsS RX6 64 yX6_checkArgument wsX6_checkArgument) := goodIn_app (goodIn_of _ (by decide +kernel)) ggX6_list_X6_checkArgument
set_option maxRecDepth 20000 in
theorem ggX6_list_X6_checkState : GoodIn wsX6_list wsX6_checkState := goodIn_ca (goodIn_r _ [17, 18, 19] (by decide +kernel) (by decide +kernel)) (goodIn_sub (fun _ h => List.mem_cons_of_mem _ (List.mem_append_right _ h)) (by decide +kernel))
set_option maxRecDepth 20000 in
theorem gX6_list_X6_checkState : GoodIn wsX6_list (va_wsS RX6 48 yX6_checkState wsX6_checkState) := goodIn_app (goodIn_of _ (by decide +kernel)) ggX6_list_X6_checkState
set_option maxRecDepth 20000 in
theorem ggX6_list_X5_add : GoodIn wsX6_list wsX5_add := goodIn_r _ [24, 25, 26, 27, 28, 36, 37, 38, 39] (by decide +kernel) (by decide +kernel)
set_option maxRecDepth 20000 in
theorem gX6_list_X5_add : GoodIn wsX6_list (wsV RX6 137 RX5 yX5_add wsX5_add) := goodIn_app (goodIn_of _ (by decide +kernel)) ggX6_list_X5_add
theorem dX6_list_0 : decode cX6_list 0 = .ok (.dload_n 1, 1) := by decide +kernel
theorem dX6_list_1 : decode cX6_list 1 = .ok (.ldc2_w 56, 3) := by decide +kernel
theorem dX6_list_4 : decode cX6_list 4 = .ok (.ldc2_w 58, 3) := by decide +kernel
theorem dX6_list_7 : decode cX6_list 7 = .ok (.invokestatic 60, 3) := by decide +kernel
theorem dX6_list_10 : decode cX6_list 10 = .ok (.ifCond .eq 17, 3) := by decide +kernel
theorem dX6_list_13 : decode cX6_list 13 = .ok (.iload_n 3, 1) := by decide +kernel
theorem dX6_list_14 : decode cX6_list 14 = .ok (.ifCond .lt 13, 3) := by decide +kernel
theorem dX6_list_17 : decode cX6_list 17 = .ok (.iload_n 3, 1) := by decide +kernel
theorem dX6_list_18 : decode cX6_list 18 = .ok (.ldc 135, 2) := by decide +kernel
theorem dX6_list_20 : decode cX6_list 20 = .ok (.if_icmp .gt 7, 3) := by decide +kernel
theorem dX6_list_23 : decode cX6_list 23 = .ok (.iconst 1, 1) := by decide +kernel
theorem dX6_list_24 : decode cX6_list 24 = .ok (.goto 4, 3) := by decide +kernel
theorem dX6_list_27 : decode cX6_list 27 = .ok (.iconst 0, 1) := by decide +kernel
theorem dX6_list_28 : decode cX6_list 28 = .ok (.invokestatic 64, 3) := by decide +kernel
theorem dX6_list_31 : decode cX6_list 31 = .ok (.aload_n 0, 1) := by decide +kernel
theorem dX6_list_32 : decode cX6_list 32 = .ok (.getfield 36, 3) := by decide +kernel
theorem dX6_list_35 : decode cX6_list 35 = .ok (.getfield 136, 3) := by decide +kernel
theorem dX6_list_38 : decode cX6_list 38 = .ok (.bipush 6, 2) := by decide +kernel
theorem dX6_list_40 : decode cX6_list 40 = .ok (.if_icmp .ge 7, 3) := by decide +kernel
theorem dX6_list_43 : decode cX6_list 43 = .ok (.iconst 1, 1) := by decide +kernel
theorem dX6_list_44 : decode cX6_list 44 = .ok (.goto 4, 3) := by decide +kernel
theorem dX6_list_47 : decode cX6_list 47 = .ok (.iconst 0, 1) := by decide +kernel
theorem dX6_list_48 : decode cX6_list 48 = .ok (.invokestatic 48, 3) := by decide +kernel
theorem dX6_list_51 : decode cX6_list 51 = .ok (.aload_n 0, 1) := by decide +kernel
theorem dX6_list_52 : decode cX6_list 52 = .ok (.getfield 36, 3) := by decide +kernel
theorem dX6_list_55 : decode cX6_list 55 = .ok (.dload_n 1, 1) := by decide +kernel
theorem dX6_list_56 : decode cX6_list 56 = .ok (.iload_n 3, 1) := by decide +kernel
theorem dX6_list_57 : decode cX6_list 57 = .ok (.invokevirtual 137, 3) := by decide +kernel
theorem dX6_list_60 : decode cX6_list 60 = .ok (.ireturn, 1) := by decide +kernel
set_option maxRecDepth 20000 in
theorem ggX6_size_X6_checkIndex : GoodIn wsX6_size wsX6_checkIndex := goodIn_ca (goodIn_r _ [11, 12, 13] (by decide +kernel) (by decide +kernel)) (goodIn_sub (fun _ h => List.mem_cons_of_mem _ (List.mem_append_left _ (List.mem_append_right _ h))) (by decide +kernel))
set_option maxRecDepth 20000 in
theorem gX6_size_X6_checkIndex : GoodIn wsX6_size (va_wsS RX6 52 yX6_checkIndex wsX6_checkIndex) := goodIn_app (goodIn_of _ (by decide +kernel)) ggX6_size_X6_checkIndex
set_option maxRecDepth 20000 in
theorem ggX6_size_X6_checkState : GoodIn wsX6_size wsX6_checkState := goodIn_ca (goodIn_r _ [16, 17, 18] (by decide +kernel) (by decide +kernel)) (goodIn_sub (fun _ h => List.mem_cons_of_mem _ (List.mem_append_right _ h)) (by decide +kernel))
set_option maxRecDepth 20000 in
theorem gX6_size_X6_checkState : GoodIn wsX6_size (va_wsS RX6 48 yX6_checkState wsX6_checkState) := goodIn_app (goodIn_of _ (by decide +kernel)) ggX6_size_X6_checkState
set_option maxRecDepth 20000 in
theorem ggX6_size_X1_setWidths : GoodIn wsX6_size wsX1_setWidths := goodIn_r _ [23, 24, 25, 26, 27, 22, 28, 29, 30, 31, 135, 136, 137, 138, 139, 140, 141, 142] (by decide +kernel) (by decide +kernel)
set_option maxRecDepth 20000 in
theorem gX6_size_X1_setWidths : GoodIn wsX6_size (wsV RX6 147 RX1 yX1_setWidths wsX1_setWidths) := goodIn_app (goodIn_of _ (by decide +kernel)) ggX6_size_X1_setWidths
set_option maxRecDepth 20000 in
theorem ggX6_size_X0_balance : GoodIn wsX6_size wsX0_balance := goodIn_r _ [36, 37, 38, 39, 40, 41, 42, 43, 44, 45, 46, 47, 48, 49, 50, 51, 52, 35, 53, 54, 55, 56, 57, 58, 59, 60, 61, 62, 63, 64, 65, 66, 67, 68, 69, 70, 71, 72, 73, 74, 75, 76, 77, 78, 79, 80, 81, 82, 83, 84, 85, 86, 87, 88, 89, 90, 91, 92, 93, 94, 22, 95, 96, 97, 98, 10, 99, 100, 101, 102, 103, 104, 105, 106, 107, 108, 109, 110, 111, 112, 113, 114, 115, 116, 117, 118, 143, 144, 145, 146, 147, 148, 149, 150, 151, 152, 153, 154, 155, 156, 135, 136, 137, 138, 139, 140, 141, 142] (by decide +kernel) (by decide +kernel)
set_option maxRecDepth 20000 in
theorem gX6_size_X0_balance : GoodIn wsX6_size (wsV RX6 101 RX0 yX0_balance wsX0_balance) := goodIn_app (goodIn_of _ (by decide +kernel)) ggX6_size_X0_balance
set_option maxRecDepth 20000 in
theorem ggX6_size_X0_isEachMachineServed : GoodIn wsX6_size wsX0_isEachMachineServed := goodIn_r _ [122, 37, 68, 111, 110, 123, 114, 115, 116, 35, 117, 69, 70, 40, 118, 104, 10, 105, 143, 144, 145, 146, 147, 151, 152, 153, 154, 155, 156] (by decide +kernel) (by decide +kernel)
set_option maxRecDepth 20000 in
theorem gX6_size_X0_isEachMachineServed : GoodIn wsX6_size (wsV RX6 151 RX0 yX0_isEachMachineServed wsX0_isEachMachineServed) := goodIn_app (goodIn_of _ (by decide +kernel)) ggX6_size_X0_isEachMachineServed
theorem dX6_size_0 : decode cX6_size 0 = .ok (.iload_n 1, 1) := by decide +kernel
theorem dX6_size_1 : decode cX6_size 1 = .ok (.iconst 4, 1) := by decide +kernel
theorem dX6_size_2 : decode cX6_size 2 = .ok (.invokestatic 52, 3) := by decide +kernel
theorem dX6_size_5 : decode cX6_size 5 = .ok (.aload_n 0, 1) := by decide +kernel
theorem dX6_size_6 : decode cX6_size 6 = .ok (.getfield 36, 3) := by decide +kernel
theorem dX6_size_9 : decode cX6_size 9 = .ok (.getfield 136, 3) := by decide +kernel
theorem dX6_size_12 : decode cX6_size 12 = .ok (.ifCond .le 7, 3) := by decide +kernel
theorem dX6_size_15 : decode cX6_size 15 = .ok (.iconst 1, 1) := by decide +kernel
theorem dX6_size_16 : decode cX6_size 16 = .ok (.goto 4, 3) := by decide +kernel
theorem dX6_size_19 : decode cX6_size 19 = .ok (.iconst 0, 1) := by decide +kernel
theorem dX6_size_20 : decode cX6_size 20 = .ok (.invokestatic 48, 3) := by decide +kernel
theorem dX6_size_23 : decode cX6_size 23 = .ok (.iconst 0, 1) := by decide +kernel
theorem dX6_size_24 : decode cX6_size 24 = .ok (.istore_n 2, 1) := by decide +kernel
theorem dX6_size_25 : decode cX6_size 25 = .ok (.iload_n 2, 1) := by decide +kernel
theorem dX6_size_26 : decode cX6_size 26 = .ok (.aload_n 0, 1) := by decide +kernel
theorem dX6_size_27 : decode cX6_size 27 = .ok (.getfield 36, 3) := by decide +kernel
theorem dX6_size_30 : decode cX6_size 30 = .ok (.getfield 136, 3) := by decide +kernel
theorem dX6_size_33 : decode cX6_size 33 = .ok (.if_icmp .ge 75, 3) := by decide +kernel
theorem dX6_size_36 : decode cX6_size 36 = .ok (.aload_n 0, 1) := by decide +kernel
theorem dX6_size_37 : decode cX6_size 37 = .ok (.getfield 36, 3) := by decide +kernel
theorem dX6_size_40 : decode cX6_size 40 = .ok (.getfield 140, 3) := by decide +kernel
theorem dX6_size_43 : decode cX6_size 43 = .ok (.iload_n 2, 1) := by decide +kernel
theorem dX6_size_44 : decode cX6_size 44 = .ok (.iaload, 1) := by decide +kernel
theorem dX6_size_45 : decode cX6_size 45 = .ok (.istore_n 3, 1) := by decide +kernel
theorem dX6_size_46 : decode cX6_size 46 = .ok (.aload_n 0, 1) := by decide +kernel
theorem dX6_size_47 : decode cX6_size 47 = .ok (.getfield 20, 3) := by decide +kernel
theorem dX6_size_50 : decode cX6_size 50 = .ok (.aload_n 0, 1) := by decide +kernel
theorem dX6_size_51 : decode cX6_size 51 = .ok (.getfield 36, 3) := by decide +kernel
theorem dX6_size_54 : decode cX6_size 54 = .ok (.getfield 144, 3) := by decide +kernel
theorem dX6_size_57 : decode cX6_size 57 = .ok (.iload_n 3, 1) := by decide +kernel
theorem dX6_size_58 : decode cX6_size 58 = .ok (.daload, 1) := by decide +kernel
theorem dX6_size_59 : decode cX6_size 59 = .ok (.invokevirtual 147, 3) := by decide +kernel
theorem dX6_size_62 : decode cX6_size 62 = .ok (.aload_n 0, 1) := by decide +kernel
theorem dX6_size_63 : decode cX6_size 63 = .ok (.aload_n 0, 1) := by decide +kernel
theorem dX6_size_64 : decode cX6_size 64 = .ok (.getfield 10, 3) := by decide +kernel
theorem dX6_size_67 : decode cX6_size 67 = .ok (.iload_n 1, 1) := by decide +kernel
theorem dX6_size_68 : decode cX6_size 68 = .ok (.invokevirtual 101, 3) := by decide +kernel
theorem dX6_size_71 : decode cX6_size 71 = .ok (.iconst (-1), 1) := by decide +kernel
theorem dX6_size_72 : decode cX6_size 72 = .ok (.if_icmp .eq 7, 3) := by decide +kernel
theorem dX6_size_75 : decode cX6_size 75 = .ok (.iconst 1, 1) := by decide +kernel
theorem dX6_size_76 : decode cX6_size 76 = .ok (.goto 4, 3) := by decide +kernel
theorem dX6_size_79 : decode cX6_size 79 = .ok (.iconst 0, 1) := by decide +kernel
theorem dX6_size_80 : decode cX6_size 80 = .ok (.putfield 44, 3) := by decide +kernel
theorem dX6_size_83 : decode cX6_size 83 = .ok (.aload_n 0, 1) := by decide +kernel
theorem dX6_size_84 : decode cX6_size 84 = .ok (.getfield 44, 3) := by decide +kernel
theorem dX6_size_87 : decode cX6_size 87 = .ok (.ifCond .eq 15, 3) := by decide +kernel
theorem dX6_size_90 : decode cX6_size 90 = .ok (.aload_n 0, 1) := by decide +kernel
theorem dX6_size_91 : decode cX6_size 91 = .ok (.getfield 10, 3) := by decide +kernel
theorem dX6_size_94 : decode cX6_size 94 = .ok (.invokevirtual 151, 3) := by decide +kernel
theorem dX6_size_97 : decode cX6_size 97 = .ok (.ifCond .eq 5, 3) := by decide +kernel
theorem dX6_size_100 : decode cX6_size 100 = .ok (.iload_n 3, 1) := by decide +kernel
theorem dX6_size_101 : decode cX6_size 101 = .ok (.ireturn, 1) := by decide +kernel
theorem dX6_size_102 : decode cX6_size 102 = .ok (.iinc 2 1, 3) := by decide +kernel
theorem dX6_size_105 : decode cX6_size 105 = .ok (.goto (-80), 3) := by decide +kernel
theorem dX6_size_108 : decode cX6_size 108 = .ok (.iconst (-1), 1) := by decide +kernel
theorem dX6_size_109 : decode cX6_size 109 = .ok (.ireturn, 1) := by decide +kernel
set_option maxRecDepth 20000 in
theorem ggX6_read_X6_checkIndex : GoodIn wsX6_read wsX6_checkIndex := goodIn_ca (goodIn_r _ [10, 11, 12] (by decide +kernel) (by decide +kernel)) (goodIn_sub (fun _ h => List.mem_cons_of_mem _ (List.mem_append_left _ (List.mem_append_right _ h))) (by decide +kernel))
set_option maxRecDepth 20000 in
theorem gX6_read_X6_checkIndex : GoodIn wsX6_read (va_wsS RX6 52 yX6_checkIndex wsX6_checkIndex) := goodIn_app (goodIn_of _ (by decide +kernel)) ggX6_read_X6_checkIndex
set_option maxRecDepth 20000 in
theorem ggX6_read_X6_isWithin : GoodIn wsX6_read wsX6_isWithin := goodIn_r _ [15] (by decide +kernel) (by decide +kernel)
set_option maxRecDepth 20000 in
theorem gX6_read_X6_isWithin : GoodIn wsX6_read (va_wsS RX6 60 yX6_isWithin wsX6_isWithin) := goodIn_app (goodIn_of _ (by decide +kernel)) ggX6_read_X6_isWithin
set_option maxRecDepth 20000 in
theorem ggX6_read_X6_checkArgument : GoodIn wsX6_read wsX6_checkArgument := goodIn_ca (goodIn_r _ [18, 19, 20] (by decide +kernel) (by decide +kernel)) (goodIn_sub (fun _ h => List.mem_cons_of_mem _ (List.mem_append_right _ h)) (by decide +kernel))
set_option maxRecDepth 20000 in
theorem gX6_read_X6_checkArgument : GoodIn wsX6_read (va_wsS RX6 64 yX6_checkArgument wsX6_checkArgument) := goodIn_app (goodIn_of _ (by decide +kernel)) ggX6_read_X6_checkArgument
theorem dX6_read_0 : decode cX6_read 0 = .ok (.iload_n 1, 1) := by decide +kernel
theorem dX6_read_1 : decode cX6_read 1 = .ok (.aload_n 0, 1) := by decide +kernel
theorem dX6_read_2 : decode cX6_read 2 = .ok (.getfield 20, 3) := by decide +kernel
theorem dX6_read_5 : decode cX6_read 5 = .ok (.getfield 67, 3) := by decide +kernel
theorem dX6_read_8 : decode cX6_read 8 = .ok (.invokestatic 52, 3) := by decide +kernel
theorem dX6_read_11 : decode cX6_read 11 = .ok (.dload_n 2, 1) := by decide +kernel
theorem dX6_read_12 : decode cX6_read 12 = .ok (.dconst 0, 1) := by decide +kernel
theorem dX6_read_13 : decode cX6_read 13 = .ok (.ldc2_w 155, 3) := by decide +kernel
theorem dX6_read_16 : decode cX6_read 16 = .ok (.invokestatic 60, 3) := by decide +kernel
theorem dX6_read_19 : decode cX6_read 19 = .ok (.invokestatic 64, 3) := by decide +kernel
theorem dX6_read_22 : decode cX6_read 22 = .ok (.aload_n 0, 1) := by decide +kernel
theorem dX6_read_23 : decode cX6_read 23 = .ok (.getfield 29, 3) := by decide +kernel
theorem dX6_read_26 : decode cX6_read 26 = .ok (.getfield 157, 3) := by decide +kernel
theorem dX6_read_29 : decode cX6_read 29 = .ok (.iload_n 1, 1) := by decide +kernel
theorem dX6_read_30 : decode cX6_read 30 = .ok (.dload_n 2, 1) := by decide +kernel
theorem dX6_read_31 : decode cX6_read 31 = .ok (.dastore, 1) := by decide +kernel
theorem dX6_read_32 : decode cX6_read 32 = .ok (.aload_n 0, 1) := by decide +kernel
theorem dX6_read_33 : decode cX6_read 33 = .ok (.getfield 29, 3) := by decide +kernel
theorem dX6_read_36 : decode cX6_read 36 = .ok (.getfield 160, 3) := by decide +kernel
theorem dX6_read_39 : decode cX6_read 39 = .ok (.iload_n 1, 1) := by decide +kernel
theorem dX6_read_40 : decode cX6_read 40 = .ok (.iconst 1, 1) := by decide +kernel
theorem dX6_read_41 : decode cX6_read 41 = .ok (.bastore, 1) := by decide +kernel
theorem dX6_read_42 : decode cX6_read 42 = .ok (.return_, 1) := by decide +kernel
set_option maxRecDepth 20000 in
theorem ggX6_fit_X6_checkArgument : GoodIn wsX6_fit wsX6_checkArgument := goodIn_ca (goodIn_r _ [7, 8, 9] (by decide +kernel) (by decide +kernel)) (goodIn_sub (fun _ h => List.mem_cons_of_mem _ (List.mem_append_left _ (List.mem_append_right _ h))) (by decide +kernel))
set_option maxRecDepth 20000 in
theorem gX6_fit_X6_checkArgument : GoodIn wsX6_fit (va_wsS RX6 64 yX6_checkArgument wsX6_checkArgument) := goodIn_app (goodIn_of _ (by decide +kernel)) ggX6_fit_X6_checkArgument
set_option maxRecDepth 20000 in
theorem ggX6_fit_X6_checkState : GoodIn wsX6_fit wsX6_checkState := goodIn_ca (goodIn_r _ [12, 13, 14] (by decide +kernel) (by decide +kernel)) (goodIn_sub (fun _ h => List.mem_cons_of_mem _ (List.mem_append_right _ h)) (by decide +kernel))
set_option maxRecDepth 20000 in
theorem gX6_fit_X6_checkState : GoodIn wsX6_fit (va_wsS RX6 48 yX6_checkState wsX6_checkState) := goodIn_app (goodIn_of _ (by decide +kernel)) ggX6_fit_X6_checkState
set_option maxRecDepth 20000 in
theorem ggX6_fit_X3_approach : GoodIn wsX6_fit wsX3_approach := goodIn_r _ [19, 20, 21, 22, 23, 24, 25, 18, 26, 27, 28, 29, 30, 31, 32, 33, 34, 35, 36, 37, 38, 6, 39, 40, 41, 53, 54, 55, 56, 57, 58, 59, 60, 61, 62, 63, 64, 65, 66, 67, 68] (by decide +kernel) (by decide +kernel)
set_option maxRecDepth 20000 in
theorem gX6_fit_X3_approach : GoodIn wsX6_fit (wsV RX6 164 RX3 yX3_approach wsX3_approach) := goodIn_app (goodIn_of _ (by decide +kernel)) ggX6_fit_X3_approach
set_option maxRecDepth 20000 in
theorem ggX6_fit_X3_sumOfSquares : GoodIn wsX6_fit wsX3_sumOfSquares := goodIn_r _ [45, 20, 23, 24, 25, 18, 26, 27, 21, 28, 29, 30, 31, 32, 33, 34, 35, 36, 37, 38, 6, 39, 53, 54, 55, 56, 57, 58, 59, 60, 61, 62, 63, 64, 65, 66, 67, 68] (by decide +kernel) (by decide +kernel)
set_option maxRecDepth 20000 in
theorem gX6_fit_X3_sumOfSquares : GoodIn wsX6_fit (wsV RX6 168 RX3 yX3_sumOfSquares wsX3_sumOfSquares) := goodIn_app (goodIn_of _ (by decide +kernel)) ggX6_fit_X3_sumOfSquares
theorem dX6_fit_0 : decode cX6_fit 0 = .ok (.iload_n 1, 1) := by decide +kernel
theorem dX6_fit_1 : decode cX6_fit 1 = .ok (.ifCond .lt 13, 3) := by decide +kernel
theorem dX6_fit_4 : decode cX6_fit 4 = .ok (.iload_n 1, 1) := by decide +kernel
theorem dX6_fit_5 : decode cX6_fit 5 = .ok (.bipush 50, 2) := by decide +kernel
theorem dX6_fit_7 : decode cX6_fit 7 = .ok (.if_icmp .gt 7, 3) := by decide +kernel
theorem dX6_fit_10 : decode cX6_fit 10 = .ok (.iconst 1, 1) := by decide +kernel
theorem dX6_fit_11 : decode cX6_fit 11 = .ok (.goto 4, 3) := by decide +kernel
theorem dX6_fit_14 : decode cX6_fit 14 = .ok (.iconst 0, 1) := by decide +kernel
theorem dX6_fit_15 : decode cX6_fit 15 = .ok (.invokestatic 64, 3) := by decide +kernel
theorem dX6_fit_18 : decode cX6_fit 18 = .ok (.aload_n 0, 1) := by decide +kernel
theorem dX6_fit_19 : decode cX6_fit 19 = .ok (.getfield 44, 3) := by decide +kernel
theorem dX6_fit_22 : decode cX6_fit 22 = .ok (.invokestatic 48, 3) := by decide +kernel
theorem dX6_fit_25 : decode cX6_fit 25 = .ok (.iconst 0, 1) := by decide +kernel
theorem dX6_fit_26 : decode cX6_fit 26 = .ok (.istore_n 2, 1) := by decide +kernel
theorem dX6_fit_27 : decode cX6_fit 27 = .ok (.iload_n 2, 1) := by decide +kernel
theorem dX6_fit_28 : decode cX6_fit 28 = .ok (.iload_n 1, 1) := by decide +kernel
theorem dX6_fit_29 : decode cX6_fit 29 = .ok (.if_icmp .ge 20, 3) := by decide +kernel
theorem dX6_fit_32 : decode cX6_fit 32 = .ok (.aload_n 0, 1) := by decide +kernel
theorem dX6_fit_33 : decode cX6_fit 33 = .ok (.getfield 29, 3) := by decide +kernel
theorem dX6_fit_36 : decode cX6_fit 36 = .ok (.aload_n 0, 1) := by decide +kernel
theorem dX6_fit_37 : decode cX6_fit 37 = .ok (.getfield 10, 3) := by decide +kernel
theorem dX6_fit_40 : decode cX6_fit 40 = .ok (.invokevirtual 164, 3) := by decide +kernel
theorem dX6_fit_43 : decode cX6_fit 43 = .ok (.iinc 2 1, 3) := by decide +kernel
theorem dX6_fit_46 : decode cX6_fit 46 = .ok (.goto (-19), 3) := by decide +kernel
theorem dX6_fit_49 : decode cX6_fit 49 = .ok (.aload_n 0, 1) := by decide +kernel
theorem dX6_fit_50 : decode cX6_fit 50 = .ok (.getfield 29, 3) := by decide +kernel
theorem dX6_fit_53 : decode cX6_fit 53 = .ok (.aload_n 0, 1) := by decide +kernel
theorem dX6_fit_54 : decode cX6_fit 54 = .ok (.getfield 10, 3) := by decide +kernel
theorem dX6_fit_57 : decode cX6_fit 57 = .ok (.invokevirtual 168, 3) := by decide +kernel
theorem dX6_fit_60 : decode cX6_fit 60 = .ok (.dreturn, 1) := by decide +kernel
set_option maxRecDepth 20000 in
theorem ggX6_count_X6_checkIndex : GoodIn wsX6_count wsX6_checkIndex := goodIn_ca (goodIn_r _ [11, 12, 13] (by decide +kernel) (by decide +kernel)) (goodIn_sub (fun _ h => List.mem_cons_of_mem _ (List.mem_append_right _ h)) (by decide +kernel))
set_option maxRecDepth 20000 in
theorem gX6_count_X6_checkIndex : GoodIn wsX6_count (va_wsS RX6 52 yX6_checkIndex wsX6_checkIndex) := goodIn_app (goodIn_of _ (by decide +kernel)) ggX6_count_X6_checkIndex
theorem dX6_count_0 : decode cX6_count 0 = .ok (.iload_n 1, 1) := by decide +kernel
theorem dX6_count_1 : decode cX6_count 1 = .ok (.iconst 4, 1) := by decide +kernel
theorem dX6_count_2 : decode cX6_count 2 = .ok (.invokestatic 52, 3) := by decide +kernel
theorem dX6_count_5 : decode cX6_count 5 = .ok (.iload_n 1, 1) := by decide +kernel
theorem dX6_count_6 : decode cX6_count 6 = .ok (.tableswitch 47 0 2 #[26, 31, 39], 26) := by decide +kernel
theorem dX6_count_32 : decode cX6_count 32 = .ok (.aload_n 0, 1) := by decide +kernel
theorem dX6_count_33 : decode cX6_count 33 = .ok (.getfield 40, 3) := by decide +kernel
theorem dX6_count_36 : decode cX6_count 36 = .ok (.ireturn, 1) := by decide +kernel
theorem dX6_count_37 : decode cX6_count 37 = .ok (.aload_n 0, 1) := by decide +kernel
theorem dX6_count_38 : decode cX6_count 38 = .ok (.getfield 20, 3) := by decide +kernel
theorem dX6_count_41 : decode cX6_count 41 = .ok (.getfield 67, 3) := by decide +kernel
theorem dX6_count_44 : decode cX6_count 44 = .ok (.ireturn, 1) := by decide +kernel
theorem dX6_count_45 : decode cX6_count 45 = .ok (.aload_n 0, 1) := by decide +kernel
theorem dX6_count_46 : decode cX6_count 46 = .ok (.getfield 25, 3) := by decide +kernel
theorem dX6_count_49 : decode cX6_count 49 = .ok (.getfield 78, 3) := by decide +kernel
theorem dX6_count_52 : decode cX6_count 52 = .ok (.ireturn, 1) := by decide +kernel
theorem dX6_count_53 : decode cX6_count 53 = .ok (.aload_n 0, 1) := by decide +kernel
theorem dX6_count_54 : decode cX6_count 54 = .ok (.getfield 36, 3) := by decide +kernel
theorem dX6_count_57 : decode cX6_count 57 = .ok (.getfield 136, 3) := by decide +kernel
theorem dX6_count_60 : decode cX6_count 60 = .ok (.ireturn, 1) := by decide +kernel
theorem dX6_checkIndex_0 : decode cX6_checkIndex 0 = .ok (.iload_n 0, 1) := by decide +kernel
theorem dX6_checkIndex_1 : decode cX6_checkIndex 1 = .ok (.ifCond .lt 8, 3) := by decide +kernel
theorem dX6_checkIndex_4 : decode cX6_checkIndex 4 = .ok (.iload_n 0, 1) := by decide +kernel
theorem dX6_checkIndex_5 : decode cX6_checkIndex 5 = .ok (.iload_n 1, 1) := by decide +kernel
theorem dX6_checkIndex_6 : decode cX6_checkIndex 6 = .ok (.if_icmp .lt 13, 3) := by decide +kernel
theorem dX6_checkIndex_9 : decode cX6_checkIndex 9 = .ok (.new 172, 3) := by decide +kernel
theorem dX6_checkIndex_12 : decode cX6_checkIndex 12 = .ok (.dup, 1) := by decide +kernel
theorem dX6_checkIndex_13 : decode cX6_checkIndex 13 = .ok (.ldc 174, 2) := by decide +kernel
theorem dX6_checkIndex_15 : decode cX6_checkIndex 15 = .ok (.invokespecial 176, 3) := by decide +kernel
theorem dX6_checkIndex_18 : decode cX6_checkIndex 18 = .ok (.athrow, 1) := by decide +kernel
theorem dX6_checkIndex_19 : decode cX6_checkIndex 19 = .ok (.return_, 1) := by decide +kernel
theorem dX6_checkArgument_0 : decode cX6_checkArgument 0 = .ok (.iload_n 0, 1) := by decide +kernel
theorem dX6_checkArgument_1 : decode cX6_checkArgument 1 = .ok (.ifCond .ne 13, 3) := by decide +kernel
theorem dX6_checkArgument_4 : decode cX6_checkArgument 4 = .ok (.new 179, 3) := by decide +kernel
theorem dX6_checkArgument_7 : decode cX6_checkArgument 7 = .ok (.dup, 1) := by decide +kernel
theorem dX6_checkArgument_8 : decode cX6_checkArgument 8 = .ok (.ldc 181, 2) := by decide +kernel
theorem dX6_checkArgument_10 : decode cX6_checkArgument 10 = .ok (.invokespecial 183, 3) := by decide +kernel
theorem dX6_checkArgument_13 : decode cX6_checkArgument 13 = .ok (.athrow, 1) := by decide +kernel
theorem dX6_checkArgument_14 : decode cX6_checkArgument 14 = .ok (.return_, 1) := by decide +kernel
theorem dX6_checkState_0 : decode cX6_checkState 0 = .ok (.iload_n 0, 1) := by decide +kernel
theorem dX6_checkState_1 : decode cX6_checkState 1 = .ok (.ifCond .ne 13, 3) := by decide +kernel
theorem dX6_checkState_4 : decode cX6_checkState 4 = .ok (.new 184, 3) := by decide +kernel
theorem dX6_checkState_7 : decode cX6_checkState 7 = .ok (.dup, 1) := by decide +kernel
theorem dX6_checkState_8 : decode cX6_checkState 8 = .ok (.ldc 186, 2) := by decide +kernel
theorem dX6_checkState_10 : decode cX6_checkState 10 = .ok (.invokespecial 188, 3) := by decide +kernel
theorem dX6_checkState_13 : decode cX6_checkState 13 = .ok (.athrow, 1) := by decide +kernel
theorem dX6_checkState_14 : decode cX6_checkState 14 = .ok (.return_, 1) := by decide +kernel
theorem dX6_isWithin_0 : decode cX6_isWithin 0 = .ok (.dload_n 0, 1) := by decide +kernel
theorem dX6_isWithin_1 : decode cX6_isWithin 1 = .ok (.dload_n 2, 1) := by decide +kernel
theorem dX6_isWithin_2 : decode cX6_isWithin 2 = .ok (.dcmp .l, 1) := by decide +kernel
theorem dX6_isWithin_3 : decode cX6_isWithin 3 = .ok (.ifCond .lt 14, 3) := by decide +kernel
theorem dX6_isWithin_6 : decode cX6_isWithin 6 = .ok (.dload_n 0, 1) := by decide +kernel
theorem dX6_isWithin_7 : decode cX6_isWithin 7 = .ok (.dload 4, 2) := by decide +kernel
theorem dX6_isWithin_9 : decode cX6_isWithin 9 = .ok (.dcmp .g, 1) := by decide +kernel
theorem dX6_isWithin_10 : decode cX6_isWithin 10 = .ok (.ifCond .gt 7, 3) := by decide +kernel
theorem dX6_isWithin_13 : decode cX6_isWithin 13 = .ok (.iconst 1, 1) := by decide +kernel
theorem dX6_isWithin_14 : decode cX6_isWithin 14 = .ok (.goto 4, 3) := by decide +kernel
theorem dX6_isWithin_17 : decode cX6_isWithin 17 = .ok (.iconst 0, 1) := by decide +kernel
theorem dX6_isWithin_18 : decode cX6_isWithin 18 = .ok (.ireturn, 1) := by decide +kernel
theorem dX6_magnitude_0 : decode cX6_magnitude 0 = .ok (.dload_n 0, 1) := by decide +kernel
theorem dX6_magnitude_1 : decode cX6_magnitude 1 = .ok (.dconst 0, 1) := by decide +kernel
theorem dX6_magnitude_2 : decode cX6_magnitude 2 = .ok (.dcmp .g, 1) := by decide +kernel
theorem dX6_magnitude_3 : decode cX6_magnitude 3 = .ok (.ifCond .ge 8, 3) := by decide +kernel
theorem dX6_magnitude_6 : decode cX6_magnitude 6 = .ok (.dload_n 0, 1) := by decide +kernel
theorem dX6_magnitude_7 : decode cX6_magnitude 7 = .ok (.dneg, 1) := by decide +kernel
theorem dX6_magnitude_8 : decode cX6_magnitude 8 = .ok (.goto 4, 3) := by decide +kernel
theorem dX6_magnitude_11 : decode cX6_magnitude 11 = .ok (.dload_n 0, 1) := by decide +kernel
theorem dX6_magnitude_12 : decode cX6_magnitude 12 = .ok (.dreturn, 1) := by decide +kernel
theorem dX6_notBelowZero_0 : decode cX6_notBelowZero 0 = .ok (.dload_n 0, 1) := by decide +kernel
theorem dX6_notBelowZero_1 : decode cX6_notBelowZero 1 = .ok (.dconst 0, 1) := by decide +kernel
theorem dX6_notBelowZero_2 : decode cX6_notBelowZero 2 = .ok (.dcmp .g, 1) := by decide +kernel
theorem dX6_notBelowZero_3 : decode cX6_notBelowZero 3 = .ok (.ifCond .ge 7, 3) := by decide +kernel
theorem dX6_notBelowZero_6 : decode cX6_notBelowZero 6 = .ok (.dconst 0, 1) := by decide +kernel
theorem dX6_notBelowZero_7 : decode cX6_notBelowZero 7 = .ok (.goto 4, 3) := by decide +kernel
theorem dX6_notBelowZero_10 : decode cX6_notBelowZero 10 = .ok (.dload_n 0, 1) := by decide +kernel
theorem dX6_notBelowZero_11 : decode cX6_notBelowZero 11 = .ok (.dreturn, 1) := by decide +kernel
theorem dX7_init_0 : decode cX7_init 0 = .ok (.aload_n 0, 1) := by decide +kernel
theorem dX7_init_1 : decode cX7_init 1 = .ok (.invokespecial 1, 3) := by decide +kernel
theorem dX7_init_4 : decode cX7_init 4 = .ok (.aload_n 0, 1) := by decide +kernel
theorem dX7_init_5 : decode cX7_init 5 = .ok (.iconst 1, 1) := by decide +kernel
theorem dX7_init_6 : decode cX7_init 6 = .ok (.putfield 7, 3) := by decide +kernel
theorem dX7_init_9 : decode cX7_init 9 = .ok (.aload_n 0, 1) := by decide +kernel
theorem dX7_init_10 : decode cX7_init 10 = .ok (.bipush 16, 2) := by decide +kernel
theorem dX7_init_12 : decode cX7_init 12 = .ok (.newarray .int, 2) := by decide +kernel
theorem dX7_init_14 : decode cX7_init 14 = .ok (.putfield 13, 3) := by decide +kernel
theorem dX7_init_17 : decode cX7_init 17 = .ok (.aload_n 0, 1) := by decide +kernel
theorem dX7_init_18 : decode cX7_init 18 = .ok (.bipush 16, 2) := by decide +kernel
theorem dX7_init_20 : decode cX7_init 20 = .ok (.newarray .int, 2) := by decide +kernel
theorem dX7_init_22 : decode cX7_init 22 = .ok (.putfield 17, 3) := by decide +kernel
theorem dX7_init_25 : decode cX7_init 25 = .ok (.aload_n 0, 1) := by decide +kernel
theorem dX7_init_26 : decode cX7_init 26 = .ok (.bipush 16, 2) := by decide +kernel
theorem dX7_init_28 : decode cX7_init 28 = .ok (.newarray .double, 2) := by decide +kernel
theorem dX7_init_30 : decode cX7_init 30 = .ok (.putfield 20, 3) := by decide +kernel
theorem dX7_init_33 : decode cX7_init 33 = .ok (.aload_n 0, 1) := by decide +kernel
theorem dX7_init_34 : decode cX7_init 34 = .ok (.bipush 16, 2) := by decide +kernel
