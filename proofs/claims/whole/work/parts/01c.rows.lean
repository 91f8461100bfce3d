set_option maxRecDepth 20000 in
theorem ggX0_init_X1_init : GoodIn wsX0_init wsX1_init := goodIn_r _ [20, 21, 2, 3, 22, 23, 24, 25, 16, 26, 27, 28, 29, 30, 31, 50, 51, 52, 53, 54, 55, 56, 57] (by decide +kernel) (by decide +kernel)
set_option maxRecDepth 20000 in
theorem gX0_init_X1_init_n11 : GoodIn wsX0_init (wsX1_init) := ggX0_init_X1_init
set_option maxRecDepth 20000 in
theorem ggX0_init_X4_init : GoodIn wsX0_init wsX4_init := goodIn_r _ [33, 34, 2, 3, 35, 23, 36, 16, 37, 38, 39, 40, 41, 63, 64, 65, 66, 67, 68] (by decide +kernel) (by decide +kernel)
set_option maxRecDepth 20000 in
theorem gX0_init_X4_init_n20 : GoodIn wsX0_init (wsX4_init) := ggX0_init_X4_init
set_option maxRecDepth 20000 in
theorem ggX0_init_X2_init : GoodIn wsX0_init wsX2_init := goodIn_r _ [43, 44, 2, 3, 45, 46, 47, 48, 49, 69, 70, 71] (by decide +kernel) (by decide +kernel)
set_option maxRecDepth 20000 in
theorem gX0_init_X2_init_n27 : GoodIn wsX0_init (wsX2_init) := ggX0_init_X2_init
theorem dX0_init_0 : decode cX0_init 0 = .ok (.aload_n 0, 1) := by decide +kernel
theorem dX0_init_1 : decode cX0_init 1 = .ok (.invokespecial 3, 3) := by decide +kernel
theorem dX0_init_4 : decode cX0_init 4 = .ok (.aload_n 0, 1) := by decide +kernel
theorem dX0_init_5 : decode cX0_init 5 = .ok (.new 9, 3) := by decide +kernel
theorem dX0_init_8 : decode cX0_init 8 = .ok (.dup, 1) := by decide +kernel
theorem dX0_init_9 : decode cX0_init 9 = .ok (.invokespecial 11, 3) := by decide +kernel
theorem dX0_init_12 : decode cX0_init 12 = .ok (.putfield 12, 3) := by decide +kernel
theorem dX0_init_15 : decode cX0_init 15 = .ok (.aload_n 0, 1) := by decide +kernel
theorem dX0_init_16 : decode cX0_init 16 = .ok (.new 18, 3) := by decide +kernel
theorem dX0_init_19 : decode cX0_init 19 = .ok (.dup, 1) := by decide +kernel
theorem dX0_init_20 : decode cX0_init 20 = .ok (.invokespecial 20, 3) := by decide +kernel
theorem dX0_init_23 : decode cX0_init 23 = .ok (.putfield 21, 3) := by decide +kernel
theorem dX0_init_26 : decode cX0_init 26 = .ok (.aload_n 0, 1) := by decide +kernel
theorem dX0_init_27 : decode cX0_init 27 = .ok (.new 25, 3) := by decide +kernel
theorem dX0_init_30 : decode cX0_init 30 = .ok (.dup, 1) := by decide +kernel
theorem dX0_init_31 : decode cX0_init 31 = .ok (.invokespecial 27, 3) := by decide +kernel
theorem dX0_init_34 : decode cX0_init 34 = .ok (.putfield 28, 3) := by decide +kernel
theorem dX0_init_37 : decode cX0_init 37 = .ok (.aload_n 0, 1) := by decide +kernel
theorem dX0_init_38 : decode cX0_init 38 = .ok (.bipush 10, 2) := by decide +kernel
theorem dX0_init_40 : decode cX0_init 40 = .ok (.newarray .double, 2) := by decide +kernel
theorem dX0_init_42 : decode cX0_init 42 = .ok (.putfield 32, 3) := by decide +kernel
theorem dX0_init_45 : decode cX0_init 45 = .ok (.aload_n 0, 1) := by decide +kernel
theorem dX0_init_46 : decode cX0_init 46 = .ok (.bipush 10, 2) := by decide +kernel
theorem dX0_init_48 : decode cX0_init 48 = .ok (.newarray .double, 2) := by decide +kernel
theorem dX0_init_50 : decode cX0_init 50 = .ok (.putfield 36, 3) := by decide +kernel
theorem dX0_init_53 : decode cX0_init 53 = .ok (.return_, 1) := by decide +kernel
set_option maxRecDepth 20000 in
theorem ggX0_balance_X4_openFor : GoodIn wsX0_balance wsX4_openFor := goodIn_r _ [9, 10, 11, 12, 13, 94, 95, 96, 97, 98, 99] (by decide +kernel) (by decide +kernel)
set_option maxRecDepth 20000 in
theorem gX0_balance_X4_openFor : GoodIn wsX0_balance (wsV RX0 39 RX4 yX4_openFor wsX4_openFor) := goodIn_app (goodIn_of _ (by decide +kernel)) ggX0_balance_X4_openFor
set_option maxRecDepth 20000 in
theorem ggX0_balance_X0_settle : GoodIn wsX0_balance wsX0_settle := goodIn_r _ [18, 19, 20, 21, 22, 17, 23, 24, 25, 26, 27, 28, 29, 30, 31, 32, 1, 33, 34, 35, 36, 37, 38, 8, 39, 11, 40, 41, 42, 43, 44, 4, 2, 3, 45, 46, 47, 48, 49, 50, 51, 52, 53, 54, 55, 56, 57, 58, 59, 60, 61, 62, 63, 64, 65, 66, 67, 68, 69, 70, 71, 72, 86, 87, 88, 89, 90, 100, 101, 102, 103, 104, 105, 106, 107, 94, 95, 96, 97, 98, 99, 91, 92, 93] (by decide +kernel) (by decide +kernel)
set_option maxRecDepth 20000 in
theorem gX0_balance_X0_settle : GoodIn wsX0_balance (wsV RX0 47 RX0 yX0_settle wsX0_settle) := goodIn_app (goodIn_of _ (by decide +kernel)) ggX0_balance_X0_settle
set_option maxRecDepth 20000 in
theorem ggX0_balance_X0_closeGates : GoodIn wsX0_balance wsX0_closeGates := goodIn_r _ [76, 1, 33, 77, 78, 34, 79, 80, 81, 82, 83, 17, 84, 35, 4, 85, 71, 65, 72, 86, 87, 88, 89, 90, 94, 95, 96, 97, 98, 99] (by decide +kernel) (by decide +kernel)
set_option maxRecDepth 20000 in
theorem gX0_balance_X0_closeGates : GoodIn wsX0_balance (wsV RX0 51 RX0 yX0_closeGates wsX0_closeGates) := goodIn_app (goodIn_of _ (by decide +kernel)) ggX0_balance_X0_closeGates
theorem dX0_balance_0 : decode cX0_balance 0 = .ok (.aload_n 0, 1) := by decide +kernel
theorem dX0_balance_1 : decode cX0_balance 1 = .ok (.getfield 21, 3) := by decide +kernel
theorem dX0_balance_4 : decode cX0_balance 4 = .ok (.iload_n 1, 1) := by decide +kernel
theorem dX0_balance_5 : decode cX0_balance 5 = .ok (.invokevirtual 39, 3) := by decide +kernel
theorem dX0_balance_8 : decode cX0_balance 8 = .ok (.aload_n 0, 1) := by decide +kernel
theorem dX0_balance_9 : decode cX0_balance 9 = .ok (.getfield 28, 3) := by decide +kernel
theorem dX0_balance_12 : decode cX0_balance 12 = .ok (.dconst 0, 1) := by decide +kernel
theorem dX0_balance_13 : decode cX0_balance 13 = .ok (.putfield 43, 3) := by decide +kernel
theorem dX0_balance_16 : decode cX0_balance 16 = .ok (.iconst 0, 1) := by decide +kernel
theorem dX0_balance_17 : decode cX0_balance 17 = .ok (.istore_n 2, 1) := by decide +kernel
theorem dX0_balance_18 : decode cX0_balance 18 = .ok (.iload_n 2, 1) := by decide +kernel
theorem dX0_balance_19 : decode cX0_balance 19 = .ok (.bipush 10, 2) := by decide +kernel
theorem dX0_balance_21 : decode cX0_balance 21 = .ok (.if_icmp .ge 16, 3) := by decide +kernel
theorem dX0_balance_24 : decode cX0_balance 24 = .ok (.aload_n 0, 1) := by decide +kernel
theorem dX0_balance_25 : decode cX0_balance 25 = .ok (.getfield 32, 3) := by decide +kernel
theorem dX0_balance_28 : decode cX0_balance 28 = .ok (.iload_n 2, 1) := by decide +kernel
theorem dX0_balance_29 : decode cX0_balance 29 = .ok (.dconst 0, 1) := by decide +kernel
theorem dX0_balance_30 : decode cX0_balance 30 = .ok (.dastore, 1) := by decide +kernel
theorem dX0_balance_31 : decode cX0_balance 31 = .ok (.iinc 2 1, 3) := by decide +kernel
theorem dX0_balance_34 : decode cX0_balance 34 = .ok (.goto (-16), 3) := by decide +kernel
theorem dX0_balance_37 : decode cX0_balance 37 = .ok (.iconst 0, 1) := by decide +kernel
theorem dX0_balance_38 : decode cX0_balance 38 = .ok (.istore_n 2, 1) := by decide +kernel
theorem dX0_balance_39 : decode cX0_balance 39 = .ok (.iconst 1, 1) := by decide +kernel
theorem dX0_balance_40 : decode cX0_balance 40 = .ok (.istore_n 3, 1) := by decide +kernel
theorem dX0_balance_41 : decode cX0_balance 41 = .ok (.iconst 0, 1) := by decide +kernel
theorem dX0_balance_42 : decode cX0_balance 42 = .ok (.istore 4, 2) := by decide +kernel
theorem dX0_balance_44 : decode cX0_balance 44 = .ok (.iload 4, 2) := by decide +kernel
theorem dX0_balance_46 : decode cX0_balance 46 = .ok (.bipush 10, 2) := by decide +kernel
theorem dX0_balance_48 : decode cX0_balance 48 = .ok (.if_icmp .ge 37, 3) := by decide +kernel
theorem dX0_balance_51 : decode cX0_balance 51 = .ok (.iload_n 3, 1) := by decide +kernel
theorem dX0_balance_52 : decode cX0_balance 52 = .ok (.ifCond .eq 33, 3) := by decide +kernel
theorem dX0_balance_55 : decode cX0_balance 55 = .ok (.aload_n 0, 1) := by decide +kernel
theorem dX0_balance_56 : decode cX0_balance 56 = .ok (.invokevirtual 47, 3) := by decide +kernel
theorem dX0_balance_59 : decode cX0_balance 59 = .ok (.istore 5, 2) := by decide +kernel
theorem dX0_balance_61 : decode cX0_balance 61 = .ok (.iload 5, 2) := by decide +kernel
theorem dX0_balance_63 : decode cX0_balance 63 = .ok (.iconst (-1), 1) := by decide +kernel
theorem dX0_balance_64 : decode cX0_balance 64 = .ok (.if_icmp .ne 5, 3) := by decide +kernel
theorem dX0_balance_67 : decode cX0_balance 67 = .ok (.iconst (-1), 1) := by decide +kernel
theorem dX0_balance_68 : decode cX0_balance 68 = .ok (.ireturn, 1) := by decide +kernel
theorem dX0_balance_69 : decode cX0_balance 69 = .ok (.iload_n 2, 1) := by decide +kernel
theorem dX0_balance_70 : decode cX0_balance 70 = .ok (.iload 5, 2) := by decide +kernel
theorem dX0_balance_72 : decode cX0_balance 72 = .ok (.iadd, 1) := by decide +kernel
theorem dX0_balance_73 : decode cX0_balance 73 = .ok (.istore_n 2, 1) := by decide +kernel
theorem dX0_balance_74 : decode cX0_balance 74 = .ok (.aload_n 0, 1) := by decide +kernel
theorem dX0_balance_75 : decode cX0_balance 75 = .ok (.invokevirtual 51, 3) := by decide +kernel
theorem dX0_balance_78 : decode cX0_balance 78 = .ok (.istore_n 3, 1) := by decide +kernel
theorem dX0_balance_79 : decode cX0_balance 79 = .ok (.iinc 4 1, 3) := by decide +kernel
theorem dX0_balance_82 : decode cX0_balance 82 = .ok (.goto (-38), 3) := by decide +kernel
theorem dX0_balance_85 : decode cX0_balance 85 = .ok (.iload_n 2, 1) := by decide +kernel
theorem dX0_balance_86 : decode cX0_balance 86 = .ok (.ireturn, 1) := by decide +kernel
set_option maxRecDepth 20000 in
theorem ggX0_settle_X0_weighJoints : GoodIn wsX0_settle wsX0_weighJoints := goodIn_r _ [6, 7, 8, 9, 10, 11, 12, 5, 13, 14, 15, 16, 17, 18, 19, 20, 21, 22, 23, 24, 25, 26, 62, 63, 64, 65, 66, 67, 68, 69, 70, 71, 72, 73, 74, 75, 76, 77, 78, 79, 80] (by decide +kernel) (by decide +kernel)
set_option maxRecDepth 20000 in
theorem gX0_settle_X0_weighJoints : GoodIn wsX0_settle (wsV RX0 55 RX0 yX0_weighJoints wsX0_weighJoints) := goodIn_app (goodIn_of _ (by decide +kernel)) ggX0_settle_X0_weighJoints
set_option maxRecDepth 20000 in
theorem ggX0_settle_X0_changeOfRound : GoodIn wsX0_settle wsX0_changeOfRound := goodIn_r _ [30, 31, 32, 7, 33, 34, 35, 36, 37, 38, 39, 40, 41, 42, 43, 44, 5, 45, 8, 9, 15, 14, 46, 47, 48, 49, 50, 51, 52, 53, 54, 55, 56, 57, 58, 59, 60, 61, 62, 63, 64, 65, 66, 81, 82, 83, 67, 68, 69, 70, 71, 72, 73, 74] (by decide +kernel) (by decide +kernel)
set_option maxRecDepth 20000 in
theorem gX0_settle_X0_changeOfRound : GoodIn wsX0_settle (wsV RX0 58 RX0 yX0_changeOfRound wsX0_changeOfRound) := goodIn_app (goodIn_of _ (by decide +kernel)) ggX0_settle_X0_changeOfRound
theorem dX0_settle_0 : decode cX0_settle 0 = .ok (.aload_n 0, 1) := by decide +kernel
theorem dX0_settle_1 : decode cX0_settle 1 = .ok (.invokevirtual 55, 3) := by decide +kernel
theorem dX0_settle_4 : decode cX0_settle 4 = .ok (.iconst 1, 1) := by decide +kernel
theorem dX0_settle_5 : decode cX0_settle 5 = .ok (.istore_n 1, 1) := by decide +kernel
theorem dX0_settle_6 : decode cX0_settle 6 = .ok (.iload_n 1, 1) := by decide +kernel
theorem dX0_settle_7 : decode cX0_settle 7 = .ok (.bipush 100, 2) := by decide +kernel
theorem dX0_settle_9 : decode cX0_settle 9 = .ok (.if_icmp .gt 22, 3) := by decide +kernel
theorem dX0_settle_12 : decode cX0_settle 12 = .ok (.aload_n 0, 1) := by decide +kernel
theorem dX0_settle_13 : decode cX0_settle 13 = .ok (.invokevirtual 58, 3) := by decide +kernel
theorem dX0_settle_16 : decode cX0_settle 16 = .ok (.ldc2_w 62, 3) := by decide +kernel
theorem dX0_settle_19 : decode cX0_settle 19 = .ok (.dcmp .g, 1) := by decide +kernel
theorem dX0_settle_20 : decode cX0_settle 20 = .ok (.ifCond .ge 5, 3) := by decide +kernel
theorem dX0_settle_23 : decode cX0_settle 23 = .ok (.iload_n 1, 1) := by decide +kernel
theorem dX0_settle_24 : decode cX0_settle 24 = .ok (.ireturn, 1) := by decide +kernel
theorem dX0_settle_25 : decode cX0_settle 25 = .ok (.iinc 1 1, 3) := by decide +kernel
theorem dX0_settle_28 : decode cX0_settle 28 = .ok (.goto (-22), 3) := by decide +kernel
theorem dX0_settle_31 : decode cX0_settle 31 = .ok (.iconst (-1), 1) := by decide +kernel
theorem dX0_settle_32 : decode cX0_settle 32 = .ok (.ireturn, 1) := by decide +kernel
set_option maxRecDepth 20000 in
theorem ggX0_weighJoints_X0_weigh : GoodIn wsX0_weighJoints wsX0_weigh := goodIn_r _ [8, 2, 3, 9, 10, 11, 12, 13, 14, 15, 16, 17, 18, 19, 20, 21, 22, 23, 24, 25, 26, 27, 28, 29, 30, 31, 32, 33, 34, 35, 36, 37, 38, 39, 40] (by decide +kernel) (by decide +kernel)
set_option maxRecDepth 20000 in
theorem gX0_weighJoints_X0_weigh : GoodIn wsX0_weighJoints (wsV RX0 68 RX0 yX0_weigh wsX0_weigh) := goodIn_app (goodIn_of _ (by decide +kernel)) ggX0_weighJoints_X0_weigh
theorem dX0_weighJoints_0 : decode cX0_weighJoints 0 = .ok (.iconst 0, 1) := by decide +kernel
theorem dX0_weighJoints_1 : decode cX0_weighJoints 1 = .ok (.istore_n 1, 1) := by decide +kernel
theorem dX0_weighJoints_2 : decode cX0_weighJoints 2 = .ok (.iload_n 1, 1) := by decide +kernel
theorem dX0_weighJoints_3 : decode cX0_weighJoints 3 = .ok (.bipush 10, 2) := by decide +kernel
theorem dX0_weighJoints_5 : decode cX0_weighJoints 5 = .ok (.if_icmp .ge 36, 3) := by decide +kernel
theorem dX0_weighJoints_8 : decode cX0_weighJoints 8 = .ok (.aload_n 0, 1) := by decide +kernel
theorem dX0_weighJoints_9 : decode cX0_weighJoints 9 = .ok (.getfield 36, 3) := by decide +kernel
theorem dX0_weighJoints_12 : decode cX0_weighJoints 12 = .ok (.iload_n 1, 1) := by decide +kernel
theorem dX0_weighJoints_13 : decode cX0_weighJoints 13 = .ok (.aload_n 0, 1) := by decide +kernel
theorem dX0_weighJoints_14 : decode cX0_weighJoints 14 = .ok (.getfield 12, 3) := by decide +kernel
theorem dX0_weighJoints_17 : decode cX0_weighJoints 17 = .ok (.getfield 64, 3) := by decide +kernel
theorem dX0_weighJoints_20 : decode cX0_weighJoints 20 = .ok (.iload_n 1, 1) := by decide +kernel
theorem dX0_weighJoints_21 : decode cX0_weighJoints 21 = .ok (.iaload, 1) := by decide +kernel
theorem dX0_weighJoints_22 : decode cX0_weighJoints 22 = .ok (.ifCond .ne 7, 3) := by decide +kernel
theorem dX0_weighJoints_25 : decode cX0_weighJoints 25 = .ok (.dconst 0, 1) := by decide +kernel
theorem dX0_weighJoints_26 : decode cX0_weighJoints 26 = .ok (.goto 8, 3) := by decide +kernel
theorem dX0_weighJoints_29 : decode cX0_weighJoints 29 = .ok (.aload_n 0, 1) := by decide +kernel
theorem dX0_weighJoints_30 : decode cX0_weighJoints 30 = .ok (.iload_n 1, 1) := by decide +kernel
theorem dX0_weighJoints_31 : decode cX0_weighJoints 31 = .ok (.invokevirtual 68, 3) := by decide +kernel
theorem dX0_weighJoints_34 : decode cX0_weighJoints 34 = .ok (.dastore, 1) := by decide +kernel
theorem dX0_weighJoints_35 : decode cX0_weighJoints 35 = .ok (.iinc 1 1, 3) := by decide +kernel
theorem dX0_weighJoints_38 : decode cX0_weighJoints 38 = .ok (.goto (-36), 3) := by decide +kernel
theorem dX0_weighJoints_41 : decode cX0_weighJoints 41 = .ok (.return_, 1) := by decide +kernel
set_option maxRecDepth 20000 in
theorem ggX0_weigh_X4_isOpenAt : GoodIn wsX0_weigh wsX4_isOpenAt := goodIn_r _ [13, 14, 15, 29, 30, 31, 32, 33, 34] (by decide +kernel) (by decide +kernel)
set_option maxRecDepth 20000 in
theorem gX0_weigh_X4_isOpenAt : GoodIn wsX0_weigh (wsV RX0 83 RX4 yX4_isOpenAt wsX4_isOpenAt) := goodIn_app (goodIn_of _ (by decide +kernel)) ggX0_weigh_X4_isOpenAt
theorem dX0_weigh_0 : decode cX0_weigh 0 = .ok (.dconst 0, 1) := by decide +kernel
theorem dX0_weigh_1 : decode cX0_weigh 1 = .ok (.dstore_n 2, 1) := by decide +kernel
theorem dX0_weigh_2 : decode cX0_weigh 2 = .ok (.iconst 0, 1) := by decide +kernel
theorem dX0_weigh_3 : decode cX0_weigh 3 = .ok (.istore 4, 2) := by decide +kernel
theorem dX0_weigh_5 : decode cX0_weigh 5 = .ok (.iload 4, 2) := by decide +kernel
theorem dX0_weigh_7 : decode cX0_weigh 7 = .ok (.aload_n 0, 1) := by decide +kernel
theorem dX0_weigh_8 : decode cX0_weigh 8 = .ok (.getfield 12, 3) := by decide +kernel
theorem dX0_weigh_11 : decode cX0_weigh 11 = .ok (.getfield 64, 3) := by decide +kernel
theorem dX0_weigh_14 : decode cX0_weigh 14 = .ok (.iload_n 1, 1) := by decide +kernel
theorem dX0_weigh_15 : decode cX0_weigh 15 = .ok (.iaload, 1) := by decide +kernel
theorem dX0_weigh_16 : decode cX0_weigh 16 = .ok (.if_icmp .ge 32, 3) := by decide +kernel
theorem dX0_weigh_19 : decode cX0_weigh 19 = .ok (.dload_n 2, 1) := by decide +kernel
theorem dX0_weigh_20 : decode cX0_weigh 20 = .ok (.aload_n 0, 1) := by decide +kernel
theorem dX0_weigh_21 : decode cX0_weigh 21 = .ok (.getfield 12, 3) := by decide +kernel
theorem dX0_weigh_24 : decode cX0_weigh 24 = .ok (.getfield 72, 3) := by decide +kernel
theorem dX0_weigh_27 : decode cX0_weigh 27 = .ok (.aload_n 0, 1) := by decide +kernel
theorem dX0_weigh_28 : decode cX0_weigh 28 = .ok (.getfield 12, 3) := by decide +kernel
theorem dX0_weigh_31 : decode cX0_weigh 31 = .ok (.getfield 75, 3) := by decide +kernel
theorem dX0_weigh_34 : decode cX0_weigh 34 = .ok (.iload_n 1, 1) := by decide +kernel
theorem dX0_weigh_35 : decode cX0_weigh 35 = .ok (.aaload, 1) := by decide +kernel
theorem dX0_weigh_36 : decode cX0_weigh 36 = .ok (.iload 4, 2) := by decide +kernel
theorem dX0_weigh_38 : decode cX0_weigh 38 = .ok (.iaload, 1) := by decide +kernel
theorem dX0_weigh_39 : decode cX0_weigh 39 = .ok (.daload, 1) := by decide +kernel
theorem dX0_weigh_40 : decode cX0_weigh 40 = .ok (.dadd, 1) := by decide +kernel
theorem dX0_weigh_41 : decode cX0_weigh 41 = .ok (.dstore_n 2, 1) := by decide +kernel
theorem dX0_weigh_42 : decode cX0_weigh 42 = .ok (.iinc 4 1, 3) := by decide +kernel
theorem dX0_weigh_45 : decode cX0_weigh 45 = .ok (.goto (-40), 3) := by decide +kernel
theorem dX0_weigh_48 : decode cX0_weigh 48 = .ok (.iconst 0, 1) := by decide +kernel
theorem dX0_weigh_49 : decode cX0_weigh 49 = .ok (.istore 4, 2) := by decide +kernel
theorem dX0_weigh_51 : decode cX0_weigh 51 = .ok (.iload 4, 2) := by decide +kernel
theorem dX0_weigh_53 : decode cX0_weigh 53 = .ok (.aload_n 0, 1) := by decide +kernel
theorem dX0_weigh_54 : decode cX0_weigh 54 = .ok (.getfield 21, 3) := by decide +kernel
theorem dX0_weigh_57 : decode cX0_weigh 57 = .ok (.getfield 79, 3) := by decide +kernel
theorem dX0_weigh_60 : decode cX0_weigh 60 = .ok (.if_icmp .ge 39, 3) := by decide +kernel
theorem dX0_weigh_63 : decode cX0_weigh 63 = .ok (.aload_n 0, 1) := by decide +kernel
theorem dX0_weigh_64 : decode cX0_weigh 64 = .ok (.getfield 21, 3) := by decide +kernel
theorem dX0_weigh_67 : decode cX0_weigh 67 = .ok (.iload 4, 2) := by decide +kernel
theorem dX0_weigh_69 : decode cX0_weigh 69 = .ok (.iload_n 1, 1) := by decide +kernel
theorem dX0_weigh_70 : decode cX0_weigh 70 = .ok (.invokevirtual 83, 3) := by decide +kernel
theorem dX0_weigh_73 : decode cX0_weigh 73 = .ok (.ifCond .eq 20, 3) := by decide +kernel
theorem dX0_weigh_76 : decode cX0_weigh 76 = .ok (.dload_n 2, 1) := by decide +kernel
theorem dX0_weigh_77 : decode cX0_weigh 77 = .ok (.aload_n 0, 1) := by decide +kernel
theorem dX0_weigh_78 : decode cX0_weigh 78 = .ok (.getfield 21, 3) := by decide +kernel
theorem dX0_weigh_81 : decode cX0_weigh 81 = .ok (.getfield 87, 3) := by decide +kernel
theorem dX0_weigh_84 : decode cX0_weigh 84 = .ok (.iload 4, 2) := by decide +kernel
theorem dX0_weigh_86 : decode cX0_weigh 86 = .ok (.daload, 1) := by decide +kernel
theorem dX0_weigh_87 : decode cX0_weigh 87 = .ok (.ldc2_w 90, 3) := by decide +kernel
theorem dX0_weigh_90 : decode cX0_weigh 90 = .ok (.dmul, 1) := by decide +kernel
theorem dX0_weigh_91 : decode cX0_weigh 91 = .ok (.dadd, 1) := by decide +kernel
theorem dX0_weigh_92 : decode cX0_weigh 92 = .ok (.dstore_n 2, 1) := by decide +kernel
theorem dX0_weigh_93 : decode cX0_weigh 93 = .ok (.iinc 4 1, 3) := by decide +kernel
theorem dX0_weigh_96 : decode cX0_weigh 96 = .ok (.goto (-45), 3) := by decide +kernel
theorem dX0_weigh_99 : decode cX0_weigh 99 = .ok (.dload_n 2, 1) := by decide +kernel
theorem dX0_weigh_100 : decode cX0_weigh 100 = .ok (.dreturn, 1) := by decide +kernel
set_option maxRecDepth 20000 in
theorem ggX0_changeOfRound_X2_hold : GoodIn wsX0_changeOfRound wsX2_hold := goodIn_r _ [9, 10, 11, 12, 43, 44, 45] (by decide +kernel) (by decide +kernel)
set_option maxRecDepth 20000 in
theorem gX0_changeOfRound_X2_hold : GoodIn wsX0_changeOfRound (wsV RX0 92 RX2 yX2_hold wsX2_hold) := goodIn_app (goodIn_of _ (by decide +kernel)) ggX0_changeOfRound_X2_hold
set_option maxRecDepth 20000 in
theorem ggX0_changeOfRound_X0_pull : GoodIn wsX0_changeOfRound wsX0_pull := goodIn_r _ [17, 18, 19, 20, 21, 1, 22, 23, 24, 25, 26, 27, 28, 38, 39, 40, 41, 42, 46, 47, 48, 49, 50, 51, 52, 53] (by decide +kernel) (by decide +kernel)
set_option maxRecDepth 20000 in
theorem gX0_changeOfRound_X0_pull : GoodIn wsX0_changeOfRound (wsV RX0 95 RX0 yX0_pull wsX0_pull) := goodIn_app (goodIn_of _ (by decide +kernel)) ggX0_changeOfRound_X0_pull
set_option maxRecDepth 20000 in
theorem ggX0_changeOfRound_X6_magnitude : GoodIn wsX0_changeOfRound wsX6_magnitude := goodIn_r _ [31] (by decide +kernel) (by decide +kernel)
set_option maxRecDepth 20000 in
theorem gX0_changeOfRound_X6_magnitude_n98 : GoodIn wsX0_changeOfRound (wsX6_magnitude) := ggX0_changeOfRound_X6_magnitude
set_option maxRecDepth 20000 in
theorem ggX0_changeOfRound_X0_flowsTo : GoodIn wsX0_changeOfRound wsX0_flowsTo := goodIn_r _ [35, 18, 19, 20, 21, 1, 22, 23, 24, 25, 26, 27, 28, 38, 39, 40, 41, 42, 46, 47, 48, 49, 50, 51, 52, 53] (by decide +kernel) (by decide +kernel)
set_option maxRecDepth 20000 in
theorem gX0_changeOfRound_X0_flowsTo : GoodIn wsX0_changeOfRound (wsV RX0 102 RX0 yX0_flowsTo wsX0_flowsTo) := goodIn_app (goodIn_of _ (by decide +kernel)) ggX0_changeOfRound_X0_flowsTo
set_option maxRecDepth 20000 in
theorem ggX0_changeOfRound_X6_notBelowZero : GoodIn wsX0_changeOfRound wsX6_notBelowZero := goodIn_r _ [37] (by decide +kernel) (by decide +kernel)
set_option maxRecDepth 20000 in
theorem gX0_changeOfRound_X6_notBelowZero_n105 : GoodIn wsX0_changeOfRound (wsX6_notBelowZero) := ggX0_changeOfRound_X6_notBelowZero
theorem dX0_changeOfRound_0 : decode cX0_changeOfRound 0 = .ok (.dconst 0, 1) := by decide +kernel
theorem dX0_changeOfRound_1 : decode cX0_changeOfRound 1 = .ok (.dstore_n 1, 1) := by decide +kernel
theorem dX0_changeOfRound_2 : decode cX0_changeOfRound 2 = .ok (.aload_n 0, 1) := by decide +kernel
theorem dX0_changeOfRound_3 : decode cX0_changeOfRound 3 = .ok (.getfield 32, 3) := by decide +kernel
theorem dX0_changeOfRound_6 : decode cX0_changeOfRound 6 = .ok (.iconst 0, 1) := by decide +kernel
theorem dX0_changeOfRound_7 : decode cX0_changeOfRound 7 = .ok (.aload_n 0, 1) := by decide +kernel
theorem dX0_changeOfRound_8 : decode cX0_changeOfRound 8 = .ok (.getfield 28, 3) := by decide +kernel
theorem dX0_changeOfRound_11 : decode cX0_changeOfRound 11 = .ok (.invokevirtual 92, 3) := by decide +kernel
theorem dX0_changeOfRound_14 : decode cX0_changeOfRound 14 = .ok (.dastore, 1) := by decide +kernel
theorem dX0_changeOfRound_15 : decode cX0_changeOfRound 15 = .ok (.iconst 1, 1) := by decide +kernel
theorem dX0_changeOfRound_16 : decode cX0_changeOfRound 16 = .ok (.istore_n 3, 1) := by decide +kernel
theorem dX0_changeOfRound_17 : decode cX0_changeOfRound 17 = .ok (.iload_n 3, 1) := by decide +kernel
theorem dX0_changeOfRound_18 : decode cX0_changeOfRound 18 = .ok (.bipush 10, 2) := by decide +kernel
theorem dX0_changeOfRound_20 : decode cX0_changeOfRound 20 = .ok (.if_icmp .ge 74, 3) := by decide +kernel
theorem dX0_changeOfRound_23 : decode cX0_changeOfRound 23 = .ok (.aload_n 0, 1) := by decide +kernel
theorem dX0_changeOfRound_24 : decode cX0_changeOfRound 24 = .ok (.getfield 36, 3) := by decide +kernel
theorem dX0_changeOfRound_27 : decode cX0_changeOfRound 27 = .ok (.iload_n 3, 1) := by decide +kernel
theorem dX0_changeOfRound_28 : decode cX0_changeOfRound 28 = .ok (.daload, 1) := by decide +kernel
theorem dX0_changeOfRound_29 : decode cX0_changeOfRound 29 = .ok (.dconst 0, 1) := by decide +kernel
theorem dX0_changeOfRound_30 : decode cX0_changeOfRound 30 = .ok (.dcmp .l, 1) := by decide +kernel
theorem dX0_changeOfRound_31 : decode cX0_changeOfRound 31 = .ok (.ifCond .le 57, 3) := by decide +kernel
theorem dX0_changeOfRound_34 : decode cX0_changeOfRound 34 = .ok (.aload_n 0, 1) := by decide +kernel
theorem dX0_changeOfRound_35 : decode cX0_changeOfRound 35 = .ok (.getfield 32, 3) := by decide +kernel
theorem dX0_changeOfRound_38 : decode cX0_changeOfRound 38 = .ok (.iload_n 3, 1) := by decide +kernel
theorem dX0_changeOfRound_39 : decode cX0_changeOfRound 39 = .ok (.daload, 1) := by decide +kernel
theorem dX0_changeOfRound_40 : decode cX0_changeOfRound 40 = .ok (.dstore 4, 2) := by decide +kernel
theorem dX0_changeOfRound_42 : decode cX0_changeOfRound 42 = .ok (.aload_n 0, 1) := by decide +kernel
theorem dX0_changeOfRound_43 : decode cX0_changeOfRound 43 = .ok (.getfield 32, 3) := by decide +kernel
theorem dX0_changeOfRound_46 : decode cX0_changeOfRound 46 = .ok (.iload_n 3, 1) := by decide +kernel
theorem dX0_changeOfRound_47 : decode cX0_changeOfRound 47 = .ok (.aload_n 0, 1) := by decide +kernel
theorem dX0_changeOfRound_48 : decode cX0_changeOfRound 48 = .ok (.iload_n 3, 1) := by decide +kernel
theorem dX0_changeOfRound_49 : decode cX0_changeOfRound 49 = .ok (.invokevirtual 95, 3) := by decide +kernel
theorem dX0_changeOfRound_52 : decode cX0_changeOfRound 52 = .ok (.aload_n 0, 1) := by decide +kernel
theorem dX0_changeOfRound_53 : decode cX0_changeOfRound 53 = .ok (.getfield 36, 3) := by decide +kernel
theorem dX0_changeOfRound_56 : decode cX0_changeOfRound 56 = .ok (.iload_n 3, 1) := by decide +kernel
theorem dX0_changeOfRound_57 : decode cX0_changeOfRound 57 = .ok (.daload, 1) := by decide +kernel
theorem dX0_changeOfRound_58 : decode cX0_changeOfRound 58 = .ok (.ddiv, 1) := by decide +kernel
theorem dX0_changeOfRound_59 : decode cX0_changeOfRound 59 = .ok (.dastore, 1) := by decide +kernel
theorem dX0_changeOfRound_60 : decode cX0_changeOfRound 60 = .ok (.aload_n 0, 1) := by decide +kernel
theorem dX0_changeOfRound_61 : decode cX0_changeOfRound 61 = .ok (.getfield 32, 3) := by decide +kernel
theorem dX0_changeOfRound_64 : decode cX0_changeOfRound 64 = .ok (.iload_n 3, 1) := by decide +kernel
theorem dX0_changeOfRound_65 : decode cX0_changeOfRound 65 = .ok (.daload, 1) := by decide +kernel
theorem dX0_changeOfRound_66 : decode cX0_changeOfRound 66 = .ok (.dload 4, 2) := by decide +kernel
theorem dX0_changeOfRound_68 : decode cX0_changeOfRound 68 = .ok (.dsub, 1) := by decide +kernel
theorem dX0_changeOfRound_69 : decode cX0_changeOfRound 69 = .ok (.invokestatic 98, 3) := by decide +kernel
theorem dX0_changeOfRound_72 : decode cX0_changeOfRound 72 = .ok (.dstore 6, 2) := by decide +kernel
theorem dX0_changeOfRound_74 : decode cX0_changeOfRound 74 = .ok (.dload 6, 2) := by decide +kernel
theorem dX0_changeOfRound_76 : decode cX0_changeOfRound 76 = .ok (.dload_n 1, 1) := by decide +kernel
theorem dX0_changeOfRound_77 : decode cX0_changeOfRound 77 = .ok (.dcmp .l, 1) := by decide +kernel
theorem dX0_changeOfRound_78 : decode cX0_changeOfRound 78 = .ok (.ifCond .le 8, 3) := by decide +kernel
theorem dX0_changeOfRound_81 : decode cX0_changeOfRound 81 = .ok (.dload 6, 2) := by decide +kernel
theorem dX0_changeOfRound_83 : decode cX0_changeOfRound 83 = .ok (.goto 4, 3) := by decide +kernel
theorem dX0_changeOfRound_86 : decode cX0_changeOfRound 86 = .ok (.dload_n 1, 1) := by decide +kernel
theorem dX0_changeOfRound_87 : decode cX0_changeOfRound 87 = .ok (.dstore_n 1, 1) := by decide +kernel
theorem dX0_changeOfRound_88 : decode cX0_changeOfRound 88 = .ok (.iinc 3 1, 3) := by decide +kernel
theorem dX0_changeOfRound_91 : decode cX0_changeOfRound 91 = .ok (.goto (-74), 3) := by decide +kernel
theorem dX0_changeOfRound_94 : decode cX0_changeOfRound 94 = .ok (.aload_n 0, 1) := by decide +kernel
theorem dX0_changeOfRound_95 : decode cX0_changeOfRound 95 = .ok (.getfield 28, 3) := by decide +kernel
theorem dX0_changeOfRound_98 : decode cX0_changeOfRound 98 = .ok (.aload_n 0, 1) := by decide +kernel
theorem dX0_changeOfRound_99 : decode cX0_changeOfRound 99 = .ok (.iconst 0, 1) := by decide +kernel
theorem dX0_changeOfRound_100 : decode cX0_changeOfRound 100 = .ok (.invokevirtual 102, 3) := by decide +kernel
theorem dX0_changeOfRound_103 : decode cX0_changeOfRound 103 = .ok (.invokestatic 105, 3) := by decide +kernel
theorem dX0_changeOfRound_106 : decode cX0_changeOfRound 106 = .ok (.putfield 43, 3) := by decide +kernel
theorem dX0_changeOfRound_109 : decode cX0_changeOfRound 109 = .ok (.dload_n 1, 1) := by decide +kernel
theorem dX0_changeOfRound_110 : decode cX0_changeOfRound 110 = .ok (.dreturn, 1) := by decide +kernel
set_option maxRecDepth 20000 in
theorem ggX0_pull_X1_otherEnd : GoodIn wsX0_pull wsX1_otherEnd := goodIn_r _ [10, 11, 12, 18, 19, 20, 21, 22, 23, 24, 25] (by decide +kernel) (by decide +kernel)
set_option maxRecDepth 20000 in
theorem gX0_pull_X1_otherEnd : GoodIn wsX0_pull (wsV RX0 108 RX1 yX1_otherEnd wsX1_otherEnd) := goodIn_app (goodIn_of _ (by decide +kernel)) ggX0_pull_X1_otherEnd
theorem dX0_pull_0 : decode cX0_pull 0 = .ok (.dconst 0, 1) := by decide +kernel
theorem dX0_pull_1 : decode cX0_pull 1 = .ok (.dstore_n 2, 1) := by decide +kernel
theorem dX0_pull_2 : decode cX0_pull 2 = .ok (.iconst 0, 1) := by decide +kernel
theorem dX0_pull_3 : decode cX0_pull 3 = .ok (.istore 4, 2) := by decide +kernel
theorem dX0_pull_5 : decode cX0_pull 5 = .ok (.iload 4, 2) := by decide +kernel
theorem dX0_pull_7 : decode cX0_pull 7 = .ok (.aload_n 0, 1) := by decide +kernel
theorem dX0_pull_8 : decode cX0_pull 8 = .ok (.getfield 12, 3) := by decide +kernel
theorem dX0_pull_11 : decode cX0_pull 11 = .ok (.getfield 64, 3) := by decide +kernel
theorem dX0_pull_14 : decode cX0_pull 14 = .ok (.iload_n 1, 1) := by decide +kernel
theorem dX0_pull_15 : decode cX0_pull 15 = .ok (.iaload, 1) := by decide +kernel
theorem dX0_pull_16 : decode cX0_pull 16 = .ok (.if_icmp .ge 52, 3) := by decide +kernel
theorem dX0_pull_19 : decode cX0_pull 19 = .ok (.aload_n 0, 1) := by decide +kernel
theorem dX0_pull_20 : decode cX0_pull 20 = .ok (.getfield 12, 3) := by decide +kernel
theorem dX0_pull_23 : decode cX0_pull 23 = .ok (.getfield 75, 3) := by decide +kernel
theorem dX0_pull_26 : decode cX0_pull 26 = .ok (.iload_n 1, 1) := by decide +kernel
theorem dX0_pull_27 : decode cX0_pull 27 = .ok (.aaload, 1) := by decide +kernel
theorem dX0_pull_28 : decode cX0_pull 28 = .ok (.iload 4, 2) := by decide +kernel
theorem dX0_pull_30 : decode cX0_pull 30 = .ok (.iaload, 1) := by decide +kernel
theorem dX0_pull_31 : decode cX0_pull 31 = .ok (.istore 5, 2) := by decide +kernel
theorem dX0_pull_33 : decode cX0_pull 33 = .ok (.dload_n 2, 1) := by decide +kernel
theorem dX0_pull_34 : decode cX0_pull 34 = .ok (.aload_n 0, 1) := by decide +kernel
theorem dX0_pull_35 : decode cX0_pull 35 = .ok (.getfield 12, 3) := by decide +kernel
theorem dX0_pull_38 : decode cX0_pull 38 = .ok (.getfield 72, 3) := by decide +kernel
theorem dX0_pull_41 : decode cX0_pull 41 = .ok (.iload 5, 2) := by decide +kernel
theorem dX0_pull_43 : decode cX0_pull 43 = .ok (.daload, 1) := by decide +kernel
theorem dX0_pull_44 : decode cX0_pull 44 = .ok (.aload_n 0, 1) := by decide +kernel
theorem dX0_pull_45 : decode cX0_pull 45 = .ok (.getfield 32, 3) := by decide +kernel
theorem dX0_pull_48 : decode cX0_pull 48 = .ok (.aload_n 0, 1) := by decide +kernel
theorem dX0_pull_49 : decode cX0_pull 49 = .ok (.getfield 12, 3) := by decide +kernel
theorem dX0_pull_52 : decode cX0_pull 52 = .ok (.iload 5, 2) := by decide +kernel
theorem dX0_pull_54 : decode cX0_pull 54 = .ok (.iload_n 1, 1) := by decide +kernel
theorem dX0_pull_55 : decode cX0_pull 55 = .ok (.invokevirtual 108, 3) := by decide +kernel
theorem dX0_pull_58 : decode cX0_pull 58 = .ok (.daload, 1) := by decide +kernel
theorem dX0_pull_59 : decode cX0_pull 59 = .ok (.dmul, 1) := by decide +kernel
theorem dX0_pull_60 : decode cX0_pull 60 = .ok (.dadd, 1) := by decide +kernel
theorem dX0_pull_61 : decode cX0_pull 61 = .ok (.dstore_n 2, 1) := by decide +kernel
theorem dX0_pull_62 : decode cX0_pull 62 = .ok (.iinc 4 1, 3) := by decide +kernel
theorem dX0_pull_65 : decode cX0_pull 65 = .ok (.goto (-60), 3) := by decide +kernel
theorem dX0_pull_68 : decode cX0_pull 68 = .ok (.dload_n 2, 1) := by decide +kernel
theorem dX0_pull_69 : decode cX0_pull 69 = .ok (.dreturn, 1) := by decide +kernel
set_option maxRecDepth 20000 in
theorem ggX0_flowsTo_X1_otherEnd : GoodIn wsX0_flowsTo wsX1_otherEnd := goodIn_r _ [10, 11, 12, 18, 19, 20, 21, 22, 23, 24, 25] (by decide +kernel) (by decide +kernel)
set_option maxRecDepth 20000 in
theorem gX0_flowsTo_X1_otherEnd : GoodIn wsX0_flowsTo (wsV RX0 108 RX1 yX1_otherEnd wsX1_otherEnd) := goodIn_app (goodIn_of _ (by decide +kernel)) ggX0_flowsTo_X1_otherEnd
theorem dX0_flowsTo_0 : decode cX0_flowsTo 0 = .ok (.dconst 0, 1) := by decide +kernel
theorem dX0_flowsTo_1 : decode cX0_flowsTo 1 = .ok (.dstore_n 2, 1) := by decide +kernel
theorem dX0_flowsTo_2 : decode cX0_flowsTo 2 = .ok (.iconst 0, 1) := by decide +kernel
theorem dX0_flowsTo_3 : decode cX0_flowsTo 3 = .ok (.istore 4, 2) := by decide +kernel
theorem dX0_flowsTo_5 : decode cX0_flowsTo 5 = .ok (.iload 4, 2) := by decide +kernel
theorem dX0_flowsTo_7 : decode cX0_flowsTo 7 = .ok (.aload_n 0, 1) := by decide +kernel
theorem dX0_flowsTo_8 : decode cX0_flowsTo 8 = .ok (.getfield 12, 3) := by decide +kernel
theorem dX0_flowsTo_11 : decode cX0_flowsTo 11 = .ok (.getfield 64, 3) := by decide +kernel
theorem dX0_flowsTo_14 : decode cX0_flowsTo 14 = .ok (.iload_n 1, 1) := by decide +kernel
theorem dX0_flowsTo_15 : decode cX0_flowsTo 15 = .ok (.iaload, 1) := by decide +kernel
theorem dX0_flowsTo_16 : decode cX0_flowsTo 16 = .ok (.if_icmp .ge 59, 3) := by decide +kernel
theorem dX0_flowsTo_19 : decode cX0_flowsTo 19 = .ok (.aload_n 0, 1) := by decide +kernel
theorem dX0_flowsTo_20 : decode cX0_flowsTo 20 = .ok (.getfield 12, 3) := by decide +kernel
theorem dX0_flowsTo_23 : decode cX0_flowsTo 23 = .ok (.getfield 75, 3) := by decide +kernel
theorem dX0_flowsTo_26 : decode cX0_flowsTo 26 = .ok (.iload_n 1, 1) := by decide +kernel
theorem dX0_flowsTo_27 : decode cX0_flowsTo 27 = .ok (.aaload, 1) := by decide +kernel
theorem dX0_flowsTo_28 : decode cX0_flowsTo 28 = .ok (.iload 4, 2) := by decide +kernel
theorem dX0_flowsTo_30 : decode cX0_flowsTo 30 = .ok (.iaload, 1) := by decide +kernel
theorem dX0_flowsTo_31 : decode cX0_flowsTo 31 = .ok (.istore 5, 2) := by decide +kernel
theorem dX0_flowsTo_33 : decode cX0_flowsTo 33 = .ok (.dload_n 2, 1) := by decide +kernel
theorem dX0_flowsTo_34 : decode cX0_flowsTo 34 = .ok (.aload_n 0, 1) := by decide +kernel
theorem dX0_flowsTo_35 : decode cX0_flowsTo 35 = .ok (.getfield 12, 3) := by decide +kernel
theorem dX0_flowsTo_38 : decode cX0_flowsTo 38 = .ok (.getfield 72, 3) := by decide +kernel
theorem dX0_flowsTo_41 : decode cX0_flowsTo 41 = .ok (.iload 5, 2) := by decide +kernel
theorem dX0_flowsTo_43 : decode cX0_flowsTo 43 = .ok (.daload, 1) := by decide +kernel
theorem dX0_flowsTo_44 : decode cX0_flowsTo 44 = .ok (.aload_n 0, 1) := by decide +kernel
theorem dX0_flowsTo_45 : decode cX0_flowsTo 45 = .ok (.getfield 32, 3) := by decide +kernel
theorem dX0_flowsTo_48 : decode cX0_flowsTo 48 = .ok (.aload_n 0, 1) := by decide +kernel
theorem dX0_flowsTo_49 : decode cX0_flowsTo 49 = .ok (.getfield 12, 3) := by decide +kernel
theorem dX0_flowsTo_52 : decode cX0_flowsTo 52 = .ok (.iload 5, 2) := by decide +kernel
theorem dX0_flowsTo_54 : decode cX0_flowsTo 54 = .ok (.iload_n 1, 1) := by decide +kernel
theorem dX0_flowsTo_55 : decode cX0_flowsTo 55 = .ok (.invokevirtual 108, 3) := by decide +kernel
theorem dX0_flowsTo_58 : decode cX0_flowsTo 58 = .ok (.daload, 1) := by decide +kernel
theorem dX0_flowsTo_59 : decode cX0_flowsTo 59 = .ok (.aload_n 0, 1) := by decide +kernel
theorem dX0_flowsTo_60 : decode cX0_flowsTo 60 = .ok (.getfield 32, 3) := by decide +kernel
theorem dX0_flowsTo_63 : decode cX0_flowsTo 63 = .ok (.iload_n 1, 1) := by decide +kernel
theorem dX0_flowsTo_64 : decode cX0_flowsTo 64 = .ok (.daload, 1) := by decide +kernel
theorem dX0_flowsTo_65 : decode cX0_flowsTo 65 = .ok (.dsub, 1) := by decide +kernel
theorem dX0_flowsTo_66 : decode cX0_flowsTo 66 = .ok (.dmul, 1) := by decide +kernel
theorem dX0_flowsTo_67 : decode cX0_flowsTo 67 = .ok (.dadd, 1) := by decide +kernel
theorem dX0_flowsTo_68 : decode cX0_flowsTo 68 = .ok (.dstore_n 2, 1) := by decide +kernel
theorem dX0_flowsTo_69 : decode cX0_flowsTo 69 = .ok (.iinc 4 1, 3) := by decide +kernel
theorem dX0_flowsTo_72 : decode cX0_flowsTo 72 = .ok (.goto (-67), 3) := by decide +kernel
theorem dX0_flowsTo_75 : decode cX0_flowsTo 75 = .ok (.dload_n 2, 1) := by decide +kernel
theorem dX0_flowsTo_76 : decode cX0_flowsTo 76 = .ok (.dreturn, 1) := by decide +kernel
set_option maxRecDepth 20000 in
theorem ggX0_closeGates_X0_draw : GoodIn wsX0_closeGates wsX0_draw := goodIn_r _ [12, 1, 4, 5, 13, 14, 15, 16, 17, 18, 19, 20, 21, 22, 23, 24, 25, 26, 27, 28, 29] (by decide +kernel) (by decide +kernel)
set_option maxRecDepth 20000 in
theorem gX0_closeGates_X0_draw : GoodIn wsX0_closeGates (wsV RX0 112 RX0 yX0_draw wsX0_draw) := goodIn_app (goodIn_of _ (by decide +kernel)) ggX0_closeGates_X0_draw
theorem dX0_closeGates_0 : decode cX0_closeGates 0 = .ok (.iconst 0, 1) := by decide +kernel
theorem dX0_closeGates_1 : decode cX0_closeGates 1 = .ok (.istore_n 1, 1) := by decide +kernel
theorem dX0_closeGates_2 : decode cX0_closeGates 2 = .ok (.iconst 0, 1) := by decide +kernel
theorem dX0_closeGates_3 : decode cX0_closeGates 3 = .ok (.istore_n 2, 1) := by decide +kernel
theorem dX0_closeGates_4 : decode cX0_closeGates 4 = .ok (.iload_n 2, 1) := by decide +kernel
theorem dX0_closeGates_5 : decode cX0_closeGates 5 = .ok (.aload_n 0, 1) := by decide +kernel
theorem dX0_closeGates_6 : decode cX0_closeGates 6 = .ok (.getfield 21, 3) := by decide +kernel
theorem dX0_closeGates_9 : decode cX0_closeGates 9 = .ok (.getfield 79, 3) := by decide +kernel
theorem dX0_closeGates_12 : decode cX0_closeGates 12 = .ok (.if_icmp .ge 93, 3) := by decide +kernel
theorem dX0_closeGates_15 : decode cX0_closeGates 15 = .ok (.aload_n 0, 1) := by decide +kernel
theorem dX0_closeGates_16 : decode cX0_closeGates 16 = .ok (.iload_n 2, 1) := by decide +kernel
theorem dX0_closeGates_17 : decode cX0_closeGates 17 = .ok (.invokevirtual 112, 3) := by decide +kernel
theorem dX0_closeGates_20 : decode cX0_closeGates 20 = .ok (.dstore_n 3, 1) := by decide +kernel
theorem dX0_closeGates_21 : decode cX0_closeGates 21 = .ok (.aload_n 0, 1) := by decide +kernel
theorem dX0_closeGates_22 : decode cX0_closeGates 22 = .ok (.getfield 21, 3) := by decide +kernel
theorem dX0_closeGates_25 : decode cX0_closeGates 25 = .ok (.getfield 115, 3) := by decide +kernel
theorem dX0_closeGates_28 : decode cX0_closeGates 28 = .ok (.iload_n 2, 1) := by decide +kernel
theorem dX0_closeGates_29 : decode cX0_closeGates 29 = .ok (.daload, 1) := by decide +kernel
theorem dX0_closeGates_30 : decode cX0_closeGates 30 = .ok (.dstore 5, 2) := by decide +kernel
theorem dX0_closeGates_32 : decode cX0_closeGates 32 = .ok (.aload_n 0, 1) := by decide +kernel
theorem dX0_closeGates_33 : decode cX0_closeGates 33 = .ok (.getfield 21, 3) := by decide +kernel
theorem dX0_closeGates_36 : decode cX0_closeGates 36 = .ok (.getfield 118, 3) := by decide +kernel
theorem dX0_closeGates_39 : decode cX0_closeGates 39 = .ok (.iload_n 2, 1) := by decide +kernel
theorem dX0_closeGates_40 : decode cX0_closeGates 40 = .ok (.baload, 1) := by decide +kernel
theorem dX0_closeGates_41 : decode cX0_closeGates 41 = .ok (.ifCond .eq 58, 3) := by decide +kernel
theorem dX0_closeGates_44 : decode cX0_closeGates 44 = .ok (.dload_n 3, 1) := by decide +kernel
theorem dX0_closeGates_45 : decode cX0_closeGates 45 = .ok (.dload 5, 2) := by decide +kernel
theorem dX0_closeGates_47 : decode cX0_closeGates 47 = .ok (.dcmp .l, 1) := by decide +kernel
theorem dX0_closeGates_48 : decode cX0_closeGates 48 = .ok (.ifCond .le 51, 3) := by decide +kernel
theorem dX0_closeGates_51 : decode cX0_closeGates 51 = .ok (.aload_n 0, 1) := by decide +kernel
theorem dX0_closeGates_52 : decode cX0_closeGates 52 = .ok (.getfield 21, 3) := by decide +kernel
theorem dX0_closeGates_55 : decode cX0_closeGates 55 = .ok (.getfield 87, 3) := by decide +kernel
theorem dX0_closeGates_58 : decode cX0_closeGates 58 = .ok (.iload_n 2, 1) := by decide +kernel
theorem dX0_closeGates_59 : decode cX0_closeGates 59 = .ok (.aload_n 0, 1) := by decide +kernel
theorem dX0_closeGates_60 : decode cX0_closeGates 60 = .ok (.getfield 21, 3) := by decide +kernel
theorem dX0_closeGates_63 : decode cX0_closeGates 63 = .ok (.getfield 87, 3) := by decide +kernel
theorem dX0_closeGates_66 : decode cX0_closeGates 66 = .ok (.iload_n 2, 1) := by decide +kernel
theorem dX0_closeGates_67 : decode cX0_closeGates 67 = .ok (.daload, 1) := by decide +kernel
theorem dX0_closeGates_68 : decode cX0_closeGates 68 = .ok (.dload 5, 2) := by decide +kernel
theorem dX0_closeGates_70 : decode cX0_closeGates 70 = .ok (.dmul, 1) := by decide +kernel
theorem dX0_closeGates_71 : decode cX0_closeGates 71 = .ok (.dload_n 3, 1) := by decide +kernel
theorem dX0_closeGates_72 : decode cX0_closeGates 72 = .ok (.ddiv, 1) := by decide +kernel
theorem dX0_closeGates_73 : decode cX0_closeGates 73 = .ok (.dastore, 1) := by decide +kernel
theorem dX0_closeGates_74 : decode cX0_closeGates 74 = .ok (.iload_n 1, 1) := by decide +kernel
theorem dX0_closeGates_75 : decode cX0_closeGates 75 = .ok (.ifCond .ne 18, 3) := by decide +kernel
theorem dX0_closeGates_78 : decode cX0_closeGates 78 = .ok (.dload_n 3, 1) := by decide +kernel
theorem dX0_closeGates_79 : decode cX0_closeGates 79 = .ok (.ldc2_w 122, 3) := by decide +kernel
theorem dX0_closeGates_82 : decode cX0_closeGates 82 = .ok (.dmul, 1) := by decide +kernel
theorem dX0_closeGates_83 : decode cX0_closeGates 83 = .ok (.dload 5, 2) := by decide +kernel
theorem dX0_closeGates_85 : decode cX0_closeGates 85 = .ok (.ldc2_w 124, 3) := by decide +kernel
theorem dX0_closeGates_88 : decode cX0_closeGates 88 = .ok (.dmul, 1) := by decide +kernel
theorem dX0_closeGates_89 : decode cX0_closeGates 89 = .ok (.dcmp .l, 1) := by decide +kernel
theorem dX0_closeGates_90 : decode cX0_closeGates 90 = .ok (.ifCond .le 7, 3) := by decide +kernel
theorem dX0_closeGates_93 : decode cX0_closeGates 93 = .ok (.iconst 1, 1) := by decide +kernel
theorem dX0_closeGates_94 : decode cX0_closeGates 94 = .ok (.goto 4, 3) := by decide +kernel
theorem dX0_closeGates_97 : decode cX0_closeGates 97 = .ok (.iconst 0, 1) := by decide +kernel
theorem dX0_closeGates_98 : decode cX0_closeGates 98 = .ok (.istore_n 1, 1) := by decide +kernel
theorem dX0_closeGates_99 : decode cX0_closeGates 99 = .ok (.iinc 2 1, 3) := by decide +kernel
theorem dX0_closeGates_102 : decode cX0_closeGates 102 = .ok (.goto (-98), 3) := by decide +kernel
theorem dX0_closeGates_105 : decode cX0_closeGates 105 = .ok (.iload_n 1, 1) := by decide +kernel
theorem dX0_closeGates_106 : decode cX0_closeGates 106 = .ok (.ireturn, 1) := by decide +kernel
set_option maxRecDepth 20000 in
theorem ggX0_draw_X6_notBelowZero : GoodIn wsX0_draw wsX6_notBelowZero := goodIn_r _ [9] (by decide +kernel) (by decide +kernel)
set_option maxRecDepth 20000 in
theorem gX0_draw_X6_notBelowZero_n105 : GoodIn wsX0_draw (wsX6_notBelowZero) := ggX0_draw_X6_notBelowZero
theorem dX0_draw_0 : decode cX0_draw 0 = .ok (.aload_n 0, 1) := by decide +kernel
theorem dX0_draw_1 : decode cX0_draw 1 = .ok (.getfield 21, 3) := by decide +kernel
theorem dX0_draw_4 : decode cX0_draw 4 = .ok (.getfield 118, 3) := by decide +kernel
theorem dX0_draw_7 : decode cX0_draw 7 = .ok (.iload_n 1, 1) := by decide +kernel
theorem dX0_draw_8 : decode cX0_draw 8 = .ok (.baload, 1) := by decide +kernel
theorem dX0_draw_9 : decode cX0_draw 9 = .ok (.ifCond .ne 5, 3) := by decide +kernel
theorem dX0_draw_12 : decode cX0_draw 12 = .ok (.dconst 0, 1) := by decide +kernel
theorem dX0_draw_13 : decode cX0_draw 13 = .ok (.dreturn, 1) := by decide +kernel
theorem dX0_draw_14 : decode cX0_draw 14 = .ok (.aload_n 0, 1) := by decide +kernel
theorem dX0_draw_15 : decode cX0_draw 15 = .ok (.getfield 21, 3) := by decide +kernel
theorem dX0_draw_18 : decode cX0_draw 18 = .ok (.getfield 87, 3) := by decide +kernel
theorem dX0_draw_21 : decode cX0_draw 21 = .ok (.iload_n 1, 1) := by decide +kernel
theorem dX0_draw_22 : decode cX0_draw 22 = .ok (.daload, 1) := by decide +kernel
theorem dX0_draw_23 : decode cX0_draw 23 = .ok (.ldc2_w 90, 3) := by decide +kernel
theorem dX0_draw_26 : decode cX0_draw 26 = .ok (.dmul, 1) := by decide +kernel
theorem dX0_draw_27 : decode cX0_draw 27 = .ok (.dconst 0, 1) := by decide +kernel
theorem dX0_draw_28 : decode cX0_draw 28 = .ok (.aload_n 0, 1) := by decide +kernel
theorem dX0_draw_29 : decode cX0_draw 29 = .ok (.getfield 32, 3) := by decide +kernel
theorem dX0_draw_32 : decode cX0_draw 32 = .ok (.aload_n 0, 1) := by decide +kernel
theorem dX0_draw_33 : decode cX0_draw 33 = .ok (.getfield 21, 3) := by decide +kernel
theorem dX0_draw_36 : decode cX0_draw 36 = .ok (.getfield 126, 3) := by decide +kernel
theorem dX0_draw_39 : decode cX0_draw 39 = .ok (.iload_n 1, 1) := by decide +kernel
theorem dX0_draw_40 : decode cX0_draw 40 = .ok (.iaload, 1) := by decide +kernel
theorem dX0_draw_41 : decode cX0_draw 41 = .ok (.daload, 1) := by decide +kernel
theorem dX0_draw_42 : decode cX0_draw 42 = .ok (.dsub, 1) := by decide +kernel
theorem dX0_draw_43 : decode cX0_draw 43 = .ok (.dmul, 1) := by decide +kernel
theorem dX0_draw_44 : decode cX0_draw 44 = .ok (.invokestatic 105, 3) := by decide +kernel
theorem dX0_draw_47 : decode cX0_draw 47 = .ok (.dreturn, 1) := by decide +kernel
set_option maxRecDepth 20000 in
theorem ggX0_residual_X0_flowsTo : GoodIn wsX0_residual wsX0_flowsTo := goodIn_r _ [7, 8, 9, 10, 11, 12, 13, 14, 15, 16, 17, 18, 19, 38, 39, 40, 41, 42, 49, 50, 51, 52, 53, 54, 55, 56] (by decide +kernel) (by decide +kernel)
set_option maxRecDepth 20000 in
theorem gX0_residual_X0_flowsTo : GoodIn wsX0_residual (wsV RX0 102 RX0 yX0_flowsTo wsX0_flowsTo) := goodIn_app (goodIn_of _ (by decide +kernel)) ggX0_residual_X0_flowsTo
set_option maxRecDepth 20000 in
theorem ggX0_residual_X4_isOpenAt : GoodIn wsX0_residual wsX4_isOpenAt := goodIn_r _ [24, 25, 26, 43, 44, 45, 46, 47, 48] (by decide +kernel) (by decide +kernel)
set_option maxRecDepth 20000 in
theorem gX0_residual_X4_isOpenAt : GoodIn wsX0_residual (wsV RX0 83 RX4 yX4_isOpenAt wsX4_isOpenAt) := goodIn_app (goodIn_of _ (by decide +kernel)) ggX0_residual_X4_isOpenAt
set_option maxRecDepth 20000 in
theorem ggX0_residual_X0_draw : GoodIn wsX0_residual wsX0_draw := goodIn_r _ [30, 1, 31, 32, 33, 12, 34, 35, 36, 37, 38, 39, 40, 41, 42, 43, 44, 45, 46, 47, 48] (by decide +kernel) (by decide +kernel)
set_option maxRecDepth 20000 in
theorem gX0_residual_X0_draw : GoodIn wsX0_residual (wsV RX0 112 RX0 yX0_draw wsX0_draw) := goodIn_app (goodIn_of _ (by decide +kernel)) ggX0_residual_X0_draw
theorem dX0_residual_0 : decode cX0_residual 0 = .ok (.iload_n 1, 1) := by decide +kernel
theorem dX0_residual_1 : decode cX0_residual 1 = .ok (.ifCond .ne 5, 3) := by decide +kernel
theorem dX0_residual_4 : decode cX0_residual 4 = .ok (.dconst 0, 1) := by decide +kernel
theorem dX0_residual_5 : decode cX0_residual 5 = .ok (.dreturn, 1) := by decide +kernel
theorem dX0_residual_6 : decode cX0_residual 6 = .ok (.aload_n 0, 1) := by decide +kernel
theorem dX0_residual_7 : decode cX0_residual 7 = .ok (.iload_n 1, 1) := by decide +kernel
theorem dX0_residual_8 : decode cX0_residual 8 = .ok (.invokevirtual 102, 3) := by decide +kernel
theorem dX0_residual_11 : decode cX0_residual 11 = .ok (.dstore_n 2, 1) := by decide +kernel
theorem dX0_residual_12 : decode cX0_residual 12 = .ok (.iconst 0, 1) := by decide +kernel
theorem dX0_residual_13 : decode cX0_residual 13 = .ok (.istore 4, 2) := by decide +kernel
theorem dX0_residual_15 : decode cX0_residual 15 = .ok (.iload 4, 2) := by decide +kernel
theorem dX0_residual_17 : decode cX0_residual 17 = .ok (.aload_n 0, 1) := by decide +kernel
theorem dX0_residual_18 : decode cX0_residual 18 = .ok (.getfield 21, 3) := by decide +kernel
theorem dX0_residual_21 : decode cX0_residual 21 = .ok (.getfield 79, 3) := by decide +kernel
theorem dX0_residual_24 : decode cX0_residual 24 = .ok (.if_icmp .ge 31, 3) := by decide +kernel
theorem dX0_residual_27 : decode cX0_residual 27 = .ok (.aload_n 0, 1) := by decide +kernel
theorem dX0_residual_28 : decode cX0_residual 28 = .ok (.getfield 21, 3) := by decide +kernel
theorem dX0_residual_31 : decode cX0_residual 31 = .ok (.iload 4, 2) := by decide +kernel
theorem dX0_residual_33 : decode cX0_residual 33 = .ok (.iload_n 1, 1) := by decide +kernel
theorem dX0_residual_34 : decode cX0_residual 34 = .ok (.invokevirtual 83, 3) := by decide +kernel
theorem dX0_residual_37 : decode cX0_residual 37 = .ok (.ifCond .eq 12, 3) := by decide +kernel
theorem dX0_residual_40 : decode cX0_residual 40 = .ok (.dload_n 2, 1) := by decide +kernel
theorem dX0_residual_41 : decode cX0_residual 41 = .ok (.aload_n 0, 1) := by decide +kernel
theorem dX0_residual_42 : decode cX0_residual 42 = .ok (.iload 4, 2) := by decide +kernel
theorem dX0_residual_44 : decode cX0_residual 44 = .ok (.invokevirtual 112, 3) := by decide +kernel
theorem dX0_residual_47 : decode cX0_residual 47 = .ok (.dadd, 1) := by decide +kernel
theorem dX0_residual_48 : decode cX0_residual 48 = .ok (.dstore_n 2, 1) := by decide +kernel
theorem dX0_residual_49 : decode cX0_residual 49 = .ok (.iinc 4 1, 3) := by decide +kernel
theorem dX0_residual_52 : decode cX0_residual 52 = .ok (.goto (-37), 3) := by decide +kernel
theorem dX0_residual_55 : decode cX0_residual 55 = .ok (.dload_n 2, 1) := by decide +kernel
theorem dX0_residual_56 : decode cX0_residual 56 = .ok (.dreturn, 1) := by decide +kernel
theorem dX0_flow_0 : decode cX0_flow 0 = .ok (.aload_n 0, 1) := by decide +kernel
theorem dX0_flow_1 : decode cX0_flow 1 = .ok (.getfield 12, 3) := by decide +kernel
theorem dX0_flow_4 : decode cX0_flow 4 = .ok (.getfield 72, 3) := by decide +kernel
theorem dX0_flow_7 : decode cX0_flow 7 = .ok (.iload_n 1, 1) := by decide +kernel
theorem dX0_flow_8 : decode cX0_flow 8 = .ok (.daload, 1) := by decide +kernel
theorem dX0_flow_9 : decode cX0_flow 9 = .ok (.aload_n 0, 1) := by decide +kernel
theorem dX0_flow_10 : decode cX0_flow 10 = .ok (.getfield 32, 3) := by decide +kernel
theorem dX0_flow_13 : decode cX0_flow 13 = .ok (.aload_n 0, 1) := by decide +kernel
theorem dX0_flow_14 : decode cX0_flow 14 = .ok (.getfield 12, 3) := by decide +kernel
theorem dX0_flow_17 : decode cX0_flow 17 = .ok (.getfield 129, 3) := by decide +kernel
theorem dX0_flow_20 : decode cX0_flow 20 = .ok (.iload_n 1, 1) := by decide +kernel
theorem dX0_flow_21 : decode cX0_flow 21 = .ok (.iaload, 1) := by decide +kernel
theorem dX0_flow_22 : decode cX0_flow 22 = .ok (.daload, 1) := by decide +kernel
theorem dX0_flow_23 : decode cX0_flow 23 = .ok (.aload_n 0, 1) := by decide +kernel
theorem dX0_flow_24 : decode cX0_flow 24 = .ok (.getfield 32, 3) := by decide +kernel
theorem dX0_flow_27 : decode cX0_flow 27 = .ok (.aload_n 0, 1) := by decide +kernel
theorem dX0_flow_28 : decode cX0_flow 28 = .ok (.getfield 12, 3) := by decide +kernel
theorem dX0_flow_31 : decode cX0_flow 31 = .ok (.getfield 132, 3) := by decide +kernel
theorem dX0_flow_34 : decode cX0_flow 34 = .ok (.iload_n 1, 1) := by decide +kernel
theorem dX0_flow_35 : decode cX0_flow 35 = .ok (.iaload, 1) := by decide +kernel
theorem dX0_flow_36 : decode cX0_flow 36 = .ok (.daload, 1) := by decide +kernel
theorem dX0_flow_37 : decode cX0_flow 37 = .ok (.dsub, 1) := by decide +kernel
theorem dX0_flow_38 : decode cX0_flow 38 = .ok (.dmul, 1) := by decide +kernel
theorem dX0_flow_39 : decode cX0_flow 39 = .ok (.dreturn, 1) := by decide +kernel
set_option maxRecDepth 20000 in
theorem ggX0_speed_X0_flow : GoodIn wsX0_speed wsX0_flow := goodIn_r _ [7, 1, 8, 9, 10, 11, 15, 16, 17, 18, 19, 20, 21, 22, 23, 24, 25, 26, 27] (by decide +kernel) (by decide +kernel)
set_option maxRecDepth 20000 in
theorem gX0_speed_X0_flow : GoodIn wsX0_speed (wsV RX0 135 RX0 yX0_flow wsX0_flow) := goodIn_app (goodIn_of _ (by decide +kernel)) ggX0_speed_X0_flow
set_option maxRecDepth 20000 in
theorem ggX0_speed_X6_magnitude : GoodIn wsX0_speed wsX6_magnitude := goodIn_r _ [14] (by decide +kernel) (by decide +kernel)
set_option maxRecDepth 20000 in
theorem gX0_speed_X6_magnitude_n98 : GoodIn wsX0_speed (wsX6_magnitude) := ggX0_speed_X6_magnitude
theorem dX0_speed_0 : decode cX0_speed 0 = .ok (.aload_n 0, 1) := by decide +kernel
theorem dX0_speed_1 : decode cX0_speed 1 = .ok (.iload_n 1, 1) := by decide +kernel
theorem dX0_speed_2 : decode cX0_speed 2 = .ok (.invokevirtual 135, 3) := by decide +kernel
theorem dX0_speed_5 : decode cX0_speed 5 = .ok (.invokestatic 98, 3) := by decide +kernel
theorem dX0_speed_8 : decode cX0_speed 8 = .ok (.aload_n 0, 1) := by decide +kernel
theorem dX0_speed_9 : decode cX0_speed 9 = .ok (.getfield 12, 3) := by decide +kernel
theorem dX0_speed_12 : decode cX0_speed 12 = .ok (.getfield 137, 3) := by decide +kernel
theorem dX0_speed_15 : decode cX0_speed 15 = .ok (.iload_n 1, 1) := by decide +kernel
theorem dX0_speed_16 : decode cX0_speed 16 = .ok (.daload, 1) := by decide +kernel
theorem dX0_speed_17 : decode cX0_speed 17 = .ok (.aload_n 0, 1) := by decide +kernel
theorem dX0_speed_18 : decode cX0_speed 18 = .ok (.getfield 12, 3) := by decide +kernel
theorem dX0_speed_21 : decode cX0_speed 21 = .ok (.getfield 137, 3) := by decide +kernel
theorem dX0_speed_24 : decode cX0_speed 24 = .ok (.iload_n 1, 1) := by decide +kernel
theorem dX0_speed_25 : decode cX0_speed 25 = .ok (.daload, 1) := by decide +kernel
theorem dX0_speed_26 : decode cX0_speed 26 = .ok (.dmul, 1) := by decide +kernel
theorem dX0_speed_27 : decode cX0_speed 27 = .ok (.ddiv, 1) := by decide +kernel
theorem dX0_speed_28 : decode cX0_speed 28 = .ok (.dreturn, 1) := by decide +kernel
set_option maxRecDepth 20000 in
theorem ggX0_isEachSpeedAtLeast_X0_speed : GoodIn wsX0_isEachSpeedAtLeast wsX0_speed := goodIn_r _ [7, 1, 8, 9, 10, 11, 6, 12, 13, 14, 15, 16, 17, 18, 19, 20, 21, 22, 23, 24, 25, 26, 27, 28, 29, 30, 31, 32] (by decide +kernel) (by decide +kernel)
set_option maxRecDepth 20000 in
theorem gX0_isEachSpeedAtLeast_X0_speed : GoodIn wsX0_isEachSpeedAtLeast (wsV RX0 141 RX0 yX0_speed wsX0_speed) := goodIn_app (goodIn_of _ (by decide +kernel)) ggX0_isEachSpeedAtLeast_X0_speed
theorem dX0_isEachSpeedAtLeast_0 : decode cX0_isEachSpeedAtLeast 0 = .ok (.iconst 0, 1) := by decide +kernel
theorem dX0_isEachSpeedAtLeast_1 : decode cX0_isEachSpeedAtLeast 1 = .ok (.istore_n 3, 1) := by decide +kernel
theorem dX0_isEachSpeedAtLeast_2 : decode cX0_isEachSpeedAtLeast 2 = .ok (.iload_n 3, 1) := by decide +kernel
theorem dX0_isEachSpeedAtLeast_3 : decode cX0_isEachSpeedAtLeast 3 = .ok (.aload_n 0, 1) := by decide +kernel
theorem dX0_isEachSpeedAtLeast_4 : decode cX0_isEachSpeedAtLeast 4 = .ok (.getfield 12, 3) := by decide +kernel
theorem dX0_isEachSpeedAtLeast_7 : decode cX0_isEachSpeedAtLeast 7 = .ok (.getfield 140, 3) := by decide +kernel
theorem dX0_isEachSpeedAtLeast_10 : decode cX0_isEachSpeedAtLeast 10 = .ok (.if_icmp .ge 21, 3) := by decide +kernel
theorem dX0_isEachSpeedAtLeast_13 : decode cX0_isEachSpeedAtLeast 13 = .ok (.aload_n 0, 1) := by decide +kernel
theorem dX0_isEachSpeedAtLeast_14 : decode cX0_isEachSpeedAtLeast 14 = .ok (.iload_n 3, 1) := by decide +kernel
theorem dX0_isEachSpeedAtLeast_15 : decode cX0_isEachSpeedAtLeast 15 = .ok (.invokevirtual 141, 3) := by decide +kernel
theorem dX0_isEachSpeedAtLeast_18 : decode cX0_isEachSpeedAtLeast 18 = .ok (.dload_n 1, 1) := by decide +kernel
theorem dX0_isEachSpeedAtLeast_19 : decode cX0_isEachSpeedAtLeast 19 = .ok (.dcmp .l, 1) := by decide +kernel
theorem dX0_isEachSpeedAtLeast_20 : decode cX0_isEachSpeedAtLeast 20 = .ok (.ifCond .ge 5, 3) := by decide +kernel
theorem dX0_isEachSpeedAtLeast_23 : decode cX0_isEachSpeedAtLeast 23 = .ok (.iconst 0, 1) := by decide +kernel
theorem dX0_isEachSpeedAtLeast_24 : decode cX0_isEachSpeedAtLeast 24 = .ok (.ireturn, 1) := by decide +kernel
theorem dX0_isEachSpeedAtLeast_25 : decode cX0_isEachSpeedAtLeast 25 = .ok (.iinc 3 1, 3) := by decide +kernel
theorem dX0_isEachSpeedAtLeast_28 : decode cX0_isEachSpeedAtLeast 28 = .ok (.goto (-26), 3) := by decide +kernel
theorem dX0_isEachSpeedAtLeast_31 : decode cX0_isEachSpeedAtLeast 31 = .ok (.iconst 1, 1) := by decide +kernel
theorem dX0_isEachSpeedAtLeast_32 : decode cX0_isEachSpeedAtLeast 32 = .ok (.ireturn, 1) := by decide +kernel
set_option maxRecDepth 20000 in
theorem ggX0_isEachMachineServed_X0_draw : GoodIn wsX0_isEachMachineServed wsX0_draw := goodIn_r _ [10, 1, 3, 11, 12, 13, 14, 15, 16, 17, 18, 19, 20, 21, 22, 23, 24, 25, 26, 27, 28] (by decide +kernel) (by decide +kernel)
set_option maxRecDepth 20000 in
theorem gX0_isEachMachineServed_X0_draw : GoodIn wsX0_isEachMachineServed (wsV RX0 112 RX0 yX0_draw wsX0_draw) := goodIn_app (goodIn_of _ (by decide +kernel)) ggX0_isEachMachineServed_X0_draw
theorem dX0_isEachMachineServed_0 : decode cX0_isEachMachineServed 0 = .ok (.iconst 0, 1) := by decide +kernel
theorem dX0_isEachMachineServed_1 : decode cX0_isEachMachineServed 1 = .ok (.istore_n 1, 1) := by decide +kernel
theorem dX0_isEachMachineServed_2 : decode cX0_isEachMachineServed 2 = .ok (.iload_n 1, 1) := by decide +kernel
theorem dX0_isEachMachineServed_3 : decode cX0_isEachMachineServed 3 = .ok (.aload_n 0, 1) := by decide +kernel
theorem dX0_isEachMachineServed_4 : decode cX0_isEachMachineServed 4 = .ok (.getfield 21, 3) := by decide +kernel
theorem dX0_isEachMachineServed_7 : decode cX0_isEachMachineServed 7 = .ok (.getfield 79, 3) := by decide +kernel
theorem dX0_isEachMachineServed_10 : decode cX0_isEachMachineServed 10 = .ok (.if_icmp .ge 45, 3) := by decide +kernel
theorem dX0_isEachMachineServed_13 : decode cX0_isEachMachineServed 13 = .ok (.aload_n 0, 1) := by decide +kernel
theorem dX0_isEachMachineServed_14 : decode cX0_isEachMachineServed 14 = .ok (.getfield 21, 3) := by decide +kernel
theorem dX0_isEachMachineServed_17 : decode cX0_isEachMachineServed 17 = .ok (.getfield 118, 3) := by decide +kernel
theorem dX0_isEachMachineServed_20 : decode cX0_isEachMachineServed 20 = .ok (.iload_n 1, 1) := by decide +kernel
theorem dX0_isEachMachineServed_21 : decode cX0_isEachMachineServed 21 = .ok (.baload, 1) := by decide +kernel
theorem dX0_isEachMachineServed_22 : decode cX0_isEachMachineServed 22 = .ok (.ifCond .eq 27, 3) := by decide +kernel
theorem dX0_isEachMachineServed_25 : decode cX0_isEachMachineServed 25 = .ok (.aload_n 0, 1) := by decide +kernel
theorem dX0_isEachMachineServed_26 : decode cX0_isEachMachineServed 26 = .ok (.iload_n 1, 1) := by decide +kernel
theorem dX0_isEachMachineServed_27 : decode cX0_isEachMachineServed 27 = .ok (.invokevirtual 112, 3) := by decide +kernel
theorem dX0_isEachMachineServed_30 : decode cX0_isEachMachineServed 30 = .ok (.aload_n 0, 1) := by decide +kernel
theorem dX0_isEachMachineServed_31 : decode cX0_isEachMachineServed 31 = .ok (.getfield 21, 3) := by decide +kernel
theorem dX0_isEachMachineServed_34 : decode cX0_isEachMachineServed 34 = .ok (.getfield 115, 3) := by decide +kernel
theorem dX0_isEachMachineServed_37 : decode cX0_isEachMachineServed 37 = .ok (.iload_n 1, 1) := by decide +kernel
theorem dX0_isEachMachineServed_38 : decode cX0_isEachMachineServed 38 = .ok (.daload, 1) := by decide +kernel
theorem dX0_isEachMachineServed_39 : decode cX0_isEachMachineServed 39 = .ok (.ldc2_w 144, 3) := by decide +kernel
theorem dX0_isEachMachineServed_42 : decode cX0_isEachMachineServed 42 = .ok (.dmul, 1) := by decide +kernel
theorem dX0_isEachMachineServed_43 : decode cX0_isEachMachineServed 43 = .ok (.dcmp .g, 1) := by decide +kernel
theorem dX0_isEachMachineServed_44 : decode cX0_isEachMachineServed 44 = .ok (.ifCond .ge 5, 3) := by decide +kernel
theorem dX0_isEachMachineServed_47 : decode cX0_isEachMachineServed 47 = .ok (.iconst 0, 1) := by decide +kernel
theorem dX0_isEachMachineServed_48 : decode cX0_isEachMachineServed 48 = .ok (.ireturn, 1) := by decide +kernel
theorem dX0_isEachMachineServed_49 : decode cX0_isEachMachineServed 49 = .ok (.iinc 1 1, 3) := by decide +kernel
theorem dX0_isEachMachineServed_52 : decode cX0_isEachMachineServed 52 = .ok (.goto (-50), 3) := by decide +kernel
theorem dX0_isEachMachineServed_55 : decode cX0_isEachMachineServed 55 = .ok (.iconst 1, 1) := by decide +kernel
theorem dX0_isEachMachineServed_56 : decode cX0_isEachMachineServed 56 = .ok (.ireturn, 1) := by decide +kernel
theorem dX1_init_0 : decode cX1_init 0 = .ok (.aload_n 0, 1) := by decide +kernel
theorem dX1_init_1 : decode cX1_init 1 = .ok (.invokespecial 3, 3) := by decide +kernel
theorem dX1_init_4 : decode cX1_init 4 = .ok (.aload_n 0, 1) := by decide +kernel
theorem dX1_init_5 : decode cX1_init 5 = .ok (.iconst 0, 1) := by decide +kernel
theorem dX1_init_6 : decode cX1_init 6 = .ok (.putfield 9, 3) := by decide +kernel
theorem dX1_init_9 : decode cX1_init 9 = .ok (.aload_n 0, 1) := by decide +kernel
theorem dX1_init_10 : decode cX1_init 10 = .ok (.bipush 16, 2) := by decide +kernel
theorem dX1_init_12 : decode cX1_init 12 = .ok (.newarray .int, 2) := by decide +kernel
theorem dX1_init_14 : decode cX1_init 14 = .ok (.putfield 15, 3) := by decide +kernel
theorem dX1_init_17 : decode cX1_init 17 = .ok (.aload_n 0, 1) := by decide +kernel
theorem dX1_init_18 : decode cX1_init 18 = .ok (.bipush 16, 2) := by decide +kernel
theorem dX1_init_20 : decode cX1_init 20 = .ok (.newarray .int, 2) := by decide +kernel
theorem dX1_init_22 : decode cX1_init 22 = .ok (.putfield 19, 3) := by decide +kernel
theorem dX1_init_25 : decode cX1_init 25 = .ok (.aload_n 0, 1) := by decide +kernel
theorem dX1_init_26 : decode cX1_init 26 = .ok (.bipush 16, 2) := by decide +kernel
theorem dX1_init_28 : decode cX1_init 28 = .ok (.newarray .double, 2) := by decide +kernel
theorem dX1_init_30 : decode cX1_init 30 = .ok (.putfield 22, 3) := by decide +kernel
theorem dX1_init_33 : decode cX1_init 33 = .ok (.aload_n 0, 1) := by decide +kernel
theorem dX1_init_34 : decode cX1_init 34 = .ok (.bipush 16, 2) := by decide +kernel
theorem dX1_init_36 : decode cX1_init 36 = .ok (.newarray .double, 2) := by decide +kernel
theorem dX1_init_38 : decode cX1_init 38 = .ok (.putfield 26, 3) := by decide +kernel
theorem dX1_init_41 : decode cX1_init 41 = .ok (.aload_n 0, 1) := by decide +kernel
theorem dX1_init_42 : decode cX1_init 42 = .ok (.bipush 16, 2) := by decide +kernel
theorem dX1_init_44 : decode cX1_init 44 = .ok (.newarray .double, 2) := by decide +kernel
theorem dX1_init_46 : decode cX1_init 46 = .ok (.putfield 29, 3) := by decide +kernel
theorem dX1_init_49 : decode cX1_init 49 = .ok (.aload_n 0, 1) := by decide +kernel
theorem dX1_init_50 : decode cX1_init 50 = .ok (.bipush 10, 2) := by decide +kernel
theorem dX1_init_52 : decode cX1_init 52 = .ok (.bipush 16, 2) := by decide +kernel
theorem dX1_init_54 : decode cX1_init 54 = .ok (.multianewarray 32 2, 4) := by decide +kernel
theorem dX1_init_58 : decode cX1_init 58 = .ok (.putfield 34, 3) := by decide +kernel
theorem dX1_init_61 : decode cX1_init 61 = .ok (.aload_n 0, 1) := by decide +kernel
theorem dX1_init_62 : decode cX1_init 62 = .ok (.bipush 10, 2) := by decide +kernel
theorem dX1_init_64 : decode cX1_init 64 = .ok (.newarray .int, 2) := by decide +kernel
theorem dX1_init_66 : decode cX1_init 66 = .ok (.putfield 37, 3) := by decide +kernel
theorem dX1_init_69 : decode cX1_init 69 = .ok (.return_, 1) := by decide +kernel
set_option maxRecDepth 20000 in
theorem ggX1_add_X1_setWidth : GoodIn wsX1_add wsX1_setWidth := goodIn_r _ [9, 10, 11, 4, 18, 19, 20, 21, 22, 23, 24, 25] (by decide +kernel) (by decide +kernel)
set_option maxRecDepth 20000 in
theorem gX1_add_X1_setWidth : GoodIn wsX1_add (wsV RX1 40 RX1 yX1_setWidth wsX1_setWidth) := goodIn_app (goodIn_of _ (by decide +kernel)) ggX1_add_X1_setWidth
set_option maxRecDepth 20000 in
theorem ggX1_add_X1_hangOn : GoodIn wsX1_add wsX1_hangOn := goodIn_r _ [15, 16, 17, 18, 19, 20, 21, 22, 23, 24, 25] (by decide +kernel) (by decide +kernel)
set_option maxRecDepth 20000 in
theorem gX1_add_X1_hangOn : GoodIn wsX1_add (wsV RX1 44 RX1 yX1_hangOn wsX1_hangOn) := goodIn_app (goodIn_of _ (by decide +kernel)) ggX1_add_X1_hangOn
theorem dX1_add_0 : decode cX1_add 0 = .ok (.aload_n 0, 1) := by decide +kernel
theorem dX1_add_1 : decode cX1_add 1 = .ok (.getfield 9, 3) := by decide +kernel
theorem dX1_add_4 : decode cX1_add 4 = .ok (.istore 7, 2) := by decide +kernel
theorem dX1_add_6 : decode cX1_add 6 = .ok (.aload_n 0, 1) := by decide +kernel
theorem dX1_add_7 : decode cX1_add 7 = .ok (.dup, 1) := by decide +kernel
theorem dX1_add_8 : decode cX1_add 8 = .ok (.getfield 9, 3) := by decide +kernel
theorem dX1_add_11 : decode cX1_add 11 = .ok (.iconst 1, 1) := by decide +kernel
theorem dX1_add_12 : decode cX1_add 12 = .ok (.iadd, 1) := by decide +kernel
theorem dX1_add_13 : decode cX1_add 13 = .ok (.putfield 9, 3) := by decide +kernel
theorem dX1_add_16 : decode cX1_add 16 = .ok (.aload_n 0, 1) := by decide +kernel
theorem dX1_add_17 : decode cX1_add 17 = .ok (.getfield 15, 3) := by decide +kernel
theorem dX1_add_20 : decode cX1_add 20 = .ok (.iload 7, 2) := by decide +kernel
theorem dX1_add_22 : decode cX1_add 22 = .ok (.iload_n 1, 1) := by decide +kernel
theorem dX1_add_23 : decode cX1_add 23 = .ok (.iastore, 1) := by decide +kernel
theorem dX1_add_24 : decode cX1_add 24 = .ok (.aload_n 0, 1) := by decide +kernel
theorem dX1_add_25 : decode cX1_add 25 = .ok (.getfield 19, 3) := by decide +kernel
theorem dX1_add_28 : decode cX1_add 28 = .ok (.iload 7, 2) := by decide +kernel
theorem dX1_add_30 : decode cX1_add 30 = .ok (.iload_n 2, 1) := by decide +kernel
theorem dX1_add_31 : decode cX1_add 31 = .ok (.iastore, 1) := by decide +kernel
theorem dX1_add_32 : decode cX1_add 32 = .ok (.aload_n 0, 1) := by decide +kernel
theorem dX1_add_33 : decode cX1_add 33 = .ok (.getfield 22, 3) := by decide +kernel
theorem dX1_add_36 : decode cX1_add 36 = .ok (.iload 7, 2) := by decide +kernel
theorem dX1_add_38 : decode cX1_add 38 = .ok (.dload_n 3, 1) := by decide +kernel
theorem dX1_add_39 : decode cX1_add 39 = .ok (.dastore, 1) := by decide +kernel
theorem dX1_add_40 : decode cX1_add 40 = .ok (.aload_n 0, 1) := by decide +kernel
theorem dX1_add_41 : decode cX1_add 41 = .ok (.iload 7, 2) := by decide +kernel
theorem dX1_add_43 : decode cX1_add 43 = .ok (.dload 5, 2) := by decide +kernel
theorem dX1_add_45 : decode cX1_add 45 = .ok (.invokevirtual 40, 3) := by decide +kernel
theorem dX1_add_48 : decode cX1_add 48 = .ok (.aload_n 0, 1) := by decide +kernel
theorem dX1_add_49 : decode cX1_add 49 = .ok (.iload_n 1, 1) := by decide +kernel
theorem dX1_add_50 : decode cX1_add 50 = .ok (.iload 7, 2) := by decide +kernel
theorem dX1_add_52 : decode cX1_add 52 = .ok (.invokevirtual 44, 3) := by decide +kernel
theorem dX1_add_55 : decode cX1_add 55 = .ok (.aload_n 0, 1) := by decide +kernel
theorem dX1_add_56 : decode cX1_add 56 = .ok (.iload_n 2, 1) := by decide +kernel
theorem dX1_add_57 : decode cX1_add 57 = .ok (.iload 7, 2) := by decide +kernel
theorem dX1_add_59 : decode cX1_add 59 = .ok (.invokevirtual 44, 3) := by decide +kernel
theorem dX1_add_62 : decode cX1_add 62 = .ok (.iload 7, 2) := by decide +kernel
theorem dX1_add_64 : decode cX1_add 64 = .ok (.ireturn, 1) := by decide +kernel
set_option maxRecDepth 20000 in
theorem ggX1_setWidths_X1_setWidth : GoodIn wsX1_setWidths wsX1_setWidth := goodIn_r _ [6, 7, 8, 9, 10, 11, 12, 13, 14, 15, 16, 17] (by decide +kernel) (by decide +kernel)
set_option maxRecDepth 20000 in
theorem gX1_setWidths_X1_setWidth : GoodIn wsX1_setWidths (wsV RX1 40 RX1 yX1_setWidth wsX1_setWidth) := goodIn_app (goodIn_of _ (by decide +kernel)) ggX1_setWidths_X1_setWidth
theorem dX1_setWidths_0 : decode cX1_setWidths 0 = .ok (.iconst 0, 1) := by decide +kernel
theorem dX1_setWidths_1 : decode cX1_setWidths 1 = .ok (.istore_n 3, 1) := by decide +kernel
theorem dX1_setWidths_2 : decode cX1_setWidths 2 = .ok (.iload_n 3, 1) := by decide +kernel
theorem dX1_setWidths_3 : decode cX1_setWidths 3 = .ok (.aload_n 0, 1) := by decide +kernel
theorem dX1_setWidths_4 : decode cX1_setWidths 4 = .ok (.getfield 9, 3) := by decide +kernel
theorem dX1_setWidths_7 : decode cX1_setWidths 7 = .ok (.if_icmp .ge 15, 3) := by decide +kernel
theorem dX1_setWidths_10 : decode cX1_setWidths 10 = .ok (.aload_n 0, 1) := by decide +kernel
theorem dX1_setWidths_11 : decode cX1_setWidths 11 = .ok (.iload_n 3, 1) := by decide +kernel
theorem dX1_setWidths_12 : decode cX1_setWidths 12 = .ok (.dload_n 1, 1) := by decide +kernel
theorem dX1_setWidths_13 : decode cX1_setWidths 13 = .ok (.invokevirtual 40, 3) := by decide +kernel
theorem dX1_setWidths_16 : decode cX1_setWidths 16 = .ok (.iinc 3 1, 3) := by decide +kernel
theorem dX1_setWidths_19 : decode cX1_setWidths 19 = .ok (.goto (-17), 3) := by decide +kernel
theorem dX1_setWidths_22 : decode cX1_setWidths 22 = .ok (.return_, 1) := by decide +kernel
theorem dX1_otherEnd_0 : decode cX1_otherEnd 0 = .ok (.aload_n 0, 1) := by decide +kernel
theorem dX1_otherEnd_1 : decode cX1_otherEnd 1 = .ok (.getfield 15, 3) := by decide +kernel
theorem dX1_otherEnd_4 : decode cX1_otherEnd 4 = .ok (.iload_n 1, 1) := by decide +kernel
theorem dX1_otherEnd_5 : decode cX1_otherEnd 5 = .ok (.iaload, 1) := by decide +kernel
theorem dX1_otherEnd_6 : decode cX1_otherEnd 6 = .ok (.iload_n 2, 1) := by decide +kernel
theorem dX1_otherEnd_7 : decode cX1_otherEnd 7 = .ok (.if_icmp .ne 12, 3) := by decide +kernel
theorem dX1_otherEnd_10 : decode cX1_otherEnd 10 = .ok (.aload_n 0, 1) := by decide +kernel
theorem dX1_otherEnd_11 : decode cX1_otherEnd 11 = .ok (.getfield 19, 3) := by decide +kernel
theorem dX1_otherEnd_14 : decode cX1_otherEnd 14 = .ok (.iload_n 1, 1) := by decide +kernel
theorem dX1_otherEnd_15 : decode cX1_otherEnd 15 = .ok (.iaload, 1) := by decide +kernel
theorem dX1_otherEnd_16 : decode cX1_otherEnd 16 = .ok (.goto 9, 3) := by decide +kernel
theorem dX1_otherEnd_19 : decode cX1_otherEnd 19 = .ok (.aload_n 0, 1) := by decide +kernel
theorem dX1_otherEnd_20 : decode cX1_otherEnd 20 = .ok (.getfield 15, 3) := by decide +kernel
theorem dX1_otherEnd_23 : decode cX1_otherEnd 23 = .ok (.iload_n 1, 1) := by decide +kernel
theorem dX1_otherEnd_24 : decode cX1_otherEnd 24 = .ok (.iaload, 1) := by decide +kernel
theorem dX1_otherEnd_25 : decode cX1_otherEnd 25 = .ok (.ireturn, 1) := by decide +kernel
theorem dX1_hangOn_0 : decode cX1_hangOn 0 = .ok (.aload_n 0, 1) := by decide +kernel
theorem dX1_hangOn_1 : decode cX1_hangOn 1 = .ok (.getfield 34, 3) := by decide +kernel
theorem dX1_hangOn_4 : decode cX1_hangOn 4 = .ok (.iload_n 1, 1) := by decide +kernel
theorem dX1_hangOn_5 : decode cX1_hangOn 5 = .ok (.aaload, 1) := by decide +kernel
theorem dX1_hangOn_6 : decode cX1_hangOn 6 = .ok (.aload_n 0, 1) := by decide +kernel
theorem dX1_hangOn_7 : decode cX1_hangOn 7 = .ok (.getfield 37, 3) := by decide +kernel
theorem dX1_hangOn_10 : decode cX1_hangOn 10 = .ok (.iload_n 1, 1) := by decide +kernel
theorem dX1_hangOn_11 : decode cX1_hangOn 11 = .ok (.iaload, 1) := by decide +kernel
theorem dX1_hangOn_12 : decode cX1_hangOn 12 = .ok (.iload_n 2, 1) := by decide +kernel
theorem dX1_hangOn_13 : decode cX1_hangOn 13 = .ok (.iastore, 1) := by decide +kernel
theorem dX1_hangOn_14 : decode cX1_hangOn 14 = .ok (.aload_n 0, 1) := by decide +kernel
theorem dX1_hangOn_15 : decode cX1_hangOn 15 = .ok (.getfield 37, 3) := by decide +kernel
theorem dX1_hangOn_18 : decode cX1_hangOn 18 = .ok (.iload_n 1, 1) := by decide +kernel
theorem dX1_hangOn_19 : decode cX1_hangOn 19 = .ok (.dup2, 1) := by decide +kernel
theorem dX1_hangOn_20 : decode cX1_hangOn 20 = .ok (.iaload, 1) := by decide +kernel
theorem dX1_hangOn_21 : decode cX1_hangOn 21 = .ok (.iconst 1, 1) := by decide +kernel
theorem dX1_hangOn_22 : decode cX1_hangOn 22 = .ok (.iadd, 1) := by decide +kernel
theorem dX1_hangOn_23 : decode cX1_hangOn 23 = .ok (.iastore, 1) := by decide +kernel
theorem dX1_hangOn_24 : decode cX1_hangOn 24 = .ok (.return_, 1) := by decide +kernel
theorem dX1_setWidth_0 : decode cX1_setWidth 0 = .ok (.aload_n 0, 1) := by decide +kernel
theorem dX1_setWidth_1 : decode cX1_setWidth 1 = .ok (.getfield 26, 3) := by decide +kernel
theorem dX1_setWidth_4 : decode cX1_setWidth 4 = .ok (.iload_n 1, 1) := by decide +kernel
theorem dX1_setWidth_5 : decode cX1_setWidth 5 = .ok (.dload_n 2, 1) := by decide +kernel
theorem dX1_setWidth_6 : decode cX1_setWidth 6 = .ok (.dastore, 1) := by decide +kernel
theorem dX1_setWidth_7 : decode cX1_setWidth 7 = .ok (.aload_n 0, 1) := by decide +kernel
theorem dX1_setWidth_8 : decode cX1_setWidth 8 = .ok (.getfield 29, 3) := by decide +kernel
theorem dX1_setWidth_11 : decode cX1_setWidth 11 = .ok (.iload_n 1, 1) := by decide +kernel
theorem dX1_setWidth_12 : decode cX1_setWidth 12 = .ok (.dload_n 2, 1) := by decide +kernel
theorem dX1_setWidth_13 : decode cX1_setWidth 13 = .ok (.dload_n 2, 1) := by decide +kernel
theorem dX1_setWidth_14 : decode cX1_setWidth 14 = .ok (.dmul, 1) := by decide +kernel
theorem dX1_setWidth_15 : decode cX1_setWidth 15 = .ok (.dload_n 2, 1) := by decide +kernel
theorem dX1_setWidth_16 : decode cX1_setWidth 16 = .ok (.dmul, 1) := by decide +kernel
theorem dX1_setWidth_17 : decode cX1_setWidth 17 = .ok (.aload_n 0, 1) := by decide +kernel
theorem dX1_setWidth_18 : decode cX1_setWidth 18 = .ok (.getfield 22, 3) := by decide +kernel
theorem dX1_setWidth_21 : decode cX1_setWidth 21 = .ok (.iload_n 1, 1) := by decide +kernel
theorem dX1_setWidth_22 : decode cX1_setWidth 22 = .ok (.daload, 1) := by decide +kernel
theorem dX1_setWidth_23 : decode cX1_setWidth 23 = .ok (.ddiv, 1) := by decide +kernel
theorem dX1_setWidth_24 : decode cX1_setWidth 24 = .ok (.dastore, 1) := by decide +kernel
theorem dX1_setWidth_25 : decode cX1_setWidth 25 = .ok (.return_, 1) := by decide +kernel
theorem dX2_init_0 : decode cX2_init 0 = .ok (.aload_n 0, 1) := by decide +kernel
theorem dX2_init_1 : decode cX2_init 1 = .ok (.invokespecial 1, 3) := by decide +kernel
theorem dX2_init_4 : decode cX2_init 4 = .ok (.aload_n 0, 1) := by decide +kernel
theorem dX2_init_5 : decode cX2_init 5 = .ok (.ldc2_w 7, 3) := by decide +kernel
theorem dX2_init_8 : decode cX2_init 8 = .ok (.putfield 9, 3) := by decide +kernel
theorem dX2_init_11 : decode cX2_init 11 = .ok (.aload_n 0, 1) := by decide +kernel
theorem dX2_init_12 : decode cX2_init 12 = .ok (.ldc2_w 15, 3) := by decide +kernel
theorem dX2_init_15 : decode cX2_init 15 = .ok (.putfield 17, 3) := by decide +kernel
theorem dX2_init_18 : decode cX2_init 18 = .ok (.aload_n 0, 1) := by decide +kernel
theorem dX2_init_19 : decode cX2_init 19 = .ok (.dconst 0, 1) := by decide +kernel
theorem dX2_init_20 : decode cX2_init 20 = .ok (.putfield 20, 3) := by decide +kernel
theorem dX2_init_23 : decode cX2_init 23 = .ok (.return_, 1) := by decide +kernel
theorem dX2_hold_0 : decode cX2_hold 0 = .ok (.dconst 0, 1) := by decide +kernel
theorem dX2_hold_1 : decode cX2_hold 1 = .ok (.aload_n 0, 1) := by decide +kernel
theorem dX2_hold_2 : decode cX2_hold 2 = .ok (.getfield 9, 3) := by decide +kernel
theorem dX2_hold_5 : decode cX2_hold 5 = .ok (.aload_n 0, 1) := by decide +kernel
theorem dX2_hold_6 : decode cX2_hold 6 = .ok (.getfield 17, 3) := by decide +kernel
theorem dX2_hold_9 : decode cX2_hold 9 = .ok (.aload_n 0, 1) := by decide +kernel
theorem dX2_hold_10 : decode cX2_hold 10 = .ok (.getfield 20, 3) := by decide +kernel
theorem dX2_hold_13 : decode cX2_hold 13 = .ok (.dmul, 1) := by decide +kernel
theorem dX2_hold_14 : decode cX2_hold 14 = .ok (.dsub, 1) := by decide +kernel
theorem dX2_hold_15 : decode cX2_hold 15 = .ok (.dsub, 1) := by decide +kernel
theorem dX2_hold_16 : decode cX2_hold 16 = .ok (.dstore_n 1, 1) := by decide +kernel
theorem dX2_hold_17 : decode cX2_hold 17 = .ok (.dload_n 1, 1) := by decide +kernel
theorem dX2_hold_18 : decode cX2_hold 18 = .ok (.dconst 0, 1) := by decide +kernel
theorem dX2_hold_19 : decode cX2_hold 19 = .ok (.dcmp .l, 1) := by decide +kernel
theorem dX2_hold_20 : decode cX2_hold 20 = .ok (.ifCond .le 7, 3) := by decide +kernel
theorem dX2_hold_23 : decode cX2_hold 23 = .ok (.dconst 0, 1) := by decide +kernel
theorem dX2_hold_24 : decode cX2_hold 24 = .ok (.goto 4, 3) := by decide +kernel
theorem dX2_hold_27 : decode cX2_hold 27 = .ok (.dload_n 1, 1) := by decide +kernel
theorem dX2_hold_28 : decode cX2_hold 28 = .ok (.dreturn, 1) := by decide +kernel
theorem dX3_init_0 : decode cX3_init 0 = .ok (.aload_n 0, 1) := by decide +kernel
theorem dX3_init_1 : decode cX3_init 1 = .ok (.invokespecial 3, 3) := by decide +kernel
theorem dX3_init_4 : decode cX3_init 4 = .ok (.aload_n 0, 1) := by decide +kernel
theorem dX3_init_5 : decode cX3_init 5 = .ok (.bipush 16, 2) := by decide +kernel
theorem dX3_init_7 : decode cX3_init 7 = .ok (.newarray .double, 2) := by decide +kernel
theorem dX3_init_9 : decode cX3_init 9 = .ok (.putfield 9, 3) := by decide +kernel
theorem dX3_init_12 : decode cX3_init 12 = .ok (.aload_n 0, 1) := by decide +kernel
theorem dX3_init_13 : decode cX3_init 13 = .ok (.bipush 16, 2) := by decide +kernel
theorem dX3_init_15 : decode cX3_init 15 = .ok (.newarray .double, 2) := by decide +kernel
theorem dX3_init_17 : decode cX3_init 17 = .ok (.putfield 15, 3) := by decide +kernel
theorem dX3_init_20 : decode cX3_init 20 = .ok (.aload_n 0, 1) := by decide +kernel
theorem dX3_init_21 : decode cX3_init 21 = .ok (.bipush 16, 2) := by decide +kernel
theorem dX3_init_23 : decode cX3_init 23 = .ok (.newarray .boolean, 2) := by decide +kernel
theorem dX3_init_25 : decode cX3_init 25 = .ok (.putfield 18, 3) := by decide +kernel
theorem dX3_init_28 : decode cX3_init 28 = .ok (.return_, 1) := by decide +kernel
set_option maxRecDepth 20000 in
theorem ggX3_approach_X3_missing : GoodIn wsX3_approach wsX3_missing := goodIn_r _ [8, 9, 2, 10, 11, 12, 13, 14, 15, 16, 17, 18, 19, 20, 21, 22, 25, 26, 27, 28, 29, 30, 31, 32, 33, 34, 35, 36, 37, 38, 39, 40] (by decide +kernel) (by decide +kernel)
set_option maxRecDepth 20000 in
theorem gX3_approach_X3_missing : GoodIn wsX3_approach (wsV RX3 22 RX3 yX3_missing wsX3_missing) := goodIn_app (goodIn_of _ (by decide +kernel)) ggX3_approach_X3_missing
set_option maxRecDepth 20000 in
theorem ggX3_approach_X6_notBelowZero : GoodIn wsX3_approach wsX6_notBelowZero := goodIn_r _ [24] (by decide +kernel) (by decide +kernel)
set_option maxRecDepth 20000 in
theorem gX3_approach_X6_notBelowZero_n28 : GoodIn wsX3_approach (wsX6_notBelowZero) := ggX3_approach_X6_notBelowZero
theorem dX3_approach_0 : decode cX3_approach 0 = .ok (.iconst 0, 1) := by decide +kernel
theorem dX3_approach_1 : decode cX3_approach 1 = .ok (.istore_n 2, 1) := by decide +kernel
theorem dX3_approach_2 : decode cX3_approach 2 = .ok (.iload_n 2, 1) := by decide +kernel
theorem dX3_approach_3 : decode cX3_approach 3 = .ok (.bipush 16, 2) := by decide +kernel
theorem dX3_approach_5 : decode cX3_approach 5 = .ok (.if_icmp .ge 44, 3) := by decide +kernel
theorem dX3_approach_8 : decode cX3_approach 8 = .ok (.aload_n 0, 1) := by decide +kernel
theorem dX3_approach_9 : decode cX3_approach 9 = .ok (.getfield 18, 3) := by decide +kernel
theorem dX3_approach_12 : decode cX3_approach 12 = .ok (.iload_n 2, 1) := by decide +kernel
theorem dX3_approach_13 : decode cX3_approach 13 = .ok (.baload, 1) := by decide +kernel
theorem dX3_approach_14 : decode cX3_approach 14 = .ok (.ifCond .eq 29, 3) := by decide +kernel
theorem dX3_approach_17 : decode cX3_approach 17 = .ok (.aload_n 0, 1) := by decide +kernel
theorem dX3_approach_18 : decode cX3_approach 18 = .ok (.getfield 9, 3) := by decide +kernel
theorem dX3_approach_21 : decode cX3_approach 21 = .ok (.iload_n 2, 1) := by decide +kernel
theorem dX3_approach_22 : decode cX3_approach 22 = .ok (.aload_n 0, 1) := by decide +kernel
theorem dX3_approach_23 : decode cX3_approach 23 = .ok (.getfield 9, 3) := by decide +kernel
theorem dX3_approach_26 : decode cX3_approach 26 = .ok (.iload_n 2, 1) := by decide +kernel
theorem dX3_approach_27 : decode cX3_approach 27 = .ok (.daload, 1) := by decide +kernel
theorem dX3_approach_28 : decode cX3_approach 28 = .ok (.aload_n 0, 1) := by decide +kernel
theorem dX3_approach_29 : decode cX3_approach 29 = .ok (.iload_n 2, 1) := by decide +kernel
theorem dX3_approach_30 : decode cX3_approach 30 = .ok (.aload_n 1, 1) := by decide +kernel
theorem dX3_approach_31 : decode cX3_approach 31 = .ok (.invokevirtual 22, 3) := by decide +kernel
theorem dX3_approach_34 : decode cX3_approach 34 = .ok (.ldc2_w 26, 3) := by decide +kernel
theorem dX3_approach_37 : decode cX3_approach 37 = .ok (.ddiv, 1) := by decide +kernel
theorem dX3_approach_38 : decode cX3_approach 38 = .ok (.dadd, 1) := by decide +kernel
theorem dX3_approach_39 : decode cX3_approach 39 = .ok (.invokestatic 28, 3) := by decide +kernel
theorem dX3_approach_42 : decode cX3_approach 42 = .ok (.dastore, 1) := by decide +kernel
theorem dX3_approach_43 : decode cX3_approach 43 = .ok (.iinc 2 1, 3) := by decide +kernel
theorem dX3_approach_46 : decode cX3_approach 46 = .ok (.goto (-44), 3) := by decide +kernel
theorem dX3_approach_49 : decode cX3_approach 49 = .ok (.return_, 1) := by decide +kernel
set_option maxRecDepth 20000 in
theorem ggX3_sumOfSquares_X3_missing : GoodIn wsX3_sumOfSquares wsX3_missing := goodIn_r _ [6, 7, 8, 9, 10, 11, 12, 13, 14, 15, 16, 17, 18, 19, 20, 21, 22, 23, 24, 25, 26, 27, 28, 29, 30, 31, 32, 33, 34, 35, 36, 37] (by decide +kernel) (by decide +kernel)
set_option maxRecDepth 20000 in
theorem gX3_sumOfSquares_X3_missing : GoodIn wsX3_sumOfSquares (wsV RX3 22 RX3 yX3_missing wsX3_missing) := goodIn_app (goodIn_of _ (by decide +kernel)) ggX3_sumOfSquares_X3_missing
theorem dX3_sumOfSquares_0 : decode cX3_sumOfSquares 0 = .ok (.dconst 0, 1) := by decide +kernel
theorem dX3_sumOfSquares_1 : decode cX3_sumOfSquares 1 = .ok (.dstore_n 2, 1) := by decide +kernel
theorem dX3_sumOfSquares_2 : decode cX3_sumOfSquares 2 = .ok (.iconst 0, 1) := by decide +kernel
theorem dX3_sumOfSquares_3 : decode cX3_sumOfSquares 3 = .ok (.istore 4, 2) := by decide +kernel
theorem dX3_sumOfSquares_5 : decode cX3_sumOfSquares 5 = .ok (.iload 4, 2) := by decide +kernel
theorem dX3_sumOfSquares_7 : decode cX3_sumOfSquares 7 = .ok (.bipush 16, 2) := by decide +kernel
theorem dX3_sumOfSquares_9 : decode cX3_sumOfSquares 9 = .ok (.if_icmp .ge 36, 3) := by decide +kernel
theorem dX3_sumOfSquares_12 : decode cX3_sumOfSquares 12 = .ok (.aload_n 0, 1) := by decide +kernel
theorem dX3_sumOfSquares_13 : decode cX3_sumOfSquares 13 = .ok (.getfield 18, 3) := by decide +kernel
theorem dX3_sumOfSquares_16 : decode cX3_sumOfSquares 16 = .ok (.iload 4, 2) := by decide +kernel
theorem dX3_sumOfSquares_18 : decode cX3_sumOfSquares 18 = .ok (.baload, 1) := by decide +kernel
theorem dX3_sumOfSquares_19 : decode cX3_sumOfSquares 19 = .ok (.ifCond .eq 20, 3) := by decide +kernel
theorem dX3_sumOfSquares_22 : decode cX3_sumOfSquares 22 = .ok (.aload_n 0, 1) := by decide +kernel
theorem dX3_sumOfSquares_23 : decode cX3_sumOfSquares 23 = .ok (.iload 4, 2) := by decide +kernel
theorem dX3_sumOfSquares_25 : decode cX3_sumOfSquares 25 = .ok (.aload_n 1, 1) := by decide +kernel
theorem dX3_sumOfSquares_26 : decode cX3_sumOfSquares 26 = .ok (.invokevirtual 22, 3) := by decide +kernel
theorem dX3_sumOfSquares_29 : decode cX3_sumOfSquares 29 = .ok (.dstore 5, 2) := by decide +kernel
theorem dX3_sumOfSquares_31 : decode cX3_sumOfSquares 31 = .ok (.dload_n 2, 1) := by decide +kernel
theorem dX3_sumOfSquares_32 : decode cX3_sumOfSquares 32 = .ok (.dload 5, 2) := by decide +kernel
theorem dX3_sumOfSquares_34 : decode cX3_sumOfSquares 34 = .ok (.dload 5, 2) := by decide +kernel
theorem dX3_sumOfSquares_36 : decode cX3_sumOfSquares 36 = .ok (.dmul, 1) := by decide +kernel
theorem dX3_sumOfSquares_37 : decode cX3_sumOfSquares 37 = .ok (.dadd, 1) := by decide +kernel
theorem dX3_sumOfSquares_38 : decode cX3_sumOfSquares 38 = .ok (.dstore_n 2, 1) := by decide +kernel
theorem dX3_sumOfSquares_39 : decode cX3_sumOfSquares 39 = .ok (.iinc 4 1, 3) := by decide +kernel
theorem dX3_sumOfSquares_42 : decode cX3_sumOfSquares 42 = .ok (.goto (-37), 3) := by decide +kernel
theorem dX3_sumOfSquares_45 : decode cX3_sumOfSquares 45 = .ok (.dload_n 2, 1) := by decide +kernel
theorem dX3_sumOfSquares_46 : decode cX3_sumOfSquares 46 = .ok (.dreturn, 1) := by decide +kernel
set_option maxRecDepth 20000 in
theorem ggX3_missing_X0_flow : GoodIn wsX3_missing wsX0_flow := goodIn_r _ [7, 8, 9, 10, 11, 12, 19, 20, 21, 22, 23, 24, 25, 26, 27, 28, 29, 30, 31] (by decide +kernel) (by decide +kernel)
set_option maxRecDepth 20000 in
theorem gX3_missing_X0_flow : GoodIn wsX3_missing (wsV RX3 32 RX0 yX0_flow wsX0_flow) := goodIn_app (goodIn_of _ (by decide +kernel)) ggX3_missing_X0_flow
set_option maxRecDepth 20000 in
theorem ggX3_missing_X6_magnitude : GoodIn wsX3_missing wsX6_magnitude := goodIn_r _ [15] (by decide +kernel) (by decide +kernel)
set_option maxRecDepth 20000 in
theorem gX3_missing_X6_magnitude_n38 : GoodIn wsX3_missing (wsX6_magnitude) := ggX3_missing_X6_magnitude
theorem dX3_missing_0 : decode cX3_missing 0 = .ok (.aload_n 0, 1) := by decide +kernel
theorem dX3_missing_1 : decode cX3_missing 1 = .ok (.getfield 15, 3) := by decide +kernel
theorem dX3_missing_4 : decode cX3_missing 4 = .ok (.iload_n 1, 1) := by decide +kernel
theorem dX3_missing_5 : decode cX3_missing 5 = .ok (.daload, 1) := by decide +kernel
theorem dX3_missing_6 : decode cX3_missing 6 = .ok (.aload_n 2, 1) := by decide +kernel
theorem dX3_missing_7 : decode cX3_missing 7 = .ok (.iload_n 1, 1) := by decide +kernel
theorem dX3_missing_8 : decode cX3_missing 8 = .ok (.invokevirtual 32, 3) := by decide +kernel
theorem dX3_missing_11 : decode cX3_missing 11 = .ok (.invokestatic 38, 3) := by decide +kernel
theorem dX3_missing_14 : decode cX3_missing 14 = .ok (.dsub, 1) := by decide +kernel
theorem dX3_missing_15 : decode cX3_missing 15 = .ok (.aload_n 0, 1) := by decide +kernel
theorem dX3_missing_16 : decode cX3_missing 16 = .ok (.getfield 9, 3) := by decide +kernel
theorem dX3_missing_19 : decode cX3_missing 19 = .ok (.iload_n 1, 1) := by decide +kernel
theorem dX3_missing_20 : decode cX3_missing 20 = .ok (.daload, 1) := by decide +kernel
theorem dX3_missing_21 : decode cX3_missing 21 = .ok (.dsub, 1) := by decide +kernel
theorem dX3_missing_22 : decode cX3_missing 22 = .ok (.dreturn, 1) := by decide +kernel
