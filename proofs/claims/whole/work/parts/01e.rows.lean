theorem dX7_init_36 : decode cX7_init 36 = .ok (.newarray .double, 2) := by decide +kernel
theorem dX7_init_38 : decode cX7_init 38 = .ok (.putfield 24, 3) := by decide +kernel
theorem dX7_init_41 : decode cX7_init 41 = .ok (.aload_n 0, 1) := by decide +kernel
theorem dX7_init_42 : decode cX7_init 42 = .ok (.bipush 16, 2) := by decide +kernel
theorem dX7_init_44 : decode cX7_init 44 = .ok (.newarray .double, 2) := by decide +kernel
theorem dX7_init_46 : decode cX7_init 46 = .ok (.putfield 27, 3) := by decide +kernel
theorem dX7_init_49 : decode cX7_init 49 = .ok (.aload_n 0, 1) := by decide +kernel
theorem dX7_init_50 : decode cX7_init 50 = .ok (.bipush 16, 2) := by decide +kernel
theorem dX7_init_52 : decode cX7_init 52 = .ok (.newarray .boolean, 2) := by decide +kernel
theorem dX7_init_54 : decode cX7_init 54 = .ok (.putfield 30, 3) := by decide +kernel
theorem dX7_init_57 : decode cX7_init 57 = .ok (.aload_n 0, 1) := by decide +kernel
theorem dX7_init_58 : decode cX7_init 58 = .ok (.bipush 16, 2) := by decide +kernel
theorem dX7_init_60 : decode cX7_init 60 = .ok (.newarray .double, 2) := by decide +kernel
theorem dX7_init_62 : decode cX7_init 62 = .ok (.putfield 34, 3) := by decide +kernel
theorem dX7_init_65 : decode cX7_init 65 = .ok (.aload_n 0, 1) := by decide +kernel
theorem dX7_init_66 : decode cX7_init 66 = .ok (.bipush 8, 2) := by decide +kernel
theorem dX7_init_68 : decode cX7_init 68 = .ok (.newarray .int, 2) := by decide +kernel
theorem dX7_init_70 : decode cX7_init 70 = .ok (.putfield 37, 3) := by decide +kernel
theorem dX7_init_73 : decode cX7_init 73 = .ok (.aload_n 0, 1) := by decide +kernel
theorem dX7_init_74 : decode cX7_init 74 = .ok (.bipush 8, 2) := by decide +kernel
theorem dX7_init_76 : decode cX7_init 76 = .ok (.newarray .double, 2) := by decide +kernel
theorem dX7_init_78 : decode cX7_init 78 = .ok (.putfield 40, 3) := by decide +kernel
theorem dX7_init_81 : decode cX7_init 81 = .ok (.aload_n 0, 1) := by decide +kernel
theorem dX7_init_82 : decode cX7_init 82 = .ok (.bipush 32, 2) := by decide +kernel
theorem dX7_init_84 : decode cX7_init 84 = .ok (.newarray .boolean, 2) := by decide +kernel
theorem dX7_init_86 : decode cX7_init 86 = .ok (.putfield 43, 3) := by decide +kernel
theorem dX7_init_89 : decode cX7_init 89 = .ok (.aload_n 0, 1) := by decide +kernel
theorem dX7_init_90 : decode cX7_init 90 = .ok (.bipush 8, 2) := by decide +kernel
theorem dX7_init_92 : decode cX7_init 92 = .ok (.newarray .double, 2) := by decide +kernel
theorem dX7_init_94 : decode cX7_init 94 = .ok (.putfield 46, 3) := by decide +kernel
theorem dX7_init_97 : decode cX7_init 97 = .ok (.aload_n 0, 1) := by decide +kernel
theorem dX7_init_98 : decode cX7_init 98 = .ok (.bipush 8, 2) := by decide +kernel
theorem dX7_init_100 : decode cX7_init 100 = .ok (.newarray .boolean, 2) := by decide +kernel
theorem dX7_init_102 : decode cX7_init 102 = .ok (.putfield 49, 3) := by decide +kernel
theorem dX7_init_105 : decode cX7_init 105 = .ok (.aload_n 0, 1) := by decide +kernel
theorem dX7_init_106 : decode cX7_init 106 = .ok (.ldc2_w 52, 3) := by decide +kernel
theorem dX7_init_109 : decode cX7_init 109 = .ok (.putfield 54, 3) := by decide +kernel
theorem dX7_init_112 : decode cX7_init 112 = .ok (.aload_n 0, 1) := by decide +kernel
theorem dX7_init_113 : decode cX7_init 113 = .ok (.ldc2_w 58, 3) := by decide +kernel
theorem dX7_init_116 : decode cX7_init 116 = .ok (.putfield 60, 3) := by decide +kernel
theorem dX7_init_119 : decode cX7_init 119 = .ok (.aload_n 0, 1) := by decide +kernel
theorem dX7_init_120 : decode cX7_init 120 = .ok (.bipush 10, 2) := by decide +kernel
theorem dX7_init_122 : decode cX7_init 122 = .ok (.newarray .double, 2) := by decide +kernel
theorem dX7_init_124 : decode cX7_init 124 = .ok (.putfield 63, 3) := by decide +kernel
theorem dX7_init_127 : decode cX7_init 127 = .ok (.aload_n 0, 1) := by decide +kernel
theorem dX7_init_128 : decode cX7_init 128 = .ok (.bipush 6, 2) := by decide +kernel
theorem dX7_init_130 : decode cX7_init 130 = .ok (.newarray .double, 2) := by decide +kernel
theorem dX7_init_132 : decode cX7_init 132 = .ok (.putfield 66, 3) := by decide +kernel
theorem dX7_init_135 : decode cX7_init 135 = .ok (.aload_n 0, 1) := by decide +kernel
theorem dX7_init_136 : decode cX7_init 136 = .ok (.bipush 6, 2) := by decide +kernel
theorem dX7_init_138 : decode cX7_init 138 = .ok (.newarray .int, 2) := by decide +kernel
theorem dX7_init_140 : decode cX7_init 140 = .ok (.putfield 69, 3) := by decide +kernel
theorem dX7_init_143 : decode cX7_init 143 = .ok (.return_, 1) := by decide +kernel
theorem dX7_thrown_0 : decode cX7_thrown 0 = .ok (.aload_n 0, 1) := by decide +kernel
theorem dX7_thrown_1 : decode cX7_thrown 1 = .ok (.getfield 72, 3) := by decide +kernel
theorem dX7_thrown_4 : decode cX7_thrown 4 = .ok (.ireturn, 1) := by decide +kernel
theorem dX7_isIn_0 : decode cX7_isIn 0 = .ok (.iload_n 0, 1) := by decide +kernel
theorem dX7_isIn_1 : decode cX7_isIn 1 = .ok (.iload_n 1, 1) := by decide +kernel
theorem dX7_isIn_2 : decode cX7_isIn 2 = .ok (.if_icmp .lt 12, 3) := by decide +kernel
theorem dX7_isIn_5 : decode cX7_isIn 5 = .ok (.iload_n 0, 1) := by decide +kernel
theorem dX7_isIn_6 : decode cX7_isIn 6 = .ok (.iload_n 2, 1) := by decide +kernel
theorem dX7_isIn_7 : decode cX7_isIn 7 = .ok (.if_icmp .gt 7, 3) := by decide +kernel
theorem dX7_isIn_10 : decode cX7_isIn 10 = .ok (.iconst 1, 1) := by decide +kernel
theorem dX7_isIn_11 : decode cX7_isIn 11 = .ok (.goto 4, 3) := by decide +kernel
theorem dX7_isIn_14 : decode cX7_isIn 14 = .ok (.iconst 0, 1) := by decide +kernel
theorem dX7_isIn_15 : decode cX7_isIn 15 = .ok (.ireturn, 1) := by decide +kernel
theorem dX7_between_0 : decode cX7_between 0 = .ok (.dload_n 0, 1) := by decide +kernel
theorem dX7_between_1 : decode cX7_between 1 = .ok (.dload_n 2, 1) := by decide +kernel
theorem dX7_between_2 : decode cX7_between 2 = .ok (.dcmp .l, 1) := by decide +kernel
theorem dX7_between_3 : decode cX7_between 3 = .ok (.ifCond .lt 14, 3) := by decide +kernel
theorem dX7_between_6 : decode cX7_between 6 = .ok (.dload_n 0, 1) := by decide +kernel
theorem dX7_between_7 : decode cX7_between 7 = .ok (.dload 4, 2) := by decide +kernel
theorem dX7_between_9 : decode cX7_between 9 = .ok (.dcmp .g, 1) := by decide +kernel
theorem dX7_between_10 : decode cX7_between 10 = .ok (.ifCond .gt 7, 3) := by decide +kernel
theorem dX7_between_13 : decode cX7_between 13 = .ok (.iconst 1, 1) := by decide +kernel
theorem dX7_between_14 : decode cX7_between 14 = .ok (.goto 4, 3) := by decide +kernel
theorem dX7_between_17 : decode cX7_between 17 = .ok (.iconst 0, 1) := by decide +kernel
theorem dX7_between_18 : decode cX7_between 18 = .ok (.ireturn, 1) := by decide +kernel
theorem dX7_joint_0 : decode cX7_joint 0 = .ok (.aload_n 0, 1) := by decide +kernel
theorem dX7_joint_1 : decode cX7_joint 1 = .ok (.aload_n 0, 1) := by decide +kernel
theorem dX7_joint_2 : decode cX7_joint 2 = .ok (.getfield 7, 3) := by decide +kernel
theorem dX7_joint_5 : decode cX7_joint 5 = .ok (.bipush 10, 2) := by decide +kernel
theorem dX7_joint_7 : decode cX7_joint 7 = .ok (.if_icmp .ne 7, 3) := by decide +kernel
theorem dX7_joint_10 : decode cX7_joint 10 = .ok (.iconst 1, 1) := by decide +kernel
theorem dX7_joint_11 : decode cX7_joint 11 = .ok (.goto 4, 3) := by decide +kernel
theorem dX7_joint_14 : decode cX7_joint 14 = .ok (.iconst 0, 1) := by decide +kernel
theorem dX7_joint_15 : decode cX7_joint 15 = .ok (.putfield 72, 3) := by decide +kernel
theorem dX7_joint_18 : decode cX7_joint 18 = .ok (.aload_n 0, 1) := by decide +kernel
theorem dX7_joint_19 : decode cX7_joint 19 = .ok (.getfield 72, 3) := by decide +kernel
theorem dX7_joint_22 : decode cX7_joint 22 = .ok (.ifCond .le 5, 3) := by decide +kernel
theorem dX7_joint_25 : decode cX7_joint 25 = .ok (.iconst 0, 1) := by decide +kernel
theorem dX7_joint_26 : decode cX7_joint 26 = .ok (.ireturn, 1) := by decide +kernel
theorem dX7_joint_27 : decode cX7_joint 27 = .ok (.aload_n 0, 1) := by decide +kernel
theorem dX7_joint_28 : decode cX7_joint 28 = .ok (.dup, 1) := by decide +kernel
theorem dX7_joint_29 : decode cX7_joint 29 = .ok (.getfield 7, 3) := by decide +kernel
theorem dX7_joint_32 : decode cX7_joint 32 = .ok (.iconst 1, 1) := by decide +kernel
theorem dX7_joint_33 : decode cX7_joint 33 = .ok (.iadd, 1) := by decide +kernel
theorem dX7_joint_34 : decode cX7_joint 34 = .ok (.putfield 7, 3) := by decide +kernel
theorem dX7_joint_37 : decode cX7_joint 37 = .ok (.aload_n 0, 1) := by decide +kernel
theorem dX7_joint_38 : decode cX7_joint 38 = .ok (.iconst 0, 1) := by decide +kernel
theorem dX7_joint_39 : decode cX7_joint 39 = .ok (.putfield 75, 3) := by decide +kernel
theorem dX7_joint_42 : decode cX7_joint 42 = .ok (.aload_n 0, 1) := by decide +kernel
theorem dX7_joint_43 : decode cX7_joint 43 = .ok (.getfield 7, 3) := by decide +kernel
theorem dX7_joint_46 : decode cX7_joint 46 = .ok (.iconst 1, 1) := by decide +kernel
theorem dX7_joint_47 : decode cX7_joint 47 = .ok (.isub, 1) := by decide +kernel
theorem dX7_joint_48 : decode cX7_joint 48 = .ok (.ireturn, 1) := by decide +kernel
set_option maxRecDepth 20000 in
theorem ggX7_isJoint_X7_isIn : GoodIn wsX7_isJoint wsX7_isIn := goodIn_r _ [5] (by decide +kernel) (by decide +kernel)
set_option maxRecDepth 20000 in
theorem gX7_isJoint_X7_isIn : GoodIn wsX7_isJoint (va_wsS RX7 79 yX7_isIn wsX7_isIn) := goodIn_app (goodIn_of _ (by decide +kernel)) ggX7_isJoint_X7_isIn
theorem dX7_isJoint_0 : decode cX7_isJoint 0 = .ok (.iload_n 1, 1) := by decide +kernel
theorem dX7_isJoint_1 : decode cX7_isJoint 1 = .ok (.iconst 0, 1) := by decide +kernel
theorem dX7_isJoint_2 : decode cX7_isJoint 2 = .ok (.aload_n 0, 1) := by decide +kernel
theorem dX7_isJoint_3 : decode cX7_isJoint 3 = .ok (.getfield 7, 3) := by decide +kernel
theorem dX7_isJoint_6 : decode cX7_isJoint 6 = .ok (.iconst 1, 1) := by decide +kernel
theorem dX7_isJoint_7 : decode cX7_isJoint 7 = .ok (.isub, 1) := by decide +kernel
theorem dX7_isJoint_8 : decode cX7_isJoint 8 = .ok (.invokestatic 79, 3) := by decide +kernel
theorem dX7_isJoint_11 : decode cX7_isJoint 11 = .ok (.ireturn, 1) := by decide +kernel
set_option maxRecDepth 20000 in
theorem ggX7_duct_X7_between : GoodIn wsX7_duct wsX7_between := goodIn_r _ [13] (by decide +kernel) (by decide +kernel)
set_option maxRecDepth 20000 in
theorem gX7_duct_X7_between : GoodIn wsX7_duct (va_wsS RX7 87 yX7_between wsX7_between) := goodIn_app (goodIn_of _ (by decide +kernel)) ggX7_duct_X7_between
set_option maxRecDepth 20000 in
theorem ggX7_duct_X7_isJoint : GoodIn wsX7_duct wsX7_isJoint := goodIn_r _ [17, 18, 19, 20, 12, 21, 22, 23, 24, 25, 26, 27, 28, 29, 30, 31, 32, 33, 34, 35, 36, 37, 38, 39, 40, 41, 42, 43, 44, 45] (by decide +kernel) (by decide +kernel)
set_option maxRecDepth 20000 in
theorem gX7_duct_X7_isJoint : GoodIn wsX7_duct (wsV RX7 91 RX7 yX7_isJoint wsX7_isJoint) := goodIn_app (goodIn_of _ (by decide +kernel)) ggX7_duct_X7_isJoint
theorem dX7_duct_0 : decode cX7_duct 0 = .ok (.iload_n 1, 1) := by decide +kernel
theorem dX7_duct_1 : decode cX7_duct 1 = .ok (.iload_n 2, 1) := by decide +kernel
theorem dX7_duct_2 : decode cX7_duct 2 = .ok (.if_icmp .eq 34, 3) := by decide +kernel
theorem dX7_duct_5 : decode cX7_duct 5 = .ok (.dload_n 3, 1) := by decide +kernel
theorem dX7_duct_6 : decode cX7_duct 6 = .ok (.ldc2_w 83, 3) := by decide +kernel
theorem dX7_duct_9 : decode cX7_duct 9 = .ok (.ldc2_w 85, 3) := by decide +kernel
theorem dX7_duct_12 : decode cX7_duct 12 = .ok (.invokestatic 87, 3) := by decide +kernel
theorem dX7_duct_15 : decode cX7_duct 15 = .ok (.ifCond .eq 21, 3) := by decide +kernel
theorem dX7_duct_18 : decode cX7_duct 18 = .ok (.dload 5, 2) := by decide +kernel
theorem dX7_duct_20 : decode cX7_duct 20 = .ok (.ldc2_w 83, 3) := by decide +kernel
theorem dX7_duct_23 : decode cX7_duct 23 = .ok (.ldc2_w 85, 3) := by decide +kernel
theorem dX7_duct_26 : decode cX7_duct 26 = .ok (.invokestatic 87, 3) := by decide +kernel
theorem dX7_duct_29 : decode cX7_duct 29 = .ok (.ifCond .eq 7, 3) := by decide +kernel
theorem dX7_duct_32 : decode cX7_duct 32 = .ok (.iconst 1, 1) := by decide +kernel
theorem dX7_duct_33 : decode cX7_duct 33 = .ok (.goto 4, 3) := by decide +kernel
theorem dX7_duct_36 : decode cX7_duct 36 = .ok (.iconst 0, 1) := by decide +kernel
theorem dX7_duct_37 : decode cX7_duct 37 = .ok (.istore 7, 2) := by decide +kernel
theorem dX7_duct_39 : decode cX7_duct 39 = .ok (.aload_n 0, 1) := by decide +kernel
theorem dX7_duct_40 : decode cX7_duct 40 = .ok (.aload_n 0, 1) := by decide +kernel
theorem dX7_duct_41 : decode cX7_duct 41 = .ok (.iload_n 1, 1) := by decide +kernel
theorem dX7_duct_42 : decode cX7_duct 42 = .ok (.invokevirtual 91, 3) := by decide +kernel
theorem dX7_duct_45 : decode cX7_duct 45 = .ok (.ifCond .eq 11, 3) := by decide +kernel
theorem dX7_duct_48 : decode cX7_duct 48 = .ok (.aload_n 0, 1) := by decide +kernel
theorem dX7_duct_49 : decode cX7_duct 49 = .ok (.iload_n 2, 1) := by decide +kernel
theorem dX7_duct_50 : decode cX7_duct 50 = .ok (.invokevirtual 91, 3) := by decide +kernel
theorem dX7_duct_53 : decode cX7_duct 53 = .ok (.ifCond .ne 7, 3) := by decide +kernel
theorem dX7_duct_56 : decode cX7_duct 56 = .ok (.iconst 1, 1) := by decide +kernel
theorem dX7_duct_57 : decode cX7_duct 57 = .ok (.goto 26, 3) := by decide +kernel
theorem dX7_duct_60 : decode cX7_duct 60 = .ok (.iload 7, 2) := by decide +kernel
theorem dX7_duct_62 : decode cX7_duct 62 = .ok (.ifCond .ne 7, 3) := by decide +kernel
theorem dX7_duct_65 : decode cX7_duct 65 = .ok (.iconst 2, 1) := by decide +kernel
theorem dX7_duct_66 : decode cX7_duct 66 = .ok (.goto 17, 3) := by decide +kernel
theorem dX7_duct_69 : decode cX7_duct 69 = .ok (.aload_n 0, 1) := by decide +kernel
theorem dX7_duct_70 : decode cX7_duct 70 = .ok (.getfield 95, 3) := by decide +kernel
theorem dX7_duct_73 : decode cX7_duct 73 = .ok (.bipush 16, 2) := by decide +kernel
theorem dX7_duct_75 : decode cX7_duct 75 = .ok (.if_icmp .ne 7, 3) := by decide +kernel
theorem dX7_duct_78 : decode cX7_duct 78 = .ok (.iconst 3, 1) := by decide +kernel
theorem dX7_duct_79 : decode cX7_duct 79 = .ok (.goto 4, 3) := by decide +kernel
theorem dX7_duct_82 : decode cX7_duct 82 = .ok (.iconst 0, 1) := by decide +kernel
theorem dX7_duct_83 : decode cX7_duct 83 = .ok (.putfield 72, 3) := by decide +kernel
theorem dX7_duct_86 : decode cX7_duct 86 = .ok (.aload_n 0, 1) := by decide +kernel
theorem dX7_duct_87 : decode cX7_duct 87 = .ok (.getfield 72, 3) := by decide +kernel
theorem dX7_duct_90 : decode cX7_duct 90 = .ok (.ifCond .le 5, 3) := by decide +kernel
theorem dX7_duct_93 : decode cX7_duct 93 = .ok (.iconst 0, 1) := by decide +kernel
theorem dX7_duct_94 : decode cX7_duct 94 = .ok (.ireturn, 1) := by decide +kernel
theorem dX7_duct_95 : decode cX7_duct 95 = .ok (.aload_n 0, 1) := by decide +kernel
theorem dX7_duct_96 : decode cX7_duct 96 = .ok (.getfield 13, 3) := by decide +kernel
theorem dX7_duct_99 : decode cX7_duct 99 = .ok (.aload_n 0, 1) := by decide +kernel
theorem dX7_duct_100 : decode cX7_duct 100 = .ok (.getfield 95, 3) := by decide +kernel
theorem dX7_duct_103 : decode cX7_duct 103 = .ok (.iload_n 1, 1) := by decide +kernel
theorem dX7_duct_104 : decode cX7_duct 104 = .ok (.iastore, 1) := by decide +kernel
theorem dX7_duct_105 : decode cX7_duct 105 = .ok (.aload_n 0, 1) := by decide +kernel
theorem dX7_duct_106 : decode cX7_duct 106 = .ok (.getfield 17, 3) := by decide +kernel
theorem dX7_duct_109 : decode cX7_duct 109 = .ok (.aload_n 0, 1) := by decide +kernel
theorem dX7_duct_110 : decode cX7_duct 110 = .ok (.getfield 95, 3) := by decide +kernel
theorem dX7_duct_113 : decode cX7_duct 113 = .ok (.iload_n 2, 1) := by decide +kernel
theorem dX7_duct_114 : decode cX7_duct 114 = .ok (.iastore, 1) := by decide +kernel
theorem dX7_duct_115 : decode cX7_duct 115 = .ok (.aload_n 0, 1) := by decide +kernel
theorem dX7_duct_116 : decode cX7_duct 116 = .ok (.getfield 20, 3) := by decide +kernel
theorem dX7_duct_119 : decode cX7_duct 119 = .ok (.aload_n 0, 1) := by decide +kernel
theorem dX7_duct_120 : decode cX7_duct 120 = .ok (.getfield 95, 3) := by decide +kernel
theorem dX7_duct_123 : decode cX7_duct 123 = .ok (.dload_n 3, 1) := by decide +kernel
theorem dX7_duct_124 : decode cX7_duct 124 = .ok (.dastore, 1) := by decide +kernel
theorem dX7_duct_125 : decode cX7_duct 125 = .ok (.aload_n 0, 1) := by decide +kernel
theorem dX7_duct_126 : decode cX7_duct 126 = .ok (.getfield 24, 3) := by decide +kernel
theorem dX7_duct_129 : decode cX7_duct 129 = .ok (.aload_n 0, 1) := by decide +kernel
theorem dX7_duct_130 : decode cX7_duct 130 = .ok (.getfield 95, 3) := by decide +kernel
theorem dX7_duct_133 : decode cX7_duct 133 = .ok (.dload 5, 2) := by decide +kernel
theorem dX7_duct_135 : decode cX7_duct 135 = .ok (.dastore, 1) := by decide +kernel
theorem dX7_duct_136 : decode cX7_duct 136 = .ok (.aload_n 0, 1) := by decide +kernel
theorem dX7_duct_137 : decode cX7_duct 137 = .ok (.dup, 1) := by decide +kernel
theorem dX7_duct_138 : decode cX7_duct 138 = .ok (.getfield 95, 3) := by decide +kernel
theorem dX7_duct_141 : decode cX7_duct 141 = .ok (.iconst 1, 1) := by decide +kernel
theorem dX7_duct_142 : decode cX7_duct 142 = .ok (.iadd, 1) := by decide +kernel
theorem dX7_duct_143 : decode cX7_duct 143 = .ok (.putfield 95, 3) := by decide +kernel
theorem dX7_duct_146 : decode cX7_duct 146 = .ok (.aload_n 0, 1) := by decide +kernel
theorem dX7_duct_147 : decode cX7_duct 147 = .ok (.iconst 0, 1) := by decide +kernel
theorem dX7_duct_148 : decode cX7_duct 148 = .ok (.putfield 75, 3) := by decide +kernel
theorem dX7_duct_151 : decode cX7_duct 151 = .ok (.aload_n 0, 1) := by decide +kernel
theorem dX7_duct_152 : decode cX7_duct 152 = .ok (.getfield 95, 3) := by decide +kernel
theorem dX7_duct_155 : decode cX7_duct 155 = .ok (.iconst 1, 1) := by decide +kernel
theorem dX7_duct_156 : decode cX7_duct 156 = .ok (.isub, 1) := by decide +kernel
theorem dX7_duct_157 : decode cX7_duct 157 = .ok (.ireturn, 1) := by decide +kernel
set_option maxRecDepth 20000 in
theorem ggX7_machine_X7_isJoint : GoodIn wsX7_machine wsX7_isJoint := goodIn_r _ [12, 13, 14, 15, 11, 16, 20, 21, 22, 23, 24, 25, 26, 27, 28, 29, 30, 31, 32, 33, 34, 35, 36, 37, 38, 39, 40, 41, 42, 43] (by decide +kernel) (by decide +kernel)
set_option maxRecDepth 20000 in
theorem gX7_machine_X7_isJoint : GoodIn wsX7_machine (wsV RX7 91 RX7 yX7_isJoint wsX7_isJoint) := goodIn_app (goodIn_of _ (by decide +kernel)) ggX7_machine_X7_isJoint
set_option maxRecDepth 20000 in
theorem ggX7_machine_X7_between : GoodIn wsX7_machine wsX7_between := goodIn_r _ [19] (by decide +kernel) (by decide +kernel)
set_option maxRecDepth 20000 in
theorem gX7_machine_X7_between : GoodIn wsX7_machine (va_wsS RX7 87 yX7_between wsX7_between) := goodIn_app (goodIn_of _ (by decide +kernel)) ggX7_machine_X7_between
theorem dX7_machine_0 : decode cX7_machine 0 = .ok (.aload_n 0, 1) := by decide +kernel
theorem dX7_machine_1 : decode cX7_machine 1 = .ok (.aload_n 0, 1) := by decide +kernel
theorem dX7_machine_2 : decode cX7_machine 2 = .ok (.iload_n 1, 1) := by decide +kernel
theorem dX7_machine_3 : decode cX7_machine 3 = .ok (.invokevirtual 91, 3) := by decide +kernel
theorem dX7_machine_6 : decode cX7_machine 6 = .ok (.ifCond .ne 7, 3) := by decide +kernel
theorem dX7_machine_9 : decode cX7_machine 9 = .ok (.iconst 1, 1) := by decide +kernel
theorem dX7_machine_10 : decode cX7_machine 10 = .ok (.goto 38, 3) := by decide +kernel
theorem dX7_machine_13 : decode cX7_machine 13 = .ok (.iload_n 1, 1) := by decide +kernel
theorem dX7_machine_14 : decode cX7_machine 14 = .ok (.ifCond .eq 16, 3) := by decide +kernel
theorem dX7_machine_17 : decode cX7_machine 17 = .ok (.dload_n 2, 1) := by decide +kernel
theorem dX7_machine_18 : decode cX7_machine 18 = .ok (.ldc2_w 83, 3) := by decide +kernel
theorem dX7_machine_21 : decode cX7_machine 21 = .ok (.ldc2_w 98, 3) := by decide +kernel
theorem dX7_machine_24 : decode cX7_machine 24 = .ok (.invokestatic 87, 3) := by decide +kernel
theorem dX7_machine_27 : decode cX7_machine 27 = .ok (.ifCond .ne 7, 3) := by decide +kernel
theorem dX7_machine_30 : decode cX7_machine 30 = .ok (.iconst 2, 1) := by decide +kernel
theorem dX7_machine_31 : decode cX7_machine 31 = .ok (.goto 17, 3) := by decide +kernel
theorem dX7_machine_34 : decode cX7_machine 34 = .ok (.aload_n 0, 1) := by decide +kernel
theorem dX7_machine_35 : decode cX7_machine 35 = .ok (.getfield 100, 3) := by decide +kernel
theorem dX7_machine_38 : decode cX7_machine 38 = .ok (.bipush 8, 2) := by decide +kernel
theorem dX7_machine_40 : decode cX7_machine 40 = .ok (.if_icmp .ne 7, 3) := by decide +kernel
theorem dX7_machine_43 : decode cX7_machine 43 = .ok (.iconst 3, 1) := by decide +kernel
theorem dX7_machine_44 : decode cX7_machine 44 = .ok (.goto 4, 3) := by decide +kernel
theorem dX7_machine_47 : decode cX7_machine 47 = .ok (.iconst 0, 1) := by decide +kernel
theorem dX7_machine_48 : decode cX7_machine 48 = .ok (.putfield 72, 3) := by decide +kernel
theorem dX7_machine_51 : decode cX7_machine 51 = .ok (.aload_n 0, 1) := by decide +kernel
theorem dX7_machine_52 : decode cX7_machine 52 = .ok (.getfield 72, 3) := by decide +kernel
theorem dX7_machine_55 : decode cX7_machine 55 = .ok (.ifCond .le 5, 3) := by decide +kernel
theorem dX7_machine_58 : decode cX7_machine 58 = .ok (.iconst 0, 1) := by decide +kernel
theorem dX7_machine_59 : decode cX7_machine 59 = .ok (.ireturn, 1) := by decide +kernel
theorem dX7_machine_60 : decode cX7_machine 60 = .ok (.aload_n 0, 1) := by decide +kernel
theorem dX7_machine_61 : decode cX7_machine 61 = .ok (.getfield 37, 3) := by decide +kernel
theorem dX7_machine_64 : decode cX7_machine 64 = .ok (.aload_n 0, 1) := by decide +kernel
theorem dX7_machine_65 : decode cX7_machine 65 = .ok (.getfield 100, 3) := by decide +kernel
theorem dX7_machine_68 : decode cX7_machine 68 = .ok (.iload_n 1, 1) := by decide +kernel
theorem dX7_machine_69 : decode cX7_machine 69 = .ok (.iastore, 1) := by decide +kernel
theorem dX7_machine_70 : decode cX7_machine 70 = .ok (.aload_n 0, 1) := by decide +kernel
theorem dX7_machine_71 : decode cX7_machine 71 = .ok (.getfield 40, 3) := by decide +kernel
theorem dX7_machine_74 : decode cX7_machine 74 = .ok (.aload_n 0, 1) := by decide +kernel
theorem dX7_machine_75 : decode cX7_machine 75 = .ok (.getfield 100, 3) := by decide +kernel
theorem dX7_machine_78 : decode cX7_machine 78 = .ok (.dload_n 2, 1) := by decide +kernel
theorem dX7_machine_79 : decode cX7_machine 79 = .ok (.dastore, 1) := by decide +kernel
theorem dX7_machine_80 : decode cX7_machine 80 = .ok (.aload_n 0, 1) := by decide +kernel
theorem dX7_machine_81 : decode cX7_machine 81 = .ok (.dup, 1) := by decide +kernel
theorem dX7_machine_82 : decode cX7_machine 82 = .ok (.getfield 100, 3) := by decide +kernel
theorem dX7_machine_85 : decode cX7_machine 85 = .ok (.iconst 1, 1) := by decide +kernel
theorem dX7_machine_86 : decode cX7_machine 86 = .ok (.iadd, 1) := by decide +kernel
theorem dX7_machine_87 : decode cX7_machine 87 = .ok (.putfield 100, 3) := by decide +kernel
theorem dX7_machine_90 : decode cX7_machine 90 = .ok (.aload_n 0, 1) := by decide +kernel
theorem dX7_machine_91 : decode cX7_machine 91 = .ok (.iconst 0, 1) := by decide +kernel
theorem dX7_machine_92 : decode cX7_machine 92 = .ok (.putfield 75, 3) := by decide +kernel
theorem dX7_machine_95 : decode cX7_machine 95 = .ok (.aload_n 0, 1) := by decide +kernel
theorem dX7_machine_96 : decode cX7_machine 96 = .ok (.getfield 100, 3) := by decide +kernel
theorem dX7_machine_99 : decode cX7_machine 99 = .ok (.iconst 1, 1) := by decide +kernel
theorem dX7_machine_100 : decode cX7_machine 100 = .ok (.isub, 1) := by decide +kernel
theorem dX7_machine_101 : decode cX7_machine 101 = .ok (.ireturn, 1) := by decide +kernel
set_option maxRecDepth 20000 in
theorem ggX7_isMachine_X7_isIn : GoodIn wsX7_isMachine wsX7_isIn := goodIn_r _ [5] (by decide +kernel) (by decide +kernel)
set_option maxRecDepth 20000 in
theorem gX7_isMachine_X7_isIn : GoodIn wsX7_isMachine (va_wsS RX7 79 yX7_isIn wsX7_isIn) := goodIn_app (goodIn_of _ (by decide +kernel)) ggX7_isMachine_X7_isIn
theorem dX7_isMachine_0 : decode cX7_isMachine 0 = .ok (.iload_n 1, 1) := by decide +kernel
theorem dX7_isMachine_1 : decode cX7_isMachine 1 = .ok (.iconst 0, 1) := by decide +kernel
theorem dX7_isMachine_2 : decode cX7_isMachine 2 = .ok (.aload_n 0, 1) := by decide +kernel
theorem dX7_isMachine_3 : decode cX7_isMachine 3 = .ok (.getfield 100, 3) := by decide +kernel
theorem dX7_isMachine_6 : decode cX7_isMachine 6 = .ok (.iconst 1, 1) := by decide +kernel
theorem dX7_isMachine_7 : decode cX7_isMachine 7 = .ok (.isub, 1) := by decide +kernel
theorem dX7_isMachine_8 : decode cX7_isMachine 8 = .ok (.invokestatic 79, 3) := by decide +kernel
theorem dX7_isMachine_11 : decode cX7_isMachine 11 = .ok (.ireturn, 1) := by decide +kernel
set_option maxRecDepth 20000 in
theorem ggX7_use_X7_isIn : GoodIn wsX7_use wsX7_isIn := goodIn_r _ [7] (by decide +kernel) (by decide +kernel)
set_option maxRecDepth 20000 in
theorem gX7_use_X7_isIn : GoodIn wsX7_use (va_wsS RX7 79 yX7_isIn wsX7_isIn) := goodIn_app (goodIn_of _ (by decide +kernel)) ggX7_use_X7_isIn
set_option maxRecDepth 20000 in
theorem ggX7_use_X7_isMachine : GoodIn wsX7_use wsX7_isMachine := goodIn_r _ [11, 12, 4, 5, 6, 7, 13, 14, 15, 16, 17, 18, 19, 20, 21, 22, 23, 24, 25, 26, 27, 28, 29, 30, 31, 32, 33, 34, 35, 36] (by decide +kernel) (by decide +kernel)
set_option maxRecDepth 20000 in
theorem gX7_use_X7_isMachine : GoodIn wsX7_use (wsV RX7 103 RX7 yX7_isMachine wsX7_isMachine) := goodIn_app (goodIn_of _ (by decide +kernel)) ggX7_use_X7_isMachine
theorem dX7_use_0 : decode cX7_use 0 = .ok (.aload_n 0, 1) := by decide +kernel
theorem dX7_use_1 : decode cX7_use 1 = .ok (.iload_n 1, 1) := by decide +kernel
theorem dX7_use_2 : decode cX7_use 2 = .ok (.iconst 0, 1) := by decide +kernel
theorem dX7_use_3 : decode cX7_use 3 = .ok (.iconst 3, 1) := by decide +kernel
theorem dX7_use_4 : decode cX7_use 4 = .ok (.invokestatic 79, 3) := by decide +kernel
theorem dX7_use_7 : decode cX7_use 7 = .ok (.ifCond .eq 15, 3) := by decide +kernel
theorem dX7_use_10 : decode cX7_use 10 = .ok (.aload_n 0, 1) := by decide +kernel
theorem dX7_use_11 : decode cX7_use 11 = .ok (.iload_n 2, 1) := by decide +kernel
theorem dX7_use_12 : decode cX7_use 12 = .ok (.invokevirtual 103, 3) := by decide +kernel
theorem dX7_use_15 : decode cX7_use 15 = .ok (.ifCond .eq 7, 3) := by decide +kernel
theorem dX7_use_18 : decode cX7_use 18 = .ok (.iconst 0, 1) := by decide +kernel
theorem dX7_use_19 : decode cX7_use 19 = .ok (.goto 4, 3) := by decide +kernel
theorem dX7_use_22 : decode cX7_use 22 = .ok (.iconst 1, 1) := by decide +kernel
theorem dX7_use_23 : decode cX7_use 23 = .ok (.putfield 72, 3) := by decide +kernel
theorem dX7_use_26 : decode cX7_use 26 = .ok (.aload_n 0, 1) := by decide +kernel
theorem dX7_use_27 : decode cX7_use 27 = .ok (.getfield 72, 3) := by decide +kernel
theorem dX7_use_30 : decode cX7_use 30 = .ok (.ifCond .ne 20, 3) := by decide +kernel
theorem dX7_use_33 : decode cX7_use 33 = .ok (.aload_n 0, 1) := by decide +kernel
theorem dX7_use_34 : decode cX7_use 34 = .ok (.getfield 43, 3) := by decide +kernel
theorem dX7_use_37 : decode cX7_use 37 = .ok (.bipush 8, 2) := by decide +kernel
theorem dX7_use_39 : decode cX7_use 39 = .ok (.iload_n 1, 1) := by decide +kernel
theorem dX7_use_40 : decode cX7_use 40 = .ok (.imul, 1) := by decide +kernel
theorem dX7_use_41 : decode cX7_use 41 = .ok (.iload_n 2, 1) := by decide +kernel
theorem dX7_use_42 : decode cX7_use 42 = .ok (.iadd, 1) := by decide +kernel
theorem dX7_use_43 : decode cX7_use 43 = .ok (.iload_n 3, 1) := by decide +kernel
theorem dX7_use_44 : decode cX7_use 44 = .ok (.bastore, 1) := by decide +kernel
theorem dX7_use_45 : decode cX7_use 45 = .ok (.aload_n 0, 1) := by decide +kernel
theorem dX7_use_46 : decode cX7_use 46 = .ok (.iconst 0, 1) := by decide +kernel
theorem dX7_use_47 : decode cX7_use 47 = .ok (.putfield 75, 3) := by decide +kernel
theorem dX7_use_50 : decode cX7_use 50 = .ok (.return_, 1) := by decide +kernel
set_option maxRecDepth 20000 in
theorem ggX7_fan_X7_between : GoodIn wsX7_fan wsX7_between := goodIn_r _ [9] (by decide +kernel) (by decide +kernel)
set_option maxRecDepth 20000 in
theorem gX7_fan_X7_between : GoodIn wsX7_fan (va_wsS RX7 87 yX7_between wsX7_between) := goodIn_app (goodIn_of _ (by decide +kernel)) ggX7_fan_X7_between
theorem dX7_fan_0 : decode cX7_fan 0 = .ok (.aload_n 0, 1) := by decide +kernel
theorem dX7_fan_1 : decode cX7_fan 1 = .ok (.dload_n 1, 1) := by decide +kernel
theorem dX7_fan_2 : decode cX7_fan 2 = .ok (.dconst 0, 1) := by decide +kernel
theorem dX7_fan_3 : decode cX7_fan 3 = .ok (.ldc2_w 98, 3) := by decide +kernel
theorem dX7_fan_6 : decode cX7_fan 6 = .ok (.invokestatic 87, 3) := by decide +kernel
theorem dX7_fan_9 : decode cX7_fan 9 = .ok (.ifCond .eq 18, 3) := by decide +kernel
theorem dX7_fan_12 : decode cX7_fan 12 = .ok (.dload_n 3, 1) := by decide +kernel
theorem dX7_fan_13 : decode cX7_fan 13 = .ok (.dconst 0, 1) := by decide +kernel
theorem dX7_fan_14 : decode cX7_fan 14 = .ok (.ldc2_w 98, 3) := by decide +kernel
theorem dX7_fan_17 : decode cX7_fan 17 = .ok (.invokestatic 87, 3) := by decide +kernel
theorem dX7_fan_20 : decode cX7_fan 20 = .ok (.ifCond .eq 7, 3) := by decide +kernel
theorem dX7_fan_23 : decode cX7_fan 23 = .ok (.iconst 0, 1) := by decide +kernel
theorem dX7_fan_24 : decode cX7_fan 24 = .ok (.goto 4, 3) := by decide +kernel
theorem dX7_fan_27 : decode cX7_fan 27 = .ok (.iconst 1, 1) := by decide +kernel
theorem dX7_fan_28 : decode cX7_fan 28 = .ok (.putfield 72, 3) := by decide +kernel
theorem dX7_fan_31 : decode cX7_fan 31 = .ok (.aload_n 0, 1) := by decide +kernel
theorem dX7_fan_32 : decode cX7_fan 32 = .ok (.getfield 72, 3) := by decide +kernel
theorem dX7_fan_35 : decode cX7_fan 35 = .ok (.ifCond .ne 18, 3) := by decide +kernel
theorem dX7_fan_38 : decode cX7_fan 38 = .ok (.aload_n 0, 1) := by decide +kernel
theorem dX7_fan_39 : decode cX7_fan 39 = .ok (.dload_n 1, 1) := by decide +kernel
theorem dX7_fan_40 : decode cX7_fan 40 = .ok (.putfield 54, 3) := by decide +kernel
theorem dX7_fan_43 : decode cX7_fan 43 = .ok (.aload_n 0, 1) := by decide +kernel
theorem dX7_fan_44 : decode cX7_fan 44 = .ok (.dload_n 3, 1) := by decide +kernel
theorem dX7_fan_45 : decode cX7_fan 45 = .ok (.putfield 60, 3) := by decide +kernel
theorem dX7_fan_48 : decode cX7_fan 48 = .ok (.aload_n 0, 1) := by decide +kernel
theorem dX7_fan_49 : decode cX7_fan 49 = .ok (.iconst 0, 1) := by decide +kernel
theorem dX7_fan_50 : decode cX7_fan 50 = .ok (.putfield 75, 3) := by decide +kernel
theorem dX7_fan_53 : decode cX7_fan 53 = .ok (.return_, 1) := by decide +kernel
theorem dX7_ease_0 : decode cX7_ease 0 = .ok (.aload_n 0, 1) := by decide +kernel
theorem dX7_ease_1 : decode cX7_ease 1 = .ok (.getfield 24, 3) := by decide +kernel
theorem dX7_ease_4 : decode cX7_ease 4 = .ok (.iload_n 1, 1) := by decide +kernel
theorem dX7_ease_5 : decode cX7_ease 5 = .ok (.daload, 1) := by decide +kernel
theorem dX7_ease_6 : decode cX7_ease 6 = .ok (.aload_n 0, 1) := by decide +kernel
theorem dX7_ease_7 : decode cX7_ease 7 = .ok (.getfield 24, 3) := by decide +kernel
theorem dX7_ease_10 : decode cX7_ease 10 = .ok (.iload_n 1, 1) := by decide +kernel
theorem dX7_ease_11 : decode cX7_ease 11 = .ok (.daload, 1) := by decide +kernel
theorem dX7_ease_12 : decode cX7_ease 12 = .ok (.dmul, 1) := by decide +kernel
theorem dX7_ease_13 : decode cX7_ease 13 = .ok (.aload_n 0, 1) := by decide +kernel
theorem dX7_ease_14 : decode cX7_ease 14 = .ok (.getfield 24, 3) := by decide +kernel
theorem dX7_ease_17 : decode cX7_ease 17 = .ok (.iload_n 1, 1) := by decide +kernel
theorem dX7_ease_18 : decode cX7_ease 18 = .ok (.daload, 1) := by decide +kernel
theorem dX7_ease_19 : decode cX7_ease 19 = .ok (.dmul, 1) := by decide +kernel
theorem dX7_ease_20 : decode cX7_ease 20 = .ok (.aload_n 0, 1) := by decide +kernel
theorem dX7_ease_21 : decode cX7_ease 21 = .ok (.getfield 20, 3) := by decide +kernel
theorem dX7_ease_24 : decode cX7_ease 24 = .ok (.iload_n 1, 1) := by decide +kernel
theorem dX7_ease_25 : decode cX7_ease 25 = .ok (.daload, 1) := by decide +kernel
theorem dX7_ease_26 : decode cX7_ease 26 = .ok (.ddiv, 1) := by decide +kernel
theorem dX7_ease_27 : decode cX7_ease 27 = .ok (.dreturn, 1) := by decide +kernel
theorem dX7_other_0 : decode cX7_other 0 = .ok (.aload_n 0, 1) := by decide +kernel
theorem dX7_other_1 : decode cX7_other 1 = .ok (.getfield 13, 3) := by decide +kernel
theorem dX7_other_4 : decode cX7_other 4 = .ok (.iload_n 1, 1) := by decide +kernel
theorem dX7_other_5 : decode cX7_other 5 = .ok (.iaload, 1) := by decide +kernel
theorem dX7_other_6 : decode cX7_other 6 = .ok (.iload_n 2, 1) := by decide +kernel
theorem dX7_other_7 : decode cX7_other 7 = .ok (.if_icmp .ne 12, 3) := by decide +kernel
theorem dX7_other_10 : decode cX7_other 10 = .ok (.aload_n 0, 1) := by decide +kernel
theorem dX7_other_11 : decode cX7_other 11 = .ok (.getfield 17, 3) := by decide +kernel
theorem dX7_other_14 : decode cX7_other 14 = .ok (.iload_n 1, 1) := by decide +kernel
theorem dX7_other_15 : decode cX7_other 15 = .ok (.iaload, 1) := by decide +kernel
theorem dX7_other_16 : decode cX7_other 16 = .ok (.goto 23, 3) := by decide +kernel
theorem dX7_other_19 : decode cX7_other 19 = .ok (.aload_n 0, 1) := by decide +kernel
theorem dX7_other_20 : decode cX7_other 20 = .ok (.getfield 17, 3) := by decide +kernel
theorem dX7_other_23 : decode cX7_other 23 = .ok (.iload_n 1, 1) := by decide +kernel
theorem dX7_other_24 : decode cX7_other 24 = .ok (.iaload, 1) := by decide +kernel
theorem dX7_other_25 : decode cX7_other 25 = .ok (.iload_n 2, 1) := by decide +kernel
theorem dX7_other_26 : decode cX7_other 26 = .ok (.if_icmp .ne 12, 3) := by decide +kernel
theorem dX7_other_29 : decode cX7_other 29 = .ok (.aload_n 0, 1) := by decide +kernel
theorem dX7_other_30 : decode cX7_other 30 = .ok (.getfield 13, 3) := by decide +kernel
theorem dX7_other_33 : decode cX7_other 33 = .ok (.iload_n 1, 1) := by decide +kernel
theorem dX7_other_34 : decode cX7_other 34 = .ok (.iaload, 1) := by decide +kernel
theorem dX7_other_35 : decode cX7_other 35 = .ok (.goto 4, 3) := by decide +kernel
theorem dX7_other_38 : decode cX7_other 38 = .ok (.iconst (-1), 1) := by decide +kernel
theorem dX7_other_39 : decode cX7_other 39 = .ok (.ireturn, 1) := by decide +kernel
set_option maxRecDepth 20000 in
theorem ggX7_balance_X7_other : GoodIn wsX7_balance wsX7_other := goodIn_r _ [12, 13, 14, 21, 22, 23, 24, 25, 26, 27, 28, 29, 30, 31, 32, 33, 34, 35, 36, 37, 38, 39, 40, 41, 42, 43, 44] (by decide +kernel) (by decide +kernel)
set_option maxRecDepth 20000 in
theorem gX7_balance_X7_other : GoodIn wsX7_balance (wsV RX7 106 RX7 yX7_other wsX7_other) := goodIn_app (goodIn_of _ (by decide +kernel)) ggX7_balance_X7_other
set_option maxRecDepth 20000 in
theorem ggX7_balance_X7_ease : GoodIn wsX7_balance wsX7_ease := goodIn_r _ [18, 19, 20, 21, 22, 23, 24, 25, 26, 27, 28, 29, 30, 31, 32, 33, 34, 35, 36, 37, 38, 39, 40, 41, 42, 43, 44] (by decide +kernel) (by decide +kernel)
set_option maxRecDepth 20000 in
theorem gX7_balance_X7_ease : GoodIn wsX7_balance (wsV RX7 110 RX7 yX7_ease wsX7_ease) := goodIn_app (goodIn_of _ (by decide +kernel)) ggX7_balance_X7_ease
theorem dX7_balance_0 : decode cX7_balance 0 = .ok (.iconst 0, 1) := by decide +kernel
theorem dX7_balance_1 : decode cX7_balance 1 = .ok (.istore_n 2, 1) := by decide +kernel
theorem dX7_balance_2 : decode cX7_balance 2 = .ok (.dconst 0, 1) := by decide +kernel
theorem dX7_balance_3 : decode cX7_balance 3 = .ok (.dstore_n 3, 1) := by decide +kernel
theorem dX7_balance_4 : decode cX7_balance 4 = .ok (.dconst 0, 1) := by decide +kernel
theorem dX7_balance_5 : decode cX7_balance 5 = .ok (.dstore 5, 2) := by decide +kernel
theorem dX7_balance_7 : decode cX7_balance 7 = .ok (.iconst 0, 1) := by decide +kernel
theorem dX7_balance_8 : decode cX7_balance 8 = .ok (.istore 7, 2) := by decide +kernel
theorem dX7_balance_10 : decode cX7_balance 10 = .ok (.iload 7, 2) := by decide +kernel
theorem dX7_balance_12 : decode cX7_balance 12 = .ok (.aload_n 0, 1) := by decide +kernel
theorem dX7_balance_13 : decode cX7_balance 13 = .ok (.getfield 95, 3) := by decide +kernel
theorem dX7_balance_16 : decode cX7_balance 16 = .ok (.if_icmp .ge 54, 3) := by decide +kernel
theorem dX7_balance_19 : decode cX7_balance 19 = .ok (.aload_n 0, 1) := by decide +kernel
theorem dX7_balance_20 : decode cX7_balance 20 = .ok (.iload 7, 2) := by decide +kernel
theorem dX7_balance_22 : decode cX7_balance 22 = .ok (.iload_n 1, 1) := by decide +kernel
theorem dX7_balance_23 : decode cX7_balance 23 = .ok (.invokevirtual 106, 3) := by decide +kernel
theorem dX7_balance_26 : decode cX7_balance 26 = .ok (.istore 8, 2) := by decide +kernel
theorem dX7_balance_28 : decode cX7_balance 28 = .ok (.iload 8, 2) := by decide +kernel
theorem dX7_balance_30 : decode cX7_balance 30 = .ok (.iconst (-1), 1) := by decide +kernel
theorem dX7_balance_31 : decode cX7_balance 31 = .ok (.if_icmp .eq 33, 3) := by decide +kernel
theorem dX7_balance_34 : decode cX7_balance 34 = .ok (.dload_n 3, 1) := by decide +kernel
theorem dX7_balance_35 : decode cX7_balance 35 = .ok (.aload_n 0, 1) := by decide +kernel
theorem dX7_balance_36 : decode cX7_balance 36 = .ok (.iload 7, 2) := by decide +kernel
theorem dX7_balance_38 : decode cX7_balance 38 = .ok (.invokevirtual 110, 3) := by decide +kernel
theorem dX7_balance_41 : decode cX7_balance 41 = .ok (.aload_n 0, 1) := by decide +kernel
theorem dX7_balance_42 : decode cX7_balance 42 = .ok (.getfield 63, 3) := by decide +kernel
theorem dX7_balance_45 : decode cX7_balance 45 = .ok (.iload 8, 2) := by decide +kernel
theorem dX7_balance_47 : decode cX7_balance 47 = .ok (.daload, 1) := by decide +kernel
theorem dX7_balance_48 : decode cX7_balance 48 = .ok (.dmul, 1) := by decide +kernel
theorem dX7_balance_49 : decode cX7_balance 49 = .ok (.dadd, 1) := by decide +kernel
theorem dX7_balance_50 : decode cX7_balance 50 = .ok (.dstore_n 3, 1) := by decide +kernel
theorem dX7_balance_51 : decode cX7_balance 51 = .ok (.dload 5, 2) := by decide +kernel
theorem dX7_balance_53 : decode cX7_balance 53 = .ok (.aload_n 0, 1) := by decide +kernel
theorem dX7_balance_54 : decode cX7_balance 54 = .ok (.iload 7, 2) := by decide +kernel
theorem dX7_balance_56 : decode cX7_balance 56 = .ok (.invokevirtual 110, 3) := by decide +kernel
theorem dX7_balance_59 : decode cX7_balance 59 = .ok (.dadd, 1) := by decide +kernel
theorem dX7_balance_60 : decode cX7_balance 60 = .ok (.dstore 5, 2) := by decide +kernel
theorem dX7_balance_62 : decode cX7_balance 62 = .ok (.iconst 1, 1) := by decide +kernel
theorem dX7_balance_63 : decode cX7_balance 63 = .ok (.istore_n 2, 1) := by decide +kernel
theorem dX7_balance_64 : decode cX7_balance 64 = .ok (.iinc 7 1, 3) := by decide +kernel
theorem dX7_balance_67 : decode cX7_balance 67 = .ok (.goto (-57), 3) := by decide +kernel
theorem dX7_balance_70 : decode cX7_balance 70 = .ok (.iconst 0, 1) := by decide +kernel
theorem dX7_balance_71 : decode cX7_balance 71 = .ok (.istore 7, 2) := by decide +kernel
theorem dX7_balance_73 : decode cX7_balance 73 = .ok (.iload 7, 2) := by decide +kernel
theorem dX7_balance_75 : decode cX7_balance 75 = .ok (.aload_n 0, 1) := by decide +kernel
theorem dX7_balance_76 : decode cX7_balance 76 = .ok (.getfield 100, 3) := by decide +kernel
theorem dX7_balance_79 : decode cX7_balance 79 = .ok (.if_icmp .ge 51, 3) := by decide +kernel
theorem dX7_balance_82 : decode cX7_balance 82 = .ok (.aload_n 0, 1) := by decide +kernel
theorem dX7_balance_83 : decode cX7_balance 83 = .ok (.getfield 49, 3) := by decide +kernel
theorem dX7_balance_86 : decode cX7_balance 86 = .ok (.iload 7, 2) := by decide +kernel
theorem dX7_balance_88 : decode cX7_balance 88 = .ok (.baload, 1) := by decide +kernel
theorem dX7_balance_89 : decode cX7_balance 89 = .ok (.ifCond .eq 31, 3) := by decide +kernel
theorem dX7_balance_92 : decode cX7_balance 92 = .ok (.aload_n 0, 1) := by decide +kernel
theorem dX7_balance_93 : decode cX7_balance 93 = .ok (.getfield 37, 3) := by decide +kernel
theorem dX7_balance_96 : decode cX7_balance 96 = .ok (.iload 7, 2) := by decide +kernel
theorem dX7_balance_98 : decode cX7_balance 98 = .ok (.iaload, 1) := by decide +kernel
theorem dX7_balance_99 : decode cX7_balance 99 = .ok (.iload_n 1, 1) := by decide +kernel
theorem dX7_balance_100 : decode cX7_balance 100 = .ok (.if_icmp .ne 20, 3) := by decide +kernel
theorem dX7_balance_103 : decode cX7_balance 103 = .ok (.dload 5, 2) := by decide +kernel
theorem dX7_balance_105 : decode cX7_balance 105 = .ok (.aload_n 0, 1) := by decide +kernel
theorem dX7_balance_106 : decode cX7_balance 106 = .ok (.getfield 46, 3) := by decide +kernel
theorem dX7_balance_109 : decode cX7_balance 109 = .ok (.iload 7, 2) := by decide +kernel
theorem dX7_balance_111 : decode cX7_balance 111 = .ok (.daload, 1) := by decide +kernel
theorem dX7_balance_112 : decode cX7_balance 112 = .ok (.ldc2_w 114, 3) := by decide +kernel
theorem dX7_balance_115 : decode cX7_balance 115 = .ok (.dmul, 1) := by decide +kernel
theorem dX7_balance_116 : decode cX7_balance 116 = .ok (.dadd, 1) := by decide +kernel
theorem dX7_balance_117 : decode cX7_balance 117 = .ok (.goto 5, 3) := by decide +kernel
theorem dX7_balance_120 : decode cX7_balance 120 = .ok (.dload 5, 2) := by decide +kernel
theorem dX7_balance_122 : decode cX7_balance 122 = .ok (.dstore 5, 2) := by decide +kernel
theorem dX7_balance_124 : decode cX7_balance 124 = .ok (.iinc 7 1, 3) := by decide +kernel
theorem dX7_balance_127 : decode cX7_balance 127 = .ok (.goto (-54), 3) := by decide +kernel
theorem dX7_balance_130 : decode cX7_balance 130 = .ok (.iload_n 2, 1) := by decide +kernel
theorem dX7_balance_131 : decode cX7_balance 131 = .ok (.ifCond .eq 10, 3) := by decide +kernel
theorem dX7_balance_134 : decode cX7_balance 134 = .ok (.dload_n 3, 1) := by decide +kernel
theorem dX7_balance_135 : decode cX7_balance 135 = .ok (.dload 5, 2) := by decide +kernel
theorem dX7_balance_137 : decode cX7_balance 137 = .ok (.ddiv, 1) := by decide +kernel
theorem dX7_balance_138 : decode cX7_balance 138 = .ok (.goto 9, 3) := by decide +kernel
theorem dX7_balance_141 : decode cX7_balance 141 = .ok (.aload_n 0, 1) := by decide +kernel
theorem dX7_balance_142 : decode cX7_balance 142 = .ok (.getfield 63, 3) := by decide +kernel
theorem dX7_balance_145 : decode cX7_balance 145 = .ok (.iload_n 1, 1) := by decide +kernel
theorem dX7_balance_146 : decode cX7_balance 146 = .ok (.daload, 1) := by decide +kernel
theorem dX7_balance_147 : decode cX7_balance 147 = .ok (.dreturn, 1) := by decide +kernel
set_option maxRecDepth 20000 in
theorem ggX7_round_X7_balance : GoodIn wsX7_round wsX7_balance := goodIn_r _ [11, 6, 4, 12, 13, 14, 15, 16, 17, 18, 19, 10, 20, 21, 22, 23, 24, 25, 26, 27, 28, 29, 30, 31, 32, 33, 34, 35, 36, 37, 38, 39, 40, 41, 42, 43, 44, 45, 46, 47, 48, 49, 50, 51, 52] (by decide +kernel) (by decide +kernel)
set_option maxRecDepth 20000 in
theorem gX7_round_X7_balance : GoodIn wsX7_round (wsV RX7 119 RX7 yX7_balance wsX7_balance) := goodIn_app (goodIn_of _ (by decide +kernel)) ggX7_round_X7_balance
set_option maxRecDepth 20000 in
theorem ggX7_round_X7_other : GoodIn wsX7_round wsX7_other := goodIn_r _ [20, 21, 22, 29, 30, 31, 32, 33, 34, 35, 36, 37, 38, 39, 40, 41, 42, 43, 44, 45, 46, 47, 48, 49, 50, 51, 52] (by decide +kernel) (by decide +kernel)
set_option maxRecDepth 20000 in
theorem gX7_round_X7_other : GoodIn wsX7_round (wsV RX7 106 RX7 yX7_other wsX7_other) := goodIn_app (goodIn_of _ (by decide +kernel)) ggX7_round_X7_other
set_option maxRecDepth 20000 in
theorem ggX7_round_X7_ease : GoodIn wsX7_round wsX7_ease := goodIn_r _ [26, 27, 28, 29, 30, 31, 32, 33, 34, 35, 36, 37, 38, 39, 40, 41, 42, 43, 44, 45, 46, 47, 48, 49, 50, 51, 52] (by decide +kernel) (by decide +kernel)
set_option maxRecDepth 20000 in
theorem gX7_round_X7_ease : GoodIn wsX7_round (wsV RX7 110 RX7 yX7_ease wsX7_ease) := goodIn_app (goodIn_of _ (by decide +kernel)) ggX7_round_X7_ease
theorem dX7_round_0 : decode cX7_round 0 = .ok (.dconst 0, 1) := by decide +kernel
theorem dX7_round_1 : decode cX7_round 1 = .ok (.aload_n 0, 1) := by decide +kernel
theorem dX7_round_2 : decode cX7_round 2 = .ok (.getfield 54, 3) := by decide +kernel
theorem dX7_round_5 : decode cX7_round 5 = .ok (.aload_n 0, 1) := by decide +kernel
theorem dX7_round_6 : decode cX7_round 6 = .ok (.getfield 60, 3) := by decide +kernel
theorem dX7_round_9 : decode cX7_round 9 = .ok (.aload_n 0, 1) := by decide +kernel
theorem dX7_round_10 : decode cX7_round 10 = .ok (.getfield 116, 3) := by decide +kernel
theorem dX7_round_13 : decode cX7_round 13 = .ok (.dmul, 1) := by decide +kernel
theorem dX7_round_14 : decode cX7_round 14 = .ok (.dsub, 1) := by decide +kernel
theorem dX7_round_15 : decode cX7_round 15 = .ok (.dsub, 1) := by decide +kernel
theorem dX7_round_16 : decode cX7_round 16 = .ok (.dstore_n 1, 1) := by decide +kernel
theorem dX7_round_17 : decode cX7_round 17 = .ok (.aload_n 0, 1) := by decide +kernel
theorem dX7_round_18 : decode cX7_round 18 = .ok (.getfield 63, 3) := by decide +kernel
theorem dX7_round_21 : decode cX7_round 21 = .ok (.iconst 0, 1) := by decide +kernel
theorem dX7_round_22 : decode cX7_round 22 = .ok (.dload_n 1, 1) := by decide +kernel
theorem dX7_round_23 : decode cX7_round 23 = .ok (.dconst 0, 1) := by decide +kernel
theorem dX7_round_24 : decode cX7_round 24 = .ok (.dcmp .l, 1) := by decide +kernel
theorem dX7_round_25 : decode cX7_round 25 = .ok (.ifCond .le 7, 3) := by decide +kernel
theorem dX7_round_28 : decode cX7_round 28 = .ok (.dconst 0, 1) := by decide +kernel
theorem dX7_round_29 : decode cX7_round 29 = .ok (.goto 4, 3) := by decide +kernel
theorem dX7_round_32 : decode cX7_round 32 = .ok (.dload_n 1, 1) := by decide +kernel
theorem dX7_round_33 : decode cX7_round 33 = .ok (.dastore, 1) := by decide +kernel
theorem dX7_round_34 : decode cX7_round 34 = .ok (.dconst 0, 1) := by decide +kernel
theorem dX7_round_35 : decode cX7_round 35 = .ok (.dstore_n 3, 1) := by decide +kernel
theorem dX7_round_36 : decode cX7_round 36 = .ok (.iconst 1, 1) := by decide +kernel
theorem dX7_round_37 : decode cX7_round 37 = .ok (.istore 5, 2) := by decide +kernel
theorem dX7_round_39 : decode cX7_round 39 = .ok (.iload 5, 2) := by decide +kernel
theorem dX7_round_41 : decode cX7_round 41 = .ok (.aload_n 0, 1) := by decide +kernel
theorem dX7_round_42 : decode cX7_round 42 = .ok (.getfield 7, 3) := by decide +kernel
theorem dX7_round_45 : decode cX7_round 45 = .ok (.if_icmp .ge 69, 3) := by decide +kernel
theorem dX7_round_48 : decode cX7_round 48 = .ok (.aload_n 0, 1) := by decide +kernel
theorem dX7_round_49 : decode cX7_round 49 = .ok (.iload 5, 2) := by decide +kernel
theorem dX7_round_51 : decode cX7_round 51 = .ok (.invokevirtual 119, 3) := by decide +kernel
theorem dX7_round_54 : decode cX7_round 54 = .ok (.dstore 6, 2) := by decide +kernel
theorem dX7_round_56 : decode cX7_round 56 = .ok (.dload 6, 2) := by decide +kernel
theorem dX7_round_58 : decode cX7_round 58 = .ok (.aload_n 0, 1) := by decide +kernel
theorem dX7_round_59 : decode cX7_round 59 = .ok (.getfield 63, 3) := by decide +kernel
theorem dX7_round_62 : decode cX7_round 62 = .ok (.iload 5, 2) := by decide +kernel
theorem dX7_round_64 : decode cX7_round 64 = .ok (.daload, 1) := by decide +kernel
theorem dX7_round_65 : decode cX7_round 65 = .ok (.dsub, 1) := by decide +kernel
theorem dX7_round_66 : decode cX7_round 66 = .ok (.dstore 8, 2) := by decide +kernel
theorem dX7_round_68 : decode cX7_round 68 = .ok (.dload 8, 2) := by decide +kernel
theorem dX7_round_70 : decode cX7_round 70 = .ok (.dconst 0, 1) := by decide +kernel
theorem dX7_round_71 : decode cX7_round 71 = .ok (.dcmp .g, 1) := by decide +kernel
theorem dX7_round_72 : decode cX7_round 72 = .ok (.ifCond .ge 9, 3) := by decide +kernel
theorem dX7_round_75 : decode cX7_round 75 = .ok (.dload 8, 2) := by decide +kernel
theorem dX7_round_77 : decode cX7_round 77 = .ok (.dneg, 1) := by decide +kernel
theorem dX7_round_78 : decode cX7_round 78 = .ok (.goto 5, 3) := by decide +kernel
theorem dX7_round_81 : decode cX7_round 81 = .ok (.dload 8, 2) := by decide +kernel
theorem dX7_round_83 : decode cX7_round 83 = .ok (.dstore 8, 2) := by decide +kernel
theorem dX7_round_85 : decode cX7_round 85 = .ok (.dload 8, 2) := by decide +kernel
theorem dX7_round_87 : decode cX7_round 87 = .ok (.dload_n 3, 1) := by decide +kernel
theorem dX7_round_88 : decode cX7_round 88 = .ok (.dcmp .l, 1) := by decide +kernel
theorem dX7_round_89 : decode cX7_round 89 = .ok (.ifCond .le 8, 3) := by decide +kernel
theorem dX7_round_92 : decode cX7_round 92 = .ok (.dload 8, 2) := by decide +kernel
theorem dX7_round_94 : decode cX7_round 94 = .ok (.goto 4, 3) := by decide +kernel
theorem dX7_round_97 : decode cX7_round 97 = .ok (.dload_n 3, 1) := by decide +kernel
theorem dX7_round_98 : decode cX7_round 98 = .ok (.dstore_n 3, 1) := by decide +kernel
theorem dX7_round_99 : decode cX7_round 99 = .ok (.aload_n 0, 1) := by decide +kernel
theorem dX7_round_100 : decode cX7_round 100 = .ok (.getfield 63, 3) := by decide +kernel
theorem dX7_round_103 : decode cX7_round 103 = .ok (.iload 5, 2) := by decide +kernel
theorem dX7_round_105 : decode cX7_round 105 = .ok (.dload 6, 2) := by decide +kernel
theorem dX7_round_107 : decode cX7_round 107 = .ok (.dastore, 1) := by decide +kernel
theorem dX7_round_108 : decode cX7_round 108 = .ok (.iinc 5 1, 3) := by decide +kernel
theorem dX7_round_111 : decode cX7_round 111 = .ok (.goto (-72), 3) := by decide +kernel
theorem dX7_round_114 : decode cX7_round 114 = .ok (.dconst 0, 1) := by decide +kernel
theorem dX7_round_115 : decode cX7_round 115 = .ok (.dstore 5, 2) := by decide +kernel
theorem dX7_round_117 : decode cX7_round 117 = .ok (.iconst 0, 1) := by decide +kernel
theorem dX7_round_118 : decode cX7_round 118 = .ok (.istore 7, 2) := by decide +kernel
theorem dX7_round_120 : decode cX7_round 120 = .ok (.iload 7, 2) := by decide +kernel
theorem dX7_round_122 : decode cX7_round 122 = .ok (.aload_n 0, 1) := by decide +kernel
theorem dX7_round_123 : decode cX7_round 123 = .ok (.getfield 95, 3) := by decide +kernel
theorem dX7_round_126 : decode cX7_round 126 = .ok (.if_icmp .ge 55, 3) := by decide +kernel
theorem dX7_round_129 : decode cX7_round 129 = .ok (.aload_n 0, 1) := by decide +kernel
theorem dX7_round_130 : decode cX7_round 130 = .ok (.iload 7, 2) := by decide +kernel
theorem dX7_round_132 : decode cX7_round 132 = .ok (.iconst 0, 1) := by decide +kernel
theorem dX7_round_133 : decode cX7_round 133 = .ok (.invokevirtual 106, 3) := by decide +kernel
theorem dX7_round_136 : decode cX7_round 136 = .ok (.istore 8, 2) := by decide +kernel
theorem dX7_round_138 : decode cX7_round 138 = .ok (.iload 8, 2) := by decide +kernel
theorem dX7_round_140 : decode cX7_round 140 = .ok (.iconst (-1), 1) := by decide +kernel
theorem dX7_round_141 : decode cX7_round 141 = .ok (.if_icmp .ne 8, 3) := by decide +kernel
theorem dX7_round_144 : decode cX7_round 144 = .ok (.dload 5, 2) := by decide +kernel
theorem dX7_round_146 : decode cX7_round 146 = .ok (.goto 27, 3) := by decide +kernel
theorem dX7_round_149 : decode cX7_round 149 = .ok (.dload 5, 2) := by decide +kernel
theorem dX7_round_151 : decode cX7_round 151 = .ok (.aload_n 0, 1) := by decide +kernel
theorem dX7_round_152 : decode cX7_round 152 = .ok (.iload 7, 2) := by decide +kernel
theorem dX7_round_154 : decode cX7_round 154 = .ok (.invokevirtual 110, 3) := by decide +kernel
theorem dX7_round_157 : decode cX7_round 157 = .ok (.aload_n 0, 1) := by decide +kernel
theorem dX7_round_158 : decode cX7_round 158 = .ok (.getfield 63, 3) := by decide +kernel
theorem dX7_round_161 : decode cX7_round 161 = .ok (.iload 8, 2) := by decide +kernel
theorem dX7_round_163 : decode cX7_round 163 = .ok (.daload, 1) := by decide +kernel
theorem dX7_round_164 : decode cX7_round 164 = .ok (.aload_n 0, 1) := by decide +kernel
theorem dX7_round_165 : decode cX7_round 165 = .ok (.getfield 63, 3) := by decide +kernel
theorem dX7_round_168 : decode cX7_round 168 = .ok (.iconst 0, 1) := by decide +kernel
theorem dX7_round_169 : decode cX7_round 169 = .ok (.daload, 1) := by decide +kernel
theorem dX7_round_170 : decode cX7_round 170 = .ok (.dsub, 1) := by decide +kernel
theorem dX7_round_171 : decode cX7_round 171 = .ok (.dmul, 1) := by decide +kernel
theorem dX7_round_172 : decode cX7_round 172 = .ok (.dadd, 1) := by decide +kernel
theorem dX7_round_173 : decode cX7_round 173 = .ok (.dstore 5, 2) := by decide +kernel
theorem dX7_round_175 : decode cX7_round 175 = .ok (.iinc 7 1, 3) := by decide +kernel
theorem dX7_round_178 : decode cX7_round 178 = .ok (.goto (-58), 3) := by decide +kernel
theorem dX7_round_181 : decode cX7_round 181 = .ok (.aload_n 0, 1) := by decide +kernel
theorem dX7_round_182 : decode cX7_round 182 = .ok (.dload 5, 2) := by decide +kernel
theorem dX7_round_184 : decode cX7_round 184 = .ok (.dconst 0, 1) := by decide +kernel
theorem dX7_round_185 : decode cX7_round 185 = .ok (.dcmp .g, 1) := by decide +kernel
theorem dX7_round_186 : decode cX7_round 186 = .ok (.ifCond .ge 7, 3) := by decide +kernel
theorem dX7_round_189 : decode cX7_round 189 = .ok (.dconst 0, 1) := by decide +kernel
theorem dX7_round_190 : decode cX7_round 190 = .ok (.goto 5, 3) := by decide +kernel
theorem dX7_round_193 : decode cX7_round 193 = .ok (.dload 5, 2) := by decide +kernel
theorem dX7_round_195 : decode cX7_round 195 = .ok (.putfield 116, 3) := by decide +kernel
theorem dX7_round_198 : decode cX7_round 198 = .ok (.dload_n 3, 1) := by decide +kernel
theorem dX7_round_199 : decode cX7_round 199 = .ok (.dreturn, 1) := by decide +kernel
theorem dX7_drawOf_0 : decode cX7_drawOf 0 = .ok (.aload_n 0, 1) := by decide +kernel
theorem dX7_drawOf_1 : decode cX7_drawOf 1 = .ok (.getfield 49, 3) := by decide +kernel
theorem dX7_drawOf_4 : decode cX7_drawOf 4 = .ok (.iload_n 1, 1) := by decide +kernel
theorem dX7_drawOf_5 : decode cX7_drawOf 5 = .ok (.baload, 1) := by decide +kernel
theorem dX7_drawOf_6 : decode cX7_drawOf 6 = .ok (.ifCond .eq 30, 3) := by decide +kernel
theorem dX7_drawOf_9 : decode cX7_drawOf 9 = .ok (.aload_n 0, 1) := by decide +kernel
theorem dX7_drawOf_10 : decode cX7_drawOf 10 = .ok (.getfield 46, 3) := by decide +kernel
theorem dX7_drawOf_13 : decode cX7_drawOf 13 = .ok (.iload_n 1, 1) := by decide +kernel
theorem dX7_drawOf_14 : decode cX7_drawOf 14 = .ok (.daload, 1) := by decide +kernel
theorem dX7_drawOf_15 : decode cX7_drawOf 15 = .ok (.ldc2_w 114, 3) := by decide +kernel
theorem dX7_drawOf_18 : decode cX7_drawOf 18 = .ok (.dmul, 1) := by decide +kernel
theorem dX7_drawOf_19 : decode cX7_drawOf 19 = .ok (.dconst 0, 1) := by decide +kernel
theorem dX7_drawOf_20 : decode cX7_drawOf 20 = .ok (.aload_n 0, 1) := by decide +kernel
theorem dX7_drawOf_21 : decode cX7_drawOf 21 = .ok (.getfield 63, 3) := by decide +kernel
theorem dX7_drawOf_24 : decode cX7_drawOf 24 = .ok (.aload_n 0, 1) := by decide +kernel
theorem dX7_drawOf_25 : decode cX7_drawOf 25 = .ok (.getfield 37, 3) := by decide +kernel
theorem dX7_drawOf_28 : decode cX7_drawOf 28 = .ok (.iload_n 1, 1) := by decide +kernel
theorem dX7_drawOf_29 : decode cX7_drawOf 29 = .ok (.iaload, 1) := by decide +kernel
theorem dX7_drawOf_30 : decode cX7_drawOf 30 = .ok (.daload, 1) := by decide +kernel
theorem dX7_drawOf_31 : decode cX7_drawOf 31 = .ok (.dsub, 1) := by decide +kernel
theorem dX7_drawOf_32 : decode cX7_drawOf 32 = .ok (.dmul, 1) := by decide +kernel
theorem dX7_drawOf_33 : decode cX7_drawOf 33 = .ok (.goto 4, 3) := by decide +kernel
theorem dX7_drawOf_36 : decode cX7_drawOf 36 = .ok (.dconst 0, 1) := by decide +kernel
theorem dX7_drawOf_37 : decode cX7_drawOf 37 = .ok (.dstore_n 2, 1) := by decide +kernel
theorem dX7_drawOf_38 : decode cX7_drawOf 38 = .ok (.dload_n 2, 1) := by decide +kernel
theorem dX7_drawOf_39 : decode cX7_drawOf 39 = .ok (.dconst 0, 1) := by decide +kernel
theorem dX7_drawOf_40 : decode cX7_drawOf 40 = .ok (.dcmp .g, 1) := by decide +kernel
theorem dX7_drawOf_41 : decode cX7_drawOf 41 = .ok (.ifCond .ge 7, 3) := by decide +kernel
theorem dX7_drawOf_44 : decode cX7_drawOf 44 = .ok (.dconst 0, 1) := by decide +kernel
theorem dX7_drawOf_45 : decode cX7_drawOf 45 = .ok (.goto 4, 3) := by decide +kernel
theorem dX7_drawOf_48 : decode cX7_drawOf 48 = .ok (.dload_n 2, 1) := by decide +kernel
theorem dX7_drawOf_49 : decode cX7_drawOf 49 = .ok (.dreturn, 1) := by decide +kernel
set_option maxRecDepth 20000 in
theorem ggX7_close_X7_drawOf : GoodIn wsX7_close wsX7_drawOf := goodIn_r _ [11, 2, 6, 12, 13, 14, 15, 16, 17, 18, 19, 20, 21, 22, 23, 24, 25, 26, 27, 28, 29, 30, 31, 32, 33, 34, 35, 36, 37, 38] (by decide +kernel) (by decide +kernel)
set_option maxRecDepth 20000 in
theorem gX7_close_X7_drawOf : GoodIn wsX7_close (wsV RX7 122 RX7 yX7_drawOf wsX7_drawOf) := goodIn_app (goodIn_of _ (by decide +kernel)) ggX7_close_X7_drawOf
theorem dX7_close_0 : decode cX7_close 0 = .ok (.iconst 0, 1) := by decide +kernel
theorem dX7_close_1 : decode cX7_close 1 = .ok (.istore_n 1, 1) := by decide +kernel
theorem dX7_close_2 : decode cX7_close 2 = .ok (.iconst 0, 1) := by decide +kernel
theorem dX7_close_3 : decode cX7_close 3 = .ok (.istore_n 2, 1) := by decide +kernel
theorem dX7_close_4 : decode cX7_close 4 = .ok (.iload_n 2, 1) := by decide +kernel
theorem dX7_close_5 : decode cX7_close 5 = .ok (.aload_n 0, 1) := by decide +kernel
theorem dX7_close_6 : decode cX7_close 6 = .ok (.getfield 100, 3) := by decide +kernel
theorem dX7_close_9 : decode cX7_close 9 = .ok (.if_icmp .ge 85, 3) := by decide +kernel
theorem dX7_close_12 : decode cX7_close 12 = .ok (.aload_n 0, 1) := by decide +kernel
theorem dX7_close_13 : decode cX7_close 13 = .ok (.iload_n 2, 1) := by decide +kernel
theorem dX7_close_14 : decode cX7_close 14 = .ok (.invokevirtual 122, 3) := by decide +kernel
theorem dX7_close_17 : decode cX7_close 17 = .ok (.dstore_n 3, 1) := by decide +kernel
theorem dX7_close_18 : decode cX7_close 18 = .ok (.aload_n 0, 1) := by decide +kernel
theorem dX7_close_19 : decode cX7_close 19 = .ok (.getfield 49, 3) := by decide +kernel
theorem dX7_close_22 : decode cX7_close 22 = .ok (.iload_n 2, 1) := by decide +kernel
theorem dX7_close_23 : decode cX7_close 23 = .ok (.baload, 1) := by decide +kernel
theorem dX7_close_24 : decode cX7_close 24 = .ok (.ifCond .eq 64, 3) := by decide +kernel
theorem dX7_close_27 : decode cX7_close 27 = .ok (.dload_n 3, 1) := by decide +kernel
theorem dX7_close_28 : decode cX7_close 28 = .ok (.aload_n 0, 1) := by decide +kernel
theorem dX7_close_29 : decode cX7_close 29 = .ok (.getfield 40, 3) := by decide +kernel
theorem dX7_close_32 : decode cX7_close 32 = .ok (.iload_n 2, 1) := by decide +kernel
theorem dX7_close_33 : decode cX7_close 33 = .ok (.daload, 1) := by decide +kernel
theorem dX7_close_34 : decode cX7_close 34 = .ok (.dcmp .l, 1) := by decide +kernel
theorem dX7_close_35 : decode cX7_close 35 = .ok (.ifCond .le 53, 3) := by decide +kernel
theorem dX7_close_38 : decode cX7_close 38 = .ok (.iload_n 1, 1) := by decide +kernel
theorem dX7_close_39 : decode cX7_close 39 = .ok (.ifCond .ne 22, 3) := by decide +kernel
theorem dX7_close_42 : decode cX7_close 42 = .ok (.dload_n 3, 1) := by decide +kernel
theorem dX7_close_43 : decode cX7_close 43 = .ok (.ldc2_w 98, 3) := by decide +kernel
theorem dX7_close_46 : decode cX7_close 46 = .ok (.dmul, 1) := by decide +kernel
theorem dX7_close_47 : decode cX7_close 47 = .ok (.aload_n 0, 1) := by decide +kernel
theorem dX7_close_48 : decode cX7_close 48 = .ok (.getfield 40, 3) := by decide +kernel
theorem dX7_close_51 : decode cX7_close 51 = .ok (.iload_n 2, 1) := by decide +kernel
theorem dX7_close_52 : decode cX7_close 52 = .ok (.daload, 1) := by decide +kernel
theorem dX7_close_53 : decode cX7_close 53 = .ok (.ldc2_w 125, 3) := by decide +kernel
theorem dX7_close_56 : decode cX7_close 56 = .ok (.dmul, 1) := by decide +kernel
theorem dX7_close_57 : decode cX7_close 57 = .ok (.dcmp .l, 1) := by decide +kernel
theorem dX7_close_58 : decode cX7_close 58 = .ok (.ifCond .le 7, 3) := by decide +kernel
theorem dX7_close_61 : decode cX7_close 61 = .ok (.iconst 1, 1) := by decide +kernel
theorem dX7_close_62 : decode cX7_close 62 = .ok (.goto 4, 3) := by decide +kernel
theorem dX7_close_65 : decode cX7_close 65 = .ok (.iconst 0, 1) := by decide +kernel
theorem dX7_close_66 : decode cX7_close 66 = .ok (.istore_n 1, 1) := by decide +kernel
theorem dX7_close_67 : decode cX7_close 67 = .ok (.aload_n 0, 1) := by decide +kernel
theorem dX7_close_68 : decode cX7_close 68 = .ok (.getfield 46, 3) := by decide +kernel
theorem dX7_close_71 : decode cX7_close 71 = .ok (.iload_n 2, 1) := by decide +kernel
theorem dX7_close_72 : decode cX7_close 72 = .ok (.aload_n 0, 1) := by decide +kernel
theorem dX7_close_73 : decode cX7_close 73 = .ok (.getfield 46, 3) := by decide +kernel
theorem dX7_close_76 : decode cX7_close 76 = .ok (.iload_n 2, 1) := by decide +kernel
theorem dX7_close_77 : decode cX7_close 77 = .ok (.daload, 1) := by decide +kernel
theorem dX7_close_78 : decode cX7_close 78 = .ok (.aload_n 0, 1) := by decide +kernel
theorem dX7_close_79 : decode cX7_close 79 = .ok (.getfield 40, 3) := by decide +kernel
theorem dX7_close_82 : decode cX7_close 82 = .ok (.iload_n 2, 1) := by decide +kernel
theorem dX7_close_83 : decode cX7_close 83 = .ok (.daload, 1) := by decide +kernel
theorem dX7_close_84 : decode cX7_close 84 = .ok (.dmul, 1) := by decide +kernel
theorem dX7_close_85 : decode cX7_close 85 = .ok (.dload_n 3, 1) := by decide +kernel
theorem dX7_close_86 : decode cX7_close 86 = .ok (.ddiv, 1) := by decide +kernel
theorem dX7_close_87 : decode cX7_close 87 = .ok (.dastore, 1) := by decide +kernel
theorem dX7_close_88 : decode cX7_close 88 = .ok (.iinc 2 1, 3) := by decide +kernel
theorem dX7_close_91 : decode cX7_close 91 = .ok (.goto (-87), 3) := by decide +kernel
theorem dX7_close_94 : decode cX7_close 94 = .ok (.iload_n 1, 1) := by decide +kernel
theorem dX7_close_95 : decode cX7_close 95 = .ok (.ireturn, 1) := by decide +kernel
set_option maxRecDepth 20000 in
theorem ggX7_solveNow_X7_round : GoodIn wsX7_solveNow wsX7_round := goodIn_r _ [13, 14, 15, 6, 1, 16, 17, 18, 19, 20, 12, 21, 3, 2, 22, 5, 23, 24, 25, 26, 27, 28, 29, 30, 31, 32, 33, 34, 35, 47, 48, 49, 50, 51, 52, 53, 54, 55, 56, 57, 58, 59, 60, 61, 62, 63, 64, 65, 66, 67, 68, 69, 70] (by decide +kernel) (by decide +kernel)
set_option maxRecDepth 20000 in
theorem gX7_solveNow_X7_round : GoodIn wsX7_solveNow (wsV RX7 127 RX7 yX7_round wsX7_round) := goodIn_app (goodIn_of _ (by decide +kernel)) ggX7_solveNow_X7_round
set_option maxRecDepth 20000 in
theorem ggX7_solveNow_X7_close : GoodIn wsX7_solveNow wsX7_close := goodIn_r _ [39, 3, 2, 40, 41, 42, 5, 43, 44, 45, 12, 46, 23, 1, 22, 47, 48, 49, 50, 51, 52, 53, 54, 55, 56, 57, 58, 59, 60, 61, 62, 63, 64, 65, 66, 67, 68, 69, 70] (by decide +kernel) (by decide +kernel)
set_option maxRecDepth 20000 in
theorem gX7_solveNow_X7_close : GoodIn wsX7_solveNow (wsV RX7 133 RX7 yX7_close wsX7_close) := goodIn_app (goodIn_of _ (by decide +kernel)) ggX7_solveNow_X7_close
theorem dX7_solveNow_0 : decode cX7_solveNow 0 = .ok (.iconst 0, 1) := by decide +kernel
theorem dX7_solveNow_1 : decode cX7_solveNow 1 = .ok (.istore_n 2, 1) := by decide +kernel
theorem dX7_solveNow_2 : decode cX7_solveNow 2 = .ok (.iload_n 2, 1) := by decide +kernel
theorem dX7_solveNow_3 : decode cX7_solveNow 3 = .ok (.bipush 10, 2) := by decide +kernel
theorem dX7_solveNow_5 : decode cX7_solveNow 5 = .ok (.if_icmp .ge 16, 3) := by decide +kernel
theorem dX7_solveNow_8 : decode cX7_solveNow 8 = .ok (.aload_n 0, 1) := by decide +kernel
theorem dX7_solveNow_9 : decode cX7_solveNow 9 = .ok (.getfield 63, 3) := by decide +kernel
theorem dX7_solveNow_12 : decode cX7_solveNow 12 = .ok (.iload_n 2, 1) := by decide +kernel
theorem dX7_solveNow_13 : decode cX7_solveNow 13 = .ok (.dconst 0, 1) := by decide +kernel
theorem dX7_solveNow_14 : decode cX7_solveNow 14 = .ok (.dastore, 1) := by decide +kernel
theorem dX7_solveNow_15 : decode cX7_solveNow 15 = .ok (.iinc 2 1, 3) := by decide +kernel
theorem dX7_solveNow_18 : decode cX7_solveNow 18 = .ok (.goto (-16), 3) := by decide +kernel
theorem dX7_solveNow_21 : decode cX7_solveNow 21 = .ok (.iconst 0, 1) := by decide +kernel
theorem dX7_solveNow_22 : decode cX7_solveNow 22 = .ok (.istore_n 2, 1) := by decide +kernel
theorem dX7_solveNow_23 : decode cX7_solveNow 23 = .ok (.iload_n 2, 1) := by decide +kernel
theorem dX7_solveNow_24 : decode cX7_solveNow 24 = .ok (.bipush 8, 2) := by decide +kernel
theorem dX7_solveNow_26 : decode cX7_solveNow 26 = .ok (.if_icmp .ge 62, 3) := by decide +kernel
theorem dX7_solveNow_29 : decode cX7_solveNow 29 = .ok (.aload_n 0, 1) := by decide +kernel
theorem dX7_solveNow_30 : decode cX7_solveNow 30 = .ok (.getfield 49, 3) := by decide +kernel
theorem dX7_solveNow_33 : decode cX7_solveNow 33 = .ok (.iload_n 2, 1) := by decide +kernel
theorem dX7_solveNow_34 : decode cX7_solveNow 34 = .ok (.iload_n 2, 1) := by decide +kernel
theorem dX7_solveNow_35 : decode cX7_solveNow 35 = .ok (.aload_n 0, 1) := by decide +kernel
theorem dX7_solveNow_36 : decode cX7_solveNow 36 = .ok (.getfield 100, 3) := by decide +kernel
theorem dX7_solveNow_39 : decode cX7_solveNow 39 = .ok (.if_icmp .ge 21, 3) := by decide +kernel
theorem dX7_solveNow_42 : decode cX7_solveNow 42 = .ok (.aload_n 0, 1) := by decide +kernel
theorem dX7_solveNow_43 : decode cX7_solveNow 43 = .ok (.getfield 43, 3) := by decide +kernel
theorem dX7_solveNow_46 : decode cX7_solveNow 46 = .ok (.bipush 8, 2) := by decide +kernel
theorem dX7_solveNow_48 : decode cX7_solveNow 48 = .ok (.iload_n 1, 1) := by decide +kernel
theorem dX7_solveNow_49 : decode cX7_solveNow 49 = .ok (.imul, 1) := by decide +kernel
theorem dX7_solveNow_50 : decode cX7_solveNow 50 = .ok (.iload_n 2, 1) := by decide +kernel
theorem dX7_solveNow_51 : decode cX7_solveNow 51 = .ok (.iadd, 1) := by decide +kernel
theorem dX7_solveNow_52 : decode cX7_solveNow 52 = .ok (.baload, 1) := by decide +kernel
theorem dX7_solveNow_53 : decode cX7_solveNow 53 = .ok (.ifCond .eq 7, 3) := by decide +kernel
theorem dX7_solveNow_56 : decode cX7_solveNow 56 = .ok (.iconst 1, 1) := by decide +kernel
theorem dX7_solveNow_57 : decode cX7_solveNow 57 = .ok (.goto 4, 3) := by decide +kernel
theorem dX7_solveNow_60 : decode cX7_solveNow 60 = .ok (.iconst 0, 1) := by decide +kernel
theorem dX7_solveNow_61 : decode cX7_solveNow 61 = .ok (.bastore, 1) := by decide +kernel
theorem dX7_solveNow_62 : decode cX7_solveNow 62 = .ok (.aload_n 0, 1) := by decide +kernel
theorem dX7_solveNow_63 : decode cX7_solveNow 63 = .ok (.getfield 46, 3) := by decide +kernel
theorem dX7_solveNow_66 : decode cX7_solveNow 66 = .ok (.iload_n 2, 1) := by decide +kernel
theorem dX7_solveNow_67 : decode cX7_solveNow 67 = .ok (.aload_n 0, 1) := by decide +kernel
theorem dX7_solveNow_68 : decode cX7_solveNow 68 = .ok (.getfield 49, 3) := by decide +kernel
theorem dX7_solveNow_71 : decode cX7_solveNow 71 = .ok (.iload_n 2, 1) := by decide +kernel
theorem dX7_solveNow_72 : decode cX7_solveNow 72 = .ok (.baload, 1) := by decide +kernel
theorem dX7_solveNow_73 : decode cX7_solveNow 73 = .ok (.ifCond .eq 7, 3) := by decide +kernel
theorem dX7_solveNow_76 : decode cX7_solveNow 76 = .ok (.dconst 1, 1) := by decide +kernel
theorem dX7_solveNow_77 : decode cX7_solveNow 77 = .ok (.goto 4, 3) := by decide +kernel
theorem dX7_solveNow_80 : decode cX7_solveNow 80 = .ok (.dconst 0, 1) := by decide +kernel
theorem dX7_solveNow_81 : decode cX7_solveNow 81 = .ok (.dastore, 1) := by decide +kernel
theorem dX7_solveNow_82 : decode cX7_solveNow 82 = .ok (.iinc 2 1, 3) := by decide +kernel
theorem dX7_solveNow_85 : decode cX7_solveNow 85 = .ok (.goto (-62), 3) := by decide +kernel
theorem dX7_solveNow_88 : decode cX7_solveNow 88 = .ok (.aload_n 0, 1) := by decide +kernel
theorem dX7_solveNow_89 : decode cX7_solveNow 89 = .ok (.dconst 0, 1) := by decide +kernel
theorem dX7_solveNow_90 : decode cX7_solveNow 90 = .ok (.putfield 116, 3) := by decide +kernel
theorem dX7_solveNow_93 : decode cX7_solveNow 93 = .ok (.aload_n 0, 1) := by decide +kernel
theorem dX7_solveNow_94 : decode cX7_solveNow 94 = .ok (.iconst 0, 1) := by decide +kernel
theorem dX7_solveNow_95 : decode cX7_solveNow 95 = .ok (.putfield 75, 3) := by decide +kernel
theorem dX7_solveNow_98 : decode cX7_solveNow 98 = .ok (.iconst 0, 1) := by decide +kernel
theorem dX7_solveNow_99 : decode cX7_solveNow 99 = .ok (.istore_n 2, 1) := by decide +kernel
theorem dX7_solveNow_100 : decode cX7_solveNow 100 = .ok (.iconst 1, 1) := by decide +kernel
theorem dX7_solveNow_101 : decode cX7_solveNow 101 = .ok (.istore_n 3, 1) := by decide +kernel
theorem dX7_solveNow_102 : decode cX7_solveNow 102 = .ok (.iload_n 3, 1) := by decide +kernel
theorem dX7_solveNow_103 : decode cX7_solveNow 103 = .ok (.bipush 10, 2) := by decide +kernel
theorem dX7_solveNow_105 : decode cX7_solveNow 105 = .ok (.if_icmp .gt 77, 3) := by decide +kernel
theorem dX7_solveNow_108 : decode cX7_solveNow 108 = .ok (.iconst 0, 1) := by decide +kernel
theorem dX7_solveNow_109 : decode cX7_solveNow 109 = .ok (.istore 4, 2) := by decide +kernel
theorem dX7_solveNow_111 : decode cX7_solveNow 111 = .ok (.iconst 1, 1) := by decide +kernel
theorem dX7_solveNow_112 : decode cX7_solveNow 112 = .ok (.istore 5, 2) := by decide +kernel
theorem dX7_solveNow_114 : decode cX7_solveNow 114 = .ok (.iload 5, 2) := by decide +kernel
theorem dX7_solveNow_116 : decode cX7_solveNow 116 = .ok (.ifCond .eq 45, 3) := by decide +kernel
theorem dX7_solveNow_119 : decode cX7_solveNow 119 = .ok (.aload_n 0, 1) := by decide +kernel
theorem dX7_solveNow_120 : decode cX7_solveNow 120 = .ok (.invokevirtual 127, 3) := by decide +kernel
theorem dX7_solveNow_123 : decode cX7_solveNow 123 = .ok (.dstore 6, 2) := by decide +kernel
theorem dX7_solveNow_125 : decode cX7_solveNow 125 = .ok (.iinc 4 1, 3) := by decide +kernel
theorem dX7_solveNow_128 : decode cX7_solveNow 128 = .ok (.dload 6, 2) := by decide +kernel
theorem dX7_solveNow_130 : decode cX7_solveNow 130 = .ok (.ldc2_w 131, 3) := by decide +kernel
theorem dX7_solveNow_133 : decode cX7_solveNow 133 = .ok (.dcmp .l, 1) := by decide +kernel
theorem dX7_solveNow_134 : decode cX7_solveNow 134 = .ok (.ifCond .lt 7, 3) := by decide +kernel
theorem dX7_solveNow_137 : decode cX7_solveNow 137 = .ok (.iconst 1, 1) := by decide +kernel
theorem dX7_solveNow_138 : decode cX7_solveNow 138 = .ok (.goto 4, 3) := by decide +kernel
theorem dX7_solveNow_141 : decode cX7_solveNow 141 = .ok (.iconst 0, 1) := by decide +kernel
theorem dX7_solveNow_142 : decode cX7_solveNow 142 = .ok (.istore 5, 2) := by decide +kernel
theorem dX7_solveNow_144 : decode cX7_solveNow 144 = .ok (.iload 5, 2) := by decide +kernel
theorem dX7_solveNow_146 : decode cX7_solveNow 146 = .ok (.ifCond .eq 12, 3) := by decide +kernel
theorem dX7_solveNow_149 : decode cX7_solveNow 149 = .ok (.iload 4, 2) := by decide +kernel
theorem dX7_solveNow_151 : decode cX7_solveNow 151 = .ok (.bipush 100, 2) := by decide +kernel
theorem dX7_solveNow_153 : decode cX7_solveNow 153 = .ok (.if_icmp .ne 5, 3) := by decide +kernel
theorem dX7_solveNow_156 : decode cX7_solveNow 156 = .ok (.iconst (-1), 1) := by decide +kernel
theorem dX7_solveNow_157 : decode cX7_solveNow 157 = .ok (.ireturn, 1) := by decide +kernel
theorem dX7_solveNow_158 : decode cX7_solveNow 158 = .ok (.goto (-44), 3) := by decide +kernel
theorem dX7_solveNow_161 : decode cX7_solveNow 161 = .ok (.iload_n 2, 1) := by decide +kernel
theorem dX7_solveNow_162 : decode cX7_solveNow 162 = .ok (.iload 4, 2) := by decide +kernel
theorem dX7_solveNow_164 : decode cX7_solveNow 164 = .ok (.iadd, 1) := by decide +kernel
theorem dX7_solveNow_165 : decode cX7_solveNow 165 = .ok (.istore_n 2, 1) := by decide +kernel
theorem dX7_solveNow_166 : decode cX7_solveNow 166 = .ok (.aload_n 0, 1) := by decide +kernel
theorem dX7_solveNow_167 : decode cX7_solveNow 167 = .ok (.invokevirtual 133, 3) := by decide +kernel
theorem dX7_solveNow_170 : decode cX7_solveNow 170 = .ok (.ifCond .ne 6, 3) := by decide +kernel
theorem dX7_solveNow_173 : decode cX7_solveNow 173 = .ok (.goto 9, 3) := by decide +kernel
theorem dX7_solveNow_176 : decode cX7_solveNow 176 = .ok (.iinc 3 1, 3) := by decide +kernel
theorem dX7_solveNow_179 : decode cX7_solveNow 179 = .ok (.goto (-77), 3) := by decide +kernel
theorem dX7_solveNow_182 : decode cX7_solveNow 182 = .ok (.aload_n 0, 1) := by decide +kernel
theorem dX7_solveNow_183 : decode cX7_solveNow 183 = .ok (.iconst 1, 1) := by decide +kernel
theorem dX7_solveNow_184 : decode cX7_solveNow 184 = .ok (.putfield 75, 3) := by decide +kernel
theorem dX7_solveNow_187 : decode cX7_solveNow 187 = .ok (.iload_n 2, 1) := by decide +kernel
theorem dX7_solveNow_188 : decode cX7_solveNow 188 = .ok (.ireturn, 1) := by decide +kernel
set_option maxRecDepth 20000 in
theorem ggX7_solve_X7_isIn : GoodIn wsX7_solve wsX7_isIn := goodIn_r _ [5] (by decide +kernel) (by decide +kernel)
set_option maxRecDepth 20000 in
theorem gX7_solve_X7_isIn : GoodIn wsX7_solve (va_wsS RX7 79 yX7_isIn wsX7_isIn) := goodIn_app (goodIn_of _ (by decide +kernel)) ggX7_solve_X7_isIn
set_option maxRecDepth 20000 in
theorem ggX7_solve_X7_solveNow : GoodIn wsX7_solve wsX7_solveNow := goodIn_r _ [9, 10, 11, 12, 13, 14, 15, 16, 17, 18, 19, 20, 4, 21, 22, 23, 24, 25, 26, 27, 28, 29, 30, 31, 32, 33, 34, 35, 36, 37, 38, 39, 40, 41, 42, 43, 44, 45, 46, 47, 48, 49, 50, 51, 52, 53, 54, 55, 56, 57, 58, 59, 60, 61, 62, 63, 64, 65, 66, 67, 68, 69, 70, 71, 72, 73, 74, 75, 76, 77, 78] (by decide +kernel) (by decide +kernel)
set_option maxRecDepth 20000 in
theorem gX7_solve_X7_solveNow : GoodIn wsX7_solve (wsV RX7 137 RX7 yX7_solveNow wsX7_solveNow) := goodIn_app (goodIn_of _ (by decide +kernel)) ggX7_solve_X7_solveNow
theorem dX7_solve_0 : decode cX7_solve 0 = .ok (.aload_n 0, 1) := by decide +kernel
theorem dX7_solve_1 : decode cX7_solve 1 = .ok (.iload_n 1, 1) := by decide +kernel
theorem dX7_solve_2 : decode cX7_solve 2 = .ok (.iconst 0, 1) := by decide +kernel
theorem dX7_solve_3 : decode cX7_solve 3 = .ok (.iconst 3, 1) := by decide +kernel
theorem dX7_solve_4 : decode cX7_solve 4 = .ok (.invokestatic 79, 3) := by decide +kernel
theorem dX7_solve_7 : decode cX7_solve 7 = .ok (.ifCond .eq 7, 3) := by decide +kernel
theorem dX7_solve_10 : decode cX7_solve 10 = .ok (.iconst 0, 1) := by decide +kernel
theorem dX7_solve_11 : decode cX7_solve 11 = .ok (.goto 4, 3) := by decide +kernel
theorem dX7_solve_14 : decode cX7_solve 14 = .ok (.iconst 1, 1) := by decide +kernel
theorem dX7_solve_15 : decode cX7_solve 15 = .ok (.putfield 72, 3) := by decide +kernel
theorem dX7_solve_18 : decode cX7_solve 18 = .ok (.aload_n 0, 1) := by decide +kernel
theorem dX7_solve_19 : decode cX7_solve 19 = .ok (.getfield 72, 3) := by decide +kernel
theorem dX7_solve_22 : decode cX7_solve 22 = .ok (.ifCond .le 7, 3) := by decide +kernel
theorem dX7_solve_25 : decode cX7_solve 25 = .ok (.iconst 0, 1) := by decide +kernel
theorem dX7_solve_26 : decode cX7_solve 26 = .ok (.goto 8, 3) := by decide +kernel
theorem dX7_solve_29 : decode cX7_solve 29 = .ok (.aload_n 0, 1) := by decide +kernel
theorem dX7_solve_30 : decode cX7_solve 30 = .ok (.iload_n 1, 1) := by decide +kernel
theorem dX7_solve_31 : decode cX7_solve 31 = .ok (.invokevirtual 137, 3) := by decide +kernel
theorem dX7_solve_34 : decode cX7_solve 34 = .ok (.ireturn, 1) := by decide +kernel
set_option maxRecDepth 20000 in
theorem ggX7_flowOf_X7_ease : GoodIn wsX7_flowOf wsX7_ease := goodIn_r _ [8, 9, 10, 11, 12, 13, 14, 15, 16, 17, 18, 19, 20, 21, 22, 23, 24, 25, 26, 27, 28, 29, 30, 31, 32, 33, 34] (by decide +kernel) (by decide +kernel)
set_option maxRecDepth 20000 in
theorem gX7_flowOf_X7_ease : GoodIn wsX7_flowOf (wsV RX7 110 RX7 yX7_ease wsX7_ease) := goodIn_app (goodIn_of _ (by decide +kernel)) ggX7_flowOf_X7_ease
theorem dX7_flowOf_0 : decode cX7_flowOf 0 = .ok (.aload_n 0, 1) := by decide +kernel
theorem dX7_flowOf_1 : decode cX7_flowOf 1 = .ok (.iload_n 1, 1) := by decide +kernel
theorem dX7_flowOf_2 : decode cX7_flowOf 2 = .ok (.invokevirtual 110, 3) := by decide +kernel
theorem dX7_flowOf_5 : decode cX7_flowOf 5 = .ok (.aload_n 0, 1) := by decide +kernel
theorem dX7_flowOf_6 : decode cX7_flowOf 6 = .ok (.getfield 63, 3) := by decide +kernel
theorem dX7_flowOf_9 : decode cX7_flowOf 9 = .ok (.aload_n 0, 1) := by decide +kernel
theorem dX7_flowOf_10 : decode cX7_flowOf 10 = .ok (.getfield 13, 3) := by decide +kernel
theorem dX7_flowOf_13 : decode cX7_flowOf 13 = .ok (.iload_n 1, 1) := by decide +kernel
theorem dX7_flowOf_14 : decode cX7_flowOf 14 = .ok (.iaload, 1) := by decide +kernel
theorem dX7_flowOf_15 : decode cX7_flowOf 15 = .ok (.daload, 1) := by decide +kernel
theorem dX7_flowOf_16 : decode cX7_flowOf 16 = .ok (.aload_n 0, 1) := by decide +kernel
theorem dX7_flowOf_17 : decode cX7_flowOf 17 = .ok (.getfield 63, 3) := by decide +kernel
theorem dX7_flowOf_20 : decode cX7_flowOf 20 = .ok (.aload_n 0, 1) := by decide +kernel
theorem dX7_flowOf_21 : decode cX7_flowOf 21 = .ok (.getfield 17, 3) := by decide +kernel
theorem dX7_flowOf_24 : decode cX7_flowOf 24 = .ok (.iload_n 1, 1) := by decide +kernel
theorem dX7_flowOf_25 : decode cX7_flowOf 25 = .ok (.iaload, 1) := by decide +kernel
theorem dX7_flowOf_26 : decode cX7_flowOf 26 = .ok (.daload, 1) := by decide +kernel
theorem dX7_flowOf_27 : decode cX7_flowOf 27 = .ok (.dsub, 1) := by decide +kernel
theorem dX7_flowOf_28 : decode cX7_flowOf 28 = .ok (.dmul, 1) := by decide +kernel
theorem dX7_flowOf_29 : decode cX7_flowOf 29 = .ok (.dreturn, 1) := by decide +kernel
theorem dX7_isWrong_0 : decode cX7_isWrong 0 = .ok (.aload_n 0, 1) := by decide +kernel
theorem dX7_isWrong_1 : decode cX7_isWrong 1 = .ok (.iload_n 1, 1) := by decide +kernel
theorem dX7_isWrong_2 : decode cX7_isWrong 2 = .ok (.ifCond .ne 7, 3) := by decide +kernel
theorem dX7_isWrong_5 : decode cX7_isWrong 5 = .ok (.iconst 1, 1) := by decide +kernel
theorem dX7_isWrong_6 : decode cX7_isWrong 6 = .ok (.goto 15, 3) := by decide +kernel
theorem dX7_isWrong_9 : decode cX7_isWrong 9 = .ok (.aload_n 0, 1) := by decide +kernel
theorem dX7_isWrong_10 : decode cX7_isWrong 10 = .ok (.getfield 75, 3) := by decide +kernel
theorem dX7_isWrong_13 : decode cX7_isWrong 13 = .ok (.ifCond .ne 7, 3) := by decide +kernel
theorem dX7_isWrong_16 : decode cX7_isWrong 16 = .ok (.iconst 2, 1) := by decide +kernel
theorem dX7_isWrong_17 : decode cX7_isWrong 17 = .ok (.goto 4, 3) := by decide +kernel
theorem dX7_isWrong_20 : decode cX7_isWrong 20 = .ok (.iconst 0, 1) := by decide +kernel
theorem dX7_isWrong_21 : decode cX7_isWrong 21 = .ok (.putfield 72, 3) := by decide +kernel
theorem dX7_isWrong_24 : decode cX7_isWrong 24 = .ok (.aload_n 0, 1) := by decide +kernel
theorem dX7_isWrong_25 : decode cX7_isWrong 25 = .ok (.getfield 72, 3) := by decide +kernel
theorem dX7_isWrong_28 : decode cX7_isWrong 28 = .ok (.ifCond .le 7, 3) := by decide +kernel
theorem dX7_isWrong_31 : decode cX7_isWrong 31 = .ok (.iconst 1, 1) := by decide +kernel
theorem dX7_isWrong_32 : decode cX7_isWrong 32 = .ok (.goto 4, 3) := by decide +kernel
theorem dX7_isWrong_35 : decode cX7_isWrong 35 = .ok (.iconst 0, 1) := by decide +kernel
theorem dX7_isWrong_36 : decode cX7_isWrong 36 = .ok (.ireturn, 1) := by decide +kernel
set_option maxRecDepth 20000 in
theorem ggX7_at_X7_isJoint : GoodIn wsX7_at wsX7_isJoint := goodIn_r _ [12, 13, 14, 15, 11, 16, 39, 40, 41, 42, 43, 44, 45, 46, 47, 48, 49, 50, 51, 52, 53, 54, 55, 56, 57, 58, 59, 60, 61, 62] (by decide +kernel) (by decide +kernel)
set_option maxRecDepth 20000 in
theorem gX7_at_X7_isJoint : GoodIn wsX7_at (wsV RX7 91 RX7 yX7_isJoint wsX7_isJoint) := goodIn_app (goodIn_of _ (by decide +kernel)) ggX7_at_X7_isJoint
set_option maxRecDepth 20000 in
theorem ggX7_at_X7_isIn : GoodIn wsX7_at wsX7_isIn := goodIn_r _ [16] (by decide +kernel) (by decide +kernel)
set_option maxRecDepth 20000 in
theorem gX7_at_X7_isIn : GoodIn wsX7_at (va_wsS RX7 79 yX7_isIn wsX7_isIn) := goodIn_app (goodIn_of _ (by decide +kernel)) ggX7_at_X7_isIn
set_option maxRecDepth 20000 in
theorem ggX7_at_X7_isWrong : GoodIn wsX7_at wsX7_isWrong := goodIn_r _ [20, 21, 22, 39, 40, 41, 42, 43, 44, 45, 46, 47, 48, 49, 50, 51, 52, 53, 54, 55, 56, 57, 58, 59, 60, 61, 62] (by decide +kernel) (by decide +kernel)
set_option maxRecDepth 20000 in
theorem gX7_at_X7_isWrong : GoodIn wsX7_at (wsV RX7 141 RX7 yX7_isWrong wsX7_isWrong) := goodIn_app (goodIn_of _ (by decide +kernel)) ggX7_at_X7_isWrong
set_option maxRecDepth 20000 in
theorem ggX7_at_X7_flowOf : GoodIn wsX7_at wsX7_flowOf := goodIn_r _ [26, 1, 4, 3, 27, 28, 29, 11, 30, 31, 32, 39, 40, 41, 42, 43, 44, 45, 46, 47, 48, 49, 50, 51, 52, 53, 54, 55, 56, 57, 58, 59, 60, 61, 62] (by decide +kernel) (by decide +kernel)
set_option maxRecDepth 20000 in
theorem gX7_at_X7_flowOf : GoodIn wsX7_at (wsV RX7 145 RX7 yX7_flowOf wsX7_flowOf) := goodIn_app (goodIn_of _ (by decide +kernel)) ggX7_at_X7_flowOf
set_option maxRecDepth 20000 in
theorem ggX7_at_X7_drawOf : GoodIn wsX7_at wsX7_drawOf := goodIn_r _ [36, 6, 37, 38, 1, 7, 39, 40, 41, 42, 43, 44, 45, 46, 47, 48, 49, 50, 51, 52, 53, 54, 55, 56, 57, 58, 59, 60, 61, 62] (by decide +kernel) (by decide +kernel)
set_option maxRecDepth 20000 in
theorem gX7_at_X7_drawOf : GoodIn wsX7_at (wsV RX7 122 RX7 yX7_drawOf wsX7_drawOf) := goodIn_app (goodIn_of _ (by decide +kernel)) ggX7_at_X7_drawOf
theorem dX7_at_0 : decode cX7_at 0 = .ok (.aload_n 0, 1) := by decide +kernel
theorem dX7_at_1 : decode cX7_at 1 = .ok (.aload_n 0, 1) := by decide +kernel
theorem dX7_at_2 : decode cX7_at 2 = .ok (.iload_n 1, 1) := by decide +kernel
theorem dX7_at_3 : decode cX7_at 3 = .ok (.invokevirtual 91, 3) := by decide +kernel
theorem dX7_at_6 : decode cX7_at 6 = .ok (.ifCond .eq 16, 3) := by decide +kernel
theorem dX7_at_9 : decode cX7_at 9 = .ok (.iload_n 2, 1) := by decide +kernel
theorem dX7_at_10 : decode cX7_at 10 = .ok (.iconst 0, 1) := by decide +kernel
theorem dX7_at_11 : decode cX7_at 11 = .ok (.iconst 1, 1) := by decide +kernel
theorem dX7_at_12 : decode cX7_at 12 = .ok (.invokestatic 79, 3) := by decide +kernel
theorem dX7_at_15 : decode cX7_at 15 = .ok (.ifCond .eq 7, 3) := by decide +kernel
theorem dX7_at_18 : decode cX7_at 18 = .ok (.iconst 1, 1) := by decide +kernel
theorem dX7_at_19 : decode cX7_at 19 = .ok (.goto 4, 3) := by decide +kernel
theorem dX7_at_22 : decode cX7_at 22 = .ok (.iconst 0, 1) := by decide +kernel
theorem dX7_at_23 : decode cX7_at 23 = .ok (.invokevirtual 141, 3) := by decide +kernel
theorem dX7_at_26 : decode cX7_at 26 = .ok (.ifCond .eq 5, 3) := by decide +kernel
