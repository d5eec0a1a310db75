theorem dX5_letPass_101 : decode cX5_letPass 101 = .ok (.iastore, 1) := by decide +kernel
theorem dX5_letPass_102 : decode cX5_letPass 102 = .ok (.iinc 2 1, 3) := by decide +kernel
theorem dX5_letPass_105 : decode cX5_letPass 105 = .ok (.goto (-79), 3) := by decide +kernel
theorem dX5_letPass_108 : decode cX5_letPass 108 = .ok (.aload_n 0, 1) := by decide +kernel
theorem dX5_letPass_109 : decode cX5_letPass 109 = .ok (.getfield 10, 3) := by decide +kernel
theorem dX5_letPass_112 : decode cX5_letPass 112 = .ok (.dup, 1) := by decide +kernel
theorem dX5_letPass_113 : decode cX5_letPass 113 = .ok (.getfield 95, 3) := by decide +kernel
theorem dX5_letPass_116 : decode cX5_letPass 116 = .ok (.iload_n 1, 1) := by decide +kernel
theorem dX5_letPass_117 : decode cX5_letPass 117 = .ok (.iadd, 1) := by decide +kernel
theorem dX5_letPass_118 : decode cX5_letPass 118 = .ok (.putfield 95, 3) := by decide +kernel
theorem dX5_letPass_121 : decode cX5_letPass 121 = .ok (.aload_n 0, 1) := by decide +kernel
theorem dX5_letPass_122 : decode cX5_letPass 122 = .ok (.getfield 10, 3) := by decide +kernel
theorem dX5_letPass_125 : decode cX5_letPass 125 = .ok (.dup, 1) := by decide +kernel
theorem dX5_letPass_126 : decode cX5_letPass 126 = .ok (.getfield 186, 3) := by decide +kernel
theorem dX5_letPass_129 : decode cX5_letPass 129 = .ok (.aload_n 0, 1) := by decide +kernel
theorem dX5_letPass_130 : decode cX5_letPass 130 = .ok (.getfield 43, 3) := by decide +kernel
theorem dX5_letPass_133 : decode cX5_letPass 133 = .ok (.getfield 161, 3) := by decide +kernel
theorem dX5_letPass_136 : decode cX5_letPass 136 = .ok (.iadd, 1) := by decide +kernel
theorem dX5_letPass_137 : decode cX5_letPass 137 = .ok (.putfield 186, 3) := by decide +kernel
theorem dX5_letPass_140 : decode cX5_letPass 140 = .ok (.aload_n 0, 1) := by decide +kernel
theorem dX5_letPass_141 : decode cX5_letPass 141 = .ok (.getfield 10, 3) := by decide +kernel
theorem dX5_letPass_144 : decode cX5_letPass 144 = .ok (.dup, 1) := by decide +kernel
theorem dX5_letPass_145 : decode cX5_letPass 145 = .ok (.getfield 189, 3) := by decide +kernel
theorem dX5_letPass_148 : decode cX5_letPass 148 = .ok (.aload_n 0, 1) := by decide +kernel
theorem dX5_letPass_149 : decode cX5_letPass 149 = .ok (.getfield 43, 3) := by decide +kernel
theorem dX5_letPass_152 : decode cX5_letPass 152 = .ok (.getfield 164, 3) := by decide +kernel
theorem dX5_letPass_155 : decode cX5_letPass 155 = .ok (.iadd, 1) := by decide +kernel
theorem dX5_letPass_156 : decode cX5_letPass 156 = .ok (.putfield 189, 3) := by decide +kernel
theorem dX5_letPass_159 : decode cX5_letPass 159 = .ok (.aload_n 0, 1) := by decide +kernel
theorem dX5_letPass_160 : decode cX5_letPass 160 = .ok (.getfield 43, 3) := by decide +kernel
theorem dX5_letPass_163 : decode cX5_letPass 163 = .ok (.getfield 161, 3) := by decide +kernel
theorem dX5_letPass_166 : decode cX5_letPass 166 = .ok (.ireturn, 1) := by decide +kernel
set_option maxRecDepth 20000 in
theorem ggX5_firstError_X4_orderAt : GoodIn wsX5_firstError wsX4_orderAt := goodIn_r _ [9, 10, 11, 12, 8, 13, 14, 15, 53, 54] (by decide +kernel) (by decide +kernel)
set_option maxRecDepth 20000 in
theorem gX5_firstError_X4_orderAt : GoodIn wsX5_firstError (wsV RX5 202 RX4 yX4_orderAt wsX4_orderAt) := goodIn_app (goodIn_of _ (by decide +kernel)) ggX5_firstError_X4_orderAt
set_option maxRecDepth 20000 in
theorem ggX5_firstError_X4_ticksAt : GoodIn wsX5_firstError wsX4_ticksAt := goodIn_r _ [19, 20, 21, 22, 8, 23, 10, 11, 12, 13, 14, 15, 24, 25, 26, 53, 54] (by decide +kernel) (by decide +kernel)
set_option maxRecDepth 20000 in
theorem gX5_firstError_X4_ticksAt : GoodIn wsX5_firstError (wsV RX5 206 RX4 yX4_ticksAt wsX4_ticksAt) := goodIn_app (goodIn_of _ (by decide +kernel)) ggX5_firstError_X4_ticksAt
set_option maxRecDepth 20000 in
theorem ggX5_firstError_X4_rodAt : GoodIn wsX5_firstError wsX4_rodAt := goodIn_r _ [30, 20, 21, 22, 8, 23, 10, 11, 12, 13, 14, 15, 53, 54] (by decide +kernel) (by decide +kernel)
set_option maxRecDepth 20000 in
theorem gX5_firstError_X4_rodAt : GoodIn wsX5_firstError (wsV RX5 209 RX4 yX4_rodAt wsX4_rodAt) := goodIn_app (goodIn_of _ (by decide +kernel)) ggX5_firstError_X4_rodAt
set_option maxRecDepth 20000 in
theorem ggX5_firstError_X3_hasRod : GoodIn wsX5_firstError wsX3_hasRod := goodIn_r _ [35, 36, 44, 45, 46, 47, 48, 49, 50, 51, 52] (by decide +kernel) (by decide +kernel)
set_option maxRecDepth 20000 in
theorem gX5_firstError_X3_hasRod : GoodIn wsX5_firstError (wsV RX5 77 RX3 yX3_hasRod wsX3_hasRod) := goodIn_app (goodIn_of _ (by decide +kernel)) ggX5_firstError_X3_hasRod
theorem dX5_firstError_0 : decode cX5_firstError 0 = .ok (.aload_n 0, 1) := by decide +kernel
theorem dX5_firstError_1 : decode cX5_firstError 1 = .ok (.getfield 10, 3) := by decide +kernel
theorem dX5_firstError_4 : decode cX5_firstError 4 = .ok (.getfield 95, 3) := by decide +kernel
theorem dX5_firstError_7 : decode cX5_firstError 7 = .ok (.istore_n 1, 1) := by decide +kernel
theorem dX5_firstError_8 : decode cX5_firstError 8 = .ok (.iconst 0, 1) := by decide +kernel
theorem dX5_firstError_9 : decode cX5_firstError 9 = .ok (.istore_n 2, 1) := by decide +kernel
theorem dX5_firstError_10 : decode cX5_firstError 10 = .ok (.iload_n 2, 1) := by decide +kernel
theorem dX5_firstError_11 : decode cX5_firstError 11 = .ok (.aload_n 0, 1) := by decide +kernel
theorem dX5_firstError_12 : decode cX5_firstError 12 = .ok (.getfield 29, 3) := by decide +kernel
theorem dX5_firstError_15 : decode cX5_firstError 15 = .ok (.getfield 102, 3) := by decide +kernel
theorem dX5_firstError_18 : decode cX5_firstError 18 = .ok (.if_icmp .ge 76, 3) := by decide +kernel
theorem dX5_firstError_21 : decode cX5_firstError 21 = .ok (.aload_n 0, 1) := by decide +kernel
theorem dX5_firstError_22 : decode cX5_firstError 22 = .ok (.getfield 29, 3) := by decide +kernel
theorem dX5_firstError_25 : decode cX5_firstError 25 = .ok (.iload_n 2, 1) := by decide +kernel
theorem dX5_firstError_26 : decode cX5_firstError 26 = .ok (.invokevirtual 202, 3) := by decide +kernel
theorem dX5_firstError_29 : decode cX5_firstError 29 = .ok (.bipush 112, 2) := by decide +kernel
theorem dX5_firstError_31 : decode cX5_firstError 31 = .ok (.if_icmp .ne 24, 3) := by decide +kernel
theorem dX5_firstError_34 : decode cX5_firstError 34 = .ok (.iload_n 1, 1) := by decide +kernel
theorem dX5_firstError_35 : decode cX5_firstError 35 = .ok (.aload_n 0, 1) := by decide +kernel
theorem dX5_firstError_36 : decode cX5_firstError 36 = .ok (.getfield 29, 3) := by decide +kernel
theorem dX5_firstError_39 : decode cX5_firstError 39 = .ok (.iload_n 2, 1) := by decide +kernel
theorem dX5_firstError_40 : decode cX5_firstError 40 = .ok (.invokevirtual 206, 3) := by decide +kernel
theorem dX5_firstError_43 : decode cX5_firstError 43 = .ok (.iadd, 1) := by decide +kernel
theorem dX5_firstError_44 : decode cX5_firstError 44 = .ok (.istore_n 1, 1) := by decide +kernel
theorem dX5_firstError_45 : decode cX5_firstError 45 = .ok (.iload_n 1, 1) := by decide +kernel
theorem dX5_firstError_46 : decode cX5_firstError 46 = .ok (.sipush 10000, 3) := by decide +kernel
theorem dX5_firstError_49 : decode cX5_firstError 49 = .ok (.if_icmp .le 39, 3) := by decide +kernel
theorem dX5_firstError_52 : decode cX5_firstError 52 = .ok (.bipush (-4), 2) := by decide +kernel
theorem dX5_firstError_54 : decode cX5_firstError 54 = .ok (.ireturn, 1) := by decide +kernel
theorem dX5_firstError_55 : decode cX5_firstError 55 = .ok (.aload_n 0, 1) := by decide +kernel
theorem dX5_firstError_56 : decode cX5_firstError 56 = .ok (.getfield 29, 3) := by decide +kernel
theorem dX5_firstError_59 : decode cX5_firstError 59 = .ok (.iload_n 2, 1) := by decide +kernel
theorem dX5_firstError_60 : decode cX5_firstError 60 = .ok (.invokevirtual 202, 3) := by decide +kernel
theorem dX5_firstError_63 : decode cX5_firstError 63 = .ok (.bipush 115, 2) := by decide +kernel
theorem dX5_firstError_65 : decode cX5_firstError 65 = .ok (.if_icmp .ne 23, 3) := by decide +kernel
theorem dX5_firstError_68 : decode cX5_firstError 68 = .ok (.aload_n 0, 1) := by decide +kernel
theorem dX5_firstError_69 : decode cX5_firstError 69 = .ok (.getfield 10, 3) := by decide +kernel
theorem dX5_firstError_72 : decode cX5_firstError 72 = .ok (.aload_n 0, 1) := by decide +kernel
theorem dX5_firstError_73 : decode cX5_firstError 73 = .ok (.getfield 29, 3) := by decide +kernel
theorem dX5_firstError_76 : decode cX5_firstError 76 = .ok (.iload_n 2, 1) := by decide +kernel
theorem dX5_firstError_77 : decode cX5_firstError 77 = .ok (.invokevirtual 209, 3) := by decide +kernel
theorem dX5_firstError_80 : decode cX5_firstError 80 = .ok (.invokevirtual 77, 3) := by decide +kernel
theorem dX5_firstError_83 : decode cX5_firstError 83 = .ok (.ifCond .ne 5, 3) := by decide +kernel
theorem dX5_firstError_86 : decode cX5_firstError 86 = .ok (.iconst (-1), 1) := by decide +kernel
theorem dX5_firstError_87 : decode cX5_firstError 87 = .ok (.ireturn, 1) := by decide +kernel
theorem dX5_firstError_88 : decode cX5_firstError 88 = .ok (.iinc 2 1, 3) := by decide +kernel
theorem dX5_firstError_91 : decode cX5_firstError 91 = .ok (.goto (-81), 3) := by decide +kernel
theorem dX5_firstError_94 : decode cX5_firstError 94 = .ok (.iconst 0, 1) := by decide +kernel
theorem dX5_firstError_95 : decode cX5_firstError 95 = .ok (.ireturn, 1) := by decide +kernel
set_option maxRecDepth 20000 in
theorem ggX5_doOrders_X4_orderAt : GoodIn wsX5_doOrders wsX4_orderAt := goodIn_r _ [9, 10, 11, 12, 8, 13, 14, 15, 142, 143] (by decide +kernel) (by decide +kernel)
set_option maxRecDepth 20000 in
theorem gX5_doOrders_X4_orderAt : GoodIn wsX5_doOrders (wsV RX5 202 RX4 yX4_orderAt wsX4_orderAt) := goodIn_app (goodIn_of _ (by decide +kernel)) ggX5_doOrders_X4_orderAt
set_option maxRecDepth 20000 in
theorem ggX5_doOrders_X4_ticksAt : GoodIn wsX5_doOrders wsX4_ticksAt := goodIn_r _ [19, 20, 21, 22, 8, 23, 10, 11, 12, 13, 14, 15, 24, 25, 26, 142, 143] (by decide +kernel) (by decide +kernel)
set_option maxRecDepth 20000 in
theorem gX5_doOrders_X4_ticksAt : GoodIn wsX5_doOrders (wsV RX5 206 RX4 yX4_ticksAt wsX4_ticksAt) := goodIn_app (goodIn_of _ (by decide +kernel)) ggX5_doOrders_X4_ticksAt
set_option maxRecDepth 20000 in
theorem ggX5_doOrders_X5_letPass : GoodIn wsX5_doOrders wsX5_letPass := goodIn_r _ [31, 32, 3, 33, 34, 35, 36, 37, 4, 38, 39, 40, 41, 42, 43, 44, 45, 46, 47, 48, 49, 50, 51, 52, 53, 54, 55, 56, 57, 58, 59, 60, 61, 62, 63, 64, 65, 66, 67, 68, 69, 70, 71, 72, 73, 74, 75, 76, 77, 78, 79, 80, 81, 82, 83, 84, 85, 86, 87, 88, 89, 90, 91, 92, 93, 94, 95, 96, 97, 98, 99, 100, 101, 102, 103, 104, 105, 106, 107, 108, 109, 110, 111, 112, 113, 114, 115, 116, 117, 135, 136, 137, 138, 139, 140, 141, 144, 145, 146, 147, 148, 149, 150, 151, 152, 153, 154, 155, 156, 157, 158, 159, 160, 161, 162] (by decide +kernel) (by decide +kernel)
set_option maxRecDepth 20000 in
theorem gX5_doOrders_X5_letPass : GoodIn wsX5_doOrders (wsV RX5 98 RX5 yX5_letPass wsX5_letPass) := goodIn_app (goodIn_of _ (by decide +kernel)) ggX5_doOrders_X5_letPass
set_option maxRecDepth 20000 in
theorem ggX5_doOrders_X3_turnRound : GoodIn wsX5_doOrders wsX3_turnRound := goodIn_r _ [121, 62, 122, 144, 145, 146, 147, 148, 149, 150, 151, 152] (by decide +kernel) (by decide +kernel)
set_option maxRecDepth 20000 in
theorem gX5_doOrders_X3_turnRound : GoodIn wsX5_doOrders (wsV RX5 92 RX3 yX3_turnRound wsX3_turnRound) := goodIn_app (goodIn_of _ (by decide +kernel)) ggX5_doOrders_X3_turnRound
set_option maxRecDepth 20000 in
theorem ggX5_doOrders_X4_rodAt : GoodIn wsX5_doOrders wsX4_rodAt := goodIn_r _ [126, 20, 21, 22, 8, 23, 10, 11, 12, 13, 14, 15, 142, 143] (by decide +kernel) (by decide +kernel)
set_option maxRecDepth 20000 in
theorem gX5_doOrders_X4_rodAt : GoodIn wsX5_doOrders (wsV RX5 209 RX4 yX4_rodAt wsX4_rodAt) := goodIn_app (goodIn_of _ (by decide +kernel)) ggX5_doOrders_X4_rodAt
set_option maxRecDepth 20000 in
theorem ggX5_doOrders_X3_hasRod : GoodIn wsX5_doOrders wsX3_hasRod := goodIn_r _ [130, 62, 144, 145, 146, 147, 148, 149, 150, 151, 152] (by decide +kernel) (by decide +kernel)
set_option maxRecDepth 20000 in
theorem gX5_doOrders_X3_hasRod : GoodIn wsX5_doOrders (wsV RX5 77 RX3 yX3_hasRod wsX3_hasRod) := goodIn_app (goodIn_of _ (by decide +kernel)) ggX5_doOrders_X3_hasRod
set_option maxRecDepth 20000 in
theorem ggX5_doOrders_X4_speedAt : GoodIn wsX5_doOrders wsX4_speedAt := goodIn_r _ [134, 10, 11, 12, 8, 13, 14, 15, 20, 21, 22, 23, 142, 143] (by decide +kernel) (by decide +kernel)
set_option maxRecDepth 20000 in
theorem gX5_doOrders_X4_speedAt : GoodIn wsX5_doOrders (wsV RX5 212 RX4 yX4_speedAt wsX4_speedAt) := goodIn_app (goodIn_of _ (by decide +kernel)) ggX5_doOrders_X4_speedAt
theorem dX5_doOrders_0 : decode cX5_doOrders 0 = .ok (.iconst 0, 1) := by decide +kernel
theorem dX5_doOrders_1 : decode cX5_doOrders 1 = .ok (.istore_n 1, 1) := by decide +kernel
theorem dX5_doOrders_2 : decode cX5_doOrders 2 = .ok (.iconst 0, 1) := by decide +kernel
theorem dX5_doOrders_3 : decode cX5_doOrders 3 = .ok (.istore_n 2, 1) := by decide +kernel
theorem dX5_doOrders_4 : decode cX5_doOrders 4 = .ok (.iload_n 2, 1) := by decide +kernel
theorem dX5_doOrders_5 : decode cX5_doOrders 5 = .ok (.aload_n 0, 1) := by decide +kernel
theorem dX5_doOrders_6 : decode cX5_doOrders 6 = .ok (.getfield 29, 3) := by decide +kernel
theorem dX5_doOrders_9 : decode cX5_doOrders 9 = .ok (.getfield 102, 3) := by decide +kernel
theorem dX5_doOrders_12 : decode cX5_doOrders 12 = .ok (.if_icmp .ge 114, 3) := by decide +kernel
theorem dX5_doOrders_15 : decode cX5_doOrders 15 = .ok (.aload_n 0, 1) := by decide +kernel
theorem dX5_doOrders_16 : decode cX5_doOrders 16 = .ok (.getfield 29, 3) := by decide +kernel
theorem dX5_doOrders_19 : decode cX5_doOrders 19 = .ok (.iload_n 2, 1) := by decide +kernel
theorem dX5_doOrders_20 : decode cX5_doOrders 20 = .ok (.invokevirtual 202, 3) := by decide +kernel
theorem dX5_doOrders_23 : decode cX5_doOrders 23 = .ok (.tableswitch 97 112 115 #[29, 97, 47, 57], 29) := by decide +kernel
theorem dX5_doOrders_52 : decode cX5_doOrders 52 = .ok (.iload_n 1, 1) := by decide +kernel
theorem dX5_doOrders_53 : decode cX5_doOrders 53 = .ok (.aload_n 0, 1) := by decide +kernel
theorem dX5_doOrders_54 : decode cX5_doOrders 54 = .ok (.aload_n 0, 1) := by decide +kernel
theorem dX5_doOrders_55 : decode cX5_doOrders 55 = .ok (.getfield 29, 3) := by decide +kernel
theorem dX5_doOrders_58 : decode cX5_doOrders 58 = .ok (.iload_n 2, 1) := by decide +kernel
theorem dX5_doOrders_59 : decode cX5_doOrders 59 = .ok (.invokevirtual 206, 3) := by decide +kernel
theorem dX5_doOrders_62 : decode cX5_doOrders 62 = .ok (.invokevirtual 98, 3) := by decide +kernel
theorem dX5_doOrders_65 : decode cX5_doOrders 65 = .ok (.iadd, 1) := by decide +kernel
theorem dX5_doOrders_66 : decode cX5_doOrders 66 = .ok (.istore_n 1, 1) := by decide +kernel
theorem dX5_doOrders_67 : decode cX5_doOrders 67 = .ok (.goto 53, 3) := by decide +kernel
theorem dX5_doOrders_70 : decode cX5_doOrders 70 = .ok (.aload_n 0, 1) := by decide +kernel
theorem dX5_doOrders_71 : decode cX5_doOrders 71 = .ok (.getfield 10, 3) := by decide +kernel
theorem dX5_doOrders_74 : decode cX5_doOrders 74 = .ok (.invokevirtual 92, 3) := by decide +kernel
theorem dX5_doOrders_77 : decode cX5_doOrders 77 = .ok (.goto 43, 3) := by decide +kernel
theorem dX5_doOrders_80 : decode cX5_doOrders 80 = .ok (.aload_n 0, 1) := by decide +kernel
theorem dX5_doOrders_81 : decode cX5_doOrders 81 = .ok (.getfield 29, 3) := by decide +kernel
theorem dX5_doOrders_84 : decode cX5_doOrders 84 = .ok (.iload_n 2, 1) := by decide +kernel
theorem dX5_doOrders_85 : decode cX5_doOrders 85 = .ok (.invokevirtual 209, 3) := by decide +kernel
theorem dX5_doOrders_88 : decode cX5_doOrders 88 = .ok (.istore_n 3, 1) := by decide +kernel
theorem dX5_doOrders_89 : decode cX5_doOrders 89 = .ok (.aload_n 0, 1) := by decide +kernel
theorem dX5_doOrders_90 : decode cX5_doOrders 90 = .ok (.getfield 10, 3) := by decide +kernel
theorem dX5_doOrders_93 : decode cX5_doOrders 93 = .ok (.iload_n 3, 1) := by decide +kernel
theorem dX5_doOrders_94 : decode cX5_doOrders 94 = .ok (.invokevirtual 77, 3) := by decide +kernel
theorem dX5_doOrders_97 : decode cX5_doOrders 97 = .ok (.ifCond .eq 23, 3) := by decide +kernel
theorem dX5_doOrders_100 : decode cX5_doOrders 100 = .ok (.aload_n 0, 1) := by decide +kernel
theorem dX5_doOrders_101 : decode cX5_doOrders 101 = .ok (.getfield 10, 3) := by decide +kernel
theorem dX5_doOrders_104 : decode cX5_doOrders 104 = .ok (.getfield 84, 3) := by decide +kernel
theorem dX5_doOrders_107 : decode cX5_doOrders 107 = .ok (.iload_n 3, 1) := by decide +kernel
theorem dX5_doOrders_108 : decode cX5_doOrders 108 = .ok (.aload_n 0, 1) := by decide +kernel
theorem dX5_doOrders_109 : decode cX5_doOrders 109 = .ok (.getfield 29, 3) := by decide +kernel
theorem dX5_doOrders_112 : decode cX5_doOrders 112 = .ok (.iload_n 2, 1) := by decide +kernel
theorem dX5_doOrders_113 : decode cX5_doOrders 113 = .ok (.invokevirtual 212, 3) := by decide +kernel
theorem dX5_doOrders_116 : decode cX5_doOrders 116 = .ok (.iastore, 1) := by decide +kernel
theorem dX5_doOrders_117 : decode cX5_doOrders 117 = .ok (.goto 3, 3) := by decide +kernel
theorem dX5_doOrders_120 : decode cX5_doOrders 120 = .ok (.iinc 2 1, 3) := by decide +kernel
theorem dX5_doOrders_123 : decode cX5_doOrders 123 = .ok (.goto (-119), 3) := by decide +kernel
theorem dX5_doOrders_126 : decode cX5_doOrders 126 = .ok (.iload_n 1, 1) := by decide +kernel
theorem dX5_doOrders_127 : decode cX5_doOrders 127 = .ok (.ireturn, 1) := by decide +kernel
theorem dX6_init_0 : decode cX6_init 0 = .ok (.aload_n 0, 1) := by decide +kernel
theorem dX6_init_1 : decode cX6_init 1 = .ok (.invokespecial 1, 3) := by decide +kernel
theorem dX6_init_4 : decode cX6_init 4 = .ok (.aload_n 0, 1) := by decide +kernel
theorem dX6_init_5 : decode cX6_init 5 = .ok (.bipush 37, 2) := by decide +kernel
theorem dX6_init_7 : decode cX6_init 7 = .ok (.newarray .int, 2) := by decide +kernel
theorem dX6_init_9 : decode cX6_init 9 = .ok (.putfield 7, 3) := by decide +kernel
theorem dX6_init_12 : decode cX6_init 12 = .ok (.aload_n 0, 1) := by decide +kernel
theorem dX6_init_13 : decode cX6_init 13 = .ok (.sipush 148, 3) := by decide +kernel
theorem dX6_init_16 : decode cX6_init 16 = .ok (.newarray .int, 2) := by decide +kernel
theorem dX6_init_18 : decode cX6_init 18 = .ok (.putfield 13, 3) := by decide +kernel
theorem dX6_init_21 : decode cX6_init 21 = .ok (.aload_n 0, 1) := by decide +kernel
theorem dX6_init_22 : decode cX6_init 22 = .ok (.bipush 37, 2) := by decide +kernel
theorem dX6_init_24 : decode cX6_init 24 = .ok (.newarray .int, 2) := by decide +kernel
theorem dX6_init_26 : decode cX6_init 26 = .ok (.putfield 16, 3) := by decide +kernel
theorem dX6_init_29 : decode cX6_init 29 = .ok (.aload_n 0, 1) := by decide +kernel
theorem dX6_init_30 : decode cX6_init 30 = .ok (.bipush 37, 2) := by decide +kernel
theorem dX6_init_32 : decode cX6_init 32 = .ok (.newarray .int, 2) := by decide +kernel
theorem dX6_init_34 : decode cX6_init 34 = .ok (.putfield 19, 3) := by decide +kernel
theorem dX6_init_37 : decode cX6_init 37 = .ok (.aload_n 0, 1) := by decide +kernel
theorem dX6_init_38 : decode cX6_init 38 = .ok (.bipush 60, 2) := by decide +kernel
theorem dX6_init_40 : decode cX6_init 40 = .ok (.newarray .char, 2) := by decide +kernel
theorem dX6_init_42 : decode cX6_init 42 = .ok (.putfield 22, 3) := by decide +kernel
theorem dX6_init_45 : decode cX6_init 45 = .ok (.aload_n 0, 1) := by decide +kernel
theorem dX6_init_46 : decode cX6_init 46 = .ok (.bipush 8, 2) := by decide +kernel
theorem dX6_init_48 : decode cX6_init 48 = .ok (.newarray .int, 2) := by decide +kernel
theorem dX6_init_50 : decode cX6_init 50 = .ok (.putfield 26, 3) := by decide +kernel
theorem dX6_init_53 : decode cX6_init 53 = .ok (.aload_n 0, 1) := by decide +kernel
theorem dX6_init_54 : decode cX6_init 54 = .ok (.bipush 8, 2) := by decide +kernel
theorem dX6_init_56 : decode cX6_init 56 = .ok (.newarray .int, 2) := by decide +kernel
theorem dX6_init_58 : decode cX6_init 58 = .ok (.putfield 29, 3) := by decide +kernel
theorem dX6_init_61 : decode cX6_init 61 = .ok (.aload_n 0, 1) := by decide +kernel
theorem dX6_init_62 : decode cX6_init 62 = .ok (.bipush 8, 2) := by decide +kernel
theorem dX6_init_64 : decode cX6_init 64 = .ok (.newarray .int, 2) := by decide +kernel
theorem dX6_init_66 : decode cX6_init 66 = .ok (.putfield 32, 3) := by decide +kernel
theorem dX6_init_69 : decode cX6_init 69 = .ok (.aload_n 0, 1) := by decide +kernel
theorem dX6_init_70 : decode cX6_init 70 = .ok (.bipush 8, 2) := by decide +kernel
theorem dX6_init_72 : decode cX6_init 72 = .ok (.newarray .int, 2) := by decide +kernel
theorem dX6_init_74 : decode cX6_init 74 = .ok (.putfield 35, 3) := by decide +kernel
theorem dX6_init_77 : decode cX6_init 77 = .ok (.aload_n 0, 1) := by decide +kernel
theorem dX6_init_78 : decode cX6_init 78 = .ok (.bipush 8, 2) := by decide +kernel
theorem dX6_init_80 : decode cX6_init 80 = .ok (.newarray .int, 2) := by decide +kernel
theorem dX6_init_82 : decode cX6_init 82 = .ok (.putfield 38, 3) := by decide +kernel
theorem dX6_init_85 : decode cX6_init 85 = .ok (.aload_n 0, 1) := by decide +kernel
theorem dX6_init_86 : decode cX6_init 86 = .ok (.bipush 8, 2) := by decide +kernel
theorem dX6_init_88 : decode cX6_init 88 = .ok (.newarray .int, 2) := by decide +kernel
theorem dX6_init_90 : decode cX6_init 90 = .ok (.putfield 41, 3) := by decide +kernel
theorem dX6_init_93 : decode cX6_init 93 = .ok (.aload_n 0, 1) := by decide +kernel
theorem dX6_init_94 : decode cX6_init 94 = .ok (.sipush 1600, 3) := by decide +kernel
theorem dX6_init_97 : decode cX6_init 97 = .ok (.newarray .int, 2) := by decide +kernel
theorem dX6_init_99 : decode cX6_init 99 = .ok (.putfield 44, 3) := by decide +kernel
theorem dX6_init_102 : decode cX6_init 102 = .ok (.aload_n 0, 1) := by decide +kernel
theorem dX6_init_103 : decode cX6_init 103 = .ok (.getfield 7, 3) := by decide +kernel
theorem dX6_init_106 : decode cX6_init 106 = .ok (.iconst 0, 1) := by decide +kernel
theorem dX6_init_107 : decode cX6_init 107 = .ok (.bipush 100, 2) := by decide +kernel
theorem dX6_init_109 : decode cX6_init 109 = .ok (.iastore, 1) := by decide +kernel
theorem dX6_init_110 : decode cX6_init 110 = .ok (.return_, 1) := by decide +kernel
theorem dX6_in_0 : decode cX6_in 0 = .ok (.iload_n 0, 1) := by decide +kernel
theorem dX6_in_1 : decode cX6_in 1 = .ok (.iload_n 1, 1) := by decide +kernel
theorem dX6_in_2 : decode cX6_in 2 = .ok (.if_icmp .lt 12, 3) := by decide +kernel
theorem dX6_in_5 : decode cX6_in 5 = .ok (.iload_n 0, 1) := by decide +kernel
theorem dX6_in_6 : decode cX6_in 6 = .ok (.iload_n 2, 1) := by decide +kernel
theorem dX6_in_7 : decode cX6_in 7 = .ok (.if_icmp .gt 7, 3) := by decide +kernel
theorem dX6_in_10 : decode cX6_in 10 = .ok (.iconst 1, 1) := by decide +kernel
theorem dX6_in_11 : decode cX6_in 11 = .ok (.goto 4, 3) := by decide +kernel
theorem dX6_in_14 : decode cX6_in 14 = .ok (.iconst 0, 1) := by decide +kernel
theorem dX6_in_15 : decode cX6_in 15 = .ok (.ireturn, 1) := by decide +kernel
theorem dX6_rest_0 : decode cX6_rest 0 = .ok (.iload_n 0, 1) := by decide +kernel
theorem dX6_rest_1 : decode cX6_rest 1 = .ok (.iload_n 1, 1) := by decide +kernel
theorem dX6_rest_2 : decode cX6_rest 2 = .ok (.irem, 1) := by decide +kernel
theorem dX6_rest_3 : decode cX6_rest 3 = .ok (.istore_n 2, 1) := by decide +kernel
theorem dX6_rest_4 : decode cX6_rest 4 = .ok (.iload_n 2, 1) := by decide +kernel
theorem dX6_rest_5 : decode cX6_rest 5 = .ok (.ifCond .ge 9, 3) := by decide +kernel
theorem dX6_rest_8 : decode cX6_rest 8 = .ok (.iload_n 2, 1) := by decide +kernel
theorem dX6_rest_9 : decode cX6_rest 9 = .ok (.iload_n 1, 1) := by decide +kernel
theorem dX6_rest_10 : decode cX6_rest 10 = .ok (.iadd, 1) := by decide +kernel
theorem dX6_rest_11 : decode cX6_rest 11 = .ok (.goto 4, 3) := by decide +kernel
theorem dX6_rest_14 : decode cX6_rest 14 = .ok (.iload_n 2, 1) := by decide +kernel
theorem dX6_rest_15 : decode cX6_rest 15 = .ok (.ireturn, 1) := by decide +kernel
theorem dX6_remember_0 : decode cX6_remember 0 = .ok (.iconst 0, 1) := by decide +kernel
theorem dX6_remember_1 : decode cX6_remember 1 = .ok (.istore_n 1, 1) := by decide +kernel
theorem dX6_remember_2 : decode cX6_remember 2 = .ok (.iload_n 1, 1) := by decide +kernel
theorem dX6_remember_3 : decode cX6_remember 3 = .ok (.bipush 37, 2) := by decide +kernel
theorem dX6_remember_5 : decode cX6_remember 5 = .ok (.if_icmp .ge 21, 3) := by decide +kernel
theorem dX6_remember_8 : decode cX6_remember 8 = .ok (.aload_n 0, 1) := by decide +kernel
theorem dX6_remember_9 : decode cX6_remember 9 = .ok (.getfield 19, 3) := by decide +kernel
theorem dX6_remember_12 : decode cX6_remember 12 = .ok (.iload_n 1, 1) := by decide +kernel
theorem dX6_remember_13 : decode cX6_remember 13 = .ok (.aload_n 0, 1) := by decide +kernel
theorem dX6_remember_14 : decode cX6_remember 14 = .ok (.getfield 7, 3) := by decide +kernel
theorem dX6_remember_17 : decode cX6_remember 17 = .ok (.iload_n 1, 1) := by decide +kernel
theorem dX6_remember_18 : decode cX6_remember 18 = .ok (.iaload, 1) := by decide +kernel
theorem dX6_remember_19 : decode cX6_remember 19 = .ok (.iastore, 1) := by decide +kernel
theorem dX6_remember_20 : decode cX6_remember 20 = .ok (.iinc 1 1, 3) := by decide +kernel
theorem dX6_remember_23 : decode cX6_remember 23 = .ok (.goto (-21), 3) := by decide +kernel
theorem dX6_remember_26 : decode cX6_remember 26 = .ok (.return_, 1) := by decide +kernel
theorem dX6_goBack_0 : decode cX6_goBack 0 = .ok (.iconst 0, 1) := by decide +kernel
theorem dX6_goBack_1 : decode cX6_goBack 1 = .ok (.istore_n 1, 1) := by decide +kernel
theorem dX6_goBack_2 : decode cX6_goBack 2 = .ok (.iload_n 1, 1) := by decide +kernel
theorem dX6_goBack_3 : decode cX6_goBack 3 = .ok (.bipush 37, 2) := by decide +kernel
theorem dX6_goBack_5 : decode cX6_goBack 5 = .ok (.if_icmp .ge 21, 3) := by decide +kernel
theorem dX6_goBack_8 : decode cX6_goBack 8 = .ok (.aload_n 0, 1) := by decide +kernel
theorem dX6_goBack_9 : decode cX6_goBack 9 = .ok (.getfield 7, 3) := by decide +kernel
theorem dX6_goBack_12 : decode cX6_goBack 12 = .ok (.iload_n 1, 1) := by decide +kernel
theorem dX6_goBack_13 : decode cX6_goBack 13 = .ok (.aload_n 0, 1) := by decide +kernel
theorem dX6_goBack_14 : decode cX6_goBack 14 = .ok (.getfield 19, 3) := by decide +kernel
theorem dX6_goBack_17 : decode cX6_goBack 17 = .ok (.iload_n 1, 1) := by decide +kernel
theorem dX6_goBack_18 : decode cX6_goBack 18 = .ok (.iaload, 1) := by decide +kernel
theorem dX6_goBack_19 : decode cX6_goBack 19 = .ok (.iastore, 1) := by decide +kernel
theorem dX6_goBack_20 : decode cX6_goBack 20 = .ok (.iinc 1 1, 3) := by decide +kernel
theorem dX6_goBack_23 : decode cX6_goBack 23 = .ok (.goto (-21), 3) := by decide +kernel
theorem dX6_goBack_26 : decode cX6_goBack 26 = .ok (.return_, 1) := by decide +kernel
theorem dX6_record_0 : decode cX6_record 0 = .ok (.aload_n 0, 1) := by decide +kernel
theorem dX6_record_1 : decode cX6_record 1 = .ok (.getfield 47, 3) := by decide +kernel
theorem dX6_record_4 : decode cX6_record 4 = .ok (.iconst 4, 1) := by decide +kernel
theorem dX6_record_5 : decode cX6_record 5 = .ok (.if_icmp .ne 42, 3) := by decide +kernel
theorem dX6_record_8 : decode cX6_record 8 = .ok (.iconst 0, 1) := by decide +kernel
theorem dX6_record_9 : decode cX6_record 9 = .ok (.istore_n 1, 1) := by decide +kernel
theorem dX6_record_10 : decode cX6_record 10 = .ok (.iload_n 1, 1) := by decide +kernel
theorem dX6_record_11 : decode cX6_record 11 = .ok (.bipush 111, 2) := by decide +kernel
theorem dX6_record_13 : decode cX6_record 13 = .ok (.if_icmp .ge 24, 3) := by decide +kernel
theorem dX6_record_16 : decode cX6_record 16 = .ok (.aload_n 0, 1) := by decide +kernel
theorem dX6_record_17 : decode cX6_record 17 = .ok (.getfield 13, 3) := by decide +kernel
theorem dX6_record_20 : decode cX6_record 20 = .ok (.iload_n 1, 1) := by decide +kernel
theorem dX6_record_21 : decode cX6_record 21 = .ok (.aload_n 0, 1) := by decide +kernel
theorem dX6_record_22 : decode cX6_record 22 = .ok (.getfield 13, 3) := by decide +kernel
theorem dX6_record_25 : decode cX6_record 25 = .ok (.bipush 37, 2) := by decide +kernel
theorem dX6_record_27 : decode cX6_record 27 = .ok (.iload_n 1, 1) := by decide +kernel
theorem dX6_record_28 : decode cX6_record 28 = .ok (.iadd, 1) := by decide +kernel
theorem dX6_record_29 : decode cX6_record 29 = .ok (.iaload, 1) := by decide +kernel
theorem dX6_record_30 : decode cX6_record 30 = .ok (.iastore, 1) := by decide +kernel
theorem dX6_record_31 : decode cX6_record 31 = .ok (.iinc 1 1, 3) := by decide +kernel
theorem dX6_record_34 : decode cX6_record 34 = .ok (.goto (-24), 3) := by decide +kernel
theorem dX6_record_37 : decode cX6_record 37 = .ok (.aload_n 0, 1) := by decide +kernel
theorem dX6_record_38 : decode cX6_record 38 = .ok (.dup, 1) := by decide +kernel
theorem dX6_record_39 : decode cX6_record 39 = .ok (.getfield 47, 3) := by decide +kernel
theorem dX6_record_42 : decode cX6_record 42 = .ok (.iconst 1, 1) := by decide +kernel
theorem dX6_record_43 : decode cX6_record 43 = .ok (.isub, 1) := by decide +kernel
theorem dX6_record_44 : decode cX6_record 44 = .ok (.putfield 47, 3) := by decide +kernel
theorem dX6_record_47 : decode cX6_record 47 = .ok (.iconst 0, 1) := by decide +kernel
theorem dX6_record_48 : decode cX6_record 48 = .ok (.istore_n 1, 1) := by decide +kernel
theorem dX6_record_49 : decode cX6_record 49 = .ok (.iload_n 1, 1) := by decide +kernel
theorem dX6_record_50 : decode cX6_record 50 = .ok (.bipush 37, 2) := by decide +kernel
theorem dX6_record_52 : decode cX6_record 52 = .ok (.if_icmp .ge 29, 3) := by decide +kernel
theorem dX6_record_55 : decode cX6_record 55 = .ok (.aload_n 0, 1) := by decide +kernel
theorem dX6_record_56 : decode cX6_record 56 = .ok (.getfield 13, 3) := by decide +kernel
theorem dX6_record_59 : decode cX6_record 59 = .ok (.bipush 37, 2) := by decide +kernel
theorem dX6_record_61 : decode cX6_record 61 = .ok (.aload_n 0, 1) := by decide +kernel
theorem dX6_record_62 : decode cX6_record 62 = .ok (.getfield 47, 3) := by decide +kernel
theorem dX6_record_65 : decode cX6_record 65 = .ok (.imul, 1) := by decide +kernel
theorem dX6_record_66 : decode cX6_record 66 = .ok (.iload_n 1, 1) := by decide +kernel
theorem dX6_record_67 : decode cX6_record 67 = .ok (.iadd, 1) := by decide +kernel
theorem dX6_record_68 : decode cX6_record 68 = .ok (.aload_n 0, 1) := by decide +kernel
theorem dX6_record_69 : decode cX6_record 69 = .ok (.getfield 19, 3) := by decide +kernel
theorem dX6_record_72 : decode cX6_record 72 = .ok (.iload_n 1, 1) := by decide +kernel
theorem dX6_record_73 : decode cX6_record 73 = .ok (.iaload, 1) := by decide +kernel
theorem dX6_record_74 : decode cX6_record 74 = .ok (.iastore, 1) := by decide +kernel
theorem dX6_record_75 : decode cX6_record 75 = .ok (.iinc 1 1, 3) := by decide +kernel
theorem dX6_record_78 : decode cX6_record 78 = .ok (.goto (-29), 3) := by decide +kernel
theorem dX6_record_81 : decode cX6_record 81 = .ok (.aload_n 0, 1) := by decide +kernel
theorem dX6_record_82 : decode cX6_record 82 = .ok (.dup, 1) := by decide +kernel
theorem dX6_record_83 : decode cX6_record 83 = .ok (.getfield 47, 3) := by decide +kernel
theorem dX6_record_86 : decode cX6_record 86 = .ok (.iconst 1, 1) := by decide +kernel
theorem dX6_record_87 : decode cX6_record 87 = .ok (.iadd, 1) := by decide +kernel
theorem dX6_record_88 : decode cX6_record 88 = .ok (.putfield 47, 3) := by decide +kernel
theorem dX6_record_91 : decode cX6_record 91 = .ok (.return_, 1) := by decide +kernel
set_option maxRecDepth 20000 in
theorem ggX6_begin_X6_remember : GoodIn wsX6_begin wsX6_remember := goodIn_r _ [5, 6, 7, 14, 15, 16, 17, 18, 19, 20, 21, 22, 23, 24, 25, 26, 27, 28, 29] (by decide +kernel) (by decide +kernel)
set_option maxRecDepth 20000 in
theorem gX6_begin_X6_remember : GoodIn wsX6_begin (wsV RX6 51 RX6 yX6_remember wsX6_remember) := goodIn_app (goodIn_of _ (by decide +kernel)) ggX6_begin_X6_remember
set_option maxRecDepth 20000 in
theorem ggX6_begin_X6_record : GoodIn wsX6_begin wsX6_record := goodIn_r _ [11, 12, 13, 6, 14, 15, 16, 17, 18, 19, 20, 21, 22, 23, 24, 25, 26, 27, 28, 29] (by decide +kernel) (by decide +kernel)
set_option maxRecDepth 20000 in
theorem gX6_begin_X6_record : GoodIn wsX6_begin (wsV RX6 54 RX6 yX6_record wsX6_record) := goodIn_app (goodIn_of _ (by decide +kernel)) ggX6_begin_X6_record
theorem dX6_begin_0 : decode cX6_begin 0 = .ok (.aload_n 0, 1) := by decide +kernel
theorem dX6_begin_1 : decode cX6_begin 1 = .ok (.invokevirtual 51, 3) := by decide +kernel
theorem dX6_begin_4 : decode cX6_begin 4 = .ok (.aload_n 0, 1) := by decide +kernel
theorem dX6_begin_5 : decode cX6_begin 5 = .ok (.invokevirtual 54, 3) := by decide +kernel
theorem dX6_begin_8 : decode cX6_begin 8 = .ok (.return_, 1) := by decide +kernel
theorem dX6_undo_0 : decode cX6_undo 0 = .ok (.aload_n 0, 1) := by decide +kernel
theorem dX6_undo_1 : decode cX6_undo 1 = .ok (.getfield 47, 3) := by decide +kernel
theorem dX6_undo_4 : decode cX6_undo 4 = .ok (.ifCond .ne 6, 3) := by decide +kernel
theorem dX6_undo_7 : decode cX6_undo 7 = .ok (.bipush (-5), 2) := by decide +kernel
theorem dX6_undo_9 : decode cX6_undo 9 = .ok (.ireturn, 1) := by decide +kernel
theorem dX6_undo_10 : decode cX6_undo 10 = .ok (.aload_n 0, 1) := by decide +kernel
theorem dX6_undo_11 : decode cX6_undo 11 = .ok (.dup, 1) := by decide +kernel
theorem dX6_undo_12 : decode cX6_undo 12 = .ok (.getfield 47, 3) := by decide +kernel
theorem dX6_undo_15 : decode cX6_undo 15 = .ok (.iconst 1, 1) := by decide +kernel
theorem dX6_undo_16 : decode cX6_undo 16 = .ok (.isub, 1) := by decide +kernel
theorem dX6_undo_17 : decode cX6_undo 17 = .ok (.putfield 47, 3) := by decide +kernel
theorem dX6_undo_20 : decode cX6_undo 20 = .ok (.iconst 0, 1) := by decide +kernel
theorem dX6_undo_21 : decode cX6_undo 21 = .ok (.istore_n 1, 1) := by decide +kernel
theorem dX6_undo_22 : decode cX6_undo 22 = .ok (.iload_n 1, 1) := by decide +kernel
theorem dX6_undo_23 : decode cX6_undo 23 = .ok (.bipush 37, 2) := by decide +kernel
theorem dX6_undo_25 : decode cX6_undo 25 = .ok (.if_icmp .ge 29, 3) := by decide +kernel
theorem dX6_undo_28 : decode cX6_undo 28 = .ok (.aload_n 0, 1) := by decide +kernel
theorem dX6_undo_29 : decode cX6_undo 29 = .ok (.getfield 7, 3) := by decide +kernel
theorem dX6_undo_32 : decode cX6_undo 32 = .ok (.iload_n 1, 1) := by decide +kernel
theorem dX6_undo_33 : decode cX6_undo 33 = .ok (.aload_n 0, 1) := by decide +kernel
theorem dX6_undo_34 : decode cX6_undo 34 = .ok (.getfield 13, 3) := by decide +kernel
theorem dX6_undo_37 : decode cX6_undo 37 = .ok (.bipush 37, 2) := by decide +kernel
theorem dX6_undo_39 : decode cX6_undo 39 = .ok (.aload_n 0, 1) := by decide +kernel
theorem dX6_undo_40 : decode cX6_undo 40 = .ok (.getfield 47, 3) := by decide +kernel
theorem dX6_undo_43 : decode cX6_undo 43 = .ok (.imul, 1) := by decide +kernel
theorem dX6_undo_44 : decode cX6_undo 44 = .ok (.iload_n 1, 1) := by decide +kernel
theorem dX6_undo_45 : decode cX6_undo 45 = .ok (.iadd, 1) := by decide +kernel
theorem dX6_undo_46 : decode cX6_undo 46 = .ok (.iaload, 1) := by decide +kernel
theorem dX6_undo_47 : decode cX6_undo 47 = .ok (.iastore, 1) := by decide +kernel
theorem dX6_undo_48 : decode cX6_undo 48 = .ok (.iinc 1 1, 3) := by decide +kernel
theorem dX6_undo_51 : decode cX6_undo 51 = .ok (.goto (-29), 3) := by decide +kernel
theorem dX6_undo_54 : decode cX6_undo 54 = .ok (.aload_n 0, 1) := by decide +kernel
theorem dX6_undo_55 : decode cX6_undo 55 = .ok (.getfield 47, 3) := by decide +kernel
theorem dX6_undo_58 : decode cX6_undo 58 = .ok (.ireturn, 1) := by decide +kernel
theorem dX6_keep_0 : decode cX6_keep 0 = .ok (.iconst 0, 1) := by decide +kernel
theorem dX6_keep_1 : decode cX6_keep 1 = .ok (.istore_n 1, 1) := by decide +kernel
theorem dX6_keep_2 : decode cX6_keep 2 = .ok (.iload_n 1, 1) := by decide +kernel
theorem dX6_keep_3 : decode cX6_keep 3 = .ok (.bipush 37, 2) := by decide +kernel
theorem dX6_keep_5 : decode cX6_keep 5 = .ok (.if_icmp .ge 21, 3) := by decide +kernel
theorem dX6_keep_8 : decode cX6_keep 8 = .ok (.aload_n 0, 1) := by decide +kernel
theorem dX6_keep_9 : decode cX6_keep 9 = .ok (.getfield 16, 3) := by decide +kernel
theorem dX6_keep_12 : decode cX6_keep 12 = .ok (.iload_n 1, 1) := by decide +kernel
theorem dX6_keep_13 : decode cX6_keep 13 = .ok (.aload_n 0, 1) := by decide +kernel
theorem dX6_keep_14 : decode cX6_keep 14 = .ok (.getfield 7, 3) := by decide +kernel
theorem dX6_keep_17 : decode cX6_keep 17 = .ok (.iload_n 1, 1) := by decide +kernel
theorem dX6_keep_18 : decode cX6_keep 18 = .ok (.iaload, 1) := by decide +kernel
theorem dX6_keep_19 : decode cX6_keep 19 = .ok (.iastore, 1) := by decide +kernel
theorem dX6_keep_20 : decode cX6_keep 20 = .ok (.iinc 1 1, 3) := by decide +kernel
theorem dX6_keep_23 : decode cX6_keep 23 = .ok (.goto (-21), 3) := by decide +kernel
theorem dX6_keep_26 : decode cX6_keep 26 = .ok (.aload_n 0, 1) := by decide +kernel
theorem dX6_keep_27 : decode cX6_keep 27 = .ok (.iconst 1, 1) := by decide +kernel
theorem dX6_keep_28 : decode cX6_keep 28 = .ok (.putfield 57, 3) := by decide +kernel
theorem dX6_keep_31 : decode cX6_keep 31 = .ok (.aload_n 0, 1) := by decide +kernel
theorem dX6_keep_32 : decode cX6_keep 32 = .ok (.getfield 7, 3) := by decide +kernel
theorem dX6_keep_35 : decode cX6_keep 35 = .ok (.iconst 2, 1) := by decide +kernel
theorem dX6_keep_36 : decode cX6_keep 36 = .ok (.iaload, 1) := by decide +kernel
theorem dX6_keep_37 : decode cX6_keep 37 = .ok (.ireturn, 1) := by decide +kernel
set_option maxRecDepth 20000 in
theorem ggX6_restore_X6_begin : GoodIn wsX6_restore wsX6_begin := goodIn_r _ [8, 9, 10, 11, 7, 12, 13, 2, 14, 15, 16, 17, 18, 19, 20, 21, 22, 23, 24, 25, 26, 27, 28, 29, 30, 31, 32, 33, 34, 35] (by decide +kernel) (by decide +kernel)
set_option maxRecDepth 20000 in
theorem gX6_restore_X6_begin : GoodIn wsX6_restore (wsV RX6 61 RX6 yX6_begin wsX6_begin) := goodIn_app (goodIn_of _ (by decide +kernel)) ggX6_restore_X6_begin
theorem dX6_restore_0 : decode cX6_restore 0 = .ok (.aload_n 0, 1) := by decide +kernel
theorem dX6_restore_1 : decode cX6_restore 1 = .ok (.getfield 57, 3) := by decide +kernel
theorem dX6_restore_4 : decode cX6_restore 4 = .ok (.ifCond .ne 6, 3) := by decide +kernel
theorem dX6_restore_7 : decode cX6_restore 7 = .ok (.bipush (-5), 2) := by decide +kernel
theorem dX6_restore_9 : decode cX6_restore 9 = .ok (.ireturn, 1) := by decide +kernel
theorem dX6_restore_10 : decode cX6_restore 10 = .ok (.aload_n 0, 1) := by decide +kernel
theorem dX6_restore_11 : decode cX6_restore 11 = .ok (.invokevirtual 61, 3) := by decide +kernel
theorem dX6_restore_14 : decode cX6_restore 14 = .ok (.iconst 0, 1) := by decide +kernel
theorem dX6_restore_15 : decode cX6_restore 15 = .ok (.istore_n 1, 1) := by decide +kernel
theorem dX6_restore_16 : decode cX6_restore 16 = .ok (.iload_n 1, 1) := by decide +kernel
theorem dX6_restore_17 : decode cX6_restore 17 = .ok (.bipush 37, 2) := by decide +kernel
theorem dX6_restore_19 : decode cX6_restore 19 = .ok (.if_icmp .ge 21, 3) := by decide +kernel
theorem dX6_restore_22 : decode cX6_restore 22 = .ok (.aload_n 0, 1) := by decide +kernel
theorem dX6_restore_23 : decode cX6_restore 23 = .ok (.getfield 7, 3) := by decide +kernel
theorem dX6_restore_26 : decode cX6_restore 26 = .ok (.iload_n 1, 1) := by decide +kernel
theorem dX6_restore_27 : decode cX6_restore 27 = .ok (.aload_n 0, 1) := by decide +kernel
theorem dX6_restore_28 : decode cX6_restore 28 = .ok (.getfield 16, 3) := by decide +kernel
theorem dX6_restore_31 : decode cX6_restore 31 = .ok (.iload_n 1, 1) := by decide +kernel
theorem dX6_restore_32 : decode cX6_restore 32 = .ok (.iaload, 1) := by decide +kernel
theorem dX6_restore_33 : decode cX6_restore 33 = .ok (.iastore, 1) := by decide +kernel
theorem dX6_restore_34 : decode cX6_restore 34 = .ok (.iinc 1 1, 3) := by decide +kernel
theorem dX6_restore_37 : decode cX6_restore 37 = .ok (.goto (-21), 3) := by decide +kernel
theorem dX6_restore_40 : decode cX6_restore 40 = .ok (.aload_n 0, 1) := by decide +kernel
theorem dX6_restore_41 : decode cX6_restore 41 = .ok (.getfield 7, 3) := by decide +kernel
theorem dX6_restore_44 : decode cX6_restore 44 = .ok (.iconst 2, 1) := by decide +kernel
theorem dX6_restore_45 : decode cX6_restore 45 = .ok (.iaload, 1) := by decide +kernel
theorem dX6_restore_46 : decode cX6_restore 46 = .ok (.ireturn, 1) := by decide +kernel
set_option maxRecDepth 20000 in
theorem ggX6_noRod_X6_in : GoodIn wsX6_noRod wsX6_in := goodIn_r _ [5] (by decide +kernel) (by decide +kernel)
set_option maxRecDepth 20000 in
theorem gX6_noRod_X6_in : GoodIn wsX6_noRod (va_wsS RX6 64 yX6_in wsX6_in) := goodIn_app (goodIn_of _ (by decide +kernel)) ggX6_noRod_X6_in
theorem dX6_noRod_0 : decode cX6_noRod 0 = .ok (.iload_n 1, 1) := by decide +kernel
theorem dX6_noRod_1 : decode cX6_noRod 1 = .ok (.iconst 0, 1) := by decide +kernel
theorem dX6_noRod_2 : decode cX6_noRod 2 = .ok (.aload_n 0, 1) := by decide +kernel
theorem dX6_noRod_3 : decode cX6_noRod 3 = .ok (.getfield 7, 3) := by decide +kernel
theorem dX6_noRod_6 : decode cX6_noRod 6 = .ok (.iconst 1, 1) := by decide +kernel
theorem dX6_noRod_7 : decode cX6_noRod 7 = .ok (.iaload, 1) := by decide +kernel
theorem dX6_noRod_8 : decode cX6_noRod 8 = .ok (.iconst 1, 1) := by decide +kernel
theorem dX6_noRod_9 : decode cX6_noRod 9 = .ok (.isub, 1) := by decide +kernel
theorem dX6_noRod_10 : decode cX6_noRod 10 = .ok (.invokestatic 64, 3) := by decide +kernel
theorem dX6_noRod_13 : decode cX6_noRod 13 = .ok (.ifCond .ne 7, 3) := by decide +kernel
theorem dX6_noRod_16 : decode cX6_noRod 16 = .ok (.iconst 1, 1) := by decide +kernel
theorem dX6_noRod_17 : decode cX6_noRod 17 = .ok (.goto 4, 3) := by decide +kernel
theorem dX6_noRod_20 : decode cX6_noRod 20 = .ok (.iconst 0, 1) := by decide +kernel
theorem dX6_noRod_21 : decode cX6_noRod 21 = .ok (.ireturn, 1) := by decide +kernel
theorem dX6_lengths_0 : decode cX6_lengths 0 = .ok (.iconst 0, 1) := by decide +kernel
theorem dX6_lengths_1 : decode cX6_lengths 1 = .ok (.istore_n 1, 1) := by decide +kernel
theorem dX6_lengths_2 : decode cX6_lengths 2 = .ok (.iconst 0, 1) := by decide +kernel
theorem dX6_lengths_3 : decode cX6_lengths 3 = .ok (.istore_n 2, 1) := by decide +kernel
theorem dX6_lengths_4 : decode cX6_lengths 4 = .ok (.iload_n 2, 1) := by decide +kernel
theorem dX6_lengths_5 : decode cX6_lengths 5 = .ok (.aload_n 0, 1) := by decide +kernel
theorem dX6_lengths_6 : decode cX6_lengths 6 = .ok (.getfield 7, 3) := by decide +kernel
theorem dX6_lengths_9 : decode cX6_lengths 9 = .ok (.iconst 1, 1) := by decide +kernel
theorem dX6_lengths_10 : decode cX6_lengths 10 = .ok (.iaload, 1) := by decide +kernel
theorem dX6_lengths_11 : decode cX6_lengths 11 = .ok (.if_icmp .ge 21, 3) := by decide +kernel
theorem dX6_lengths_14 : decode cX6_lengths 14 = .ok (.iload_n 1, 1) := by decide +kernel
theorem dX6_lengths_15 : decode cX6_lengths 15 = .ok (.aload_n 0, 1) := by decide +kernel
theorem dX6_lengths_16 : decode cX6_lengths 16 = .ok (.getfield 7, 3) := by decide +kernel
theorem dX6_lengths_19 : decode cX6_lengths 19 = .ok (.bipush 13, 2) := by decide +kernel
theorem dX6_lengths_21 : decode cX6_lengths 21 = .ok (.iload_n 2, 1) := by decide +kernel
theorem dX6_lengths_22 : decode cX6_lengths 22 = .ok (.iadd, 1) := by decide +kernel
theorem dX6_lengths_23 : decode cX6_lengths 23 = .ok (.iaload, 1) := by decide +kernel
theorem dX6_lengths_24 : decode cX6_lengths 24 = .ok (.iadd, 1) := by decide +kernel
theorem dX6_lengths_25 : decode cX6_lengths 25 = .ok (.istore_n 1, 1) := by decide +kernel
theorem dX6_lengths_26 : decode cX6_lengths 26 = .ok (.iinc 2 1, 3) := by decide +kernel
theorem dX6_lengths_29 : decode cX6_lengths 29 = .ok (.goto (-25), 3) := by decide +kernel
theorem dX6_lengths_32 : decode cX6_lengths 32 = .ok (.iload_n 1, 1) := by decide +kernel
theorem dX6_lengths_33 : decode cX6_lengths 33 = .ok (.ireturn, 1) := by decide +kernel
set_option maxRecDepth 20000 in
theorem ggX6_free_X6_lengths : GoodIn wsX6_free wsX6_lengths := goodIn_r _ [6, 1, 7, 8, 9, 10, 11, 12, 13, 14, 15, 16, 17, 18, 19, 20, 21, 22] (by decide +kernel) (by decide +kernel)
set_option maxRecDepth 20000 in
theorem gX6_free_X6_lengths : GoodIn wsX6_free (wsV RX6 68 RX6 yX6_lengths wsX6_lengths) := goodIn_app (goodIn_of _ (by decide +kernel)) ggX6_free_X6_lengths
theorem dX6_free_0 : decode cX6_free 0 = .ok (.aload_n 0, 1) := by decide +kernel
theorem dX6_free_1 : decode cX6_free 1 = .ok (.getfield 7, 3) := by decide +kernel
theorem dX6_free_4 : decode cX6_free 4 = .ok (.iconst 0, 1) := by decide +kernel
theorem dX6_free_5 : decode cX6_free 5 = .ok (.iaload, 1) := by decide +kernel
theorem dX6_free_6 : decode cX6_free 6 = .ok (.aload_n 0, 1) := by decide +kernel
theorem dX6_free_7 : decode cX6_free 7 = .ok (.invokevirtual 68, 3) := by decide +kernel
theorem dX6_free_10 : decode cX6_free 10 = .ok (.isub, 1) := by decide +kernel
theorem dX6_free_11 : decode cX6_free 11 = .ok (.ireturn, 1) := by decide +kernel
set_option maxRecDepth 20000 in
theorem ggX6_coverer_X6_rest : GoodIn wsX6_coverer wsX6_rest := goodIn_r _ [5] (by decide +kernel) (by decide +kernel)
set_option maxRecDepth 20000 in
theorem gX6_coverer_X6_rest : GoodIn wsX6_coverer (va_wsS RX6 72 yX6_rest wsX6_rest) := goodIn_app (goodIn_of _ (by decide +kernel)) ggX6_coverer_X6_rest
theorem dX6_coverer_0 : decode cX6_coverer 0 = .ok (.iconst 0, 1) := by decide +kernel
theorem dX6_coverer_1 : decode cX6_coverer 1 = .ok (.istore_n 2, 1) := by decide +kernel
theorem dX6_coverer_2 : decode cX6_coverer 2 = .ok (.iload_n 2, 1) := by decide +kernel
theorem dX6_coverer_3 : decode cX6_coverer 3 = .ok (.aload_n 0, 1) := by decide +kernel
theorem dX6_coverer_4 : decode cX6_coverer 4 = .ok (.getfield 7, 3) := by decide +kernel
theorem dX6_coverer_7 : decode cX6_coverer 7 = .ok (.iconst 1, 1) := by decide +kernel
theorem dX6_coverer_8 : decode cX6_coverer 8 = .ok (.iaload, 1) := by decide +kernel
theorem dX6_coverer_9 : decode cX6_coverer 9 = .ok (.if_icmp .ge 42, 3) := by decide +kernel
theorem dX6_coverer_12 : decode cX6_coverer 12 = .ok (.iload_n 1, 1) := by decide +kernel
theorem dX6_coverer_13 : decode cX6_coverer 13 = .ok (.aload_n 0, 1) := by decide +kernel
theorem dX6_coverer_14 : decode cX6_coverer 14 = .ok (.getfield 7, 3) := by decide +kernel
theorem dX6_coverer_17 : decode cX6_coverer 17 = .ok (.iconst 5, 1) := by decide +kernel
theorem dX6_coverer_18 : decode cX6_coverer 18 = .ok (.iload_n 2, 1) := by decide +kernel
theorem dX6_coverer_19 : decode cX6_coverer 19 = .ok (.iadd, 1) := by decide +kernel
theorem dX6_coverer_20 : decode cX6_coverer 20 = .ok (.iaload, 1) := by decide +kernel
theorem dX6_coverer_21 : decode cX6_coverer 21 = .ok (.isub, 1) := by decide +kernel
theorem dX6_coverer_22 : decode cX6_coverer 22 = .ok (.aload_n 0, 1) := by decide +kernel
theorem dX6_coverer_23 : decode cX6_coverer 23 = .ok (.getfield 7, 3) := by decide +kernel
theorem dX6_coverer_26 : decode cX6_coverer 26 = .ok (.iconst 0, 1) := by decide +kernel
theorem dX6_coverer_27 : decode cX6_coverer 27 = .ok (.iaload, 1) := by decide +kernel
theorem dX6_coverer_28 : decode cX6_coverer 28 = .ok (.invokestatic 72, 3) := by decide +kernel
theorem dX6_coverer_31 : decode cX6_coverer 31 = .ok (.aload_n 0, 1) := by decide +kernel
theorem dX6_coverer_32 : decode cX6_coverer 32 = .ok (.getfield 7, 3) := by decide +kernel
theorem dX6_coverer_35 : decode cX6_coverer 35 = .ok (.bipush 13, 2) := by decide +kernel
theorem dX6_coverer_37 : decode cX6_coverer 37 = .ok (.iload_n 2, 1) := by decide +kernel
theorem dX6_coverer_38 : decode cX6_coverer 38 = .ok (.iadd, 1) := by decide +kernel
theorem dX6_coverer_39 : decode cX6_coverer 39 = .ok (.iaload, 1) := by decide +kernel
theorem dX6_coverer_40 : decode cX6_coverer 40 = .ok (.if_icmp .ge 5, 3) := by decide +kernel
theorem dX6_coverer_43 : decode cX6_coverer 43 = .ok (.iload_n 2, 1) := by decide +kernel
theorem dX6_coverer_44 : decode cX6_coverer 44 = .ok (.ireturn, 1) := by decide +kernel
theorem dX6_coverer_45 : decode cX6_coverer 45 = .ok (.iinc 2 1, 3) := by decide +kernel
theorem dX6_coverer_48 : decode cX6_coverer 48 = .ok (.goto (-46), 3) := by decide +kernel
theorem dX6_coverer_51 : decode cX6_coverer 51 = .ok (.bipush (-5), 2) := by decide +kernel
theorem dX6_coverer_53 : decode cX6_coverer 53 = .ok (.ireturn, 1) := by decide +kernel
set_option maxRecDepth 20000 in
theorem ggX6_setRing_X6_in : GoodIn wsX6_setRing wsX6_in := goodIn_r _ [5] (by decide +kernel) (by decide +kernel)
set_option maxRecDepth 20000 in
theorem gX6_setRing_X6_in : GoodIn wsX6_setRing (va_wsS RX6 64 yX6_in wsX6_in) := goodIn_app (goodIn_of _ (by decide +kernel)) ggX6_setRing_X6_in
set_option maxRecDepth 20000 in
theorem ggX6_setRing_X6_begin : GoodIn wsX6_setRing wsX6_begin := goodIn_r _ [9, 10, 11, 12, 4, 13, 14, 1, 15, 16, 17, 18, 19, 20, 21, 22, 23, 24, 25, 26, 27, 28, 29, 30, 31, 32, 33, 34, 35, 36] (by decide +kernel) (by decide +kernel)
set_option maxRecDepth 20000 in
theorem gX6_setRing_X6_begin : GoodIn wsX6_setRing (wsV RX6 61 RX6 yX6_begin wsX6_begin) := goodIn_app (goodIn_of _ (by decide +kernel)) ggX6_setRing_X6_begin
theorem dX6_setRing_0 : decode cX6_setRing 0 = .ok (.iload_n 1, 1) := by decide +kernel
theorem dX6_setRing_1 : decode cX6_setRing 1 = .ok (.bipush 20, 2) := by decide +kernel
theorem dX6_setRing_3 : decode cX6_setRing 3 = .ok (.sipush 1000, 3) := by decide +kernel
theorem dX6_setRing_6 : decode cX6_setRing 6 = .ok (.invokestatic 64, 3) := by decide +kernel
theorem dX6_setRing_9 : decode cX6_setRing 9 = .ok (.ifCond .ne 6, 3) := by decide +kernel
theorem dX6_setRing_12 : decode cX6_setRing 12 = .ok (.bipush (-2), 2) := by decide +kernel
theorem dX6_setRing_14 : decode cX6_setRing 14 = .ok (.ireturn, 1) := by decide +kernel
theorem dX6_setRing_15 : decode cX6_setRing 15 = .ok (.aload_n 0, 1) := by decide +kernel
theorem dX6_setRing_16 : decode cX6_setRing 16 = .ok (.getfield 7, 3) := by decide +kernel
theorem dX6_setRing_19 : decode cX6_setRing 19 = .ok (.iconst 1, 1) := by decide +kernel
theorem dX6_setRing_20 : decode cX6_setRing 20 = .ok (.iaload, 1) := by decide +kernel
theorem dX6_setRing_21 : decode cX6_setRing 21 = .ok (.ifCond .le 6, 3) := by decide +kernel
theorem dX6_setRing_24 : decode cX6_setRing 24 = .ok (.bipush (-4), 2) := by decide +kernel
theorem dX6_setRing_26 : decode cX6_setRing 26 = .ok (.ireturn, 1) := by decide +kernel
theorem dX6_setRing_27 : decode cX6_setRing 27 = .ok (.aload_n 0, 1) := by decide +kernel
theorem dX6_setRing_28 : decode cX6_setRing 28 = .ok (.getfield 7, 3) := by decide +kernel
theorem dX6_setRing_31 : decode cX6_setRing 31 = .ok (.iconst 0, 1) := by decide +kernel
theorem dX6_setRing_32 : decode cX6_setRing 32 = .ok (.iaload, 1) := by decide +kernel
theorem dX6_setRing_33 : decode cX6_setRing 33 = .ok (.istore_n 2, 1) := by decide +kernel
theorem dX6_setRing_34 : decode cX6_setRing 34 = .ok (.iload_n 2, 1) := by decide +kernel
theorem dX6_setRing_35 : decode cX6_setRing 35 = .ok (.iload_n 1, 1) := by decide +kernel
theorem dX6_setRing_36 : decode cX6_setRing 36 = .ok (.if_icmp .ne 6, 3) := by decide +kernel
theorem dX6_setRing_39 : decode cX6_setRing 39 = .ok (.bipush (-5), 2) := by decide +kernel
theorem dX6_setRing_41 : decode cX6_setRing 41 = .ok (.ireturn, 1) := by decide +kernel
theorem dX6_setRing_42 : decode cX6_setRing 42 = .ok (.aload_n 0, 1) := by decide +kernel
theorem dX6_setRing_43 : decode cX6_setRing 43 = .ok (.invokevirtual 61, 3) := by decide +kernel
theorem dX6_setRing_46 : decode cX6_setRing 46 = .ok (.aload_n 0, 1) := by decide +kernel
theorem dX6_setRing_47 : decode cX6_setRing 47 = .ok (.getfield 7, 3) := by decide +kernel
theorem dX6_setRing_50 : decode cX6_setRing 50 = .ok (.iconst 0, 1) := by decide +kernel
theorem dX6_setRing_51 : decode cX6_setRing 51 = .ok (.iload_n 1, 1) := by decide +kernel
theorem dX6_setRing_52 : decode cX6_setRing 52 = .ok (.iastore, 1) := by decide +kernel
theorem dX6_setRing_53 : decode cX6_setRing 53 = .ok (.iload_n 2, 1) := by decide +kernel
theorem dX6_setRing_54 : decode cX6_setRing 54 = .ok (.ireturn, 1) := by decide +kernel
set_option maxRecDepth 20000 in
theorem ggX6_addRod_X6_in : GoodIn wsX6_addRod wsX6_in := goodIn_r _ [5] (by decide +kernel) (by decide +kernel)
set_option maxRecDepth 20000 in
theorem gX6_addRod_X6_in : GoodIn wsX6_addRod (va_wsS RX6 64 yX6_in wsX6_in) := goodIn_app (goodIn_of _ (by decide +kernel)) ggX6_addRod_X6_in
set_option maxRecDepth 20000 in
theorem ggX6_addRod_X6_free : GoodIn wsX6_addRod wsX6_free := goodIn_r _ [9, 1, 10, 11, 12, 4, 13, 36, 37, 38, 39, 40, 41, 42, 43, 44, 45, 46, 47, 48, 49, 50, 51] (by decide +kernel) (by decide +kernel)
set_option maxRecDepth 20000 in
theorem gX6_addRod_X6_free : GoodIn wsX6_addRod (wsV RX6 76 RX6 yX6_free wsX6_free) := goodIn_app (goodIn_of _ (by decide +kernel)) ggX6_addRod_X6_free
set_option maxRecDepth 20000 in
theorem ggX6_addRod_X6_rest : GoodIn wsX6_addRod wsX6_rest := goodIn_r _ [16] (by decide +kernel) (by decide +kernel)
set_option maxRecDepth 20000 in
theorem gX6_addRod_X6_rest : GoodIn wsX6_addRod (va_wsS RX6 72 yX6_rest wsX6_rest) := goodIn_app (goodIn_of _ (by decide +kernel)) ggX6_addRod_X6_rest
set_option maxRecDepth 20000 in
theorem ggX6_addRod_X6_coverer : GoodIn wsX6_addRod wsX6_coverer := goodIn_r _ [20, 1, 14, 15, 4, 16, 36, 37, 38, 39, 40, 41, 42, 43, 44, 45, 46, 47, 48, 49, 50, 51] (by decide +kernel) (by decide +kernel)
set_option maxRecDepth 20000 in
theorem gX6_addRod_X6_coverer : GoodIn wsX6_addRod (wsV RX6 79 RX6 yX6_coverer wsX6_coverer) := goodIn_app (goodIn_of _ (by decide +kernel)) ggX6_addRod_X6_coverer
set_option maxRecDepth 20000 in
theorem ggX6_addRod_X6_begin : GoodIn wsX6_addRod wsX6_begin := goodIn_r _ [24, 25, 26, 27, 4, 28, 29, 1, 30, 31, 32, 33, 34, 35, 36, 37, 38, 39, 40, 41, 42, 43, 44, 45, 46, 47, 48, 49, 50, 51] (by decide +kernel) (by decide +kernel)
set_option maxRecDepth 20000 in
theorem gX6_addRod_X6_begin : GoodIn wsX6_addRod (wsV RX6 61 RX6 yX6_begin wsX6_begin) := goodIn_app (goodIn_of _ (by decide +kernel)) ggX6_addRod_X6_begin
theorem dX6_addRod_0 : decode cX6_addRod 0 = .ok (.iload_n 1, 1) := by decide +kernel
theorem dX6_addRod_1 : decode cX6_addRod 1 = .ok (.iconst 0, 1) := by decide +kernel
theorem dX6_addRod_2 : decode cX6_addRod 2 = .ok (.aload_n 0, 1) := by decide +kernel
theorem dX6_addRod_3 : decode cX6_addRod 3 = .ok (.getfield 7, 3) := by decide +kernel
theorem dX6_addRod_6 : decode cX6_addRod 6 = .ok (.iconst 0, 1) := by decide +kernel
theorem dX6_addRod_7 : decode cX6_addRod 7 = .ok (.iaload, 1) := by decide +kernel
theorem dX6_addRod_8 : decode cX6_addRod 8 = .ok (.iconst 1, 1) := by decide +kernel
theorem dX6_addRod_9 : decode cX6_addRod 9 = .ok (.isub, 1) := by decide +kernel
theorem dX6_addRod_10 : decode cX6_addRod 10 = .ok (.invokestatic 64, 3) := by decide +kernel
theorem dX6_addRod_13 : decode cX6_addRod 13 = .ok (.ifCond .ne 5, 3) := by decide +kernel
theorem dX6_addRod_16 : decode cX6_addRod 16 = .ok (.iconst (-1), 1) := by decide +kernel
theorem dX6_addRod_17 : decode cX6_addRod 17 = .ok (.ireturn, 1) := by decide +kernel
theorem dX6_addRod_18 : decode cX6_addRod 18 = .ok (.iload_n 2, 1) := by decide +kernel
theorem dX6_addRod_19 : decode cX6_addRod 19 = .ok (.iconst 1, 1) := by decide +kernel
theorem dX6_addRod_20 : decode cX6_addRod 20 = .ok (.bipush 20, 2) := by decide +kernel
theorem dX6_addRod_22 : decode cX6_addRod 22 = .ok (.invokestatic 64, 3) := by decide +kernel
theorem dX6_addRod_25 : decode cX6_addRod 25 = .ok (.ifCond .eq 14, 3) := by decide +kernel
theorem dX6_addRod_28 : decode cX6_addRod 28 = .ok (.iload_n 3, 1) := by decide +kernel
theorem dX6_addRod_29 : decode cX6_addRod 29 = .ok (.bipush (-9), 2) := by decide +kernel
theorem dX6_addRod_31 : decode cX6_addRod 31 = .ok (.bipush 9, 2) := by decide +kernel
theorem dX6_addRod_33 : decode cX6_addRod 33 = .ok (.invokestatic 64, 3) := by decide +kernel
theorem dX6_addRod_36 : decode cX6_addRod 36 = .ok (.ifCond .ne 6, 3) := by decide +kernel
theorem dX6_addRod_39 : decode cX6_addRod 39 = .ok (.bipush (-2), 2) := by decide +kernel
theorem dX6_addRod_41 : decode cX6_addRod 41 = .ok (.ireturn, 1) := by decide +kernel
theorem dX6_addRod_42 : decode cX6_addRod 42 = .ok (.aload_n 0, 1) := by decide +kernel
theorem dX6_addRod_43 : decode cX6_addRod 43 = .ok (.getfield 7, 3) := by decide +kernel
theorem dX6_addRod_46 : decode cX6_addRod 46 = .ok (.iconst 1, 1) := by decide +kernel
theorem dX6_addRod_47 : decode cX6_addRod 47 = .ok (.iaload, 1) := by decide +kernel
theorem dX6_addRod_48 : decode cX6_addRod 48 = .ok (.istore 4, 2) := by decide +kernel
theorem dX6_addRod_50 : decode cX6_addRod 50 = .ok (.iload 4, 2) := by decide +kernel
theorem dX6_addRod_52 : decode cX6_addRod 52 = .ok (.bipush 8, 2) := by decide +kernel
theorem dX6_addRod_54 : decode cX6_addRod 54 = .ok (.if_icmp .ne 6, 3) := by decide +kernel
theorem dX6_addRod_57 : decode cX6_addRod 57 = .ok (.bipush (-3), 2) := by decide +kernel
theorem dX6_addRod_59 : decode cX6_addRod 59 = .ok (.ireturn, 1) := by decide +kernel
theorem dX6_addRod_60 : decode cX6_addRod 60 = .ok (.aload_n 0, 1) := by decide +kernel
theorem dX6_addRod_61 : decode cX6_addRod 61 = .ok (.invokevirtual 76, 3) := by decide +kernel
theorem dX6_addRod_64 : decode cX6_addRod 64 = .ok (.iload_n 2, 1) := by decide +kernel
theorem dX6_addRod_65 : decode cX6_addRod 65 = .ok (.isub, 1) := by decide +kernel
theorem dX6_addRod_66 : decode cX6_addRod 66 = .ok (.iconst 1, 1) := by decide +kernel
theorem dX6_addRod_67 : decode cX6_addRod 67 = .ok (.if_icmp .ge 6, 3) := by decide +kernel
theorem dX6_addRod_70 : decode cX6_addRod 70 = .ok (.bipush (-4), 2) := by decide +kernel
theorem dX6_addRod_72 : decode cX6_addRod 72 = .ok (.ireturn, 1) := by decide +kernel
theorem dX6_addRod_73 : decode cX6_addRod 73 = .ok (.iconst 0, 1) := by decide +kernel
theorem dX6_addRod_74 : decode cX6_addRod 74 = .ok (.istore 5, 2) := by decide +kernel
theorem dX6_addRod_76 : decode cX6_addRod 76 = .ok (.iload 5, 2) := by decide +kernel
theorem dX6_addRod_78 : decode cX6_addRod 78 = .ok (.iload_n 2, 1) := by decide +kernel
theorem dX6_addRod_79 : decode cX6_addRod 79 = .ok (.if_icmp .ge 32, 3) := by decide +kernel
theorem dX6_addRod_82 : decode cX6_addRod 82 = .ok (.aload_n 0, 1) := by decide +kernel
theorem dX6_addRod_83 : decode cX6_addRod 83 = .ok (.iload_n 1, 1) := by decide +kernel
theorem dX6_addRod_84 : decode cX6_addRod 84 = .ok (.iload 5, 2) := by decide +kernel
theorem dX6_addRod_86 : decode cX6_addRod 86 = .ok (.iadd, 1) := by decide +kernel
theorem dX6_addRod_87 : decode cX6_addRod 87 = .ok (.aload_n 0, 1) := by decide +kernel
theorem dX6_addRod_88 : decode cX6_addRod 88 = .ok (.getfield 7, 3) := by decide +kernel
theorem dX6_addRod_91 : decode cX6_addRod 91 = .ok (.iconst 0, 1) := by decide +kernel
theorem dX6_addRod_92 : decode cX6_addRod 92 = .ok (.iaload, 1) := by decide +kernel
theorem dX6_addRod_93 : decode cX6_addRod 93 = .ok (.invokestatic 72, 3) := by decide +kernel
theorem dX6_addRod_96 : decode cX6_addRod 96 = .ok (.invokevirtual 79, 3) := by decide +kernel
theorem dX6_addRod_99 : decode cX6_addRod 99 = .ok (.ifCond .lt 6, 3) := by decide +kernel
theorem dX6_addRod_102 : decode cX6_addRod 102 = .ok (.bipush (-4), 2) := by decide +kernel
theorem dX6_addRod_104 : decode cX6_addRod 104 = .ok (.ireturn, 1) := by decide +kernel
theorem dX6_addRod_105 : decode cX6_addRod 105 = .ok (.iinc 5 1, 3) := by decide +kernel
theorem dX6_addRod_108 : decode cX6_addRod 108 = .ok (.goto (-32), 3) := by decide +kernel
theorem dX6_addRod_111 : decode cX6_addRod 111 = .ok (.aload_n 0, 1) := by decide +kernel
theorem dX6_addRod_112 : decode cX6_addRod 112 = .ok (.invokevirtual 61, 3) := by decide +kernel
theorem dX6_addRod_115 : decode cX6_addRod 115 = .ok (.aload_n 0, 1) := by decide +kernel
theorem dX6_addRod_116 : decode cX6_addRod 116 = .ok (.getfield 7, 3) := by decide +kernel
theorem dX6_addRod_119 : decode cX6_addRod 119 = .ok (.iconst 5, 1) := by decide +kernel
theorem dX6_addRod_120 : decode cX6_addRod 120 = .ok (.iload 4, 2) := by decide +kernel
theorem dX6_addRod_122 : decode cX6_addRod 122 = .ok (.iadd, 1) := by decide +kernel
theorem dX6_addRod_123 : decode cX6_addRod 123 = .ok (.iload_n 1, 1) := by decide +kernel
theorem dX6_addRod_124 : decode cX6_addRod 124 = .ok (.iastore, 1) := by decide +kernel
theorem dX6_addRod_125 : decode cX6_addRod 125 = .ok (.aload_n 0, 1) := by decide +kernel
theorem dX6_addRod_126 : decode cX6_addRod 126 = .ok (.getfield 7, 3) := by decide +kernel
theorem dX6_addRod_129 : decode cX6_addRod 129 = .ok (.bipush 13, 2) := by decide +kernel
theorem dX6_addRod_131 : decode cX6_addRod 131 = .ok (.iload 4, 2) := by decide +kernel
theorem dX6_addRod_133 : decode cX6_addRod 133 = .ok (.iadd, 1) := by decide +kernel
theorem dX6_addRod_134 : decode cX6_addRod 134 = .ok (.iload_n 2, 1) := by decide +kernel
theorem dX6_addRod_135 : decode cX6_addRod 135 = .ok (.iastore, 1) := by decide +kernel
theorem dX6_addRod_136 : decode cX6_addRod 136 = .ok (.aload_n 0, 1) := by decide +kernel
theorem dX6_addRod_137 : decode cX6_addRod 137 = .ok (.getfield 7, 3) := by decide +kernel
theorem dX6_addRod_140 : decode cX6_addRod 140 = .ok (.bipush 21, 2) := by decide +kernel
theorem dX6_addRod_142 : decode cX6_addRod 142 = .ok (.iload 4, 2) := by decide +kernel
theorem dX6_addRod_144 : decode cX6_addRod 144 = .ok (.iadd, 1) := by decide +kernel
theorem dX6_addRod_145 : decode cX6_addRod 145 = .ok (.iload_n 3, 1) := by decide +kernel
theorem dX6_addRod_146 : decode cX6_addRod 146 = .ok (.iastore, 1) := by decide +kernel
theorem dX6_addRod_147 : decode cX6_addRod 147 = .ok (.aload_n 0, 1) := by decide +kernel
theorem dX6_addRod_148 : decode cX6_addRod 148 = .ok (.getfield 7, 3) := by decide +kernel
theorem dX6_addRod_151 : decode cX6_addRod 151 = .ok (.bipush 29, 2) := by decide +kernel
theorem dX6_addRod_153 : decode cX6_addRod 153 = .ok (.iload 4, 2) := by decide +kernel
theorem dX6_addRod_155 : decode cX6_addRod 155 = .ok (.iadd, 1) := by decide +kernel
theorem dX6_addRod_156 : decode cX6_addRod 156 = .ok (.iconst 0, 1) := by decide +kernel
theorem dX6_addRod_157 : decode cX6_addRod 157 = .ok (.iastore, 1) := by decide +kernel
theorem dX6_addRod_158 : decode cX6_addRod 158 = .ok (.aload_n 0, 1) := by decide +kernel
theorem dX6_addRod_159 : decode cX6_addRod 159 = .ok (.getfield 7, 3) := by decide +kernel
theorem dX6_addRod_162 : decode cX6_addRod 162 = .ok (.iconst 1, 1) := by decide +kernel
theorem dX6_addRod_163 : decode cX6_addRod 163 = .ok (.dup2, 1) := by decide +kernel
theorem dX6_addRod_164 : decode cX6_addRod 164 = .ok (.iaload, 1) := by decide +kernel
theorem dX6_addRod_165 : decode cX6_addRod 165 = .ok (.iconst 1, 1) := by decide +kernel
theorem dX6_addRod_166 : decode cX6_addRod 166 = .ok (.iadd, 1) := by decide +kernel
theorem dX6_addRod_167 : decode cX6_addRod 167 = .ok (.iastore, 1) := by decide +kernel
theorem dX6_addRod_168 : decode cX6_addRod 168 = .ok (.iload 4, 2) := by decide +kernel
theorem dX6_addRod_170 : decode cX6_addRod 170 = .ok (.ireturn, 1) := by decide +kernel
set_option maxRecDepth 20000 in
theorem ggX6_removeRod_X6_noRod : GoodIn wsX6_removeRod wsX6_noRod := goodIn_r _ [6, 1, 7, 8, 5, 9, 25, 26, 27, 28, 29, 30, 31, 32, 33, 34, 35, 36, 37, 38, 39, 40] (by decide +kernel) (by decide +kernel)
set_option maxRecDepth 20000 in
theorem gX6_removeRod_X6_noRod : GoodIn wsX6_removeRod (wsV RX6 83 RX6 yX6_noRod wsX6_noRod) := goodIn_app (goodIn_of _ (by decide +kernel)) ggX6_removeRod_X6_noRod
set_option maxRecDepth 20000 in
theorem ggX6_removeRod_X6_begin : GoodIn wsX6_removeRod wsX6_begin := goodIn_r _ [13, 14, 15, 16, 5, 17, 18, 1, 19, 20, 21, 22, 23, 24, 25, 26, 27, 28, 29, 30, 31, 32, 33, 34, 35, 36, 37, 38, 39, 40] (by decide +kernel) (by decide +kernel)
set_option maxRecDepth 20000 in
theorem gX6_removeRod_X6_begin : GoodIn wsX6_removeRod (wsV RX6 61 RX6 yX6_begin wsX6_begin) := goodIn_app (goodIn_of _ (by decide +kernel)) ggX6_removeRod_X6_begin
theorem dX6_removeRod_0 : decode cX6_removeRod 0 = .ok (.aload_n 0, 1) := by decide +kernel
theorem dX6_removeRod_1 : decode cX6_removeRod 1 = .ok (.iload_n 1, 1) := by decide +kernel
theorem dX6_removeRod_2 : decode cX6_removeRod 2 = .ok (.invokevirtual 83, 3) := by decide +kernel
theorem dX6_removeRod_5 : decode cX6_removeRod 5 = .ok (.ifCond .eq 5, 3) := by decide +kernel
theorem dX6_removeRod_8 : decode cX6_removeRod 8 = .ok (.iconst (-1), 1) := by decide +kernel
theorem dX6_removeRod_9 : decode cX6_removeRod 9 = .ok (.ireturn, 1) := by decide +kernel
theorem dX6_removeRod_10 : decode cX6_removeRod 10 = .ok (.aload_n 0, 1) := by decide +kernel
theorem dX6_removeRod_11 : decode cX6_removeRod 11 = .ok (.invokevirtual 61, 3) := by decide +kernel
theorem dX6_removeRod_14 : decode cX6_removeRod 14 = .ok (.aload_n 0, 1) := by decide +kernel
theorem dX6_removeRod_15 : decode cX6_removeRod 15 = .ok (.getfield 7, 3) := by decide +kernel
theorem dX6_removeRod_18 : decode cX6_removeRod 18 = .ok (.iconst 1, 1) := by decide +kernel
theorem dX6_removeRod_19 : decode cX6_removeRod 19 = .ok (.dup2, 1) := by decide +kernel
theorem dX6_removeRod_20 : decode cX6_removeRod 20 = .ok (.iaload, 1) := by decide +kernel
theorem dX6_removeRod_21 : decode cX6_removeRod 21 = .ok (.iconst 1, 1) := by decide +kernel
theorem dX6_removeRod_22 : decode cX6_removeRod 22 = .ok (.isub, 1) := by decide +kernel
theorem dX6_removeRod_23 : decode cX6_removeRod 23 = .ok (.iastore, 1) := by decide +kernel
theorem dX6_removeRod_24 : decode cX6_removeRod 24 = .ok (.iconst 5, 1) := by decide +kernel
theorem dX6_removeRod_25 : decode cX6_removeRod 25 = .ok (.istore_n 2, 1) := by decide +kernel
theorem dX6_removeRod_26 : decode cX6_removeRod 26 = .ok (.iload_n 2, 1) := by decide +kernel
theorem dX6_removeRod_27 : decode cX6_removeRod 27 = .ok (.bipush 37, 2) := by decide +kernel
theorem dX6_removeRod_29 : decode cX6_removeRod 29 = .ok (.if_icmp .ge 59, 3) := by decide +kernel
theorem dX6_removeRod_32 : decode cX6_removeRod 32 = .ok (.iload_n 1, 1) := by decide +kernel
theorem dX6_removeRod_33 : decode cX6_removeRod 33 = .ok (.istore_n 3, 1) := by decide +kernel
theorem dX6_removeRod_34 : decode cX6_removeRod 34 = .ok (.iload_n 3, 1) := by decide +kernel
theorem dX6_removeRod_35 : decode cX6_removeRod 35 = .ok (.aload_n 0, 1) := by decide +kernel
theorem dX6_removeRod_36 : decode cX6_removeRod 36 = .ok (.getfield 7, 3) := by decide +kernel
theorem dX6_removeRod_39 : decode cX6_removeRod 39 = .ok (.iconst 1, 1) := by decide +kernel
theorem dX6_removeRod_40 : decode cX6_removeRod 40 = .ok (.iaload, 1) := by decide +kernel
theorem dX6_removeRod_41 : decode cX6_removeRod 41 = .ok (.if_icmp .ge 27, 3) := by decide +kernel
theorem dX6_removeRod_44 : decode cX6_removeRod 44 = .ok (.aload_n 0, 1) := by decide +kernel
theorem dX6_removeRod_45 : decode cX6_removeRod 45 = .ok (.getfield 7, 3) := by decide +kernel
theorem dX6_removeRod_48 : decode cX6_removeRod 48 = .ok (.iload_n 2, 1) := by decide +kernel
theorem dX6_removeRod_49 : decode cX6_removeRod 49 = .ok (.iload_n 3, 1) := by decide +kernel
theorem dX6_removeRod_50 : decode cX6_removeRod 50 = .ok (.iadd, 1) := by decide +kernel
theorem dX6_removeRod_51 : decode cX6_removeRod 51 = .ok (.aload_n 0, 1) := by decide +kernel
theorem dX6_removeRod_52 : decode cX6_removeRod 52 = .ok (.getfield 7, 3) := by decide +kernel
theorem dX6_removeRod_55 : decode cX6_removeRod 55 = .ok (.iload_n 2, 1) := by decide +kernel
theorem dX6_removeRod_56 : decode cX6_removeRod 56 = .ok (.iload_n 3, 1) := by decide +kernel
theorem dX6_removeRod_57 : decode cX6_removeRod 57 = .ok (.iadd, 1) := by decide +kernel
theorem dX6_removeRod_58 : decode cX6_removeRod 58 = .ok (.iconst 1, 1) := by decide +kernel
theorem dX6_removeRod_59 : decode cX6_removeRod 59 = .ok (.iadd, 1) := by decide +kernel
theorem dX6_removeRod_60 : decode cX6_removeRod 60 = .ok (.iaload, 1) := by decide +kernel
theorem dX6_removeRod_61 : decode cX6_removeRod 61 = .ok (.iastore, 1) := by decide +kernel
theorem dX6_removeRod_62 : decode cX6_removeRod 62 = .ok (.iinc 3 1, 3) := by decide +kernel
theorem dX6_removeRod_65 : decode cX6_removeRod 65 = .ok (.goto (-31), 3) := by decide +kernel
theorem dX6_removeRod_68 : decode cX6_removeRod 68 = .ok (.aload_n 0, 1) := by decide +kernel
theorem dX6_removeRod_69 : decode cX6_removeRod 69 = .ok (.getfield 7, 3) := by decide +kernel
theorem dX6_removeRod_72 : decode cX6_removeRod 72 = .ok (.iload_n 2, 1) := by decide +kernel
theorem dX6_removeRod_73 : decode cX6_removeRod 73 = .ok (.aload_n 0, 1) := by decide +kernel
theorem dX6_removeRod_74 : decode cX6_removeRod 74 = .ok (.getfield 7, 3) := by decide +kernel
theorem dX6_removeRod_77 : decode cX6_removeRod 77 = .ok (.iconst 1, 1) := by decide +kernel
theorem dX6_removeRod_78 : decode cX6_removeRod 78 = .ok (.iaload, 1) := by decide +kernel
theorem dX6_removeRod_79 : decode cX6_removeRod 79 = .ok (.iadd, 1) := by decide +kernel
theorem dX6_removeRod_80 : decode cX6_removeRod 80 = .ok (.iconst 0, 1) := by decide +kernel
theorem dX6_removeRod_81 : decode cX6_removeRod 81 = .ok (.iastore, 1) := by decide +kernel
theorem dX6_removeRod_82 : decode cX6_removeRod 82 = .ok (.iinc 2 8, 3) := by decide +kernel
theorem dX6_removeRod_85 : decode cX6_removeRod 85 = .ok (.goto (-59), 3) := by decide +kernel
theorem dX6_removeRod_88 : decode cX6_removeRod 88 = .ok (.aload_n 0, 1) := by decide +kernel
theorem dX6_removeRod_89 : decode cX6_removeRod 89 = .ok (.getfield 7, 3) := by decide +kernel
theorem dX6_removeRod_92 : decode cX6_removeRod 92 = .ok (.iconst 1, 1) := by decide +kernel
theorem dX6_removeRod_93 : decode cX6_removeRod 93 = .ok (.iaload, 1) := by decide +kernel
theorem dX6_removeRod_94 : decode cX6_removeRod 94 = .ok (.ireturn, 1) := by decide +kernel
set_option maxRecDepth 20000 in
theorem ggX6_setSpeed_X6_noRod : GoodIn wsX6_setSpeed wsX6_noRod := goodIn_r _ [6, 1, 7, 8, 5, 9, 25, 26, 27, 28, 29, 30, 31, 32, 33, 34, 35, 36, 37, 38, 39, 40] (by decide +kernel) (by decide +kernel)
set_option maxRecDepth 20000 in
theorem gX6_setSpeed_X6_noRod : GoodIn wsX6_setSpeed (wsV RX6 83 RX6 yX6_noRod wsX6_noRod) := goodIn_app (goodIn_of _ (by decide +kernel)) ggX6_setSpeed_X6_noRod
set_option maxRecDepth 20000 in
theorem ggX6_setSpeed_X6_in : GoodIn wsX6_setSpeed wsX6_in := goodIn_r _ [9] (by decide +kernel) (by decide +kernel)
set_option maxRecDepth 20000 in
theorem gX6_setSpeed_X6_in : GoodIn wsX6_setSpeed (va_wsS RX6 64 yX6_in wsX6_in) := goodIn_app (goodIn_of _ (by decide +kernel)) ggX6_setSpeed_X6_in
set_option maxRecDepth 20000 in
theorem ggX6_setSpeed_X6_begin : GoodIn wsX6_setSpeed wsX6_begin := goodIn_r _ [13, 14, 15, 16, 5, 17, 18, 1, 19, 20, 21, 22, 23, 24, 25, 26, 27, 28, 29, 30, 31, 32, 33, 34, 35, 36, 37, 38, 39, 40] (by decide +kernel) (by decide +kernel)
set_option maxRecDepth 20000 in
theorem gX6_setSpeed_X6_begin : GoodIn wsX6_setSpeed (wsV RX6 61 RX6 yX6_begin wsX6_begin) := goodIn_app (goodIn_of _ (by decide +kernel)) ggX6_setSpeed_X6_begin
theorem dX6_setSpeed_0 : decode cX6_setSpeed 0 = .ok (.aload_n 0, 1) := by decide +kernel
theorem dX6_setSpeed_1 : decode cX6_setSpeed 1 = .ok (.iload_n 1, 1) := by decide +kernel
theorem dX6_setSpeed_2 : decode cX6_setSpeed 2 = .ok (.invokevirtual 83, 3) := by decide +kernel
theorem dX6_setSpeed_5 : decode cX6_setSpeed 5 = .ok (.ifCond .eq 5, 3) := by decide +kernel
theorem dX6_setSpeed_8 : decode cX6_setSpeed 8 = .ok (.iconst (-1), 1) := by decide +kernel
theorem dX6_setSpeed_9 : decode cX6_setSpeed 9 = .ok (.ireturn, 1) := by decide +kernel
theorem dX6_setSpeed_10 : decode cX6_setSpeed 10 = .ok (.iload_n 2, 1) := by decide +kernel
theorem dX6_setSpeed_11 : decode cX6_setSpeed 11 = .ok (.bipush (-9), 2) := by decide +kernel
theorem dX6_setSpeed_13 : decode cX6_setSpeed 13 = .ok (.bipush 9, 2) := by decide +kernel
theorem dX6_setSpeed_15 : decode cX6_setSpeed 15 = .ok (.invokestatic 64, 3) := by decide +kernel
theorem dX6_setSpeed_18 : decode cX6_setSpeed 18 = .ok (.ifCond .ne 6, 3) := by decide +kernel
theorem dX6_setSpeed_21 : decode cX6_setSpeed 21 = .ok (.bipush (-2), 2) := by decide +kernel
theorem dX6_setSpeed_23 : decode cX6_setSpeed 23 = .ok (.ireturn, 1) := by decide +kernel
theorem dX6_setSpeed_24 : decode cX6_setSpeed 24 = .ok (.aload_n 0, 1) := by decide +kernel
theorem dX6_setSpeed_25 : decode cX6_setSpeed 25 = .ok (.getfield 7, 3) := by decide +kernel
theorem dX6_setSpeed_28 : decode cX6_setSpeed 28 = .ok (.bipush 21, 2) := by decide +kernel
theorem dX6_setSpeed_30 : decode cX6_setSpeed 30 = .ok (.iload_n 1, 1) := by decide +kernel
theorem dX6_setSpeed_31 : decode cX6_setSpeed 31 = .ok (.iadd, 1) := by decide +kernel
theorem dX6_setSpeed_32 : decode cX6_setSpeed 32 = .ok (.iaload, 1) := by decide +kernel
theorem dX6_setSpeed_33 : decode cX6_setSpeed 33 = .ok (.istore_n 3, 1) := by decide +kernel
theorem dX6_setSpeed_34 : decode cX6_setSpeed 34 = .ok (.iload_n 3, 1) := by decide +kernel
theorem dX6_setSpeed_35 : decode cX6_setSpeed 35 = .ok (.iload_n 2, 1) := by decide +kernel
theorem dX6_setSpeed_36 : decode cX6_setSpeed 36 = .ok (.if_icmp .ne 6, 3) := by decide +kernel
theorem dX6_setSpeed_39 : decode cX6_setSpeed 39 = .ok (.bipush (-5), 2) := by decide +kernel
theorem dX6_setSpeed_41 : decode cX6_setSpeed 41 = .ok (.ireturn, 1) := by decide +kernel
theorem dX6_setSpeed_42 : decode cX6_setSpeed 42 = .ok (.aload_n 0, 1) := by decide +kernel
theorem dX6_setSpeed_43 : decode cX6_setSpeed 43 = .ok (.invokevirtual 61, 3) := by decide +kernel
theorem dX6_setSpeed_46 : decode cX6_setSpeed 46 = .ok (.aload_n 0, 1) := by decide +kernel
theorem dX6_setSpeed_47 : decode cX6_setSpeed 47 = .ok (.getfield 7, 3) := by decide +kernel
theorem dX6_setSpeed_50 : decode cX6_setSpeed 50 = .ok (.bipush 21, 2) := by decide +kernel
theorem dX6_setSpeed_52 : decode cX6_setSpeed 52 = .ok (.iload_n 1, 1) := by decide +kernel
theorem dX6_setSpeed_53 : decode cX6_setSpeed 53 = .ok (.iadd, 1) := by decide +kernel
theorem dX6_setSpeed_54 : decode cX6_setSpeed 54 = .ok (.iload_n 2, 1) := by decide +kernel
theorem dX6_setSpeed_55 : decode cX6_setSpeed 55 = .ok (.iastore, 1) := by decide +kernel
theorem dX6_setSpeed_56 : decode cX6_setSpeed 56 = .ok (.bipush 100, 2) := by decide +kernel
theorem dX6_setSpeed_58 : decode cX6_setSpeed 58 = .ok (.iload_n 3, 1) := by decide +kernel
theorem dX6_setSpeed_59 : decode cX6_setSpeed 59 = .ok (.iadd, 1) := by decide +kernel
theorem dX6_setSpeed_60 : decode cX6_setSpeed 60 = .ok (.ireturn, 1) := by decide +kernel
theorem dX6_moving_0 : decode cX6_moving 0 = .ok (.iconst 0, 1) := by decide +kernel
theorem dX6_moving_1 : decode cX6_moving 1 = .ok (.istore_n 1, 1) := by decide +kernel
theorem dX6_moving_2 : decode cX6_moving 2 = .ok (.iconst 0, 1) := by decide +kernel
theorem dX6_moving_3 : decode cX6_moving 3 = .ok (.istore_n 2, 1) := by decide +kernel
theorem dX6_moving_4 : decode cX6_moving 4 = .ok (.iload_n 2, 1) := by decide +kernel
theorem dX6_moving_5 : decode cX6_moving 5 = .ok (.aload_n 0, 1) := by decide +kernel
theorem dX6_moving_6 : decode cX6_moving 6 = .ok (.getfield 7, 3) := by decide +kernel
theorem dX6_moving_9 : decode cX6_moving 9 = .ok (.iconst 1, 1) := by decide +kernel
theorem dX6_moving_10 : decode cX6_moving 10 = .ok (.iaload, 1) := by decide +kernel
theorem dX6_moving_11 : decode cX6_moving 11 = .ok (.if_icmp .ge 29, 3) := by decide +kernel
theorem dX6_moving_14 : decode cX6_moving 14 = .ok (.iload_n 1, 1) := by decide +kernel
theorem dX6_moving_15 : decode cX6_moving 15 = .ok (.aload_n 0, 1) := by decide +kernel
theorem dX6_moving_16 : decode cX6_moving 16 = .ok (.getfield 7, 3) := by decide +kernel
theorem dX6_moving_19 : decode cX6_moving 19 = .ok (.bipush 21, 2) := by decide +kernel
theorem dX6_moving_21 : decode cX6_moving 21 = .ok (.iload_n 2, 1) := by decide +kernel
theorem dX6_moving_22 : decode cX6_moving 22 = .ok (.iadd, 1) := by decide +kernel
theorem dX6_moving_23 : decode cX6_moving 23 = .ok (.iaload, 1) := by decide +kernel
theorem dX6_moving_24 : decode cX6_moving 24 = .ok (.ifCond .ne 7, 3) := by decide +kernel
theorem dX6_moving_27 : decode cX6_moving 27 = .ok (.iconst 0, 1) := by decide +kernel
theorem dX6_moving_28 : decode cX6_moving 28 = .ok (.goto 4, 3) := by decide +kernel
theorem dX6_moving_31 : decode cX6_moving 31 = .ok (.iconst 1, 1) := by decide +kernel
theorem dX6_moving_32 : decode cX6_moving 32 = .ok (.iadd, 1) := by decide +kernel
theorem dX6_moving_33 : decode cX6_moving 33 = .ok (.istore_n 1, 1) := by decide +kernel
theorem dX6_moving_34 : decode cX6_moving 34 = .ok (.iinc 2 1, 3) := by decide +kernel
theorem dX6_moving_37 : decode cX6_moving 37 = .ok (.goto (-33), 3) := by decide +kernel
theorem dX6_moving_40 : decode cX6_moving 40 = .ok (.iload_n 1, 1) := by decide +kernel
theorem dX6_moving_41 : decode cX6_moving 41 = .ok (.ireturn, 1) := by decide +kernel
theorem dX6_turnRound_0 : decode cX6_turnRound 0 = .ok (.iconst 0, 1) := by decide +kernel
theorem dX6_turnRound_1 : decode cX6_turnRound 1 = .ok (.istore_n 1, 1) := by decide +kernel
theorem dX6_turnRound_2 : decode cX6_turnRound 2 = .ok (.iload_n 1, 1) := by decide +kernel
theorem dX6_turnRound_3 : decode cX6_turnRound 3 = .ok (.aload_n 0, 1) := by decide +kernel
theorem dX6_turnRound_4 : decode cX6_turnRound 4 = .ok (.getfield 7, 3) := by decide +kernel
theorem dX6_turnRound_7 : decode cX6_turnRound 7 = .ok (.iconst 1, 1) := by decide +kernel
theorem dX6_turnRound_8 : decode cX6_turnRound 8 = .ok (.iaload, 1) := by decide +kernel
