theorem dX6_turnRound_9 : decode cX6_turnRound 9 = .ok (.if_icmp .ge 28, 3) := by decide +kernel
theorem dX6_turnRound_12 : decode cX6_turnRound 12 = .ok (.aload_n 0, 1) := by decide +kernel
theorem dX6_turnRound_13 : decode cX6_turnRound 13 = .ok (.getfield 7, 3) := by decide +kernel
theorem dX6_turnRound_16 : decode cX6_turnRound 16 = .ok (.bipush 21, 2) := by decide +kernel
theorem dX6_turnRound_18 : decode cX6_turnRound 18 = .ok (.iload_n 1, 1) := by decide +kernel
theorem dX6_turnRound_19 : decode cX6_turnRound 19 = .ok (.iadd, 1) := by decide +kernel
theorem dX6_turnRound_20 : decode cX6_turnRound 20 = .ok (.aload_n 0, 1) := by decide +kernel
theorem dX6_turnRound_21 : decode cX6_turnRound 21 = .ok (.getfield 7, 3) := by decide +kernel
theorem dX6_turnRound_24 : decode cX6_turnRound 24 = .ok (.bipush 21, 2) := by decide +kernel
theorem dX6_turnRound_26 : decode cX6_turnRound 26 = .ok (.iload_n 1, 1) := by decide +kernel
theorem dX6_turnRound_27 : decode cX6_turnRound 27 = .ok (.iadd, 1) := by decide +kernel
theorem dX6_turnRound_28 : decode cX6_turnRound 28 = .ok (.iaload, 1) := by decide +kernel
theorem dX6_turnRound_29 : decode cX6_turnRound 29 = .ok (.ineg, 1) := by decide +kernel
theorem dX6_turnRound_30 : decode cX6_turnRound 30 = .ok (.iastore, 1) := by decide +kernel
theorem dX6_turnRound_31 : decode cX6_turnRound 31 = .ok (.iinc 1 1, 3) := by decide +kernel
theorem dX6_turnRound_34 : decode cX6_turnRound 34 = .ok (.goto (-32), 3) := by decide +kernel
theorem dX6_turnRound_37 : decode cX6_turnRound 37 = .ok (.return_, 1) := by decide +kernel
set_option maxRecDepth 20000 in
theorem ggX6_reverse_X6_moving : GoodIn wsX6_reverse wsX6_moving := goodIn_r _ [5, 6, 26, 27, 28, 29, 30, 31, 32, 33, 34, 35, 36, 37, 38, 39, 40, 41] (by decide +kernel) (by decide +kernel)
set_option maxRecDepth 20000 in
theorem gX6_reverse_X6_moving : GoodIn wsX6_reverse (wsV RX6 87 RX6 yX6_moving wsX6_moving) := goodIn_app (goodIn_of _ (by decide +kernel)) ggX6_reverse_X6_moving
set_option maxRecDepth 20000 in
theorem ggX6_reverse_X6_begin : GoodIn wsX6_reverse wsX6_begin := goodIn_r _ [10, 11, 12, 13, 4, 14, 15, 6, 16, 17, 18, 19, 20, 21, 26, 27, 28, 29, 30, 31, 32, 33, 34, 35, 36, 37, 38, 39, 40, 41] (by decide +kernel) (by decide +kernel)
set_option maxRecDepth 20000 in
theorem gX6_reverse_X6_begin : GoodIn wsX6_reverse (wsV RX6 61 RX6 yX6_begin wsX6_begin) := goodIn_app (goodIn_of _ (by decide +kernel)) ggX6_reverse_X6_begin
set_option maxRecDepth 20000 in
theorem ggX6_reverse_X6_turnRound : GoodIn wsX6_reverse wsX6_turnRound := goodIn_r _ [25, 6, 26, 27, 28, 29, 30, 31, 32, 33, 34, 35, 36, 37, 38, 39, 40, 41] (by decide +kernel) (by decide +kernel)
set_option maxRecDepth 20000 in
theorem gX6_reverse_X6_turnRound : GoodIn wsX6_reverse (wsV RX6 90 RX6 yX6_turnRound wsX6_turnRound) := goodIn_app (goodIn_of _ (by decide +kernel)) ggX6_reverse_X6_turnRound
theorem dX6_reverse_0 : decode cX6_reverse 0 = .ok (.aload_n 0, 1) := by decide +kernel
theorem dX6_reverse_1 : decode cX6_reverse 1 = .ok (.invokevirtual 87, 3) := by decide +kernel
theorem dX6_reverse_4 : decode cX6_reverse 4 = .ok (.istore_n 1, 1) := by decide +kernel
theorem dX6_reverse_5 : decode cX6_reverse 5 = .ok (.iload_n 1, 1) := by decide +kernel
theorem dX6_reverse_6 : decode cX6_reverse 6 = .ok (.ifCond .ne 6, 3) := by decide +kernel
theorem dX6_reverse_9 : decode cX6_reverse 9 = .ok (.bipush (-5), 2) := by decide +kernel
theorem dX6_reverse_11 : decode cX6_reverse 11 = .ok (.ireturn, 1) := by decide +kernel
theorem dX6_reverse_12 : decode cX6_reverse 12 = .ok (.aload_n 0, 1) := by decide +kernel
theorem dX6_reverse_13 : decode cX6_reverse 13 = .ok (.invokevirtual 61, 3) := by decide +kernel
theorem dX6_reverse_16 : decode cX6_reverse 16 = .ok (.aload_n 0, 1) := by decide +kernel
theorem dX6_reverse_17 : decode cX6_reverse 17 = .ok (.invokevirtual 90, 3) := by decide +kernel
theorem dX6_reverse_20 : decode cX6_reverse 20 = .ok (.iload_n 1, 1) := by decide +kernel
theorem dX6_reverse_21 : decode cX6_reverse 21 = .ok (.ireturn, 1) := by decide +kernel
theorem dX6_layPoints_0 : decode cX6_layPoints 0 = .ok (.aload_n 0, 1) := by decide +kernel
theorem dX6_layPoints_1 : decode cX6_layPoints 1 = .ok (.getfield 7, 3) := by decide +kernel
theorem dX6_layPoints_4 : decode cX6_layPoints 4 = .ok (.iconst 1, 1) := by decide +kernel
theorem dX6_layPoints_5 : decode cX6_layPoints 5 = .ok (.iaload, 1) := by decide +kernel
theorem dX6_layPoints_6 : decode cX6_layPoints 6 = .ok (.istore_n 1, 1) := by decide +kernel
theorem dX6_layPoints_7 : decode cX6_layPoints 7 = .ok (.iconst 0, 1) := by decide +kernel
theorem dX6_layPoints_8 : decode cX6_layPoints 8 = .ok (.istore_n 2, 1) := by decide +kernel
theorem dX6_layPoints_9 : decode cX6_layPoints 9 = .ok (.iload_n 2, 1) := by decide +kernel
theorem dX6_layPoints_10 : decode cX6_layPoints 10 = .ok (.iload_n 1, 1) := by decide +kernel
theorem dX6_layPoints_11 : decode cX6_layPoints 11 = .ok (.if_icmp .ge 68, 3) := by decide +kernel
theorem dX6_layPoints_14 : decode cX6_layPoints 14 = .ok (.iload_n 2, 1) := by decide +kernel
theorem dX6_layPoints_15 : decode cX6_layPoints 15 = .ok (.istore_n 3, 1) := by decide +kernel
theorem dX6_layPoints_16 : decode cX6_layPoints 16 = .ok (.iload_n 3, 1) := by decide +kernel
theorem dX6_layPoints_17 : decode cX6_layPoints 17 = .ok (.ifCond .le 49, 3) := by decide +kernel
theorem dX6_layPoints_20 : decode cX6_layPoints 20 = .ok (.aload_n 0, 1) := by decide +kernel
theorem dX6_layPoints_21 : decode cX6_layPoints 21 = .ok (.getfield 7, 3) := by decide +kernel
theorem dX6_layPoints_24 : decode cX6_layPoints 24 = .ok (.iconst 5, 1) := by decide +kernel
theorem dX6_layPoints_25 : decode cX6_layPoints 25 = .ok (.aload_n 0, 1) := by decide +kernel
theorem dX6_layPoints_26 : decode cX6_layPoints 26 = .ok (.getfield 26, 3) := by decide +kernel
theorem dX6_layPoints_29 : decode cX6_layPoints 29 = .ok (.iload_n 3, 1) := by decide +kernel
theorem dX6_layPoints_30 : decode cX6_layPoints 30 = .ok (.iconst 1, 1) := by decide +kernel
theorem dX6_layPoints_31 : decode cX6_layPoints 31 = .ok (.isub, 1) := by decide +kernel
theorem dX6_layPoints_32 : decode cX6_layPoints 32 = .ok (.iaload, 1) := by decide +kernel
theorem dX6_layPoints_33 : decode cX6_layPoints 33 = .ok (.iadd, 1) := by decide +kernel
theorem dX6_layPoints_34 : decode cX6_layPoints 34 = .ok (.iaload, 1) := by decide +kernel
theorem dX6_layPoints_35 : decode cX6_layPoints 35 = .ok (.aload_n 0, 1) := by decide +kernel
theorem dX6_layPoints_36 : decode cX6_layPoints 36 = .ok (.getfield 7, 3) := by decide +kernel
theorem dX6_layPoints_39 : decode cX6_layPoints 39 = .ok (.iconst 5, 1) := by decide +kernel
theorem dX6_layPoints_40 : decode cX6_layPoints 40 = .ok (.iload_n 2, 1) := by decide +kernel
theorem dX6_layPoints_41 : decode cX6_layPoints 41 = .ok (.iadd, 1) := by decide +kernel
theorem dX6_layPoints_42 : decode cX6_layPoints 42 = .ok (.iaload, 1) := by decide +kernel
theorem dX6_layPoints_43 : decode cX6_layPoints 43 = .ok (.if_icmp .le 23, 3) := by decide +kernel
theorem dX6_layPoints_46 : decode cX6_layPoints 46 = .ok (.aload_n 0, 1) := by decide +kernel
theorem dX6_layPoints_47 : decode cX6_layPoints 47 = .ok (.getfield 26, 3) := by decide +kernel
theorem dX6_layPoints_50 : decode cX6_layPoints 50 = .ok (.iload_n 3, 1) := by decide +kernel
theorem dX6_layPoints_51 : decode cX6_layPoints 51 = .ok (.aload_n 0, 1) := by decide +kernel
theorem dX6_layPoints_52 : decode cX6_layPoints 52 = .ok (.getfield 26, 3) := by decide +kernel
theorem dX6_layPoints_55 : decode cX6_layPoints 55 = .ok (.iload_n 3, 1) := by decide +kernel
theorem dX6_layPoints_56 : decode cX6_layPoints 56 = .ok (.iconst 1, 1) := by decide +kernel
theorem dX6_layPoints_57 : decode cX6_layPoints 57 = .ok (.isub, 1) := by decide +kernel
theorem dX6_layPoints_58 : decode cX6_layPoints 58 = .ok (.iaload, 1) := by decide +kernel
theorem dX6_layPoints_59 : decode cX6_layPoints 59 = .ok (.iastore, 1) := by decide +kernel
theorem dX6_layPoints_60 : decode cX6_layPoints 60 = .ok (.iinc 3 (-1), 3) := by decide +kernel
theorem dX6_layPoints_63 : decode cX6_layPoints 63 = .ok (.goto (-47), 3) := by decide +kernel
theorem dX6_layPoints_66 : decode cX6_layPoints 66 = .ok (.aload_n 0, 1) := by decide +kernel
theorem dX6_layPoints_67 : decode cX6_layPoints 67 = .ok (.getfield 26, 3) := by decide +kernel
theorem dX6_layPoints_70 : decode cX6_layPoints 70 = .ok (.iload_n 3, 1) := by decide +kernel
theorem dX6_layPoints_71 : decode cX6_layPoints 71 = .ok (.iload_n 2, 1) := by decide +kernel
theorem dX6_layPoints_72 : decode cX6_layPoints 72 = .ok (.iastore, 1) := by decide +kernel
theorem dX6_layPoints_73 : decode cX6_layPoints 73 = .ok (.iinc 2 1, 3) := by decide +kernel
theorem dX6_layPoints_76 : decode cX6_layPoints 76 = .ok (.goto (-67), 3) := by decide +kernel
theorem dX6_layPoints_79 : decode cX6_layPoints 79 = .ok (.iconst 0, 1) := by decide +kernel
theorem dX6_layPoints_80 : decode cX6_layPoints 80 = .ok (.istore_n 2, 1) := by decide +kernel
theorem dX6_layPoints_81 : decode cX6_layPoints 81 = .ok (.iconst 0, 1) := by decide +kernel
theorem dX6_layPoints_82 : decode cX6_layPoints 82 = .ok (.istore_n 3, 1) := by decide +kernel
theorem dX6_layPoints_83 : decode cX6_layPoints 83 = .ok (.iload_n 3, 1) := by decide +kernel
theorem dX6_layPoints_84 : decode cX6_layPoints 84 = .ok (.iload_n 1, 1) := by decide +kernel
theorem dX6_layPoints_85 : decode cX6_layPoints 85 = .ok (.if_icmp .ge 47, 3) := by decide +kernel
theorem dX6_layPoints_88 : decode cX6_layPoints 88 = .ok (.aload_n 0, 1) := by decide +kernel
theorem dX6_layPoints_89 : decode cX6_layPoints 89 = .ok (.getfield 29, 3) := by decide +kernel
theorem dX6_layPoints_92 : decode cX6_layPoints 92 = .ok (.iload_n 3, 1) := by decide +kernel
theorem dX6_layPoints_93 : decode cX6_layPoints 93 = .ok (.aload_n 0, 1) := by decide +kernel
theorem dX6_layPoints_94 : decode cX6_layPoints 94 = .ok (.getfield 7, 3) := by decide +kernel
theorem dX6_layPoints_97 : decode cX6_layPoints 97 = .ok (.iconst 5, 1) := by decide +kernel
theorem dX6_layPoints_98 : decode cX6_layPoints 98 = .ok (.aload_n 0, 1) := by decide +kernel
theorem dX6_layPoints_99 : decode cX6_layPoints 99 = .ok (.getfield 26, 3) := by decide +kernel
theorem dX6_layPoints_102 : decode cX6_layPoints 102 = .ok (.iload_n 3, 1) := by decide +kernel
theorem dX6_layPoints_103 : decode cX6_layPoints 103 = .ok (.iaload, 1) := by decide +kernel
theorem dX6_layPoints_104 : decode cX6_layPoints 104 = .ok (.iadd, 1) := by decide +kernel
theorem dX6_layPoints_105 : decode cX6_layPoints 105 = .ok (.iaload, 1) := by decide +kernel
theorem dX6_layPoints_106 : decode cX6_layPoints 106 = .ok (.iload_n 2, 1) := by decide +kernel
theorem dX6_layPoints_107 : decode cX6_layPoints 107 = .ok (.isub, 1) := by decide +kernel
theorem dX6_layPoints_108 : decode cX6_layPoints 108 = .ok (.iastore, 1) := by decide +kernel
theorem dX6_layPoints_109 : decode cX6_layPoints 109 = .ok (.iload_n 2, 1) := by decide +kernel
theorem dX6_layPoints_110 : decode cX6_layPoints 110 = .ok (.aload_n 0, 1) := by decide +kernel
theorem dX6_layPoints_111 : decode cX6_layPoints 111 = .ok (.getfield 7, 3) := by decide +kernel
theorem dX6_layPoints_114 : decode cX6_layPoints 114 = .ok (.bipush 13, 2) := by decide +kernel
theorem dX6_layPoints_116 : decode cX6_layPoints 116 = .ok (.aload_n 0, 1) := by decide +kernel
theorem dX6_layPoints_117 : decode cX6_layPoints 117 = .ok (.getfield 26, 3) := by decide +kernel
theorem dX6_layPoints_120 : decode cX6_layPoints 120 = .ok (.iload_n 3, 1) := by decide +kernel
theorem dX6_layPoints_121 : decode cX6_layPoints 121 = .ok (.iaload, 1) := by decide +kernel
theorem dX6_layPoints_122 : decode cX6_layPoints 122 = .ok (.iadd, 1) := by decide +kernel
theorem dX6_layPoints_123 : decode cX6_layPoints 123 = .ok (.iaload, 1) := by decide +kernel
theorem dX6_layPoints_124 : decode cX6_layPoints 124 = .ok (.iadd, 1) := by decide +kernel
theorem dX6_layPoints_125 : decode cX6_layPoints 125 = .ok (.istore_n 2, 1) := by decide +kernel
theorem dX6_layPoints_126 : decode cX6_layPoints 126 = .ok (.iinc 3 1, 3) := by decide +kernel
theorem dX6_layPoints_129 : decode cX6_layPoints 129 = .ok (.goto (-46), 3) := by decide +kernel
theorem dX6_layPoints_132 : decode cX6_layPoints 132 = .ok (.return_, 1) := by decide +kernel
set_option maxRecDepth 20000 in
theorem ggX6_go_X6_layPoints : GoodIn wsX6_go wsX6_layPoints := goodIn_r _ [12, 1, 3, 2, 28, 29, 30, 31, 32, 33, 34, 35, 36, 37, 38, 39, 40, 41, 42, 43] (by decide +kernel) (by decide +kernel)
set_option maxRecDepth 20000 in
theorem gX6_go_X6_layPoints : GoodIn wsX6_go (wsV RX6 93 RX6 yX6_layPoints wsX6_layPoints) := goodIn_app (goodIn_of _ (by decide +kernel)) ggX6_go_X6_layPoints
set_option maxRecDepth 20000 in
theorem ggX6_go_X6_free : GoodIn wsX6_go wsX6_free := goodIn_r _ [16, 1, 17, 18, 19, 11, 20, 28, 29, 30, 31, 32, 33, 34, 35, 36, 37, 38, 39, 40, 41, 42, 43] (by decide +kernel) (by decide +kernel)
set_option maxRecDepth 20000 in
theorem gX6_go_X6_free : GoodIn wsX6_go (wsV RX6 76 RX6 yX6_free wsX6_free) := goodIn_app (goodIn_of _ (by decide +kernel)) ggX6_go_X6_free
set_option maxRecDepth 20000 in
theorem ggX6_go_X6_rest : GoodIn wsX6_go wsX6_rest := goodIn_r _ [23] (by decide +kernel) (by decide +kernel)
set_option maxRecDepth 20000 in
theorem gX6_go_X6_rest : GoodIn wsX6_go (va_wsS RX6 72 yX6_rest wsX6_rest) := goodIn_app (goodIn_of _ (by decide +kernel)) ggX6_go_X6_rest
set_option maxRecDepth 20000 in
theorem ggX6_go_X6_insert : GoodIn wsX6_go wsX6_insert := goodIn_r _ [27, 5, 7, 28, 29, 30, 31, 32, 33, 34, 35, 36, 37, 38, 39, 40, 41, 42, 43] (by decide +kernel) (by decide +kernel)
set_option maxRecDepth 20000 in
theorem gX6_go_X6_insert : GoodIn wsX6_go (wsV RX6 96 RX6 yX6_insert wsX6_insert) := goodIn_app (goodIn_of _ (by decide +kernel)) ggX6_go_X6_insert
theorem dX6_go_0 : decode cX6_go 0 = .ok (.aload_n 0, 1) := by decide +kernel
theorem dX6_go_1 : decode cX6_go 1 = .ok (.invokevirtual 93, 3) := by decide +kernel
theorem dX6_go_4 : decode cX6_go 4 = .ok (.aload_n 0, 1) := by decide +kernel
theorem dX6_go_5 : decode cX6_go 5 = .ok (.getfield 7, 3) := by decide +kernel
theorem dX6_go_8 : decode cX6_go 8 = .ok (.iconst 1, 1) := by decide +kernel
theorem dX6_go_9 : decode cX6_go 9 = .ok (.iaload, 1) := by decide +kernel
theorem dX6_go_10 : decode cX6_go 10 = .ok (.istore_n 2, 1) := by decide +kernel
theorem dX6_go_11 : decode cX6_go 11 = .ok (.aload_n 0, 1) := by decide +kernel
theorem dX6_go_12 : decode cX6_go 12 = .ok (.invokevirtual 76, 3) := by decide +kernel
theorem dX6_go_15 : decode cX6_go 15 = .ok (.istore_n 3, 1) := by decide +kernel
theorem dX6_go_16 : decode cX6_go 16 = .ok (.iconst 0, 1) := by decide +kernel
theorem dX6_go_17 : decode cX6_go 17 = .ok (.istore 4, 2) := by decide +kernel
theorem dX6_go_19 : decode cX6_go 19 = .ok (.iconst 0, 1) := by decide +kernel
theorem dX6_go_20 : decode cX6_go 20 = .ok (.istore 5, 2) := by decide +kernel
theorem dX6_go_22 : decode cX6_go 22 = .ok (.iload 5, 2) := by decide +kernel
theorem dX6_go_24 : decode cX6_go 24 = .ok (.iload_n 2, 1) := by decide +kernel
theorem dX6_go_25 : decode cX6_go 25 = .ok (.if_icmp .ge 79, 3) := by decide +kernel
theorem dX6_go_28 : decode cX6_go 28 = .ok (.aload_n 0, 1) := by decide +kernel
theorem dX6_go_29 : decode cX6_go 29 = .ok (.getfield 29, 3) := by decide +kernel
theorem dX6_go_32 : decode cX6_go 32 = .ok (.iload 5, 2) := by decide +kernel
theorem dX6_go_34 : decode cX6_go 34 = .ok (.iaload, 1) := by decide +kernel
theorem dX6_go_35 : decode cX6_go 35 = .ok (.iload_n 1, 1) := by decide +kernel
theorem dX6_go_36 : decode cX6_go 36 = .ok (.aload_n 0, 1) := by decide +kernel
theorem dX6_go_37 : decode cX6_go 37 = .ok (.getfield 7, 3) := by decide +kernel
theorem dX6_go_40 : decode cX6_go 40 = .ok (.bipush 21, 2) := by decide +kernel
theorem dX6_go_42 : decode cX6_go 42 = .ok (.aload_n 0, 1) := by decide +kernel
theorem dX6_go_43 : decode cX6_go 43 = .ok (.getfield 26, 3) := by decide +kernel
theorem dX6_go_46 : decode cX6_go 46 = .ok (.iload 5, 2) := by decide +kernel
theorem dX6_go_48 : decode cX6_go 48 = .ok (.iaload, 1) := by decide +kernel
theorem dX6_go_49 : decode cX6_go 49 = .ok (.iadd, 1) := by decide +kernel
theorem dX6_go_50 : decode cX6_go 50 = .ok (.iaload, 1) := by decide +kernel
theorem dX6_go_51 : decode cX6_go 51 = .ok (.imul, 1) := by decide +kernel
theorem dX6_go_52 : decode cX6_go 52 = .ok (.iadd, 1) := by decide +kernel
theorem dX6_go_53 : decode cX6_go 53 = .ok (.istore 6, 2) := by decide +kernel
theorem dX6_go_55 : decode cX6_go 55 = .ok (.iload 6, 2) := by decide +kernel
theorem dX6_go_57 : decode cX6_go 57 = .ok (.iload_n 3, 1) := by decide +kernel
theorem dX6_go_58 : decode cX6_go 58 = .ok (.invokestatic 72, 3) := by decide +kernel
theorem dX6_go_61 : decode cX6_go 61 = .ok (.istore 7, 2) := by decide +kernel
theorem dX6_go_63 : decode cX6_go 63 = .ok (.iload 4, 2) := by decide +kernel
theorem dX6_go_65 : decode cX6_go 65 = .ok (.iload 6, 2) := by decide +kernel
theorem dX6_go_67 : decode cX6_go 67 = .ok (.iload 7, 2) := by decide +kernel
theorem dX6_go_69 : decode cX6_go 69 = .ok (.isub, 1) := by decide +kernel
theorem dX6_go_70 : decode cX6_go 70 = .ok (.iload_n 3, 1) := by decide +kernel
theorem dX6_go_71 : decode cX6_go 71 = .ok (.idiv, 1) := by decide +kernel
theorem dX6_go_72 : decode cX6_go 72 = .ok (.iadd, 1) := by decide +kernel
theorem dX6_go_73 : decode cX6_go 73 = .ok (.istore 4, 2) := by decide +kernel
theorem dX6_go_75 : decode cX6_go 75 = .ok (.aload_n 0, 1) := by decide +kernel
theorem dX6_go_76 : decode cX6_go 76 = .ok (.iload 5, 2) := by decide +kernel
theorem dX6_go_78 : decode cX6_go 78 = .ok (.iload 7, 2) := by decide +kernel
theorem dX6_go_80 : decode cX6_go 80 = .ok (.aload_n 0, 1) := by decide +kernel
theorem dX6_go_81 : decode cX6_go 81 = .ok (.getfield 7, 3) := by decide +kernel
theorem dX6_go_84 : decode cX6_go 84 = .ok (.bipush 21, 2) := by decide +kernel
theorem dX6_go_86 : decode cX6_go 86 = .ok (.aload_n 0, 1) := by decide +kernel
theorem dX6_go_87 : decode cX6_go 87 = .ok (.getfield 26, 3) := by decide +kernel
theorem dX6_go_90 : decode cX6_go 90 = .ok (.iload 5, 2) := by decide +kernel
theorem dX6_go_92 : decode cX6_go 92 = .ok (.iaload, 1) := by decide +kernel
theorem dX6_go_93 : decode cX6_go 93 = .ok (.iadd, 1) := by decide +kernel
theorem dX6_go_94 : decode cX6_go 94 = .ok (.iaload, 1) := by decide +kernel
theorem dX6_go_95 : decode cX6_go 95 = .ok (.invokevirtual 96, 3) := by decide +kernel
theorem dX6_go_98 : decode cX6_go 98 = .ok (.iinc 5 1, 3) := by decide +kernel
theorem dX6_go_101 : decode cX6_go 101 = .ok (.goto (-79), 3) := by decide +kernel
theorem dX6_go_104 : decode cX6_go 104 = .ok (.iconst 0, 1) := by decide +kernel
theorem dX6_go_105 : decode cX6_go 105 = .ok (.istore 5, 2) := by decide +kernel
theorem dX6_go_107 : decode cX6_go 107 = .ok (.iload 5, 2) := by decide +kernel
theorem dX6_go_109 : decode cX6_go 109 = .ok (.iload_n 2, 1) := by decide +kernel
theorem dX6_go_110 : decode cX6_go 110 = .ok (.if_icmp .ge 61, 3) := by decide +kernel
theorem dX6_go_113 : decode cX6_go 113 = .ok (.iload 5, 2) := by decide +kernel
theorem dX6_go_115 : decode cX6_go 115 = .ok (.iload 4, 2) := by decide +kernel
theorem dX6_go_117 : decode cX6_go 117 = .ok (.iadd, 1) := by decide +kernel
theorem dX6_go_118 : decode cX6_go 118 = .ok (.iload_n 2, 1) := by decide +kernel
theorem dX6_go_119 : decode cX6_go 119 = .ok (.invokestatic 72, 3) := by decide +kernel
theorem dX6_go_122 : decode cX6_go 122 = .ok (.istore 6, 2) := by decide +kernel
theorem dX6_go_124 : decode cX6_go 124 = .ok (.aload_n 0, 1) := by decide +kernel
theorem dX6_go_125 : decode cX6_go 125 = .ok (.getfield 38, 3) := by decide +kernel
theorem dX6_go_128 : decode cX6_go 128 = .ok (.iload 5, 2) := by decide +kernel
theorem dX6_go_130 : decode cX6_go 130 = .ok (.aload_n 0, 1) := by decide +kernel
theorem dX6_go_131 : decode cX6_go 131 = .ok (.getfield 32, 3) := by decide +kernel
theorem dX6_go_134 : decode cX6_go 134 = .ok (.iload 6, 2) := by decide +kernel
theorem dX6_go_136 : decode cX6_go 136 = .ok (.iaload, 1) := by decide +kernel
theorem dX6_go_137 : decode cX6_go 137 = .ok (.iload_n 3, 1) := by decide +kernel
theorem dX6_go_138 : decode cX6_go 138 = .ok (.iload 5, 2) := by decide +kernel
theorem dX6_go_140 : decode cX6_go 140 = .ok (.iload 4, 2) := by decide +kernel
theorem dX6_go_142 : decode cX6_go 142 = .ok (.iadd, 1) := by decide +kernel
theorem dX6_go_143 : decode cX6_go 143 = .ok (.iload 6, 2) := by decide +kernel
theorem dX6_go_145 : decode cX6_go 145 = .ok (.isub, 1) := by decide +kernel
theorem dX6_go_146 : decode cX6_go 146 = .ok (.iload_n 2, 1) := by decide +kernel
theorem dX6_go_147 : decode cX6_go 147 = .ok (.idiv, 1) := by decide +kernel
theorem dX6_go_148 : decode cX6_go 148 = .ok (.imul, 1) := by decide +kernel
theorem dX6_go_149 : decode cX6_go 149 = .ok (.iadd, 1) := by decide +kernel
theorem dX6_go_150 : decode cX6_go 150 = .ok (.iastore, 1) := by decide +kernel
theorem dX6_go_151 : decode cX6_go 151 = .ok (.aload_n 0, 1) := by decide +kernel
theorem dX6_go_152 : decode cX6_go 152 = .ok (.getfield 41, 3) := by decide +kernel
theorem dX6_go_155 : decode cX6_go 155 = .ok (.iload 5, 2) := by decide +kernel
theorem dX6_go_157 : decode cX6_go 157 = .ok (.aload_n 0, 1) := by decide +kernel
theorem dX6_go_158 : decode cX6_go 158 = .ok (.getfield 35, 3) := by decide +kernel
theorem dX6_go_161 : decode cX6_go 161 = .ok (.iload 6, 2) := by decide +kernel
theorem dX6_go_163 : decode cX6_go 163 = .ok (.iaload, 1) := by decide +kernel
theorem dX6_go_164 : decode cX6_go 164 = .ok (.iastore, 1) := by decide +kernel
theorem dX6_go_165 : decode cX6_go 165 = .ok (.iinc 5 1, 3) := by decide +kernel
theorem dX6_go_168 : decode cX6_go 168 = .ok (.goto (-61), 3) := by decide +kernel
theorem dX6_go_171 : decode cX6_go 171 = .ok (.return_, 1) := by decide +kernel
theorem dX6_insert_0 : decode cX6_insert 0 = .ok (.iload_n 1, 1) := by decide +kernel
theorem dX6_insert_1 : decode cX6_insert 1 = .ok (.istore 4, 2) := by decide +kernel
theorem dX6_insert_3 : decode cX6_insert 3 = .ok (.iload 4, 2) := by decide +kernel
theorem dX6_insert_5 : decode cX6_insert 5 = .ok (.ifCond .le 80, 3) := by decide +kernel
theorem dX6_insert_8 : decode cX6_insert 8 = .ok (.aload_n 0, 1) := by decide +kernel
theorem dX6_insert_9 : decode cX6_insert 9 = .ok (.getfield 32, 3) := by decide +kernel
theorem dX6_insert_12 : decode cX6_insert 12 = .ok (.iload 4, 2) := by decide +kernel
theorem dX6_insert_14 : decode cX6_insert 14 = .ok (.iconst 1, 1) := by decide +kernel
theorem dX6_insert_15 : decode cX6_insert 15 = .ok (.isub, 1) := by decide +kernel
theorem dX6_insert_16 : decode cX6_insert 16 = .ok (.iaload, 1) := by decide +kernel
theorem dX6_insert_17 : decode cX6_insert 17 = .ok (.iload_n 2, 1) := by decide +kernel
theorem dX6_insert_18 : decode cX6_insert 18 = .ok (.if_icmp .gt 29, 3) := by decide +kernel
theorem dX6_insert_21 : decode cX6_insert 21 = .ok (.aload_n 0, 1) := by decide +kernel
theorem dX6_insert_22 : decode cX6_insert 22 = .ok (.getfield 32, 3) := by decide +kernel
theorem dX6_insert_25 : decode cX6_insert 25 = .ok (.iload 4, 2) := by decide +kernel
theorem dX6_insert_27 : decode cX6_insert 27 = .ok (.iconst 1, 1) := by decide +kernel
theorem dX6_insert_28 : decode cX6_insert 28 = .ok (.isub, 1) := by decide +kernel
theorem dX6_insert_29 : decode cX6_insert 29 = .ok (.iaload, 1) := by decide +kernel
theorem dX6_insert_30 : decode cX6_insert 30 = .ok (.iload_n 2, 1) := by decide +kernel
theorem dX6_insert_31 : decode cX6_insert 31 = .ok (.if_icmp .ne 54, 3) := by decide +kernel
theorem dX6_insert_34 : decode cX6_insert 34 = .ok (.aload_n 0, 1) := by decide +kernel
theorem dX6_insert_35 : decode cX6_insert 35 = .ok (.getfield 35, 3) := by decide +kernel
theorem dX6_insert_38 : decode cX6_insert 38 = .ok (.iload 4, 2) := by decide +kernel
theorem dX6_insert_40 : decode cX6_insert 40 = .ok (.iconst 1, 1) := by decide +kernel
theorem dX6_insert_41 : decode cX6_insert 41 = .ok (.isub, 1) := by decide +kernel
theorem dX6_insert_42 : decode cX6_insert 42 = .ok (.iaload, 1) := by decide +kernel
theorem dX6_insert_43 : decode cX6_insert 43 = .ok (.iload_n 3, 1) := by decide +kernel
theorem dX6_insert_44 : decode cX6_insert 44 = .ok (.if_icmp .le 41, 3) := by decide +kernel
theorem dX6_insert_47 : decode cX6_insert 47 = .ok (.aload_n 0, 1) := by decide +kernel
theorem dX6_insert_48 : decode cX6_insert 48 = .ok (.getfield 32, 3) := by decide +kernel
theorem dX6_insert_51 : decode cX6_insert 51 = .ok (.iload 4, 2) := by decide +kernel
theorem dX6_insert_53 : decode cX6_insert 53 = .ok (.aload_n 0, 1) := by decide +kernel
theorem dX6_insert_54 : decode cX6_insert 54 = .ok (.getfield 32, 3) := by decide +kernel
theorem dX6_insert_57 : decode cX6_insert 57 = .ok (.iload 4, 2) := by decide +kernel
theorem dX6_insert_59 : decode cX6_insert 59 = .ok (.iconst 1, 1) := by decide +kernel
theorem dX6_insert_60 : decode cX6_insert 60 = .ok (.isub, 1) := by decide +kernel
theorem dX6_insert_61 : decode cX6_insert 61 = .ok (.iaload, 1) := by decide +kernel
theorem dX6_insert_62 : decode cX6_insert 62 = .ok (.iastore, 1) := by decide +kernel
theorem dX6_insert_63 : decode cX6_insert 63 = .ok (.aload_n 0, 1) := by decide +kernel
theorem dX6_insert_64 : decode cX6_insert 64 = .ok (.getfield 35, 3) := by decide +kernel
theorem dX6_insert_67 : decode cX6_insert 67 = .ok (.iload 4, 2) := by decide +kernel
theorem dX6_insert_69 : decode cX6_insert 69 = .ok (.aload_n 0, 1) := by decide +kernel
theorem dX6_insert_70 : decode cX6_insert 70 = .ok (.getfield 35, 3) := by decide +kernel
theorem dX6_insert_73 : decode cX6_insert 73 = .ok (.iload 4, 2) := by decide +kernel
theorem dX6_insert_75 : decode cX6_insert 75 = .ok (.iconst 1, 1) := by decide +kernel
theorem dX6_insert_76 : decode cX6_insert 76 = .ok (.isub, 1) := by decide +kernel
theorem dX6_insert_77 : decode cX6_insert 77 = .ok (.iaload, 1) := by decide +kernel
theorem dX6_insert_78 : decode cX6_insert 78 = .ok (.iastore, 1) := by decide +kernel
theorem dX6_insert_79 : decode cX6_insert 79 = .ok (.iinc 4 (-1), 3) := by decide +kernel
theorem dX6_insert_82 : decode cX6_insert 82 = .ok (.goto (-79), 3) := by decide +kernel
theorem dX6_insert_85 : decode cX6_insert 85 = .ok (.aload_n 0, 1) := by decide +kernel
theorem dX6_insert_86 : decode cX6_insert 86 = .ok (.getfield 32, 3) := by decide +kernel
theorem dX6_insert_89 : decode cX6_insert 89 = .ok (.iload 4, 2) := by decide +kernel
theorem dX6_insert_91 : decode cX6_insert 91 = .ok (.iload_n 2, 1) := by decide +kernel
theorem dX6_insert_92 : decode cX6_insert 92 = .ok (.iastore, 1) := by decide +kernel
theorem dX6_insert_93 : decode cX6_insert 93 = .ok (.aload_n 0, 1) := by decide +kernel
theorem dX6_insert_94 : decode cX6_insert 94 = .ok (.getfield 35, 3) := by decide +kernel
theorem dX6_insert_97 : decode cX6_insert 97 = .ok (.iload 4, 2) := by decide +kernel
theorem dX6_insert_99 : decode cX6_insert 99 = .ok (.iload_n 3, 1) := by decide +kernel
theorem dX6_insert_100 : decode cX6_insert 100 = .ok (.iastore, 1) := by decide +kernel
theorem dX6_insert_101 : decode cX6_insert 101 = .ok (.return_, 1) := by decide +kernel
set_option maxRecDepth 20000 in
theorem ggX6_ahead_X6_free : GoodIn wsX6_ahead wsX6_free := goodIn_r _ [8, 1, 9, 10, 11, 7, 12, 24, 25, 26, 27, 28, 29, 30, 31, 32, 33, 34, 35, 36, 37, 38, 39] (by decide +kernel) (by decide +kernel)
set_option maxRecDepth 20000 in
theorem gX6_ahead_X6_free : GoodIn wsX6_ahead (wsV RX6 76 RX6 yX6_free wsX6_free) := goodIn_app (goodIn_of _ (by decide +kernel)) ggX6_ahead_X6_free
set_option maxRecDepth 20000 in
theorem ggX6_ahead_X6_rest : GoodIn wsX6_ahead wsX6_rest := goodIn_r _ [15] (by decide +kernel) (by decide +kernel)
set_option maxRecDepth 20000 in
theorem gX6_ahead_X6_rest : GoodIn wsX6_ahead (va_wsS RX6 72 yX6_rest wsX6_rest) := goodIn_app (goodIn_of _ (by decide +kernel)) ggX6_ahead_X6_rest
set_option maxRecDepth 20000 in
theorem ggX6_ahead_X6_isLeft : GoodIn wsX6_ahead wsX6_isLeft := goodIn_r _ [19, 1, 20, 21, 22, 7, 23, 2, 4, 5, 6, 8, 9, 10, 11, 12, 13, 14, 15, 24, 25, 26, 27, 28, 29, 30, 31, 32, 33, 34, 35, 36, 37, 38, 39] (by decide +kernel) (by decide +kernel)
set_option maxRecDepth 20000 in
theorem gX6_ahead_X6_isLeft : GoodIn wsX6_ahead (wsV RX6 100 RX6 yX6_isLeft wsX6_isLeft) := goodIn_app (goodIn_of _ (by decide +kernel)) ggX6_ahead_X6_isLeft
theorem dX6_ahead_0 : decode cX6_ahead 0 = .ok (.aload_n 0, 1) := by decide +kernel
theorem dX6_ahead_1 : decode cX6_ahead 1 = .ok (.getfield 7, 3) := by decide +kernel
theorem dX6_ahead_4 : decode cX6_ahead 4 = .ok (.bipush 21, 2) := by decide +kernel
theorem dX6_ahead_6 : decode cX6_ahead 6 = .ok (.aload_n 0, 1) := by decide +kernel
theorem dX6_ahead_7 : decode cX6_ahead 7 = .ok (.getfield 26, 3) := by decide +kernel
theorem dX6_ahead_10 : decode cX6_ahead 10 = .ok (.iload_n 1, 1) := by decide +kernel
theorem dX6_ahead_11 : decode cX6_ahead 11 = .ok (.iaload, 1) := by decide +kernel
theorem dX6_ahead_12 : decode cX6_ahead 12 = .ok (.iadd, 1) := by decide +kernel
theorem dX6_ahead_13 : decode cX6_ahead 13 = .ok (.iaload, 1) := by decide +kernel
theorem dX6_ahead_14 : decode cX6_ahead 14 = .ok (.istore_n 3, 1) := by decide +kernel
theorem dX6_ahead_15 : decode cX6_ahead 15 = .ok (.aload_n 0, 1) := by decide +kernel
theorem dX6_ahead_16 : decode cX6_ahead 16 = .ok (.getfield 7, 3) := by decide +kernel
theorem dX6_ahead_19 : decode cX6_ahead 19 = .ok (.bipush 21, 2) := by decide +kernel
theorem dX6_ahead_21 : decode cX6_ahead 21 = .ok (.aload_n 0, 1) := by decide +kernel
theorem dX6_ahead_22 : decode cX6_ahead 22 = .ok (.getfield 26, 3) := by decide +kernel
theorem dX6_ahead_25 : decode cX6_ahead 25 = .ok (.iload_n 2, 1) := by decide +kernel
theorem dX6_ahead_26 : decode cX6_ahead 26 = .ok (.iaload, 1) := by decide +kernel
theorem dX6_ahead_27 : decode cX6_ahead 27 = .ok (.iadd, 1) := by decide +kernel
theorem dX6_ahead_28 : decode cX6_ahead 28 = .ok (.iaload, 1) := by decide +kernel
theorem dX6_ahead_29 : decode cX6_ahead 29 = .ok (.istore 4, 2) := by decide +kernel
theorem dX6_ahead_31 : decode cX6_ahead 31 = .ok (.iload_n 3, 1) := by decide +kernel
theorem dX6_ahead_32 : decode cX6_ahead 32 = .ok (.iload 4, 2) := by decide +kernel
theorem dX6_ahead_34 : decode cX6_ahead 34 = .ok (.if_icmp .ne 6, 3) := by decide +kernel
theorem dX6_ahead_37 : decode cX6_ahead 37 = .ok (.bipush (-5), 2) := by decide +kernel
theorem dX6_ahead_39 : decode cX6_ahead 39 = .ok (.ireturn, 1) := by decide +kernel
theorem dX6_ahead_40 : decode cX6_ahead 40 = .ok (.iload_n 3, 1) := by decide +kernel
theorem dX6_ahead_41 : decode cX6_ahead 41 = .ok (.iload 4, 2) := by decide +kernel
theorem dX6_ahead_43 : decode cX6_ahead 43 = .ok (.if_icmp .le 7, 3) := by decide +kernel
theorem dX6_ahead_46 : decode cX6_ahead 46 = .ok (.iload_n 1, 1) := by decide +kernel
theorem dX6_ahead_47 : decode cX6_ahead 47 = .ok (.goto 4, 3) := by decide +kernel
theorem dX6_ahead_50 : decode cX6_ahead 50 = .ok (.iload_n 2, 1) := by decide +kernel
theorem dX6_ahead_51 : decode cX6_ahead 51 = .ok (.istore 5, 2) := by decide +kernel
theorem dX6_ahead_53 : decode cX6_ahead 53 = .ok (.iload_n 3, 1) := by decide +kernel
theorem dX6_ahead_54 : decode cX6_ahead 54 = .ok (.iload 4, 2) := by decide +kernel
theorem dX6_ahead_56 : decode cX6_ahead 56 = .ok (.if_icmp .le 7, 3) := by decide +kernel
theorem dX6_ahead_59 : decode cX6_ahead 59 = .ok (.iload_n 2, 1) := by decide +kernel
theorem dX6_ahead_60 : decode cX6_ahead 60 = .ok (.goto 4, 3) := by decide +kernel
theorem dX6_ahead_63 : decode cX6_ahead 63 = .ok (.iload_n 1, 1) := by decide +kernel
theorem dX6_ahead_64 : decode cX6_ahead 64 = .ok (.istore 6, 2) := by decide +kernel
theorem dX6_ahead_66 : decode cX6_ahead 66 = .ok (.aload_n 0, 1) := by decide +kernel
theorem dX6_ahead_67 : decode cX6_ahead 67 = .ok (.getfield 29, 3) := by decide +kernel
theorem dX6_ahead_70 : decode cX6_ahead 70 = .ok (.iload 6, 2) := by decide +kernel
theorem dX6_ahead_72 : decode cX6_ahead 72 = .ok (.iaload, 1) := by decide +kernel
theorem dX6_ahead_73 : decode cX6_ahead 73 = .ok (.aload_n 0, 1) := by decide +kernel
theorem dX6_ahead_74 : decode cX6_ahead 74 = .ok (.getfield 29, 3) := by decide +kernel
theorem dX6_ahead_77 : decode cX6_ahead 77 = .ok (.iload 5, 2) := by decide +kernel
theorem dX6_ahead_79 : decode cX6_ahead 79 = .ok (.iaload, 1) := by decide +kernel
theorem dX6_ahead_80 : decode cX6_ahead 80 = .ok (.isub, 1) := by decide +kernel
theorem dX6_ahead_81 : decode cX6_ahead 81 = .ok (.aload_n 0, 1) := by decide +kernel
theorem dX6_ahead_82 : decode cX6_ahead 82 = .ok (.invokevirtual 76, 3) := by decide +kernel
theorem dX6_ahead_85 : decode cX6_ahead 85 = .ok (.invokestatic 72, 3) := by decide +kernel
theorem dX6_ahead_88 : decode cX6_ahead 88 = .ok (.istore 7, 2) := by decide +kernel
theorem dX6_ahead_90 : decode cX6_ahead 90 = .ok (.iload 7, 2) := by decide +kernel
theorem dX6_ahead_92 : decode cX6_ahead 92 = .ok (.ifCond .gt 14, 3) := by decide +kernel
theorem dX6_ahead_95 : decode cX6_ahead 95 = .ok (.aload_n 0, 1) := by decide +kernel
theorem dX6_ahead_96 : decode cX6_ahead 96 = .ok (.iload 5, 2) := by decide +kernel
theorem dX6_ahead_98 : decode cX6_ahead 98 = .ok (.iload 6, 2) := by decide +kernel
theorem dX6_ahead_100 : decode cX6_ahead 100 = .ok (.invokevirtual 100, 3) := by decide +kernel
theorem dX6_ahead_103 : decode cX6_ahead 103 = .ok (.ifCond .eq 8, 3) := by decide +kernel
theorem dX6_ahead_106 : decode cX6_ahead 106 = .ok (.iload 7, 2) := by decide +kernel
theorem dX6_ahead_108 : decode cX6_ahead 108 = .ok (.goto 7, 3) := by decide +kernel
theorem dX6_ahead_111 : decode cX6_ahead 111 = .ok (.aload_n 0, 1) := by decide +kernel
theorem dX6_ahead_112 : decode cX6_ahead 112 = .ok (.invokevirtual 76, 3) := by decide +kernel
theorem dX6_ahead_115 : decode cX6_ahead 115 = .ok (.ireturn, 1) := by decide +kernel
set_option maxRecDepth 20000 in
theorem ggX6_isLeft_X6_gapOf : GoodIn wsX6_isLeft wsX6_gapOf := goodIn_r _ [6, 1, 7, 8, 9, 10, 5, 11, 12, 13, 14, 15, 16, 17, 18, 19, 20, 21, 22, 23, 24, 25, 26, 27, 28, 29, 30, 31, 32, 33, 34] (by decide +kernel) (by decide +kernel)
set_option maxRecDepth 20000 in
theorem gX6_isLeft_X6_gapOf : GoodIn wsX6_isLeft (wsV RX6 104 RX6 yX6_gapOf wsX6_gapOf) := goodIn_app (goodIn_of _ (by decide +kernel)) ggX6_isLeft_X6_gapOf
theorem dX6_isLeft_0 : decode cX6_isLeft 0 = .ok (.iload_n 1, 1) := by decide +kernel
theorem dX6_isLeft_1 : decode cX6_isLeft 1 = .ok (.istore_n 3, 1) := by decide +kernel
theorem dX6_isLeft_2 : decode cX6_isLeft 2 = .ok (.iload_n 3, 1) := by decide +kernel
theorem dX6_isLeft_3 : decode cX6_isLeft 3 = .ok (.iload_n 2, 1) := by decide +kernel
theorem dX6_isLeft_4 : decode cX6_isLeft 4 = .ok (.if_icmp .eq 31, 3) := by decide +kernel
theorem dX6_isLeft_7 : decode cX6_isLeft 7 = .ok (.iload_n 3, 1) := by decide +kernel
theorem dX6_isLeft_8 : decode cX6_isLeft 8 = .ok (.iconst 1, 1) := by decide +kernel
theorem dX6_isLeft_9 : decode cX6_isLeft 9 = .ok (.iadd, 1) := by decide +kernel
theorem dX6_isLeft_10 : decode cX6_isLeft 10 = .ok (.aload_n 0, 1) := by decide +kernel
theorem dX6_isLeft_11 : decode cX6_isLeft 11 = .ok (.getfield 7, 3) := by decide +kernel
theorem dX6_isLeft_14 : decode cX6_isLeft 14 = .ok (.iconst 1, 1) := by decide +kernel
theorem dX6_isLeft_15 : decode cX6_isLeft 15 = .ok (.iaload, 1) := by decide +kernel
theorem dX6_isLeft_16 : decode cX6_isLeft 16 = .ok (.irem, 1) := by decide +kernel
theorem dX6_isLeft_17 : decode cX6_isLeft 17 = .ok (.istore 4, 2) := by decide +kernel
theorem dX6_isLeft_19 : decode cX6_isLeft 19 = .ok (.aload_n 0, 1) := by decide +kernel
theorem dX6_isLeft_20 : decode cX6_isLeft 20 = .ok (.iload_n 3, 1) := by decide +kernel
theorem dX6_isLeft_21 : decode cX6_isLeft 21 = .ok (.invokevirtual 104, 3) := by decide +kernel
theorem dX6_isLeft_24 : decode cX6_isLeft 24 = .ok (.ifCond .le 5, 3) := by decide +kernel
theorem dX6_isLeft_27 : decode cX6_isLeft 27 = .ok (.iconst 0, 1) := by decide +kernel
theorem dX6_isLeft_28 : decode cX6_isLeft 28 = .ok (.ireturn, 1) := by decide +kernel
theorem dX6_isLeft_29 : decode cX6_isLeft 29 = .ok (.iload 4, 2) := by decide +kernel
theorem dX6_isLeft_31 : decode cX6_isLeft 31 = .ok (.istore_n 3, 1) := by decide +kernel
theorem dX6_isLeft_32 : decode cX6_isLeft 32 = .ok (.goto (-30), 3) := by decide +kernel
theorem dX6_isLeft_35 : decode cX6_isLeft 35 = .ok (.iconst 1, 1) := by decide +kernel
theorem dX6_isLeft_36 : decode cX6_isLeft 36 = .ok (.ireturn, 1) := by decide +kernel
set_option maxRecDepth 20000 in
theorem ggX6_gapOf_X6_free : GoodIn wsX6_gapOf wsX6_free := goodIn_r _ [7, 1, 8, 9, 10, 6, 11, 15, 16, 17, 18, 19, 20, 21, 22, 23, 24, 25, 26, 27, 28, 29, 30] (by decide +kernel) (by decide +kernel)
set_option maxRecDepth 20000 in
theorem gX6_gapOf_X6_free : GoodIn wsX6_gapOf (wsV RX6 76 RX6 yX6_free wsX6_free) := goodIn_app (goodIn_of _ (by decide +kernel)) ggX6_gapOf_X6_free
set_option maxRecDepth 20000 in
theorem ggX6_gapOf_X6_rest : GoodIn wsX6_gapOf wsX6_rest := goodIn_r _ [14] (by decide +kernel) (by decide +kernel)
set_option maxRecDepth 20000 in
theorem gX6_gapOf_X6_rest : GoodIn wsX6_gapOf (va_wsS RX6 72 yX6_rest wsX6_rest) := goodIn_app (goodIn_of _ (by decide +kernel)) ggX6_gapOf_X6_rest
theorem dX6_gapOf_0 : decode cX6_gapOf 0 = .ok (.aload_n 0, 1) := by decide +kernel
theorem dX6_gapOf_1 : decode cX6_gapOf 1 = .ok (.getfield 7, 3) := by decide +kernel
theorem dX6_gapOf_4 : decode cX6_gapOf 4 = .ok (.iconst 1, 1) := by decide +kernel
theorem dX6_gapOf_5 : decode cX6_gapOf 5 = .ok (.iaload, 1) := by decide +kernel
theorem dX6_gapOf_6 : decode cX6_gapOf 6 = .ok (.istore_n 2, 1) := by decide +kernel
theorem dX6_gapOf_7 : decode cX6_gapOf 7 = .ok (.aload_n 0, 1) := by decide +kernel
theorem dX6_gapOf_8 : decode cX6_gapOf 8 = .ok (.getfield 26, 3) := by decide +kernel
theorem dX6_gapOf_11 : decode cX6_gapOf 11 = .ok (.iload_n 1, 1) := by decide +kernel
theorem dX6_gapOf_12 : decode cX6_gapOf 12 = .ok (.iconst 1, 1) := by decide +kernel
theorem dX6_gapOf_13 : decode cX6_gapOf 13 = .ok (.iadd, 1) := by decide +kernel
theorem dX6_gapOf_14 : decode cX6_gapOf 14 = .ok (.iload_n 2, 1) := by decide +kernel
theorem dX6_gapOf_15 : decode cX6_gapOf 15 = .ok (.irem, 1) := by decide +kernel
theorem dX6_gapOf_16 : decode cX6_gapOf 16 = .ok (.iaload, 1) := by decide +kernel
theorem dX6_gapOf_17 : decode cX6_gapOf 17 = .ok (.istore_n 3, 1) := by decide +kernel
theorem dX6_gapOf_18 : decode cX6_gapOf 18 = .ok (.aload_n 0, 1) := by decide +kernel
theorem dX6_gapOf_19 : decode cX6_gapOf 19 = .ok (.getfield 26, 3) := by decide +kernel
theorem dX6_gapOf_22 : decode cX6_gapOf 22 = .ok (.iload_n 1, 1) := by decide +kernel
theorem dX6_gapOf_23 : decode cX6_gapOf 23 = .ok (.iaload, 1) := by decide +kernel
theorem dX6_gapOf_24 : decode cX6_gapOf 24 = .ok (.istore 4, 2) := by decide +kernel
theorem dX6_gapOf_26 : decode cX6_gapOf 26 = .ok (.iload_n 2, 1) := by decide +kernel
theorem dX6_gapOf_27 : decode cX6_gapOf 27 = .ok (.iconst 1, 1) := by decide +kernel
theorem dX6_gapOf_28 : decode cX6_gapOf 28 = .ok (.if_icmp .ne 10, 3) := by decide +kernel
theorem dX6_gapOf_31 : decode cX6_gapOf 31 = .ok (.aload_n 0, 1) := by decide +kernel
theorem dX6_gapOf_32 : decode cX6_gapOf 32 = .ok (.invokevirtual 76, 3) := by decide +kernel
theorem dX6_gapOf_35 : decode cX6_gapOf 35 = .ok (.goto 41, 3) := by decide +kernel
theorem dX6_gapOf_38 : decode cX6_gapOf 38 = .ok (.aload_n 0, 1) := by decide +kernel
theorem dX6_gapOf_39 : decode cX6_gapOf 39 = .ok (.getfield 7, 3) := by decide +kernel
theorem dX6_gapOf_42 : decode cX6_gapOf 42 = .ok (.iconst 5, 1) := by decide +kernel
theorem dX6_gapOf_43 : decode cX6_gapOf 43 = .ok (.iload_n 3, 1) := by decide +kernel
theorem dX6_gapOf_44 : decode cX6_gapOf 44 = .ok (.iadd, 1) := by decide +kernel
theorem dX6_gapOf_45 : decode cX6_gapOf 45 = .ok (.iaload, 1) := by decide +kernel
theorem dX6_gapOf_46 : decode cX6_gapOf 46 = .ok (.aload_n 0, 1) := by decide +kernel
theorem dX6_gapOf_47 : decode cX6_gapOf 47 = .ok (.getfield 7, 3) := by decide +kernel
theorem dX6_gapOf_50 : decode cX6_gapOf 50 = .ok (.iconst 5, 1) := by decide +kernel
theorem dX6_gapOf_51 : decode cX6_gapOf 51 = .ok (.iload 4, 2) := by decide +kernel
theorem dX6_gapOf_53 : decode cX6_gapOf 53 = .ok (.iadd, 1) := by decide +kernel
theorem dX6_gapOf_54 : decode cX6_gapOf 54 = .ok (.iaload, 1) := by decide +kernel
theorem dX6_gapOf_55 : decode cX6_gapOf 55 = .ok (.isub, 1) := by decide +kernel
theorem dX6_gapOf_56 : decode cX6_gapOf 56 = .ok (.aload_n 0, 1) := by decide +kernel
theorem dX6_gapOf_57 : decode cX6_gapOf 57 = .ok (.getfield 7, 3) := by decide +kernel
theorem dX6_gapOf_60 : decode cX6_gapOf 60 = .ok (.bipush 13, 2) := by decide +kernel
theorem dX6_gapOf_62 : decode cX6_gapOf 62 = .ok (.iload 4, 2) := by decide +kernel
theorem dX6_gapOf_64 : decode cX6_gapOf 64 = .ok (.iadd, 1) := by decide +kernel
theorem dX6_gapOf_65 : decode cX6_gapOf 65 = .ok (.iaload, 1) := by decide +kernel
theorem dX6_gapOf_66 : decode cX6_gapOf 66 = .ok (.isub, 1) := by decide +kernel
theorem dX6_gapOf_67 : decode cX6_gapOf 67 = .ok (.aload_n 0, 1) := by decide +kernel
theorem dX6_gapOf_68 : decode cX6_gapOf 68 = .ok (.getfield 7, 3) := by decide +kernel
theorem dX6_gapOf_71 : decode cX6_gapOf 71 = .ok (.iconst 0, 1) := by decide +kernel
theorem dX6_gapOf_72 : decode cX6_gapOf 72 = .ok (.iaload, 1) := by decide +kernel
theorem dX6_gapOf_73 : decode cX6_gapOf 73 = .ok (.invokestatic 72, 3) := by decide +kernel
theorem dX6_gapOf_76 : decode cX6_gapOf 76 = .ok (.ireturn, 1) := by decide +kernel
theorem dX6_difference_0 : decode cX6_difference 0 = .ok (.aload_n 0, 1) := by decide +kernel
theorem dX6_difference_1 : decode cX6_difference 1 = .ok (.getfield 7, 3) := by decide +kernel
theorem dX6_difference_4 : decode cX6_difference 4 = .ok (.bipush 21, 2) := by decide +kernel
theorem dX6_difference_6 : decode cX6_difference 6 = .ok (.aload_n 0, 1) := by decide +kernel
theorem dX6_difference_7 : decode cX6_difference 7 = .ok (.getfield 26, 3) := by decide +kernel
theorem dX6_difference_10 : decode cX6_difference 10 = .ok (.iload_n 1, 1) := by decide +kernel
theorem dX6_difference_11 : decode cX6_difference 11 = .ok (.iaload, 1) := by decide +kernel
theorem dX6_difference_12 : decode cX6_difference 12 = .ok (.iadd, 1) := by decide +kernel
theorem dX6_difference_13 : decode cX6_difference 13 = .ok (.iaload, 1) := by decide +kernel
theorem dX6_difference_14 : decode cX6_difference 14 = .ok (.aload_n 0, 1) := by decide +kernel
theorem dX6_difference_15 : decode cX6_difference 15 = .ok (.getfield 7, 3) := by decide +kernel
theorem dX6_difference_18 : decode cX6_difference 18 = .ok (.bipush 21, 2) := by decide +kernel
theorem dX6_difference_20 : decode cX6_difference 20 = .ok (.aload_n 0, 1) := by decide +kernel
theorem dX6_difference_21 : decode cX6_difference 21 = .ok (.getfield 26, 3) := by decide +kernel
theorem dX6_difference_24 : decode cX6_difference 24 = .ok (.iload_n 2, 1) := by decide +kernel
theorem dX6_difference_25 : decode cX6_difference 25 = .ok (.iaload, 1) := by decide +kernel
theorem dX6_difference_26 : decode cX6_difference 26 = .ok (.iadd, 1) := by decide +kernel
theorem dX6_difference_27 : decode cX6_difference 27 = .ok (.iaload, 1) := by decide +kernel
theorem dX6_difference_28 : decode cX6_difference 28 = .ok (.isub, 1) := by decide +kernel
theorem dX6_difference_29 : decode cX6_difference 29 = .ok (.istore_n 3, 1) := by decide +kernel
theorem dX6_difference_30 : decode cX6_difference 30 = .ok (.iload_n 3, 1) := by decide +kernel
theorem dX6_difference_31 : decode cX6_difference 31 = .ok (.ifCond .ge 8, 3) := by decide +kernel
theorem dX6_difference_34 : decode cX6_difference 34 = .ok (.iload_n 3, 1) := by decide +kernel
theorem dX6_difference_35 : decode cX6_difference 35 = .ok (.ineg, 1) := by decide +kernel
theorem dX6_difference_36 : decode cX6_difference 36 = .ok (.goto 4, 3) := by decide +kernel
theorem dX6_difference_39 : decode cX6_difference 39 = .ok (.iload_n 3, 1) := by decide +kernel
theorem dX6_difference_40 : decode cX6_difference 40 = .ok (.ireturn, 1) := by decide +kernel
set_option maxRecDepth 20000 in
theorem ggX6_times_X6_ahead : GoodIn wsX6_times wsX6_ahead := goodIn_r _ [5, 6, 7, 8, 9, 10, 11, 4, 12, 13, 14, 15, 16, 17, 18, 19, 20, 21, 22, 23, 24, 25, 26, 27, 32, 33, 34, 35, 36, 37, 38, 39, 40, 41, 42, 43, 44, 45, 46, 47] (by decide +kernel) (by decide +kernel)
set_option maxRecDepth 20000 in
theorem gX6_times_X6_ahead : GoodIn wsX6_times (wsV RX6 107 RX6 yX6_ahead wsX6_ahead) := goodIn_app (goodIn_of _ (by decide +kernel)) ggX6_times_X6_ahead
set_option maxRecDepth 20000 in
theorem ggX6_times_X6_difference : GoodIn wsX6_times wsX6_difference := goodIn_r _ [31, 6, 7, 32, 33, 34, 35, 36, 37, 38, 39, 40, 41, 42, 43, 44, 45, 46, 47] (by decide +kernel) (by decide +kernel)
set_option maxRecDepth 20000 in
theorem gX6_times_X6_difference : GoodIn wsX6_times (wsV RX6 110 RX6 yX6_difference wsX6_difference) := goodIn_app (goodIn_of _ (by decide +kernel)) ggX6_times_X6_difference
set_option maxRecDepth 20000 in
theorem ggX6_times_X6_free : GoodIn wsX6_times wsX6_free := goodIn_r _ [12, 6, 13, 14, 15, 4, 16, 32, 33, 34, 35, 36, 37, 38, 39, 40, 41, 42, 43, 44, 45, 46, 47] (by decide +kernel) (by decide +kernel)
set_option maxRecDepth 20000 in
theorem gX6_times_X6_free : GoodIn wsX6_times (wsV RX6 76 RX6 yX6_free wsX6_free) := goodIn_app (goodIn_of _ (by decide +kernel)) ggX6_times_X6_free
theorem dX6_times_0 : decode cX6_times 0 = .ok (.aload_n 0, 1) := by decide +kernel
theorem dX6_times_1 : decode cX6_times 1 = .ok (.iload_n 1, 1) := by decide +kernel
theorem dX6_times_2 : decode cX6_times 2 = .ok (.iload_n 2, 1) := by decide +kernel
theorem dX6_times_3 : decode cX6_times 3 = .ok (.invokevirtual 107, 3) := by decide +kernel
theorem dX6_times_6 : decode cX6_times 6 = .ok (.istore 4, 2) := by decide +kernel
theorem dX6_times_8 : decode cX6_times 8 = .ok (.aload_n 0, 1) := by decide +kernel
theorem dX6_times_9 : decode cX6_times 9 = .ok (.iload_n 1, 1) := by decide +kernel
theorem dX6_times_10 : decode cX6_times 10 = .ok (.iload_n 2, 1) := by decide +kernel
theorem dX6_times_11 : decode cX6_times 11 = .ok (.invokevirtual 110, 3) := by decide +kernel
theorem dX6_times_14 : decode cX6_times 14 = .ok (.iload_n 3, 1) := by decide +kernel
theorem dX6_times_15 : decode cX6_times 15 = .ok (.imul, 1) := by decide +kernel
theorem dX6_times_16 : decode cX6_times 16 = .ok (.istore 5, 2) := by decide +kernel
theorem dX6_times_18 : decode cX6_times 18 = .ok (.iload 4, 2) := by decide +kernel
theorem dX6_times_20 : decode cX6_times 20 = .ok (.ifCond .lt 10, 3) := by decide +kernel
theorem dX6_times_23 : decode cX6_times 23 = .ok (.iload 5, 2) := by decide +kernel
theorem dX6_times_25 : decode cX6_times 25 = .ok (.iload 4, 2) := by decide +kernel
theorem dX6_times_27 : decode cX6_times 27 = .ok (.if_icmp .ge 7, 3) := by decide +kernel
theorem dX6_times_30 : decode cX6_times 30 = .ok (.iconst 0, 1) := by decide +kernel
theorem dX6_times_31 : decode cX6_times 31 = .ok (.goto 15, 3) := by decide +kernel
theorem dX6_times_34 : decode cX6_times 34 = .ok (.iconst 1, 1) := by decide +kernel
theorem dX6_times_35 : decode cX6_times 35 = .ok (.iload 5, 2) := by decide +kernel
theorem dX6_times_37 : decode cX6_times 37 = .ok (.iload 4, 2) := by decide +kernel
theorem dX6_times_39 : decode cX6_times 39 = .ok (.isub, 1) := by decide +kernel
theorem dX6_times_40 : decode cX6_times 40 = .ok (.aload_n 0, 1) := by decide +kernel
theorem dX6_times_41 : decode cX6_times 41 = .ok (.invokevirtual 76, 3) := by decide +kernel
theorem dX6_times_44 : decode cX6_times 44 = .ok (.idiv, 1) := by decide +kernel
theorem dX6_times_45 : decode cX6_times 45 = .ok (.iadd, 1) := by decide +kernel
theorem dX6_times_46 : decode cX6_times 46 = .ok (.ireturn, 1) := by decide +kernel
set_option maxRecDepth 20000 in
theorem ggX6_meet_X6_layPoints : GoodIn wsX6_meet wsX6_layPoints := goodIn_r _ [6, 1, 7, 8, 40, 41, 42, 43, 44, 45, 46, 47, 48, 49, 50, 51, 52, 53, 54, 55] (by decide +kernel) (by decide +kernel)
set_option maxRecDepth 20000 in
theorem gX6_meet_X6_layPoints : GoodIn wsX6_meet (wsV RX6 93 RX6 yX6_layPoints wsX6_layPoints) := goodIn_app (goodIn_of _ (by decide +kernel)) ggX6_meet_X6_layPoints
set_option maxRecDepth 20000 in
theorem ggX6_meet_X6_times : GoodIn wsX6_meet wsX6_times := goodIn_r _ [12, 13, 14, 15, 5, 16, 1, 7, 8, 17, 18, 19, 20, 21, 22, 23, 24, 25, 26, 27, 28, 29, 30, 31, 32, 33, 34, 35, 36, 37, 38, 39, 40, 41, 42, 43, 44, 45, 46, 47, 48, 49, 50, 51, 52, 53, 54, 55] (by decide +kernel) (by decide +kernel)
set_option maxRecDepth 20000 in
theorem gX6_meet_X6_times : GoodIn wsX6_meet (wsV RX6 113 RX6 yX6_times wsX6_times) := goodIn_app (goodIn_of _ (by decide +kernel)) ggX6_meet_X6_times
set_option maxRecDepth 20000 in
theorem ggX6_meet_X6_difference : GoodIn wsX6_meet wsX6_difference := goodIn_r _ [39, 1, 7, 40, 41, 42, 43, 44, 45, 46, 47, 48, 49, 50, 51, 52, 53, 54, 55] (by decide +kernel) (by decide +kernel)
set_option maxRecDepth 20000 in
theorem gX6_meet_X6_difference : GoodIn wsX6_meet (wsV RX6 110 RX6 yX6_difference wsX6_difference) := goodIn_app (goodIn_of _ (by decide +kernel)) ggX6_meet_X6_difference
theorem dX6_meet_0 : decode cX6_meet 0 = .ok (.aload_n 0, 1) := by decide +kernel
theorem dX6_meet_1 : decode cX6_meet 1 = .ok (.invokevirtual 93, 3) := by decide +kernel
theorem dX6_meet_4 : decode cX6_meet 4 = .ok (.iconst 0, 1) := by decide +kernel
theorem dX6_meet_5 : decode cX6_meet 5 = .ok (.istore_n 3, 1) := by decide +kernel
theorem dX6_meet_6 : decode cX6_meet 6 = .ok (.iconst 0, 1) := by decide +kernel
theorem dX6_meet_7 : decode cX6_meet 7 = .ok (.istore 4, 2) := by decide +kernel
theorem dX6_meet_9 : decode cX6_meet 9 = .ok (.iload 4, 2) := by decide +kernel
theorem dX6_meet_11 : decode cX6_meet 11 = .ok (.aload_n 0, 1) := by decide +kernel
theorem dX6_meet_12 : decode cX6_meet 12 = .ok (.getfield 7, 3) := by decide +kernel
theorem dX6_meet_15 : decode cX6_meet 15 = .ok (.iconst 1, 1) := by decide +kernel
theorem dX6_meet_16 : decode cX6_meet 16 = .ok (.iaload, 1) := by decide +kernel
theorem dX6_meet_17 : decode cX6_meet 17 = .ok (.if_icmp .ge 54, 3) := by decide +kernel
theorem dX6_meet_20 : decode cX6_meet 20 = .ok (.iconst 0, 1) := by decide +kernel
theorem dX6_meet_21 : decode cX6_meet 21 = .ok (.istore 5, 2) := by decide +kernel
theorem dX6_meet_23 : decode cX6_meet 23 = .ok (.iload 5, 2) := by decide +kernel
theorem dX6_meet_25 : decode cX6_meet 25 = .ok (.iload 4, 2) := by decide +kernel
theorem dX6_meet_27 : decode cX6_meet 27 = .ok (.if_icmp .ge 38, 3) := by decide +kernel
theorem dX6_meet_30 : decode cX6_meet 30 = .ok (.iload_n 3, 1) := by decide +kernel
theorem dX6_meet_31 : decode cX6_meet 31 = .ok (.aload_n 0, 1) := by decide +kernel
theorem dX6_meet_32 : decode cX6_meet 32 = .ok (.iload 5, 2) := by decide +kernel
theorem dX6_meet_34 : decode cX6_meet 34 = .ok (.iload 4, 2) := by decide +kernel
theorem dX6_meet_36 : decode cX6_meet 36 = .ok (.iload_n 1, 1) := by decide +kernel
theorem dX6_meet_37 : decode cX6_meet 37 = .ok (.invokevirtual 113, 3) := by decide +kernel
theorem dX6_meet_40 : decode cX6_meet 40 = .ok (.iload_n 2, 1) := by decide +kernel
theorem dX6_meet_41 : decode cX6_meet 41 = .ok (.ifCond .eq 14, 3) := by decide +kernel
theorem dX6_meet_44 : decode cX6_meet 44 = .ok (.aload_n 0, 1) := by decide +kernel
theorem dX6_meet_45 : decode cX6_meet 45 = .ok (.iload 5, 2) := by decide +kernel
theorem dX6_meet_47 : decode cX6_meet 47 = .ok (.iload 4, 2) := by decide +kernel
theorem dX6_meet_49 : decode cX6_meet 49 = .ok (.invokevirtual 110, 3) := by decide +kernel
theorem dX6_meet_52 : decode cX6_meet 52 = .ok (.goto 4, 3) := by decide +kernel
theorem dX6_meet_55 : decode cX6_meet 55 = .ok (.iconst 1, 1) := by decide +kernel
theorem dX6_meet_56 : decode cX6_meet 56 = .ok (.imul, 1) := by decide +kernel
theorem dX6_meet_57 : decode cX6_meet 57 = .ok (.iadd, 1) := by decide +kernel
theorem dX6_meet_58 : decode cX6_meet 58 = .ok (.istore_n 3, 1) := by decide +kernel
theorem dX6_meet_59 : decode cX6_meet 59 = .ok (.iinc 5 1, 3) := by decide +kernel
theorem dX6_meet_62 : decode cX6_meet 62 = .ok (.goto (-39), 3) := by decide +kernel
theorem dX6_meet_65 : decode cX6_meet 65 = .ok (.iinc 4 1, 3) := by decide +kernel
theorem dX6_meet_68 : decode cX6_meet 68 = .ok (.goto (-59), 3) := by decide +kernel
theorem dX6_meet_71 : decode cX6_meet 71 = .ok (.iload_n 3, 1) := by decide +kernel
theorem dX6_meet_72 : decode cX6_meet 72 = .ok (.ireturn, 1) := by decide +kernel
set_option maxRecDepth 20000 in
theorem ggX6_passTicks_X6_meet : GoodIn wsX6_passTicks wsX6_meet := goodIn_r _ [10, 1, 11, 12, 13, 9, 14, 2, 5, 15, 16, 17, 18, 19, 20, 21, 22, 23, 24, 25, 26, 27, 28, 29, 30, 31, 32, 33, 34, 35, 36, 37, 38, 39, 40, 41, 42, 43, 44, 45, 56, 57, 58, 59, 60, 61, 62, 63, 64, 65, 66, 67, 68, 69, 70, 71] (by decide +kernel) (by decide +kernel)
set_option maxRecDepth 20000 in
theorem gX6_passTicks_X6_meet : GoodIn wsX6_passTicks (wsV RX6 117 RX6 yX6_meet wsX6_meet) := goodIn_app (goodIn_of _ (by decide +kernel)) ggX6_passTicks_X6_meet
set_option maxRecDepth 20000 in
theorem ggX6_passTicks_X6_go : GoodIn wsX6_passTicks wsX6_go := goodIn_r _ [49, 1, 5, 2, 3, 50, 4, 51, 11, 12, 13, 9, 14, 23, 24, 25, 26, 27, 28, 29, 30, 31, 32, 33, 52, 53, 54, 55, 56, 57, 58, 59, 60, 61, 62, 63, 64, 65, 66, 67, 68, 69, 70, 71] (by decide +kernel) (by decide +kernel)
set_option maxRecDepth 20000 in
theorem gX6_passTicks_X6_go : GoodIn wsX6_passTicks (wsV RX6 121 RX6 yX6_go wsX6_go) := goodIn_app (goodIn_of _ (by decide +kernel)) ggX6_passTicks_X6_go
set_option maxRecDepth 20000 in
theorem ggX6_passTicks_X6_rest : GoodIn wsX6_passTicks wsX6_rest := goodIn_r _ [33] (by decide +kernel) (by decide +kernel)
set_option maxRecDepth 20000 in
theorem gX6_passTicks_X6_rest : GoodIn wsX6_passTicks (va_wsS RX6 72 yX6_rest wsX6_rest) := goodIn_app (goodIn_of _ (by decide +kernel)) ggX6_passTicks_X6_rest
theorem dX6_passTicks_0 : decode cX6_passTicks 0 = .ok (.aload_n 0, 1) := by decide +kernel
theorem dX6_passTicks_1 : decode cX6_passTicks 1 = .ok (.iload_n 1, 1) := by decide +kernel
theorem dX6_passTicks_2 : decode cX6_passTicks 2 = .ok (.iconst 0, 1) := by decide +kernel
theorem dX6_passTicks_3 : decode cX6_passTicks 3 = .ok (.invokevirtual 117, 3) := by decide +kernel
theorem dX6_passTicks_6 : decode cX6_passTicks 6 = .ok (.istore_n 2, 1) := by decide +kernel
theorem dX6_passTicks_7 : decode cX6_passTicks 7 = .ok (.aload_n 0, 1) := by decide +kernel
theorem dX6_passTicks_8 : decode cX6_passTicks 8 = .ok (.getfield 7, 3) := by decide +kernel
theorem dX6_passTicks_11 : decode cX6_passTicks 11 = .ok (.iconst 3, 1) := by decide +kernel
theorem dX6_passTicks_12 : decode cX6_passTicks 12 = .ok (.dup2, 1) := by decide +kernel
theorem dX6_passTicks_13 : decode cX6_passTicks 13 = .ok (.iaload, 1) := by decide +kernel
theorem dX6_passTicks_14 : decode cX6_passTicks 14 = .ok (.iload_n 2, 1) := by decide +kernel
theorem dX6_passTicks_15 : decode cX6_passTicks 15 = .ok (.iadd, 1) := by decide +kernel
theorem dX6_passTicks_16 : decode cX6_passTicks 16 = .ok (.iastore, 1) := by decide +kernel
theorem dX6_passTicks_17 : decode cX6_passTicks 17 = .ok (.aload_n 0, 1) := by decide +kernel
theorem dX6_passTicks_18 : decode cX6_passTicks 18 = .ok (.getfield 7, 3) := by decide +kernel
theorem dX6_passTicks_21 : decode cX6_passTicks 21 = .ok (.iconst 4, 1) := by decide +kernel
theorem dX6_passTicks_22 : decode cX6_passTicks 22 = .ok (.dup2, 1) := by decide +kernel
theorem dX6_passTicks_23 : decode cX6_passTicks 23 = .ok (.iaload, 1) := by decide +kernel
theorem dX6_passTicks_24 : decode cX6_passTicks 24 = .ok (.aload_n 0, 1) := by decide +kernel
theorem dX6_passTicks_25 : decode cX6_passTicks 25 = .ok (.iload_n 1, 1) := by decide +kernel
theorem dX6_passTicks_26 : decode cX6_passTicks 26 = .ok (.iconst 1, 1) := by decide +kernel
theorem dX6_passTicks_27 : decode cX6_passTicks 27 = .ok (.invokevirtual 117, 3) := by decide +kernel
theorem dX6_passTicks_30 : decode cX6_passTicks 30 = .ok (.iadd, 1) := by decide +kernel
theorem dX6_passTicks_31 : decode cX6_passTicks 31 = .ok (.iastore, 1) := by decide +kernel
theorem dX6_passTicks_32 : decode cX6_passTicks 32 = .ok (.aload_n 0, 1) := by decide +kernel
theorem dX6_passTicks_33 : decode cX6_passTicks 33 = .ok (.iload_n 1, 1) := by decide +kernel
theorem dX6_passTicks_34 : decode cX6_passTicks 34 = .ok (.invokevirtual 121, 3) := by decide +kernel
theorem dX6_passTicks_37 : decode cX6_passTicks 37 = .ok (.iconst 0, 1) := by decide +kernel
theorem dX6_passTicks_38 : decode cX6_passTicks 38 = .ok (.istore_n 3, 1) := by decide +kernel
theorem dX6_passTicks_39 : decode cX6_passTicks 39 = .ok (.iconst 0, 1) := by decide +kernel
theorem dX6_passTicks_40 : decode cX6_passTicks 40 = .ok (.istore 4, 2) := by decide +kernel
theorem dX6_passTicks_42 : decode cX6_passTicks 42 = .ok (.iload 4, 2) := by decide +kernel
theorem dX6_passTicks_44 : decode cX6_passTicks 44 = .ok (.aload_n 0, 1) := by decide +kernel
theorem dX6_passTicks_45 : decode cX6_passTicks 45 = .ok (.getfield 7, 3) := by decide +kernel
theorem dX6_passTicks_48 : decode cX6_passTicks 48 = .ok (.iconst 1, 1) := by decide +kernel
theorem dX6_passTicks_49 : decode cX6_passTicks 49 = .ok (.iaload, 1) := by decide +kernel
theorem dX6_passTicks_50 : decode cX6_passTicks 50 = .ok (.if_icmp .ge 103, 3) := by decide +kernel
theorem dX6_passTicks_53 : decode cX6_passTicks 53 = .ok (.aload_n 0, 1) := by decide +kernel
theorem dX6_passTicks_54 : decode cX6_passTicks 54 = .ok (.getfield 26, 3) := by decide +kernel
theorem dX6_passTicks_57 : decode cX6_passTicks 57 = .ok (.iload 4, 2) := by decide +kernel
theorem dX6_passTicks_59 : decode cX6_passTicks 59 = .ok (.iaload, 1) := by decide +kernel
theorem dX6_passTicks_60 : decode cX6_passTicks 60 = .ok (.istore 5, 2) := by decide +kernel
theorem dX6_passTicks_62 : decode cX6_passTicks 62 = .ok (.aload_n 0, 1) := by decide +kernel
theorem dX6_passTicks_63 : decode cX6_passTicks 63 = .ok (.getfield 7, 3) := by decide +kernel
theorem dX6_passTicks_66 : decode cX6_passTicks 66 = .ok (.iconst 5, 1) := by decide +kernel
theorem dX6_passTicks_67 : decode cX6_passTicks 67 = .ok (.iload 5, 2) := by decide +kernel
theorem dX6_passTicks_69 : decode cX6_passTicks 69 = .ok (.iadd, 1) := by decide +kernel
theorem dX6_passTicks_70 : decode cX6_passTicks 70 = .ok (.aload_n 0, 1) := by decide +kernel
theorem dX6_passTicks_71 : decode cX6_passTicks 71 = .ok (.getfield 38, 3) := by decide +kernel
theorem dX6_passTicks_74 : decode cX6_passTicks 74 = .ok (.iload 4, 2) := by decide +kernel
theorem dX6_passTicks_76 : decode cX6_passTicks 76 = .ok (.iaload, 1) := by decide +kernel
theorem dX6_passTicks_77 : decode cX6_passTicks 77 = .ok (.iload_n 3, 1) := by decide +kernel
theorem dX6_passTicks_78 : decode cX6_passTicks 78 = .ok (.iadd, 1) := by decide +kernel
theorem dX6_passTicks_79 : decode cX6_passTicks 79 = .ok (.aload_n 0, 1) := by decide +kernel
theorem dX6_passTicks_80 : decode cX6_passTicks 80 = .ok (.getfield 7, 3) := by decide +kernel
theorem dX6_passTicks_83 : decode cX6_passTicks 83 = .ok (.iconst 0, 1) := by decide +kernel
theorem dX6_passTicks_84 : decode cX6_passTicks 84 = .ok (.iaload, 1) := by decide +kernel
theorem dX6_passTicks_85 : decode cX6_passTicks 85 = .ok (.invokestatic 72, 3) := by decide +kernel
theorem dX6_passTicks_88 : decode cX6_passTicks 88 = .ok (.iastore, 1) := by decide +kernel
theorem dX6_passTicks_89 : decode cX6_passTicks 89 = .ok (.aload_n 0, 1) := by decide +kernel
theorem dX6_passTicks_90 : decode cX6_passTicks 90 = .ok (.getfield 7, 3) := by decide +kernel
theorem dX6_passTicks_93 : decode cX6_passTicks 93 = .ok (.bipush 21, 2) := by decide +kernel
theorem dX6_passTicks_95 : decode cX6_passTicks 95 = .ok (.iload 5, 2) := by decide +kernel
theorem dX6_passTicks_97 : decode cX6_passTicks 97 = .ok (.iadd, 1) := by decide +kernel
theorem dX6_passTicks_98 : decode cX6_passTicks 98 = .ok (.aload_n 0, 1) := by decide +kernel
theorem dX6_passTicks_99 : decode cX6_passTicks 99 = .ok (.getfield 41, 3) := by decide +kernel
theorem dX6_passTicks_102 : decode cX6_passTicks 102 = .ok (.iload 4, 2) := by decide +kernel
theorem dX6_passTicks_104 : decode cX6_passTicks 104 = .ok (.iaload, 1) := by decide +kernel
theorem dX6_passTicks_105 : decode cX6_passTicks 105 = .ok (.iastore, 1) := by decide +kernel
theorem dX6_passTicks_106 : decode cX6_passTicks 106 = .ok (.aload_n 0, 1) := by decide +kernel
theorem dX6_passTicks_107 : decode cX6_passTicks 107 = .ok (.getfield 7, 3) := by decide +kernel
theorem dX6_passTicks_110 : decode cX6_passTicks 110 = .ok (.bipush 29, 2) := by decide +kernel
theorem dX6_passTicks_112 : decode cX6_passTicks 112 = .ok (.iload 5, 2) := by decide +kernel
theorem dX6_passTicks_114 : decode cX6_passTicks 114 = .ok (.iadd, 1) := by decide +kernel
theorem dX6_passTicks_115 : decode cX6_passTicks 115 = .ok (.dup2, 1) := by decide +kernel
theorem dX6_passTicks_116 : decode cX6_passTicks 116 = .ok (.iaload, 1) := by decide +kernel
theorem dX6_passTicks_117 : decode cX6_passTicks 117 = .ok (.aload_n 0, 1) := by decide +kernel
theorem dX6_passTicks_118 : decode cX6_passTicks 118 = .ok (.getfield 38, 3) := by decide +kernel
theorem dX6_passTicks_121 : decode cX6_passTicks 121 = .ok (.iload 4, 2) := by decide +kernel
theorem dX6_passTicks_123 : decode cX6_passTicks 123 = .ok (.iaload, 1) := by decide +kernel
theorem dX6_passTicks_124 : decode cX6_passTicks 124 = .ok (.aload_n 0, 1) := by decide +kernel
theorem dX6_passTicks_125 : decode cX6_passTicks 125 = .ok (.getfield 29, 3) := by decide +kernel
theorem dX6_passTicks_128 : decode cX6_passTicks 128 = .ok (.iload 4, 2) := by decide +kernel
theorem dX6_passTicks_130 : decode cX6_passTicks 130 = .ok (.iaload, 1) := by decide +kernel
theorem dX6_passTicks_131 : decode cX6_passTicks 131 = .ok (.isub, 1) := by decide +kernel
theorem dX6_passTicks_132 : decode cX6_passTicks 132 = .ok (.iadd, 1) := by decide +kernel
theorem dX6_passTicks_133 : decode cX6_passTicks 133 = .ok (.iastore, 1) := by decide +kernel
theorem dX6_passTicks_134 : decode cX6_passTicks 134 = .ok (.iload_n 3, 1) := by decide +kernel
theorem dX6_passTicks_135 : decode cX6_passTicks 135 = .ok (.aload_n 0, 1) := by decide +kernel
theorem dX6_passTicks_136 : decode cX6_passTicks 136 = .ok (.getfield 7, 3) := by decide +kernel
theorem dX6_passTicks_139 : decode cX6_passTicks 139 = .ok (.bipush 13, 2) := by decide +kernel
theorem dX6_passTicks_141 : decode cX6_passTicks 141 = .ok (.iload 5, 2) := by decide +kernel
theorem dX6_passTicks_143 : decode cX6_passTicks 143 = .ok (.iadd, 1) := by decide +kernel
theorem dX6_passTicks_144 : decode cX6_passTicks 144 = .ok (.iaload, 1) := by decide +kernel
theorem dX6_passTicks_145 : decode cX6_passTicks 145 = .ok (.iadd, 1) := by decide +kernel
theorem dX6_passTicks_146 : decode cX6_passTicks 146 = .ok (.istore_n 3, 1) := by decide +kernel
theorem dX6_passTicks_147 : decode cX6_passTicks 147 = .ok (.iinc 4 1, 3) := by decide +kernel
theorem dX6_passTicks_150 : decode cX6_passTicks 150 = .ok (.goto (-108), 3) := by decide +kernel
theorem dX6_passTicks_153 : decode cX6_passTicks 153 = .ok (.aload_n 0, 1) := by decide +kernel
theorem dX6_passTicks_154 : decode cX6_passTicks 154 = .ok (.getfield 7, 3) := by decide +kernel
theorem dX6_passTicks_157 : decode cX6_passTicks 157 = .ok (.iconst 2, 1) := by decide +kernel
theorem dX6_passTicks_158 : decode cX6_passTicks 158 = .ok (.dup2, 1) := by decide +kernel
theorem dX6_passTicks_159 : decode cX6_passTicks 159 = .ok (.iaload, 1) := by decide +kernel
theorem dX6_passTicks_160 : decode cX6_passTicks 160 = .ok (.iload_n 1, 1) := by decide +kernel
theorem dX6_passTicks_161 : decode cX6_passTicks 161 = .ok (.iadd, 1) := by decide +kernel
theorem dX6_passTicks_162 : decode cX6_passTicks 162 = .ok (.iastore, 1) := by decide +kernel
theorem dX6_passTicks_163 : decode cX6_passTicks 163 = .ok (.iload_n 2, 1) := by decide +kernel
theorem dX6_passTicks_164 : decode cX6_passTicks 164 = .ok (.ireturn, 1) := by decide +kernel
set_option maxRecDepth 20000 in
theorem ggX6_pass_X6_in : GoodIn wsX6_pass wsX6_in := goodIn_r _ [5] (by decide +kernel) (by decide +kernel)
set_option maxRecDepth 20000 in
theorem gX6_pass_X6_in : GoodIn wsX6_pass (va_wsS RX6 64 yX6_in wsX6_in) := goodIn_app (goodIn_of _ (by decide +kernel)) ggX6_pass_X6_in
set_option maxRecDepth 20000 in
theorem ggX6_pass_X6_begin : GoodIn wsX6_pass wsX6_begin := goodIn_r _ [9, 10, 11, 12, 4, 13, 14, 1, 15, 16, 17, 18, 19, 20, 78, 79, 80, 81, 82, 83, 84, 85, 86, 87, 88, 89, 90, 91, 92, 93] (by decide +kernel) (by decide +kernel)
set_option maxRecDepth 20000 in
theorem gX6_pass_X6_begin : GoodIn wsX6_pass (wsV RX6 61 RX6 yX6_begin wsX6_begin) := goodIn_app (goodIn_of _ (by decide +kernel)) ggX6_pass_X6_begin
set_option maxRecDepth 20000 in
theorem ggX6_pass_X6_passTicks : GoodIn wsX6_pass wsX6_passTicks := goodIn_r _ [24, 1, 25, 26, 27, 28, 29, 30, 31, 4, 32, 33, 34, 35, 36, 37, 38, 39, 40, 41, 42, 43, 44, 45, 46, 47, 48, 49, 50, 51, 52, 53, 54, 55, 56, 57, 58, 59, 60, 61, 62, 63, 64, 65, 66, 67, 68, 69, 70, 71, 72, 73, 74, 75, 76, 77, 78, 79, 80, 81, 82, 83, 84, 85, 86, 87, 88, 89, 90, 91, 92, 93] (by decide +kernel) (by decide +kernel)
set_option maxRecDepth 20000 in
theorem gX6_pass_X6_passTicks : GoodIn wsX6_pass (wsV RX6 125 RX6 yX6_passTicks wsX6_passTicks) := goodIn_app (goodIn_of _ (by decide +kernel)) ggX6_pass_X6_passTicks
theorem dX6_pass_0 : decode cX6_pass 0 = .ok (.iload_n 1, 1) := by decide +kernel
theorem dX6_pass_1 : decode cX6_pass 1 = .ok (.iconst 1, 1) := by decide +kernel
theorem dX6_pass_2 : decode cX6_pass 2 = .ok (.bipush 100, 2) := by decide +kernel
theorem dX6_pass_4 : decode cX6_pass 4 = .ok (.invokestatic 64, 3) := by decide +kernel
theorem dX6_pass_7 : decode cX6_pass 7 = .ok (.ifCond .ne 6, 3) := by decide +kernel
theorem dX6_pass_10 : decode cX6_pass 10 = .ok (.bipush (-2), 2) := by decide +kernel
theorem dX6_pass_12 : decode cX6_pass 12 = .ok (.ireturn, 1) := by decide +kernel
theorem dX6_pass_13 : decode cX6_pass 13 = .ok (.aload_n 0, 1) := by decide +kernel
theorem dX6_pass_14 : decode cX6_pass 14 = .ok (.getfield 7, 3) := by decide +kernel
theorem dX6_pass_17 : decode cX6_pass 17 = .ok (.iconst 2, 1) := by decide +kernel
theorem dX6_pass_18 : decode cX6_pass 18 = .ok (.iaload, 1) := by decide +kernel
theorem dX6_pass_19 : decode cX6_pass 19 = .ok (.iload_n 1, 1) := by decide +kernel
theorem dX6_pass_20 : decode cX6_pass 20 = .ok (.iadd, 1) := by decide +kernel
theorem dX6_pass_21 : decode cX6_pass 21 = .ok (.sipush 10000, 3) := by decide +kernel
theorem dX6_pass_24 : decode cX6_pass 24 = .ok (.if_icmp .le 6, 3) := by decide +kernel
theorem dX6_pass_27 : decode cX6_pass 27 = .ok (.bipush (-4), 2) := by decide +kernel
theorem dX6_pass_29 : decode cX6_pass 29 = .ok (.ireturn, 1) := by decide +kernel
theorem dX6_pass_30 : decode cX6_pass 30 = .ok (.aload_n 0, 1) := by decide +kernel
theorem dX6_pass_31 : decode cX6_pass 31 = .ok (.invokevirtual 61, 3) := by decide +kernel
theorem dX6_pass_34 : decode cX6_pass 34 = .ok (.aload_n 0, 1) := by decide +kernel
theorem dX6_pass_35 : decode cX6_pass 35 = .ok (.iload_n 1, 1) := by decide +kernel
theorem dX6_pass_36 : decode cX6_pass 36 = .ok (.invokevirtual 125, 3) := by decide +kernel
theorem dX6_pass_39 : decode cX6_pass 39 = .ok (.ireturn, 1) := by decide +kernel
theorem dX6_type_0 : decode cX6_type 0 = .ok (.aload_n 0, 1) := by decide +kernel
theorem dX6_type_1 : decode cX6_type 1 = .ok (.getfield 128, 3) := by decide +kernel
theorem dX6_type_4 : decode cX6_type 4 = .ok (.bipush 60, 2) := by decide +kernel
theorem dX6_type_6 : decode cX6_type 6 = .ok (.if_icmp .ne 6, 3) := by decide +kernel
theorem dX6_type_9 : decode cX6_type 9 = .ok (.bipush (-3), 2) := by decide +kernel
theorem dX6_type_11 : decode cX6_type 11 = .ok (.ireturn, 1) := by decide +kernel
theorem dX6_type_12 : decode cX6_type 12 = .ok (.aload_n 0, 1) := by decide +kernel
theorem dX6_type_13 : decode cX6_type 13 = .ok (.getfield 22, 3) := by decide +kernel
theorem dX6_type_16 : decode cX6_type 16 = .ok (.aload_n 0, 1) := by decide +kernel
theorem dX6_type_17 : decode cX6_type 17 = .ok (.getfield 128, 3) := by decide +kernel
theorem dX6_type_20 : decode cX6_type 20 = .ok (.iload_n 1, 1) := by decide +kernel
theorem dX6_type_21 : decode cX6_type 21 = .ok (.castore, 1) := by decide +kernel
theorem dX6_type_22 : decode cX6_type 22 = .ok (.aload_n 0, 1) := by decide +kernel
theorem dX6_type_23 : decode cX6_type 23 = .ok (.dup, 1) := by decide +kernel
theorem dX6_type_24 : decode cX6_type 24 = .ok (.getfield 128, 3) := by decide +kernel
theorem dX6_type_27 : decode cX6_type 27 = .ok (.iconst 1, 1) := by decide +kernel
theorem dX6_type_28 : decode cX6_type 28 = .ok (.iadd, 1) := by decide +kernel
theorem dX6_type_29 : decode cX6_type 29 = .ok (.putfield 128, 3) := by decide +kernel
theorem dX6_type_32 : decode cX6_type 32 = .ok (.aload_n 0, 1) := by decide +kernel
theorem dX6_type_33 : decode cX6_type 33 = .ok (.getfield 128, 3) := by decide +kernel
theorem dX6_type_36 : decode cX6_type 36 = .ok (.ireturn, 1) := by decide +kernel
theorem dX6_clearText_0 : decode cX6_clearText 0 = .ok (.aload_n 0, 1) := by decide +kernel
theorem dX6_clearText_1 : decode cX6_clearText 1 = .ok (.getfield 128, 3) := by decide +kernel
theorem dX6_clearText_4 : decode cX6_clearText 4 = .ok (.istore_n 1, 1) := by decide +kernel
theorem dX6_clearText_5 : decode cX6_clearText 5 = .ok (.aload_n 0, 1) := by decide +kernel
theorem dX6_clearText_6 : decode cX6_clearText 6 = .ok (.iconst 0, 1) := by decide +kernel
theorem dX6_clearText_7 : decode cX6_clearText 7 = .ok (.putfield 128, 3) := by decide +kernel
theorem dX6_clearText_10 : decode cX6_clearText 10 = .ok (.iload_n 1, 1) := by decide +kernel
theorem dX6_clearText_11 : decode cX6_clearText 11 = .ok (.ireturn, 1) := by decide +kernel
set_option maxRecDepth 20000 in
theorem ggX6_sees_X6_in : GoodIn wsX6_sees wsX6_in := goodIn_r _ [7] (by decide +kernel) (by decide +kernel)
set_option maxRecDepth 20000 in
theorem gX6_sees_X6_in : GoodIn wsX6_sees (va_wsS RX6 64 yX6_in wsX6_in) := goodIn_app (goodIn_of _ (by decide +kernel)) ggX6_sees_X6_in
theorem dX6_sees_0 : decode cX6_sees 0 = .ok (.aload_n 0, 1) := by decide +kernel
theorem dX6_sees_1 : decode cX6_sees 1 = .ok (.getfield 131, 3) := by decide +kernel
theorem dX6_sees_4 : decode cX6_sees 4 = .ok (.aload_n 0, 1) := by decide +kernel
theorem dX6_sees_5 : decode cX6_sees 5 = .ok (.getfield 128, 3) := by decide +kernel
theorem dX6_sees_8 : decode cX6_sees 8 = .ok (.if_icmp .ge 24, 3) := by decide +kernel
theorem dX6_sees_11 : decode cX6_sees 11 = .ok (.aload_n 0, 1) := by decide +kernel
theorem dX6_sees_12 : decode cX6_sees 12 = .ok (.getfield 22, 3) := by decide +kernel
theorem dX6_sees_15 : decode cX6_sees 15 = .ok (.aload_n 0, 1) := by decide +kernel
theorem dX6_sees_16 : decode cX6_sees 16 = .ok (.getfield 131, 3) := by decide +kernel
theorem dX6_sees_19 : decode cX6_sees 19 = .ok (.caload, 1) := by decide +kernel
theorem dX6_sees_20 : decode cX6_sees 20 = .ok (.iload_n 1, 1) := by decide +kernel
theorem dX6_sees_21 : decode cX6_sees 21 = .ok (.iload_n 2, 1) := by decide +kernel
theorem dX6_sees_22 : decode cX6_sees 22 = .ok (.invokestatic 64, 3) := by decide +kernel
theorem dX6_sees_25 : decode cX6_sees 25 = .ok (.ifCond .eq 7, 3) := by decide +kernel
theorem dX6_sees_28 : decode cX6_sees 28 = .ok (.iconst 1, 1) := by decide +kernel
theorem dX6_sees_29 : decode cX6_sees 29 = .ok (.goto 4, 3) := by decide +kernel
theorem dX6_sees_32 : decode cX6_sees 32 = .ok (.iconst 0, 1) := by decide +kernel
theorem dX6_sees_33 : decode cX6_sees 33 = .ok (.ireturn, 1) := by decide +kernel
theorem dX6_take_0 : decode cX6_take 0 = .ok (.aload_n 0, 1) := by decide +kernel
theorem dX6_take_1 : decode cX6_take 1 = .ok (.dup, 1) := by decide +kernel
theorem dX6_take_2 : decode cX6_take 2 = .ok (.getfield 131, 3) := by decide +kernel
theorem dX6_take_5 : decode cX6_take 5 = .ok (.iconst 1, 1) := by decide +kernel
theorem dX6_take_6 : decode cX6_take 6 = .ok (.iadd, 1) := by decide +kernel
theorem dX6_take_7 : decode cX6_take 7 = .ok (.putfield 131, 3) := by decide +kernel
theorem dX6_take_10 : decode cX6_take 10 = .ok (.aload_n 0, 1) := by decide +kernel
theorem dX6_take_11 : decode cX6_take 11 = .ok (.getfield 22, 3) := by decide +kernel
theorem dX6_take_14 : decode cX6_take 14 = .ok (.aload_n 0, 1) := by decide +kernel
theorem dX6_take_15 : decode cX6_take 15 = .ok (.getfield 131, 3) := by decide +kernel
theorem dX6_take_18 : decode cX6_take 18 = .ok (.iconst 1, 1) := by decide +kernel
theorem dX6_take_19 : decode cX6_take 19 = .ok (.isub, 1) := by decide +kernel
theorem dX6_take_20 : decode cX6_take 20 = .ok (.caload, 1) := by decide +kernel
theorem dX6_take_21 : decode cX6_take 21 = .ok (.bipush 48, 2) := by decide +kernel
theorem dX6_take_23 : decode cX6_take 23 = .ok (.isub, 1) := by decide +kernel
theorem dX6_take_24 : decode cX6_take 24 = .ok (.ireturn, 1) := by decide +kernel
set_option maxRecDepth 20000 in
theorem ggX6_readOrder_X6_sees : GoodIn wsX6_readOrder wsX6_sees := goodIn_r _ [7, 1, 8, 9, 10, 11, 6, 12, 86, 87, 88, 89, 90, 91, 92, 93, 94, 95, 96, 97, 98, 99, 100, 101] (by decide +kernel) (by decide +kernel)
set_option maxRecDepth 20000 in
theorem gX6_readOrder_X6_sees : GoodIn wsX6_readOrder (wsV RX6 134 RX6 yX6_sees wsX6_sees) := goodIn_app (goodIn_of _ (by decide +kernel)) ggX6_readOrder_X6_sees
set_option maxRecDepth 20000 in
theorem ggX6_readOrder_X6_turnRound : GoodIn wsX6_readOrder wsX6_turnRound := goodIn_r _ [16, 2, 86, 87, 88, 89, 90, 91, 92, 93, 94, 95, 96, 97, 98, 99, 100, 101] (by decide +kernel) (by decide +kernel)
set_option maxRecDepth 20000 in
theorem gX6_readOrder_X6_turnRound : GoodIn wsX6_readOrder (wsV RX6 90 RX6 yX6_turnRound wsX6_turnRound) := goodIn_app (goodIn_of _ (by decide +kernel)) ggX6_readOrder_X6_turnRound
set_option maxRecDepth 20000 in
theorem ggX6_readOrder_X6_passing : GoodIn wsX6_readOrder wsX6_passing := goodIn_r _ [20, 2, 21, 22, 23, 6, 24, 1, 9, 3, 4, 5, 7, 8, 10, 11, 12, 25, 26, 27, 28, 29, 30, 31, 32, 33, 34, 35, 36, 37, 38, 39, 40, 41, 42, 43, 44, 45, 46, 47, 48, 49, 50, 51, 52, 53, 54, 55, 56, 57, 58, 59, 60, 61, 62, 63, 64, 65, 66, 67, 68, 69, 70, 71, 72, 73, 74, 75, 76, 77, 78, 79, 80, 81, 86, 87, 88, 89, 90, 91, 92, 93, 94, 95, 96, 97, 98, 99, 100, 101] (by decide +kernel) (by decide +kernel)
set_option maxRecDepth 20000 in
theorem gX6_readOrder_X6_passing : GoodIn wsX6_readOrder (wsV RX6 137 RX6 yX6_passing wsX6_passing) := goodIn_app (goodIn_of _ (by decide +kernel)) ggX6_readOrder_X6_passing
set_option maxRecDepth 20000 in
theorem ggX6_readOrder_X6_take : GoodIn wsX6_readOrder wsX6_take := goodIn_r _ [24, 1, 9, 86, 87, 88, 89, 90, 91, 92, 93, 94, 95, 96, 97, 98, 99, 100, 101] (by decide +kernel) (by decide +kernel)
set_option maxRecDepth 20000 in
theorem gX6_readOrder_X6_take : GoodIn wsX6_readOrder (wsV RX6 141 RX6 yX6_take wsX6_take) := goodIn_app (goodIn_of _ (by decide +kernel)) ggX6_readOrder_X6_take
set_option maxRecDepth 20000 in
theorem ggX6_readOrder_X6_noRod : GoodIn wsX6_readOrder wsX6_noRod := goodIn_r _ [85, 2, 10, 11, 6, 12, 86, 87, 88, 89, 90, 91, 92, 93, 94, 95, 96, 97, 98, 99, 100, 101] (by decide +kernel) (by decide +kernel)
set_option maxRecDepth 20000 in
theorem gX6_readOrder_X6_noRod : GoodIn wsX6_readOrder (wsV RX6 83 RX6 yX6_noRod wsX6_noRod) := goodIn_app (goodIn_of _ (by decide +kernel)) ggX6_readOrder_X6_noRod
theorem dX6_readOrder_0 : decode cX6_readOrder 0 = .ok (.aload_n 0, 1) := by decide +kernel
theorem dX6_readOrder_1 : decode cX6_readOrder 1 = .ok (.bipush 114, 2) := by decide +kernel
theorem dX6_readOrder_3 : decode cX6_readOrder 3 = .ok (.bipush 114, 2) := by decide +kernel
theorem dX6_readOrder_5 : decode cX6_readOrder 5 = .ok (.invokevirtual 134, 3) := by decide +kernel
theorem dX6_readOrder_8 : decode cX6_readOrder 8 = .ok (.ifCond .eq 23, 3) := by decide +kernel
theorem dX6_readOrder_11 : decode cX6_readOrder 11 = .ok (.aload_n 0, 1) := by decide +kernel
theorem dX6_readOrder_12 : decode cX6_readOrder 12 = .ok (.dup, 1) := by decide +kernel
theorem dX6_readOrder_13 : decode cX6_readOrder 13 = .ok (.getfield 131, 3) := by decide +kernel
theorem dX6_readOrder_16 : decode cX6_readOrder 16 = .ok (.iconst 1, 1) := by decide +kernel
theorem dX6_readOrder_17 : decode cX6_readOrder 17 = .ok (.iadd, 1) := by decide +kernel
theorem dX6_readOrder_18 : decode cX6_readOrder 18 = .ok (.putfield 131, 3) := by decide +kernel
theorem dX6_readOrder_21 : decode cX6_readOrder 21 = .ok (.iload_n 1, 1) := by decide +kernel
theorem dX6_readOrder_22 : decode cX6_readOrder 22 = .ok (.ifCond .eq 7, 3) := by decide +kernel
theorem dX6_readOrder_25 : decode cX6_readOrder 25 = .ok (.aload_n 0, 1) := by decide +kernel
theorem dX6_readOrder_26 : decode cX6_readOrder 26 = .ok (.invokevirtual 90, 3) := by decide +kernel
theorem dX6_readOrder_29 : decode cX6_readOrder 29 = .ok (.iconst 0, 1) := by decide +kernel
theorem dX6_readOrder_30 : decode cX6_readOrder 30 = .ok (.ireturn, 1) := by decide +kernel
