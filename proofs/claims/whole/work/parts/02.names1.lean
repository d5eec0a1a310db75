theorem dX0_foresee_2 : decode cX0_foresee 2 = .ok (.putfield 15, 3) := by decide +kernel
theorem dX0_foresee_5 : decode cX0_foresee 5 = .ok (.aload_n 0, 1) := by decide +kernel
theorem dX0_foresee_6 : decode cX0_foresee 6 = .ok (.iconst 0, 1) := by decide +kernel
theorem dX0_foresee_7 : decode cX0_foresee 7 = .ok (.putfield 19, 3) := by decide +kernel
theorem dX0_foresee_10 : decode cX0_foresee 10 = .ok (.iconst 0, 1) := by decide +kernel
theorem dX0_foresee_11 : decode cX0_foresee 11 = .ok (.istore_n 3, 1) := by decide +kernel
theorem dX0_foresee_12 : decode cX0_foresee 12 = .ok (.iload_n 3, 1) := by decide +kernel
theorem dX0_foresee_13 : decode cX0_foresee 13 = .ok (.aload_n 1, 1) := by decide +kernel
theorem dX0_foresee_14 : decode cX0_foresee 14 = .ok (.getfield 22, 3) := by decide +kernel
theorem dX0_foresee_17 : decode cX0_foresee 17 = .ok (.if_icmp .ge 74, 3) := by decide +kernel
theorem dX0_foresee_20 : decode cX0_foresee 20 = .ok (.iconst 0, 1) := by decide +kernel
theorem dX0_foresee_21 : decode cX0_foresee 21 = .ok (.istore 4, 2) := by decide +kernel
theorem dX0_foresee_23 : decode cX0_foresee 23 = .ok (.iload 4, 2) := by decide +kernel
theorem dX0_foresee_25 : decode cX0_foresee 25 = .ok (.aload_n 1, 1) := by decide +kernel
theorem dX0_foresee_26 : decode cX0_foresee 26 = .ok (.getfield 22, 3) := by decide +kernel
theorem dX0_foresee_29 : decode cX0_foresee 29 = .ok (.if_icmp .ge 56, 3) := by decide +kernel
theorem dX0_foresee_32 : decode cX0_foresee 32 = .ok (.aload_n 1, 1) := by decide +kernel
theorem dX0_foresee_33 : decode cX0_foresee 33 = .ok (.iload_n 3, 1) := by decide +kernel
theorem dX0_foresee_34 : decode cX0_foresee 34 = .ok (.iload 4, 2) := by decide +kernel
theorem dX0_foresee_36 : decode cX0_foresee 36 = .ok (.iload_n 2, 1) := by decide +kernel
theorem dX0_foresee_37 : decode cX0_foresee 37 = .ok (.invokestatic 27, 3) := by decide +kernel
theorem dX0_foresee_40 : decode cX0_foresee 40 = .ok (.istore 5, 2) := by decide +kernel
theorem dX0_foresee_42 : decode cX0_foresee 42 = .ok (.aload_n 0, 1) := by decide +kernel
theorem dX0_foresee_43 : decode cX0_foresee 43 = .ok (.dup, 1) := by decide +kernel
theorem dX0_foresee_44 : decode cX0_foresee 44 = .ok (.getfield 15, 3) := by decide +kernel
theorem dX0_foresee_47 : decode cX0_foresee 47 = .ok (.iload 5, 2) := by decide +kernel
theorem dX0_foresee_49 : decode cX0_foresee 49 = .ok (.iadd, 1) := by decide +kernel
theorem dX0_foresee_50 : decode cX0_foresee 50 = .ok (.putfield 15, 3) := by decide +kernel
theorem dX0_foresee_53 : decode cX0_foresee 53 = .ok (.aload_n 0, 1) := by decide +kernel
theorem dX0_foresee_54 : decode cX0_foresee 54 = .ok (.dup, 1) := by decide +kernel
theorem dX0_foresee_55 : decode cX0_foresee 55 = .ok (.getfield 19, 3) := by decide +kernel
theorem dX0_foresee_58 : decode cX0_foresee 58 = .ok (.iload 5, 2) := by decide +kernel
theorem dX0_foresee_60 : decode cX0_foresee 60 = .ok (.aload_n 1, 1) := by decide +kernel
theorem dX0_foresee_61 : decode cX0_foresee 61 = .ok (.getfield 31, 3) := by decide +kernel
theorem dX0_foresee_64 : decode cX0_foresee 64 = .ok (.iload_n 3, 1) := by decide +kernel
theorem dX0_foresee_65 : decode cX0_foresee 65 = .ok (.iaload, 1) := by decide +kernel
theorem dX0_foresee_66 : decode cX0_foresee 66 = .ok (.aload_n 1, 1) := by decide +kernel
theorem dX0_foresee_67 : decode cX0_foresee 67 = .ok (.getfield 31, 3) := by decide +kernel
theorem dX0_foresee_70 : decode cX0_foresee 70 = .ok (.iload 4, 2) := by decide +kernel
theorem dX0_foresee_72 : decode cX0_foresee 72 = .ok (.iaload, 1) := by decide +kernel
theorem dX0_foresee_73 : decode cX0_foresee 73 = .ok (.isub, 1) := by decide +kernel
theorem dX0_foresee_74 : decode cX0_foresee 74 = .ok (.imul, 1) := by decide +kernel
theorem dX0_foresee_75 : decode cX0_foresee 75 = .ok (.iadd, 1) := by decide +kernel
theorem dX0_foresee_76 : decode cX0_foresee 76 = .ok (.putfield 19, 3) := by decide +kernel
theorem dX0_foresee_79 : decode cX0_foresee 79 = .ok (.iinc 4 1, 3) := by decide +kernel
theorem dX0_foresee_82 : decode cX0_foresee 82 = .ok (.goto (-59), 3) := by decide +kernel
theorem dX0_foresee_85 : decode cX0_foresee 85 = .ok (.iinc 3 1, 3) := by decide +kernel
theorem dX0_foresee_88 : decode cX0_foresee 88 = .ok (.goto (-76), 3) := by decide +kernel
theorem dX0_foresee_91 : decode cX0_foresee 91 = .ok (.return_, 1) := by decide +kernel
set_option maxRecDepth 20000 in
theorem ggX0_differentMoments_X0_markMoments : GoodIn wsX0_differentMoments wsX0_markMoments := goodIn_r _ [7, 8, 9, 10, 6, 11, 12, 13, 14, 15, 16, 17, 18, 19, 20, 21, 22, 23, 24, 25, 26, 27, 28, 29, 30, 31, 32, 1, 33, 34, 35, 49, 50, 51, 52, 53, 54, 55, 56, 57, 43, 44, 45, 46, 47, 48] (by decide +kernel) (by decide +kernel)
set_option maxRecDepth 20000 in
theorem gX0_differentMoments_X0_markMoments : GoodIn wsX0_differentMoments (wsV RX0 35 RX0 yX0_markMoments wsX0_markMoments) := goodIn_app (goodIn_of _ (by decide +kernel)) ggX0_differentMoments_X0_markMoments
set_option maxRecDepth 20000 in
theorem ggX0_differentMoments_J13_bitCount_95d88 : GoodIn wsX0_differentMoments wsJ13_bitCount_95d88 := goodIn_r _ [39, 40, 41, 42] (by decide +kernel) (by decide +kernel)
set_option maxRecDepth 20000 in
theorem gX0_differentMoments_J13_bitCount_95d88 : GoodIn wsX0_differentMoments (va_wsS RX0 39 yJ13_bitCount_95d88 wsJ13_bitCount_95d88) := goodIn_app (goodIn_of _ (by decide +kernel)) ggX0_differentMoments_J13_bitCount_95d88
theorem dX0_differentMoments_0 : decode cX0_differentMoments 0 = .ok (.iconst 0, 1) := by decide +kernel
theorem dX0_differentMoments_1 : decode cX0_differentMoments 1 = .ok (.istore_n 3, 1) := by decide +kernel
theorem dX0_differentMoments_2 : decode cX0_differentMoments 2 = .ok (.iload_n 3, 1) := by decide +kernel
theorem dX0_differentMoments_3 : decode cX0_differentMoments 3 = .ok (.aload_n 0, 1) := by decide +kernel
theorem dX0_differentMoments_4 : decode cX0_differentMoments 4 = .ok (.getfield 9, 3) := by decide +kernel
theorem dX0_differentMoments_7 : decode cX0_differentMoments 7 = .ok (.arraylength, 1) := by decide +kernel
theorem dX0_differentMoments_8 : decode cX0_differentMoments 8 = .ok (.if_icmp .ge 16, 3) := by decide +kernel
theorem dX0_differentMoments_11 : decode cX0_differentMoments 11 = .ok (.aload_n 0, 1) := by decide +kernel
theorem dX0_differentMoments_12 : decode cX0_differentMoments 12 = .ok (.getfield 9, 3) := by decide +kernel
theorem dX0_differentMoments_15 : decode cX0_differentMoments 15 = .ok (.iload_n 3, 1) := by decide +kernel
theorem dX0_differentMoments_16 : decode cX0_differentMoments 16 = .ok (.lconst 0, 1) := by decide +kernel
theorem dX0_differentMoments_17 : decode cX0_differentMoments 17 = .ok (.lastore, 1) := by decide +kernel
theorem dX0_differentMoments_18 : decode cX0_differentMoments 18 = .ok (.iinc 3 1, 3) := by decide +kernel
theorem dX0_differentMoments_21 : decode cX0_differentMoments 21 = .ok (.goto (-19), 3) := by decide +kernel
theorem dX0_differentMoments_24 : decode cX0_differentMoments 24 = .ok (.iconst 0, 1) := by decide +kernel
theorem dX0_differentMoments_25 : decode cX0_differentMoments 25 = .ok (.istore_n 3, 1) := by decide +kernel
theorem dX0_differentMoments_26 : decode cX0_differentMoments 26 = .ok (.iload_n 3, 1) := by decide +kernel
theorem dX0_differentMoments_27 : decode cX0_differentMoments 27 = .ok (.aload_n 1, 1) := by decide +kernel
theorem dX0_differentMoments_28 : decode cX0_differentMoments 28 = .ok (.getfield 22, 3) := by decide +kernel
theorem dX0_differentMoments_31 : decode cX0_differentMoments 31 = .ok (.if_icmp .ge 36, 3) := by decide +kernel
theorem dX0_differentMoments_34 : decode cX0_differentMoments 34 = .ok (.iconst 0, 1) := by decide +kernel
theorem dX0_differentMoments_35 : decode cX0_differentMoments 35 = .ok (.istore 4, 2) := by decide +kernel
theorem dX0_differentMoments_37 : decode cX0_differentMoments 37 = .ok (.iload 4, 2) := by decide +kernel
theorem dX0_differentMoments_39 : decode cX0_differentMoments 39 = .ok (.aload_n 1, 1) := by decide +kernel
theorem dX0_differentMoments_40 : decode cX0_differentMoments 40 = .ok (.getfield 22, 3) := by decide +kernel
theorem dX0_differentMoments_43 : decode cX0_differentMoments 43 = .ok (.if_icmp .ge 18, 3) := by decide +kernel
theorem dX0_differentMoments_46 : decode cX0_differentMoments 46 = .ok (.aload_n 0, 1) := by decide +kernel
theorem dX0_differentMoments_47 : decode cX0_differentMoments 47 = .ok (.aload_n 1, 1) := by decide +kernel
theorem dX0_differentMoments_48 : decode cX0_differentMoments 48 = .ok (.iload_n 3, 1) := by decide +kernel
theorem dX0_differentMoments_49 : decode cX0_differentMoments 49 = .ok (.iload 4, 2) := by decide +kernel
theorem dX0_differentMoments_51 : decode cX0_differentMoments 51 = .ok (.iload_n 2, 1) := by decide +kernel
theorem dX0_differentMoments_52 : decode cX0_differentMoments 52 = .ok (.invokevirtual 35, 3) := by decide +kernel
theorem dX0_differentMoments_55 : decode cX0_differentMoments 55 = .ok (.iinc 4 1, 3) := by decide +kernel
theorem dX0_differentMoments_58 : decode cX0_differentMoments 58 = .ok (.goto (-21), 3) := by decide +kernel
theorem dX0_differentMoments_61 : decode cX0_differentMoments 61 = .ok (.iinc 3 1, 3) := by decide +kernel
theorem dX0_differentMoments_64 : decode cX0_differentMoments 64 = .ok (.goto (-38), 3) := by decide +kernel
theorem dX0_differentMoments_67 : decode cX0_differentMoments 67 = .ok (.iconst 0, 1) := by decide +kernel
theorem dX0_differentMoments_68 : decode cX0_differentMoments 68 = .ok (.istore_n 3, 1) := by decide +kernel
theorem dX0_differentMoments_69 : decode cX0_differentMoments 69 = .ok (.iconst 0, 1) := by decide +kernel
theorem dX0_differentMoments_70 : decode cX0_differentMoments 70 = .ok (.istore 4, 2) := by decide +kernel
theorem dX0_differentMoments_72 : decode cX0_differentMoments 72 = .ok (.iload 4, 2) := by decide +kernel
theorem dX0_differentMoments_74 : decode cX0_differentMoments 74 = .ok (.aload_n 0, 1) := by decide +kernel
theorem dX0_differentMoments_75 : decode cX0_differentMoments 75 = .ok (.getfield 9, 3) := by decide +kernel
theorem dX0_differentMoments_78 : decode cX0_differentMoments 78 = .ok (.arraylength, 1) := by decide +kernel
theorem dX0_differentMoments_79 : decode cX0_differentMoments 79 = .ok (.if_icmp .ge 22, 3) := by decide +kernel
theorem dX0_differentMoments_82 : decode cX0_differentMoments 82 = .ok (.iload_n 3, 1) := by decide +kernel
theorem dX0_differentMoments_83 : decode cX0_differentMoments 83 = .ok (.aload_n 0, 1) := by decide +kernel
theorem dX0_differentMoments_84 : decode cX0_differentMoments 84 = .ok (.getfield 9, 3) := by decide +kernel
theorem dX0_differentMoments_87 : decode cX0_differentMoments 87 = .ok (.iload 4, 2) := by decide +kernel
theorem dX0_differentMoments_89 : decode cX0_differentMoments 89 = .ok (.laload, 1) := by decide +kernel
theorem dX0_differentMoments_90 : decode cX0_differentMoments 90 = .ok (.invokestatic 39, 3) := by decide +kernel
theorem dX0_differentMoments_93 : decode cX0_differentMoments 93 = .ok (.iadd, 1) := by decide +kernel
theorem dX0_differentMoments_94 : decode cX0_differentMoments 94 = .ok (.istore_n 3, 1) := by decide +kernel
theorem dX0_differentMoments_95 : decode cX0_differentMoments 95 = .ok (.iinc 4 1, 3) := by decide +kernel
theorem dX0_differentMoments_98 : decode cX0_differentMoments 98 = .ok (.goto (-26), 3) := by decide +kernel
theorem dX0_differentMoments_101 : decode cX0_differentMoments 101 = .ok (.iload_n 3, 1) := by decide +kernel
theorem dX0_differentMoments_102 : decode cX0_differentMoments 102 = .ok (.ireturn, 1) := by decide +kernel
set_option maxRecDepth 20000 in
theorem ggX0_findFirst_X3_freeBetween : GoodIn wsX0_findFirst wsX3_freeBetween := goodIn_r _ [10, 11, 12, 13, 14, 15, 9, 16, 17, 18, 37, 38, 39, 40, 41, 42, 43, 44, 45] (by decide +kernel) (by decide +kernel)
set_option maxRecDepth 20000 in
theorem gX0_findFirst_X3_freeBetween : GoodIn wsX0_findFirst (wsV RX0 54 RX3 yX3_freeBetween wsX3_freeBetween) := goodIn_app (goodIn_of _ (by decide +kernel)) ggX0_findFirst_X3_freeBetween
set_option maxRecDepth 20000 in
theorem ggX0_findFirst_X0_takeIfFirst : GoodIn wsX0_findFirst wsX0_takeIfFirst := goodIn_r _ [23, 2, 1, 3, 24, 25, 26, 27, 31, 32, 33, 34, 35, 36] (by decide +kernel) (by decide +kernel)
set_option maxRecDepth 20000 in
theorem gX0_findFirst_X0_takeIfFirst : GoodIn wsX0_findFirst (wsV RX0 58 RX0 yX0_takeIfFirst wsX0_takeIfFirst) := goodIn_app (goodIn_of _ (by decide +kernel)) ggX0_findFirst_X0_takeIfFirst
set_option maxRecDepth 20000 in
theorem ggX0_findFirst_X0_commonDivisor : GoodIn wsX0_findFirst wsX0_commonDivisor := goodIn_r _ [30] (by decide +kernel) (by decide +kernel)
set_option maxRecDepth 20000 in
theorem gX0_findFirst_X0_commonDivisor : GoodIn wsX0_findFirst (va_wsS RX0 62 yX0_commonDivisor wsX0_commonDivisor) := goodIn_app (goodIn_of _ (by decide +kernel)) ggX0_findFirst_X0_commonDivisor
theorem dX0_findFirst_0 : decode cX0_findFirst 0 = .ok (.aload_n 0, 1) := by decide +kernel
theorem dX0_findFirst_1 : decode cX0_findFirst 1 = .ok (.iconst 0, 1) := by decide +kernel
theorem dX0_findFirst_2 : decode cX0_findFirst 2 = .ok (.putfield 45, 3) := by decide +kernel
theorem dX0_findFirst_5 : decode cX0_findFirst 5 = .ok (.aload_n 0, 1) := by decide +kernel
theorem dX0_findFirst_6 : decode cX0_findFirst 6 = .ok (.iconst 1, 1) := by decide +kernel
theorem dX0_findFirst_7 : decode cX0_findFirst 7 = .ok (.putfield 48, 3) := by decide +kernel
theorem dX0_findFirst_10 : decode cX0_findFirst 10 = .ok (.aload_n 0, 1) := by decide +kernel
theorem dX0_findFirst_11 : decode cX0_findFirst 11 = .ok (.iconst 0, 1) := by decide +kernel
theorem dX0_findFirst_12 : decode cX0_findFirst 12 = .ok (.putfield 51, 3) := by decide +kernel
theorem dX0_findFirst_15 : decode cX0_findFirst 15 = .ok (.iconst 0, 1) := by decide +kernel
theorem dX0_findFirst_16 : decode cX0_findFirst 16 = .ok (.istore_n 2, 1) := by decide +kernel
theorem dX0_findFirst_17 : decode cX0_findFirst 17 = .ok (.iload_n 2, 1) := by decide +kernel
theorem dX0_findFirst_18 : decode cX0_findFirst 18 = .ok (.aload_n 1, 1) := by decide +kernel
theorem dX0_findFirst_19 : decode cX0_findFirst 19 = .ok (.getfield 22, 3) := by decide +kernel
theorem dX0_findFirst_22 : decode cX0_findFirst 22 = .ok (.if_icmp .ge 57, 3) := by decide +kernel
theorem dX0_findFirst_25 : decode cX0_findFirst 25 = .ok (.iconst 0, 1) := by decide +kernel
theorem dX0_findFirst_26 : decode cX0_findFirst 26 = .ok (.istore_n 3, 1) := by decide +kernel
theorem dX0_findFirst_27 : decode cX0_findFirst 27 = .ok (.iload_n 3, 1) := by decide +kernel
theorem dX0_findFirst_28 : decode cX0_findFirst 28 = .ok (.aload_n 1, 1) := by decide +kernel
theorem dX0_findFirst_29 : decode cX0_findFirst 29 = .ok (.getfield 22, 3) := by decide +kernel
theorem dX0_findFirst_32 : decode cX0_findFirst 32 = .ok (.if_icmp .ge 41, 3) := by decide +kernel
theorem dX0_findFirst_35 : decode cX0_findFirst 35 = .ok (.aload_n 1, 1) := by decide +kernel
theorem dX0_findFirst_36 : decode cX0_findFirst 36 = .ok (.getfield 31, 3) := by decide +kernel
theorem dX0_findFirst_39 : decode cX0_findFirst 39 = .ok (.iload_n 2, 1) := by decide +kernel
theorem dX0_findFirst_40 : decode cX0_findFirst 40 = .ok (.iaload, 1) := by decide +kernel
theorem dX0_findFirst_41 : decode cX0_findFirst 41 = .ok (.aload_n 1, 1) := by decide +kernel
theorem dX0_findFirst_42 : decode cX0_findFirst 42 = .ok (.getfield 31, 3) := by decide +kernel
theorem dX0_findFirst_45 : decode cX0_findFirst 45 = .ok (.iload_n 3, 1) := by decide +kernel
theorem dX0_findFirst_46 : decode cX0_findFirst 46 = .ok (.iaload, 1) := by decide +kernel
theorem dX0_findFirst_47 : decode cX0_findFirst 47 = .ok (.isub, 1) := by decide +kernel
theorem dX0_findFirst_48 : decode cX0_findFirst 48 = .ok (.istore 4, 2) := by decide +kernel
theorem dX0_findFirst_50 : decode cX0_findFirst 50 = .ok (.iload 4, 2) := by decide +kernel
theorem dX0_findFirst_52 : decode cX0_findFirst 52 = .ok (.ifCond .le 15, 3) := by decide +kernel
theorem dX0_findFirst_55 : decode cX0_findFirst 55 = .ok (.aload_n 0, 1) := by decide +kernel
theorem dX0_findFirst_56 : decode cX0_findFirst 56 = .ok (.aload_n 1, 1) := by decide +kernel
theorem dX0_findFirst_57 : decode cX0_findFirst 57 = .ok (.iload_n 2, 1) := by decide +kernel
theorem dX0_findFirst_58 : decode cX0_findFirst 58 = .ok (.iload_n 3, 1) := by decide +kernel
theorem dX0_findFirst_59 : decode cX0_findFirst 59 = .ok (.invokevirtual 54, 3) := by decide +kernel
theorem dX0_findFirst_62 : decode cX0_findFirst 62 = .ok (.iload 4, 2) := by decide +kernel
theorem dX0_findFirst_64 : decode cX0_findFirst 64 = .ok (.invokevirtual 58, 3) := by decide +kernel
theorem dX0_findFirst_67 : decode cX0_findFirst 67 = .ok (.iinc 3 1, 3) := by decide +kernel
theorem dX0_findFirst_70 : decode cX0_findFirst 70 = .ok (.goto (-43), 3) := by decide +kernel
theorem dX0_findFirst_73 : decode cX0_findFirst 73 = .ok (.iinc 2 1, 3) := by decide +kernel
theorem dX0_findFirst_76 : decode cX0_findFirst 76 = .ok (.goto (-59), 3) := by decide +kernel
theorem dX0_findFirst_79 : decode cX0_findFirst 79 = .ok (.aload_n 0, 1) := by decide +kernel
theorem dX0_findFirst_80 : decode cX0_findFirst 80 = .ok (.getfield 45, 3) := by decide +kernel
theorem dX0_findFirst_83 : decode cX0_findFirst 83 = .ok (.aload_n 0, 1) := by decide +kernel
theorem dX0_findFirst_84 : decode cX0_findFirst 84 = .ok (.getfield 48, 3) := by decide +kernel
theorem dX0_findFirst_87 : decode cX0_findFirst 87 = .ok (.invokestatic 62, 3) := by decide +kernel
theorem dX0_findFirst_90 : decode cX0_findFirst 90 = .ok (.istore_n 2, 1) := by decide +kernel
theorem dX0_findFirst_91 : decode cX0_findFirst 91 = .ok (.iload_n 2, 1) := by decide +kernel
theorem dX0_findFirst_92 : decode cX0_findFirst 92 = .ok (.ifCond .le 23, 3) := by decide +kernel
theorem dX0_findFirst_95 : decode cX0_findFirst 95 = .ok (.aload_n 0, 1) := by decide +kernel
theorem dX0_findFirst_96 : decode cX0_findFirst 96 = .ok (.dup, 1) := by decide +kernel
theorem dX0_findFirst_97 : decode cX0_findFirst 97 = .ok (.getfield 45, 3) := by decide +kernel
theorem dX0_findFirst_100 : decode cX0_findFirst 100 = .ok (.iload_n 2, 1) := by decide +kernel
theorem dX0_findFirst_101 : decode cX0_findFirst 101 = .ok (.idiv, 1) := by decide +kernel
theorem dX0_findFirst_102 : decode cX0_findFirst 102 = .ok (.putfield 45, 3) := by decide +kernel
theorem dX0_findFirst_105 : decode cX0_findFirst 105 = .ok (.aload_n 0, 1) := by decide +kernel
theorem dX0_findFirst_106 : decode cX0_findFirst 106 = .ok (.dup, 1) := by decide +kernel
theorem dX0_findFirst_107 : decode cX0_findFirst 107 = .ok (.getfield 48, 3) := by decide +kernel
theorem dX0_findFirst_110 : decode cX0_findFirst 110 = .ok (.iload_n 2, 1) := by decide +kernel
theorem dX0_findFirst_111 : decode cX0_findFirst 111 = .ok (.idiv, 1) := by decide +kernel
theorem dX0_findFirst_112 : decode cX0_findFirst 112 = .ok (.putfield 48, 3) := by decide +kernel
theorem dX0_findFirst_115 : decode cX0_findFirst 115 = .ok (.return_, 1) := by decide +kernel
set_option maxRecDepth 20000 in
theorem ggX0_takeIfFirst_J6_compare_7cf53 : GoodIn wsX0_takeIfFirst wsJ6_compare_7cf53 := goodIn_r _ [7] (by decide +kernel) (by decide +kernel)
set_option maxRecDepth 20000 in
theorem gX0_takeIfFirst_J6_compare_7cf53 : GoodIn wsX0_takeIfFirst (va_wsS RX0 65 yJ6_compare_7cf53 wsJ6_compare_7cf53) := goodIn_app (goodIn_of _ (by decide +kernel)) ggX0_takeIfFirst_J6_compare_7cf53
theorem dX0_takeIfFirst_0 : decode cX0_takeIfFirst 0 = .ok (.iload_n 1, 1) := by decide +kernel
theorem dX0_takeIfFirst_1 : decode cX0_takeIfFirst 1 = .ok (.aload_n 0, 1) := by decide +kernel
theorem dX0_takeIfFirst_2 : decode cX0_takeIfFirst 2 = .ok (.getfield 48, 3) := by decide +kernel
theorem dX0_takeIfFirst_5 : decode cX0_takeIfFirst 5 = .ok (.imul, 1) := by decide +kernel
theorem dX0_takeIfFirst_6 : decode cX0_takeIfFirst 6 = .ok (.aload_n 0, 1) := by decide +kernel
theorem dX0_takeIfFirst_7 : decode cX0_takeIfFirst 7 = .ok (.getfield 45, 3) := by decide +kernel
theorem dX0_takeIfFirst_10 : decode cX0_takeIfFirst 10 = .ok (.iload_n 2, 1) := by decide +kernel
theorem dX0_takeIfFirst_11 : decode cX0_takeIfFirst 11 = .ok (.imul, 1) := by decide +kernel
theorem dX0_takeIfFirst_12 : decode cX0_takeIfFirst 12 = .ok (.invokestatic 65, 3) := by decide +kernel
theorem dX0_takeIfFirst_15 : decode cX0_takeIfFirst 15 = .ok (.istore_n 3, 1) := by decide +kernel
theorem dX0_takeIfFirst_16 : decode cX0_takeIfFirst 16 = .ok (.aload_n 0, 1) := by decide +kernel
theorem dX0_takeIfFirst_17 : decode cX0_takeIfFirst 17 = .ok (.getfield 51, 3) := by decide +kernel
theorem dX0_takeIfFirst_20 : decode cX0_takeIfFirst 20 = .ok (.ifCond .eq 7, 3) := by decide +kernel
theorem dX0_takeIfFirst_23 : decode cX0_takeIfFirst 23 = .ok (.iload_n 3, 1) := by decide +kernel
theorem dX0_takeIfFirst_24 : decode cX0_takeIfFirst 24 = .ok (.ifCond .ge 21, 3) := by decide +kernel
theorem dX0_takeIfFirst_27 : decode cX0_takeIfFirst 27 = .ok (.aload_n 0, 1) := by decide +kernel
theorem dX0_takeIfFirst_28 : decode cX0_takeIfFirst 28 = .ok (.iload_n 1, 1) := by decide +kernel
theorem dX0_takeIfFirst_29 : decode cX0_takeIfFirst 29 = .ok (.putfield 45, 3) := by decide +kernel
theorem dX0_takeIfFirst_32 : decode cX0_takeIfFirst 32 = .ok (.aload_n 0, 1) := by decide +kernel
theorem dX0_takeIfFirst_33 : decode cX0_takeIfFirst 33 = .ok (.iload_n 2, 1) := by decide +kernel
theorem dX0_takeIfFirst_34 : decode cX0_takeIfFirst 34 = .ok (.putfield 48, 3) := by decide +kernel
theorem dX0_takeIfFirst_37 : decode cX0_takeIfFirst 37 = .ok (.aload_n 0, 1) := by decide +kernel
theorem dX0_takeIfFirst_38 : decode cX0_takeIfFirst 38 = .ok (.iconst 1, 1) := by decide +kernel
theorem dX0_takeIfFirst_39 : decode cX0_takeIfFirst 39 = .ok (.putfield 51, 3) := by decide +kernel
theorem dX0_takeIfFirst_42 : decode cX0_takeIfFirst 42 = .ok (.goto 17, 3) := by decide +kernel
theorem dX0_takeIfFirst_45 : decode cX0_takeIfFirst 45 = .ok (.iload_n 3, 1) := by decide +kernel
theorem dX0_takeIfFirst_46 : decode cX0_takeIfFirst 46 = .ok (.ifCond .ne 13, 3) := by decide +kernel
theorem dX0_takeIfFirst_49 : decode cX0_takeIfFirst 49 = .ok (.aload_n 0, 1) := by decide +kernel
theorem dX0_takeIfFirst_50 : decode cX0_takeIfFirst 50 = .ok (.dup, 1) := by decide +kernel
theorem dX0_takeIfFirst_51 : decode cX0_takeIfFirst 51 = .ok (.getfield 51, 3) := by decide +kernel
theorem dX0_takeIfFirst_54 : decode cX0_takeIfFirst 54 = .ok (.iconst 1, 1) := by decide +kernel
theorem dX0_takeIfFirst_55 : decode cX0_takeIfFirst 55 = .ok (.iadd, 1) := by decide +kernel
theorem dX0_takeIfFirst_56 : decode cX0_takeIfFirst 56 = .ok (.putfield 51, 3) := by decide +kernel
theorem dX0_takeIfFirst_59 : decode cX0_takeIfFirst 59 = .ok (.return_, 1) := by decide +kernel
set_option maxRecDepth 20000 in
theorem ggX0_crossingsOf_X3_freeLength : GoodIn wsX0_crossingsOf wsX3_freeLength := goodIn_r _ [6, 7, 8, 9, 19, 20, 21, 22, 23, 24, 25, 26, 27] (by decide +kernel) (by decide +kernel)
set_option maxRecDepth 20000 in
theorem gX0_crossingsOf_X3_freeLength : GoodIn wsX0_crossingsOf (wsV RX0 70 RX3 yX3_freeLength wsX3_freeLength) := goodIn_app (goodIn_of _ (by decide +kernel)) ggX0_crossingsOf_X3_freeLength
set_option maxRecDepth 20000 in
theorem ggX0_crossingsOf_X3_freeBetween : GoodIn wsX0_crossingsOf wsX3_freeBetween := goodIn_r _ [13, 8, 9, 14, 15, 16, 5, 17, 18, 7, 19, 20, 21, 22, 23, 24, 25, 26, 27] (by decide +kernel) (by decide +kernel)
set_option maxRecDepth 20000 in
theorem gX0_crossingsOf_X3_freeBetween : GoodIn wsX0_crossingsOf (wsV RX0 54 RX3 yX3_freeBetween wsX3_freeBetween) := goodIn_app (goodIn_of _ (by decide +kernel)) ggX0_crossingsOf_X3_freeBetween
theorem dX0_crossingsOf_0 : decode cX0_crossingsOf 0 = .ok (.aload_n 0, 1) := by decide +kernel
theorem dX0_crossingsOf_1 : decode cX0_crossingsOf 1 = .ok (.getfield 31, 3) := by decide +kernel
theorem dX0_crossingsOf_4 : decode cX0_crossingsOf 4 = .ok (.iload_n 1, 1) := by decide +kernel
theorem dX0_crossingsOf_5 : decode cX0_crossingsOf 5 = .ok (.iaload, 1) := by decide +kernel
theorem dX0_crossingsOf_6 : decode cX0_crossingsOf 6 = .ok (.aload_n 0, 1) := by decide +kernel
theorem dX0_crossingsOf_7 : decode cX0_crossingsOf 7 = .ok (.getfield 31, 3) := by decide +kernel
theorem dX0_crossingsOf_10 : decode cX0_crossingsOf 10 = .ok (.iload_n 2, 1) := by decide +kernel
theorem dX0_crossingsOf_11 : decode cX0_crossingsOf 11 = .ok (.iaload, 1) := by decide +kernel
theorem dX0_crossingsOf_12 : decode cX0_crossingsOf 12 = .ok (.isub, 1) := by decide +kernel
theorem dX0_crossingsOf_13 : decode cX0_crossingsOf 13 = .ok (.istore 4, 2) := by decide +kernel
theorem dX0_crossingsOf_15 : decode cX0_crossingsOf 15 = .ok (.aload_n 0, 1) := by decide +kernel
theorem dX0_crossingsOf_16 : decode cX0_crossingsOf 16 = .ok (.invokevirtual 70, 3) := by decide +kernel
theorem dX0_crossingsOf_19 : decode cX0_crossingsOf 19 = .ok (.istore 5, 2) := by decide +kernel
theorem dX0_crossingsOf_21 : decode cX0_crossingsOf 21 = .ok (.iload 4, 2) := by decide +kernel
theorem dX0_crossingsOf_23 : decode cX0_crossingsOf 23 = .ok (.ifCond .le 9, 3) := by decide +kernel
theorem dX0_crossingsOf_26 : decode cX0_crossingsOf 26 = .ok (.iload 5, 2) := by decide +kernel
theorem dX0_crossingsOf_28 : decode cX0_crossingsOf 28 = .ok (.iconst 1, 1) := by decide +kernel
theorem dX0_crossingsOf_29 : decode cX0_crossingsOf 29 = .ok (.if_icmp .ge 5, 3) := by decide +kernel
theorem dX0_crossingsOf_32 : decode cX0_crossingsOf 32 = .ok (.iconst 0, 1) := by decide +kernel
theorem dX0_crossingsOf_33 : decode cX0_crossingsOf 33 = .ok (.ireturn, 1) := by decide +kernel
theorem dX0_crossingsOf_34 : decode cX0_crossingsOf 34 = .ok (.iload 4, 2) := by decide +kernel
theorem dX0_crossingsOf_36 : decode cX0_crossingsOf 36 = .ok (.iload_n 3, 1) := by decide +kernel
theorem dX0_crossingsOf_37 : decode cX0_crossingsOf 37 = .ok (.imul, 1) := by decide +kernel
theorem dX0_crossingsOf_38 : decode cX0_crossingsOf 38 = .ok (.aload_n 0, 1) := by decide +kernel
theorem dX0_crossingsOf_39 : decode cX0_crossingsOf 39 = .ok (.iload_n 1, 1) := by decide +kernel
theorem dX0_crossingsOf_40 : decode cX0_crossingsOf 40 = .ok (.iload_n 2, 1) := by decide +kernel
theorem dX0_crossingsOf_41 : decode cX0_crossingsOf 41 = .ok (.invokevirtual 54, 3) := by decide +kernel
theorem dX0_crossingsOf_44 : decode cX0_crossingsOf 44 = .ok (.isub, 1) := by decide +kernel
theorem dX0_crossingsOf_45 : decode cX0_crossingsOf 45 = .ok (.istore 6, 2) := by decide +kernel
theorem dX0_crossingsOf_47 : decode cX0_crossingsOf 47 = .ok (.iload 6, 2) := by decide +kernel
theorem dX0_crossingsOf_49 : decode cX0_crossingsOf 49 = .ok (.ifCond .ge 7, 3) := by decide +kernel
theorem dX0_crossingsOf_52 : decode cX0_crossingsOf 52 = .ok (.iconst 0, 1) := by decide +kernel
theorem dX0_crossingsOf_53 : decode cX0_crossingsOf 53 = .ok (.goto 10, 3) := by decide +kernel
theorem dX0_crossingsOf_56 : decode cX0_crossingsOf 56 = .ok (.iload 6, 2) := by decide +kernel
theorem dX0_crossingsOf_58 : decode cX0_crossingsOf 58 = .ok (.iload 5, 2) := by decide +kernel
theorem dX0_crossingsOf_60 : decode cX0_crossingsOf 60 = .ok (.idiv, 1) := by decide +kernel
theorem dX0_crossingsOf_61 : decode cX0_crossingsOf 61 = .ok (.iconst 1, 1) := by decide +kernel
theorem dX0_crossingsOf_62 : decode cX0_crossingsOf 62 = .ok (.iadd, 1) := by decide +kernel
theorem dX0_crossingsOf_63 : decode cX0_crossingsOf 63 = .ok (.ireturn, 1) := by decide +kernel
set_option maxRecDepth 20000 in
theorem ggX0_markMoments_X0_crossingsOf : GoodIn wsX0_markMoments wsX0_crossingsOf := goodIn_r _ [5, 1, 6, 7, 8, 9, 10, 11, 12, 13, 14, 15, 16, 17, 18, 19, 20, 21, 22, 31, 32, 33, 34, 35, 36, 37, 38, 39] (by decide +kernel) (by decide +kernel)
set_option maxRecDepth 20000 in
theorem gX0_markMoments_X0_crossingsOf : GoodIn wsX0_markMoments (va_wsS RX0 27 yX0_crossingsOf wsX0_crossingsOf) := goodIn_app (goodIn_of _ (by decide +kernel)) ggX0_markMoments_X0_crossingsOf
set_option maxRecDepth 20000 in
theorem ggX0_markMoments_X3_freeBetween : GoodIn wsX0_markMoments wsX3_freeBetween := goodIn_r _ [17, 12, 13, 18, 19, 20, 9, 21, 22, 11, 31, 32, 33, 34, 35, 36, 37, 38, 39] (by decide +kernel) (by decide +kernel)
set_option maxRecDepth 20000 in
theorem gX0_markMoments_X3_freeBetween : GoodIn wsX0_markMoments (wsV RX0 54 RX3 yX3_freeBetween wsX3_freeBetween) := goodIn_app (goodIn_of _ (by decide +kernel)) ggX0_markMoments_X3_freeBetween
set_option maxRecDepth 20000 in
theorem ggX0_markMoments_X3_freeLength : GoodIn wsX0_markMoments wsX3_freeLength := goodIn_r _ [10, 11, 12, 13, 31, 32, 33, 34, 35, 36, 37, 38, 39] (by decide +kernel) (by decide +kernel)
set_option maxRecDepth 20000 in
theorem gX0_markMoments_X3_freeLength : GoodIn wsX0_markMoments (wsV RX0 70 RX3 yX3_freeLength wsX3_freeLength) := goodIn_app (goodIn_of _ (by decide +kernel)) ggX0_markMoments_X3_freeLength
set_option maxRecDepth 20000 in
theorem ggX0_markMoments_X0_mark : GoodIn wsX0_markMoments wsX0_mark := goodIn_r _ [26, 27, 28, 29, 4, 30, 40, 41, 42, 43, 44, 45] (by decide +kernel) (by decide +kernel)
set_option maxRecDepth 20000 in
theorem gX0_markMoments_X0_mark : GoodIn wsX0_markMoments (wsV RX0 74 RX0 yX0_mark wsX0_mark) := goodIn_app (goodIn_of _ (by decide +kernel)) ggX0_markMoments_X0_mark
theorem dX0_markMoments_0 : decode cX0_markMoments 0 = .ok (.aload_n 1, 1) := by decide +kernel
theorem dX0_markMoments_1 : decode cX0_markMoments 1 = .ok (.getfield 31, 3) := by decide +kernel
theorem dX0_markMoments_4 : decode cX0_markMoments 4 = .ok (.iload_n 2, 1) := by decide +kernel
theorem dX0_markMoments_5 : decode cX0_markMoments 5 = .ok (.iaload, 1) := by decide +kernel
theorem dX0_markMoments_6 : decode cX0_markMoments 6 = .ok (.aload_n 1, 1) := by decide +kernel
theorem dX0_markMoments_7 : decode cX0_markMoments 7 = .ok (.getfield 31, 3) := by decide +kernel
theorem dX0_markMoments_10 : decode cX0_markMoments 10 = .ok (.iload_n 3, 1) := by decide +kernel
theorem dX0_markMoments_11 : decode cX0_markMoments 11 = .ok (.iaload, 1) := by decide +kernel
theorem dX0_markMoments_12 : decode cX0_markMoments 12 = .ok (.isub, 1) := by decide +kernel
theorem dX0_markMoments_13 : decode cX0_markMoments 13 = .ok (.istore 5, 2) := by decide +kernel
theorem dX0_markMoments_15 : decode cX0_markMoments 15 = .ok (.aload_n 1, 1) := by decide +kernel
theorem dX0_markMoments_16 : decode cX0_markMoments 16 = .ok (.iload_n 2, 1) := by decide +kernel
theorem dX0_markMoments_17 : decode cX0_markMoments 17 = .ok (.iload_n 3, 1) := by decide +kernel
theorem dX0_markMoments_18 : decode cX0_markMoments 18 = .ok (.iload 4, 2) := by decide +kernel
theorem dX0_markMoments_20 : decode cX0_markMoments 20 = .ok (.invokestatic 27, 3) := by decide +kernel
theorem dX0_markMoments_23 : decode cX0_markMoments 23 = .ok (.istore 6, 2) := by decide +kernel
theorem dX0_markMoments_25 : decode cX0_markMoments 25 = .ok (.aload_n 1, 1) := by decide +kernel
theorem dX0_markMoments_26 : decode cX0_markMoments 26 = .ok (.iload_n 2, 1) := by decide +kernel
theorem dX0_markMoments_27 : decode cX0_markMoments 27 = .ok (.iload_n 3, 1) := by decide +kernel
theorem dX0_markMoments_28 : decode cX0_markMoments 28 = .ok (.invokevirtual 54, 3) := by decide +kernel
theorem dX0_markMoments_31 : decode cX0_markMoments 31 = .ok (.istore 7, 2) := by decide +kernel
theorem dX0_markMoments_33 : decode cX0_markMoments 33 = .ok (.aload_n 1, 1) := by decide +kernel
theorem dX0_markMoments_34 : decode cX0_markMoments 34 = .ok (.invokevirtual 70, 3) := by decide +kernel
theorem dX0_markMoments_37 : decode cX0_markMoments 37 = .ok (.istore 8, 2) := by decide +kernel
theorem dX0_markMoments_39 : decode cX0_markMoments 39 = .ok (.iconst 0, 1) := by decide +kernel
theorem dX0_markMoments_40 : decode cX0_markMoments 40 = .ok (.istore 9, 2) := by decide +kernel
theorem dX0_markMoments_42 : decode cX0_markMoments 42 = .ok (.iload 9, 2) := by decide +kernel
theorem dX0_markMoments_44 : decode cX0_markMoments 44 = .ok (.iload 6, 2) := by decide +kernel
theorem dX0_markMoments_46 : decode cX0_markMoments 46 = .ok (.if_icmp .ge 24, 3) := by decide +kernel
theorem dX0_markMoments_49 : decode cX0_markMoments 49 = .ok (.aload_n 0, 1) := by decide +kernel
theorem dX0_markMoments_50 : decode cX0_markMoments 50 = .ok (.iload 7, 2) := by decide +kernel
theorem dX0_markMoments_52 : decode cX0_markMoments 52 = .ok (.iload 5, 2) := by decide +kernel
theorem dX0_markMoments_54 : decode cX0_markMoments 54 = .ok (.invokevirtual 74, 3) := by decide +kernel
theorem dX0_markMoments_57 : decode cX0_markMoments 57 = .ok (.iload 7, 2) := by decide +kernel
theorem dX0_markMoments_59 : decode cX0_markMoments 59 = .ok (.iload 8, 2) := by decide +kernel
theorem dX0_markMoments_61 : decode cX0_markMoments 61 = .ok (.iadd, 1) := by decide +kernel
theorem dX0_markMoments_62 : decode cX0_markMoments 62 = .ok (.istore 7, 2) := by decide +kernel
theorem dX0_markMoments_64 : decode cX0_markMoments 64 = .ok (.iinc 9 1, 3) := by decide +kernel
theorem dX0_markMoments_67 : decode cX0_markMoments 67 = .ok (.goto (-25), 3) := by decide +kernel
theorem dX0_markMoments_70 : decode cX0_markMoments 70 = .ok (.return_, 1) := by decide +kernel
set_option maxRecDepth 20000 in
theorem ggX0_mark_X0_commonDivisor : GoodIn wsX0_mark wsX0_commonDivisor := goodIn_r _ [5] (by decide +kernel) (by decide +kernel)
set_option maxRecDepth 20000 in
theorem gX0_mark_X0_commonDivisor : GoodIn wsX0_mark (va_wsS RX0 62 yX0_commonDivisor wsX0_commonDivisor) := goodIn_app (goodIn_of _ (by decide +kernel)) ggX0_mark_X0_commonDivisor
theorem dX0_mark_0 : decode cX0_mark 0 = .ok (.iload_n 1, 1) := by decide +kernel
theorem dX0_mark_1 : decode cX0_mark 1 = .ok (.iload_n 2, 1) := by decide +kernel
theorem dX0_mark_2 : decode cX0_mark 2 = .ok (.invokestatic 62, 3) := by decide +kernel
theorem dX0_mark_5 : decode cX0_mark 5 = .ok (.istore_n 3, 1) := by decide +kernel
theorem dX0_mark_6 : decode cX0_mark 6 = .ok (.iload_n 3, 1) := by decide +kernel
theorem dX0_mark_7 : decode cX0_mark 7 = .ok (.iconst 1, 1) := by decide +kernel
theorem dX0_mark_8 : decode cX0_mark 8 = .ok (.if_icmp .ge 4, 3) := by decide +kernel
theorem dX0_mark_11 : decode cX0_mark 11 = .ok (.return_, 1) := by decide +kernel
theorem dX0_mark_12 : decode cX0_mark 12 = .ok (.iload_n 2, 1) := by decide +kernel
theorem dX0_mark_13 : decode cX0_mark 13 = .ok (.iload_n 3, 1) := by decide +kernel
theorem dX0_mark_14 : decode cX0_mark 14 = .ok (.idiv, 1) := by decide +kernel
theorem dX0_mark_15 : decode cX0_mark 15 = .ok (.istore 4, 2) := by decide +kernel
theorem dX0_mark_17 : decode cX0_mark 17 = .ok (.iload 4, 2) := by decide +kernel
theorem dX0_mark_19 : decode cX0_mark 19 = .ok (.ifCond .lt 28, 3) := by decide +kernel
theorem dX0_mark_22 : decode cX0_mark 22 = .ok (.iload 4, 2) := by decide +kernel
theorem dX0_mark_24 : decode cX0_mark 24 = .ok (.aload_n 0, 1) := by decide +kernel
theorem dX0_mark_25 : decode cX0_mark 25 = .ok (.getfield 9, 3) := by decide +kernel
theorem dX0_mark_28 : decode cX0_mark 28 = .ok (.arraylength, 1) := by decide +kernel
theorem dX0_mark_29 : decode cX0_mark 29 = .ok (.if_icmp .ge 18, 3) := by decide +kernel
theorem dX0_mark_32 : decode cX0_mark 32 = .ok (.aload_n 0, 1) := by decide +kernel
theorem dX0_mark_33 : decode cX0_mark 33 = .ok (.getfield 9, 3) := by decide +kernel
theorem dX0_mark_36 : decode cX0_mark 36 = .ok (.iload 4, 2) := by decide +kernel
theorem dX0_mark_38 : decode cX0_mark 38 = .ok (.dup2, 1) := by decide +kernel
theorem dX0_mark_39 : decode cX0_mark 39 = .ok (.laload, 1) := by decide +kernel
theorem dX0_mark_40 : decode cX0_mark 40 = .ok (.lconst 1, 1) := by decide +kernel
theorem dX0_mark_41 : decode cX0_mark 41 = .ok (.iload_n 1, 1) := by decide +kernel
theorem dX0_mark_42 : decode cX0_mark 42 = .ok (.iload_n 3, 1) := by decide +kernel
theorem dX0_mark_43 : decode cX0_mark 43 = .ok (.idiv, 1) := by decide +kernel
theorem dX0_mark_44 : decode cX0_mark 44 = .ok (.lshl, 1) := by decide +kernel
theorem dX0_mark_45 : decode cX0_mark 45 = .ok (.lor, 1) := by decide +kernel
theorem dX0_mark_46 : decode cX0_mark 46 = .ok (.lastore, 1) := by decide +kernel
theorem dX0_mark_47 : decode cX0_mark 47 = .ok (.return_, 1) := by decide +kernel
theorem dX0_commonDivisor_0 : decode cX0_commonDivisor 0 = .ok (.iload_n 0, 1) := by decide +kernel
theorem dX0_commonDivisor_1 : decode cX0_commonDivisor 1 = .ok (.istore_n 2, 1) := by decide +kernel
theorem dX0_commonDivisor_2 : decode cX0_commonDivisor 2 = .ok (.iload_n 1, 1) := by decide +kernel
theorem dX0_commonDivisor_3 : decode cX0_commonDivisor 3 = .ok (.istore_n 3, 1) := by decide +kernel
theorem dX0_commonDivisor_4 : decode cX0_commonDivisor 4 = .ok (.iconst 0, 1) := by decide +kernel
theorem dX0_commonDivisor_5 : decode cX0_commonDivisor 5 = .ok (.istore 4, 2) := by decide +kernel
theorem dX0_commonDivisor_7 : decode cX0_commonDivisor 7 = .ok (.iload 4, 2) := by decide +kernel
theorem dX0_commonDivisor_9 : decode cX0_commonDivisor 9 = .ok (.bipush 100, 2) := by decide +kernel
theorem dX0_commonDivisor_11 : decode cX0_commonDivisor 11 = .ok (.if_icmp .ge 23, 3) := by decide +kernel
theorem dX0_commonDivisor_14 : decode cX0_commonDivisor 14 = .ok (.iload_n 3, 1) := by decide +kernel
theorem dX0_commonDivisor_15 : decode cX0_commonDivisor 15 = .ok (.ifCond .eq 19, 3) := by decide +kernel
theorem dX0_commonDivisor_18 : decode cX0_commonDivisor 18 = .ok (.iload_n 2, 1) := by decide +kernel
theorem dX0_commonDivisor_19 : decode cX0_commonDivisor 19 = .ok (.iload_n 3, 1) := by decide +kernel
theorem dX0_commonDivisor_20 : decode cX0_commonDivisor 20 = .ok (.irem, 1) := by decide +kernel
theorem dX0_commonDivisor_21 : decode cX0_commonDivisor 21 = .ok (.istore 5, 2) := by decide +kernel
theorem dX0_commonDivisor_23 : decode cX0_commonDivisor 23 = .ok (.iload_n 3, 1) := by decide +kernel
theorem dX0_commonDivisor_24 : decode cX0_commonDivisor 24 = .ok (.istore_n 2, 1) := by decide +kernel
theorem dX0_commonDivisor_25 : decode cX0_commonDivisor 25 = .ok (.iload 5, 2) := by decide +kernel
theorem dX0_commonDivisor_27 : decode cX0_commonDivisor 27 = .ok (.istore_n 3, 1) := by decide +kernel
theorem dX0_commonDivisor_28 : decode cX0_commonDivisor 28 = .ok (.iinc 4 1, 3) := by decide +kernel
theorem dX0_commonDivisor_31 : decode cX0_commonDivisor 31 = .ok (.goto (-24), 3) := by decide +kernel
theorem dX0_commonDivisor_34 : decode cX0_commonDivisor 34 = .ok (.iload_n 2, 1) := by decide +kernel
theorem dX0_commonDivisor_35 : decode cX0_commonDivisor 35 = .ok (.ireturn, 1) := by decide +kernel
set_option maxRecDepth 20000 in
theorem ggX1_init_X3_init : GoodIn wsX1_init wsX3_init := goodIn_r _ [10, 11, 2, 3, 12, 13, 14, 15, 16, 17, 20, 21, 22, 23, 24, 25, 26, 27, 28] (by decide +kernel) (by decide +kernel)
set_option maxRecDepth 20000 in
theorem gX1_init_X3_init : GoodIn wsX1_init (wsX3_init) := ggX1_init_X3_init
theorem dX1_init_0 : decode cX1_init 0 = .ok (.aload_n 0, 1) := by decide +kernel
theorem dX1_init_1 : decode cX1_init 1 = .ok (.invokespecial 3, 3) := by decide +kernel
theorem dX1_init_4 : decode cX1_init 4 = .ok (.aload_n 0, 1) := by decide +kernel
theorem dX1_init_5 : decode cX1_init 5 = .ok (.iconst 4, 1) := by decide +kernel
theorem dX1_init_6 : decode cX1_init 6 = .ok (.anewarray 9, 3) := by decide +kernel
theorem dX1_init_9 : decode cX1_init 9 = .ok (.putfield 11, 3) := by decide +kernel
theorem dX1_init_12 : decode cX1_init 12 = .ok (.iconst 0, 1) := by decide +kernel
theorem dX1_init_13 : decode cX1_init 13 = .ok (.istore_n 1, 1) := by decide +kernel
theorem dX1_init_14 : decode cX1_init 14 = .ok (.iload_n 1, 1) := by decide +kernel
theorem dX1_init_15 : decode cX1_init 15 = .ok (.iconst 4, 1) := by decide +kernel
theorem dX1_init_16 : decode cX1_init 16 = .ok (.if_icmp .ge 22, 3) := by decide +kernel
theorem dX1_init_19 : decode cX1_init 19 = .ok (.aload_n 0, 1) := by decide +kernel
theorem dX1_init_20 : decode cX1_init 20 = .ok (.getfield 11, 3) := by decide +kernel
theorem dX1_init_23 : decode cX1_init 23 = .ok (.iload_n 1, 1) := by decide +kernel
theorem dX1_init_24 : decode cX1_init 24 = .ok (.new 9, 3) := by decide +kernel
theorem dX1_init_27 : decode cX1_init 27 = .ok (.dup, 1) := by decide +kernel
theorem dX1_init_28 : decode cX1_init 28 = .ok (.invokespecial 17, 3) := by decide +kernel
theorem dX1_init_31 : decode cX1_init 31 = .ok (.aastore, 1) := by decide +kernel
theorem dX1_init_32 : decode cX1_init 32 = .ok (.iinc 1 1, 3) := by decide +kernel
theorem dX1_init_35 : decode cX1_init 35 = .ok (.goto (-21), 3) := by decide +kernel
theorem dX1_init_38 : decode cX1_init 38 = .ok (.return_, 1) := by decide +kernel
set_option maxRecDepth 20000 in
theorem ggX1_record_X1_dropOldest : GoodIn wsX1_record wsX1_dropOldest := goodIn_r _ [7, 2, 1, 8, 9, 6, 10, 11, 12, 13, 14, 15, 16, 17, 18, 19, 20, 21, 22, 23, 24, 25, 26, 27, 28, 29, 30, 31, 32, 33, 34, 35] (by decide +kernel) (by decide +kernel)
set_option maxRecDepth 20000 in
theorem gX1_record_X1_dropOldest : GoodIn wsX1_record (wsV RX1 22 RX1 yX1_dropOldest wsX1_dropOldest) := goodIn_app (goodIn_of _ (by decide +kernel)) ggX1_record_X1_dropOldest
set_option maxRecDepth 20000 in
theorem ggX1_record_X1_copy : GoodIn wsX1_record wsX1_copy := goodIn_r _ [10, 11, 12, 13, 14, 15, 16, 17, 18, 19, 20, 21, 22, 23, 24, 27, 28, 29, 30, 31, 32, 33, 34, 35] (by decide +kernel) (by decide +kernel)
set_option maxRecDepth 20000 in
theorem gX1_record_X1_copy : GoodIn wsX1_record (va_wsS RX1 25 yX1_copy wsX1_copy) := goodIn_app (goodIn_of _ (by decide +kernel)) ggX1_record_X1_copy
theorem dX1_record_0 : decode cX1_record 0 = .ok (.aload_n 0, 1) := by decide +kernel
theorem dX1_record_1 : decode cX1_record 1 = .ok (.getfield 18, 3) := by decide +kernel
theorem dX1_record_4 : decode cX1_record 4 = .ok (.iconst 4, 1) := by decide +kernel
theorem dX1_record_5 : decode cX1_record 5 = .ok (.if_icmp .lt 7, 3) := by decide +kernel
theorem dX1_record_8 : decode cX1_record 8 = .ok (.aload_n 0, 1) := by decide +kernel
theorem dX1_record_9 : decode cX1_record 9 = .ok (.invokevirtual 22, 3) := by decide +kernel
theorem dX1_record_12 : decode cX1_record 12 = .ok (.aload_n 1, 1) := by decide +kernel
theorem dX1_record_13 : decode cX1_record 13 = .ok (.aload_n 0, 1) := by decide +kernel
theorem dX1_record_14 : decode cX1_record 14 = .ok (.getfield 11, 3) := by decide +kernel
theorem dX1_record_17 : decode cX1_record 17 = .ok (.aload_n 0, 1) := by decide +kernel
theorem dX1_record_18 : decode cX1_record 18 = .ok (.getfield 18, 3) := by decide +kernel
theorem dX1_record_21 : decode cX1_record 21 = .ok (.aaload, 1) := by decide +kernel
theorem dX1_record_22 : decode cX1_record 22 = .ok (.invokestatic 25, 3) := by decide +kernel
theorem dX1_record_25 : decode cX1_record 25 = .ok (.aload_n 0, 1) := by decide +kernel
theorem dX1_record_26 : decode cX1_record 26 = .ok (.dup, 1) := by decide +kernel
theorem dX1_record_27 : decode cX1_record 27 = .ok (.getfield 18, 3) := by decide +kernel
theorem dX1_record_30 : decode cX1_record 30 = .ok (.iconst 1, 1) := by decide +kernel
theorem dX1_record_31 : decode cX1_record 31 = .ok (.iadd, 1) := by decide +kernel
theorem dX1_record_32 : decode cX1_record 32 = .ok (.putfield 18, 3) := by decide +kernel
theorem dX1_record_35 : decode cX1_record 35 = .ok (.return_, 1) := by decide +kernel
set_option maxRecDepth 20000 in
theorem ggX1_takeLatest_X1_copy : GoodIn wsX1_takeLatest wsX1_copy := goodIn_r _ [6, 7, 8, 9, 10, 11, 12, 13, 14, 15, 16, 17, 18, 19, 20, 23, 24, 25, 26, 27, 28, 29, 30, 31] (by decide +kernel) (by decide +kernel)
set_option maxRecDepth 20000 in
theorem gX1_takeLatest_X1_copy : GoodIn wsX1_takeLatest (va_wsS RX1 25 yX1_copy wsX1_copy) := goodIn_app (goodIn_of _ (by decide +kernel)) ggX1_takeLatest_X1_copy
theorem dX1_takeLatest_0 : decode cX1_takeLatest 0 = .ok (.aload_n 0, 1) := by decide +kernel
theorem dX1_takeLatest_1 : decode cX1_takeLatest 1 = .ok (.getfield 18, 3) := by decide +kernel
theorem dX1_takeLatest_4 : decode cX1_takeLatest 4 = .ok (.ifCond .le 26, 3) := by decide +kernel
theorem dX1_takeLatest_7 : decode cX1_takeLatest 7 = .ok (.aload_n 0, 1) := by decide +kernel
theorem dX1_takeLatest_8 : decode cX1_takeLatest 8 = .ok (.dup, 1) := by decide +kernel
theorem dX1_takeLatest_9 : decode cX1_takeLatest 9 = .ok (.getfield 18, 3) := by decide +kernel
theorem dX1_takeLatest_12 : decode cX1_takeLatest 12 = .ok (.iconst 1, 1) := by decide +kernel
theorem dX1_takeLatest_13 : decode cX1_takeLatest 13 = .ok (.isub, 1) := by decide +kernel
theorem dX1_takeLatest_14 : decode cX1_takeLatest 14 = .ok (.putfield 18, 3) := by decide +kernel
theorem dX1_takeLatest_17 : decode cX1_takeLatest 17 = .ok (.aload_n 0, 1) := by decide +kernel
theorem dX1_takeLatest_18 : decode cX1_takeLatest 18 = .ok (.getfield 11, 3) := by decide +kernel
theorem dX1_takeLatest_21 : decode cX1_takeLatest 21 = .ok (.aload_n 0, 1) := by decide +kernel
theorem dX1_takeLatest_22 : decode cX1_takeLatest 22 = .ok (.getfield 18, 3) := by decide +kernel
theorem dX1_takeLatest_25 : decode cX1_takeLatest 25 = .ok (.aaload, 1) := by decide +kernel
theorem dX1_takeLatest_26 : decode cX1_takeLatest 26 = .ok (.aload_n 1, 1) := by decide +kernel
theorem dX1_takeLatest_27 : decode cX1_takeLatest 27 = .ok (.invokestatic 25, 3) := by decide +kernel
theorem dX1_takeLatest_30 : decode cX1_takeLatest 30 = .ok (.return_, 1) := by decide +kernel
set_option maxRecDepth 20000 in
theorem ggX1_dropOldest_X1_copy : GoodIn wsX1_dropOldest wsX1_copy := goodIn_r _ [6, 7, 8, 9, 10, 11, 12, 13, 14, 15, 16, 17, 18, 19, 20, 23, 24, 25, 26, 27, 28, 29, 30, 31] (by decide +kernel) (by decide +kernel)
set_option maxRecDepth 20000 in
theorem gX1_dropOldest_X1_copy : GoodIn wsX1_dropOldest (va_wsS RX1 25 yX1_copy wsX1_copy) := goodIn_app (goodIn_of _ (by decide +kernel)) ggX1_dropOldest_X1_copy
theorem dX1_dropOldest_0 : decode cX1_dropOldest 0 = .ok (.iconst 0, 1) := by decide +kernel
theorem dX1_dropOldest_1 : decode cX1_dropOldest 1 = .ok (.istore_n 1, 1) := by decide +kernel
theorem dX1_dropOldest_2 : decode cX1_dropOldest 2 = .ok (.iload_n 1, 1) := by decide +kernel
theorem dX1_dropOldest_3 : decode cX1_dropOldest 3 = .ok (.iconst 1, 1) := by decide +kernel
theorem dX1_dropOldest_4 : decode cX1_dropOldest 4 = .ok (.iadd, 1) := by decide +kernel
theorem dX1_dropOldest_5 : decode cX1_dropOldest 5 = .ok (.iconst 4, 1) := by decide +kernel
theorem dX1_dropOldest_6 : decode cX1_dropOldest 6 = .ok (.if_icmp .ge 26, 3) := by decide +kernel
theorem dX1_dropOldest_9 : decode cX1_dropOldest 9 = .ok (.aload_n 0, 1) := by decide +kernel
theorem dX1_dropOldest_10 : decode cX1_dropOldest 10 = .ok (.getfield 11, 3) := by decide +kernel
theorem dX1_dropOldest_13 : decode cX1_dropOldest 13 = .ok (.iload_n 1, 1) := by decide +kernel
theorem dX1_dropOldest_14 : decode cX1_dropOldest 14 = .ok (.iconst 1, 1) := by decide +kernel
theorem dX1_dropOldest_15 : decode cX1_dropOldest 15 = .ok (.iadd, 1) := by decide +kernel
theorem dX1_dropOldest_16 : decode cX1_dropOldest 16 = .ok (.aaload, 1) := by decide +kernel
theorem dX1_dropOldest_17 : decode cX1_dropOldest 17 = .ok (.aload_n 0, 1) := by decide +kernel
theorem dX1_dropOldest_18 : decode cX1_dropOldest 18 = .ok (.getfield 11, 3) := by decide +kernel
theorem dX1_dropOldest_21 : decode cX1_dropOldest 21 = .ok (.iload_n 1, 1) := by decide +kernel
theorem dX1_dropOldest_22 : decode cX1_dropOldest 22 = .ok (.aaload, 1) := by decide +kernel
theorem dX1_dropOldest_23 : decode cX1_dropOldest 23 = .ok (.invokestatic 25, 3) := by decide +kernel
theorem dX1_dropOldest_26 : decode cX1_dropOldest 26 = .ok (.iinc 1 1, 3) := by decide +kernel
theorem dX1_dropOldest_29 : decode cX1_dropOldest 29 = .ok (.goto (-27), 3) := by decide +kernel
theorem dX1_dropOldest_32 : decode cX1_dropOldest 32 = .ok (.aload_n 0, 1) := by decide +kernel
theorem dX1_dropOldest_33 : decode cX1_dropOldest 33 = .ok (.iconst 3, 1) := by decide +kernel
theorem dX1_dropOldest_34 : decode cX1_dropOldest 34 = .ok (.putfield 18, 3) := by decide +kernel
theorem dX1_dropOldest_37 : decode cX1_dropOldest 37 = .ok (.return_, 1) := by decide +kernel
set_option maxRecDepth 20000 in
theorem ggX1_copy_X3_copyFrom : GoodIn wsX1_copy wsX3_copyFrom := goodIn_r _ [5, 6, 7, 8, 9, 10, 11, 12, 13, 14, 15, 16, 17, 18, 19, 20, 21, 22, 23] (by decide +kernel) (by decide +kernel)
set_option maxRecDepth 20000 in
theorem gX1_copy_X3_copyFrom : GoodIn wsX1_copy (wsV RX1 29 RX3 yX3_copyFrom wsX3_copyFrom) := goodIn_app (goodIn_of _ (by decide +kernel)) ggX1_copy_X3_copyFrom
theorem dX1_copy_0 : decode cX1_copy 0 = .ok (.aload_n 0, 1) := by decide +kernel
theorem dX1_copy_1 : decode cX1_copy 1 = .ok (.ifnull 12, 3) := by decide +kernel
theorem dX1_copy_4 : decode cX1_copy 4 = .ok (.aload_n 1, 1) := by decide +kernel
theorem dX1_copy_5 : decode cX1_copy 5 = .ok (.ifnull 8, 3) := by decide +kernel
theorem dX1_copy_8 : decode cX1_copy 8 = .ok (.aload_n 1, 1) := by decide +kernel
theorem dX1_copy_9 : decode cX1_copy 9 = .ok (.aload_n 0, 1) := by decide +kernel
theorem dX1_copy_10 : decode cX1_copy 10 = .ok (.invokevirtual 29, 3) := by decide +kernel
theorem dX1_copy_13 : decode cX1_copy 13 = .ok (.return_, 1) := by decide +kernel
theorem dX2_init_0 : decode cX2_init 0 = .ok (.aload_n 0, 1) := by decide +kernel
theorem dX2_init_1 : decode cX2_init 1 = .ok (.invokespecial 3, 3) := by decide +kernel
theorem dX2_init_4 : decode cX2_init 4 = .ok (.aload_n 0, 1) := by decide +kernel
theorem dX2_init_5 : decode cX2_init 5 = .ok (.bipush 8, 2) := by decide +kernel
theorem dX2_init_7 : decode cX2_init 7 = .ok (.newarray .int, 2) := by decide +kernel
theorem dX2_init_9 : decode cX2_init 9 = .ok (.putfield 9, 3) := by decide +kernel
theorem dX2_init_12 : decode cX2_init 12 = .ok (.aload_n 0, 1) := by decide +kernel
theorem dX2_init_13 : decode cX2_init 13 = .ok (.bipush 8, 2) := by decide +kernel
theorem dX2_init_15 : decode cX2_init 15 = .ok (.newarray .int, 2) := by decide +kernel
theorem dX2_init_17 : decode cX2_init 17 = .ok (.putfield 15, 3) := by decide +kernel
theorem dX2_init_20 : decode cX2_init 20 = .ok (.aload_n 0, 1) := by decide +kernel
theorem dX2_init_21 : decode cX2_init 21 = .ok (.bipush 8, 2) := by decide +kernel
theorem dX2_init_23 : decode cX2_init 23 = .ok (.newarray .int, 2) := by decide +kernel
theorem dX2_init_25 : decode cX2_init 25 = .ok (.putfield 18, 3) := by decide +kernel
theorem dX2_init_28 : decode cX2_init 28 = .ok (.aload_n 0, 1) := by decide +kernel
theorem dX2_init_29 : decode cX2_init 29 = .ok (.bipush 8, 2) := by decide +kernel
theorem dX2_init_31 : decode cX2_init 31 = .ok (.newarray .int, 2) := by decide +kernel
theorem dX2_init_33 : decode cX2_init 33 = .ok (.putfield 21, 3) := by decide +kernel
theorem dX2_init_36 : decode cX2_init 36 = .ok (.return_, 1) := by decide +kernel
set_option maxRecDepth 20000 in
theorem ggX2_foresee_X3_freeLength : GoodIn wsX2_foresee wsX3_freeLength := goodIn_r _ [11, 12, 13, 14, 48, 49, 50, 51, 52, 53, 54, 55, 56] (by decide +kernel) (by decide +kernel)
set_option maxRecDepth 20000 in
theorem gX2_foresee_X3_freeLength : GoodIn wsX2_foresee (wsV RX2 24 RX3 yX3_freeLength wsX3_freeLength) := goodIn_app (goodIn_of _ (by decide +kernel)) ggX2_foresee_X3_freeLength
set_option maxRecDepth 20000 in
theorem ggX2_foresee_X2_movePoints : GoodIn wsX2_foresee wsX2_movePoints := goodIn_r _ [19, 1, 4, 6, 3, 20, 21, 22, 10, 23, 13, 14, 24, 25, 26, 27, 28, 12, 29, 30, 31, 32, 33, 34, 35, 48, 49, 50, 51, 52, 53, 54, 55, 56, 57, 58, 59, 60] (by decide +kernel) (by decide +kernel)
set_option maxRecDepth 20000 in
theorem gX2_foresee_X2_movePoints : GoodIn wsX2_foresee (wsV RX2 34 RX2 yX2_movePoints wsX2_movePoints) := goodIn_app (goodIn_of _ (by decide +kernel)) ggX2_foresee_X2_movePoints
set_option maxRecDepth 20000 in
theorem ggX2_foresee_X3_rodsBetween : GoodIn wsX2_foresee wsX3_rodsBetween := goodIn_r _ [39, 13, 24, 25, 26, 10, 27, 28, 12, 48, 49, 50, 51, 52, 53, 54, 55, 56] (by decide +kernel) (by decide +kernel)
set_option maxRecDepth 20000 in
theorem gX2_foresee_X3_rodsBetween : GoodIn wsX2_foresee (wsV RX2 38 RX3 yX3_rodsBetween wsX3_rodsBetween) := goodIn_app (goodIn_of _ (by decide +kernel)) ggX2_foresee_X3_rodsBetween
set_option maxRecDepth 20000 in
theorem ggX2_foresee_J9_floorDiv_7cf53 : GoodIn wsX2_foresee wsJ9_floorDiv_7cf53 := goodIn_r _ [35] (by decide +kernel) (by decide +kernel)
set_option maxRecDepth 20000 in
theorem gX2_foresee_J9_floorDiv_7cf53 : GoodIn wsX2_foresee (va_wsS RX2 42 yJ9_floorDiv_7cf53 wsJ9_floorDiv_7cf53) := goodIn_app (goodIn_of _ (by decide +kernel)) ggX2_foresee_J9_floorDiv_7cf53
set_option maxRecDepth 20000 in
theorem ggX2_foresee_J9_floorMod_7cf53 : GoodIn wsX2_foresee wsJ9_floorMod_7cf53 := goodIn_r _ [32] (by decide +kernel) (by decide +kernel)
set_option maxRecDepth 20000 in
theorem gX2_foresee_J9_floorMod_7cf53 : GoodIn wsX2_foresee (va_wsS RX2 47 yJ9_floorMod_7cf53 wsJ9_floorMod_7cf53) := goodIn_app (goodIn_of _ (by decide +kernel)) ggX2_foresee_J9_floorMod_7cf53
set_option maxRecDepth 20000 in
theorem ggX2_foresee_X2_rankAtEnd : GoodIn wsX2_foresee wsX2_rankAtEnd := goodIn_r _ [43, 1, 44, 45, 46, 18, 47, 3, 6, 48, 49, 50, 51, 52, 53, 54, 55, 56, 57, 58, 59, 60] (by decide +kernel) (by decide +kernel)
set_option maxRecDepth 20000 in
theorem gX2_foresee_X2_rankAtEnd : GoodIn wsX2_foresee (wsV RX2 50 RX2 yX2_rankAtEnd wsX2_rankAtEnd) := goodIn_app (goodIn_of _ (by decide +kernel)) ggX2_foresee_X2_rankAtEnd
theorem dX2_foresee_0 : decode cX2_foresee 0 = .ok (.aload_n 1, 1) := by decide +kernel
theorem dX2_foresee_1 : decode cX2_foresee 1 = .ok (.invokevirtual 24, 3) := by decide +kernel
theorem dX2_foresee_4 : decode cX2_foresee 4 = .ok (.istore_n 3, 1) := by decide +kernel
theorem dX2_foresee_5 : decode cX2_foresee 5 = .ok (.aload_n 1, 1) := by decide +kernel
theorem dX2_foresee_6 : decode cX2_foresee 6 = .ok (.getfield 30, 3) := by decide +kernel
theorem dX2_foresee_9 : decode cX2_foresee 9 = .ok (.istore 4, 2) := by decide +kernel
theorem dX2_foresee_11 : decode cX2_foresee 11 = .ok (.iload_n 3, 1) := by decide +kernel
theorem dX2_foresee_12 : decode cX2_foresee 12 = .ok (.iconst 1, 1) := by decide +kernel
theorem dX2_foresee_13 : decode cX2_foresee 13 = .ok (.if_icmp .lt 9, 3) := by decide +kernel
theorem dX2_foresee_16 : decode cX2_foresee 16 = .ok (.iload 4, 2) := by decide +kernel
theorem dX2_foresee_18 : decode cX2_foresee 18 = .ok (.iconst 1, 1) := by decide +kernel
theorem dX2_foresee_19 : decode cX2_foresee 19 = .ok (.if_icmp .ge 4, 3) := by decide +kernel
theorem dX2_foresee_22 : decode cX2_foresee 22 = .ok (.return_, 1) := by decide +kernel
theorem dX2_foresee_23 : decode cX2_foresee 23 = .ok (.aload_n 0, 1) := by decide +kernel
theorem dX2_foresee_24 : decode cX2_foresee 24 = .ok (.aload_n 1, 1) := by decide +kernel
theorem dX2_foresee_25 : decode cX2_foresee 25 = .ok (.iload_n 2, 1) := by decide +kernel
theorem dX2_foresee_26 : decode cX2_foresee 26 = .ok (.iload_n 3, 1) := by decide +kernel
theorem dX2_foresee_27 : decode cX2_foresee 27 = .ok (.invokevirtual 34, 3) := by decide +kernel
theorem dX2_foresee_30 : decode cX2_foresee 30 = .ok (.istore 5, 2) := by decide +kernel
theorem dX2_foresee_32 : decode cX2_foresee 32 = .ok (.iconst 0, 1) := by decide +kernel
theorem dX2_foresee_33 : decode cX2_foresee 33 = .ok (.istore 6, 2) := by decide +kernel
theorem dX2_foresee_35 : decode cX2_foresee 35 = .ok (.iload 6, 2) := by decide +kernel
theorem dX2_foresee_37 : decode cX2_foresee 37 = .ok (.iload 4, 2) := by decide +kernel
theorem dX2_foresee_39 : decode cX2_foresee 39 = .ok (.if_icmp .ge 108, 3) := by decide +kernel
theorem dX2_foresee_42 : decode cX2_foresee 42 = .ok (.aload_n 1, 1) := by decide +kernel
theorem dX2_foresee_43 : decode cX2_foresee 43 = .ok (.iconst 0, 1) := by decide +kernel
theorem dX2_foresee_44 : decode cX2_foresee 44 = .ok (.iload 6, 2) := by decide +kernel
theorem dX2_foresee_46 : decode cX2_foresee 46 = .ok (.invokevirtual 38, 3) := by decide +kernel
theorem dX2_foresee_49 : decode cX2_foresee 49 = .ok (.iload 5, 2) := by decide +kernel
theorem dX2_foresee_51 : decode cX2_foresee 51 = .ok (.iadd, 1) := by decide +kernel
theorem dX2_foresee_52 : decode cX2_foresee 52 = .ok (.istore 7, 2) := by decide +kernel
theorem dX2_foresee_54 : decode cX2_foresee 54 = .ok (.iload 7, 2) := by decide +kernel
theorem dX2_foresee_56 : decode cX2_foresee 56 = .ok (.iload 4, 2) := by decide +kernel
theorem dX2_foresee_58 : decode cX2_foresee 58 = .ok (.invokestatic 42, 3) := by decide +kernel
theorem dX2_foresee_61 : decode cX2_foresee 61 = .ok (.istore 8, 2) := by decide +kernel
theorem dX2_foresee_63 : decode cX2_foresee 63 = .ok (.iload 7, 2) := by decide +kernel
theorem dX2_foresee_65 : decode cX2_foresee 65 = .ok (.iload 4, 2) := by decide +kernel
theorem dX2_foresee_67 : decode cX2_foresee 67 = .ok (.invokestatic 47, 3) := by decide +kernel
theorem dX2_foresee_70 : decode cX2_foresee 70 = .ok (.istore 9, 2) := by decide +kernel
theorem dX2_foresee_72 : decode cX2_foresee 72 = .ok (.iconst 0, 1) := by decide +kernel
theorem dX2_foresee_73 : decode cX2_foresee 73 = .ok (.istore 10, 2) := by decide +kernel
theorem dX2_foresee_75 : decode cX2_foresee 75 = .ok (.iload 10, 2) := by decide +kernel
theorem dX2_foresee_77 : decode cX2_foresee 77 = .ok (.iload 4, 2) := by decide +kernel
theorem dX2_foresee_79 : decode cX2_foresee 79 = .ok (.if_icmp .ge 62, 3) := by decide +kernel
theorem dX2_foresee_82 : decode cX2_foresee 82 = .ok (.aload_n 0, 1) := by decide +kernel
theorem dX2_foresee_83 : decode cX2_foresee 83 = .ok (.aload_n 1, 1) := by decide +kernel
theorem dX2_foresee_84 : decode cX2_foresee 84 = .ok (.iload 10, 2) := by decide +kernel
theorem dX2_foresee_86 : decode cX2_foresee 86 = .ok (.invokevirtual 50, 3) := by decide +kernel
theorem dX2_foresee_89 : decode cX2_foresee 89 = .ok (.iload 9, 2) := by decide +kernel
theorem dX2_foresee_91 : decode cX2_foresee 91 = .ok (.if_icmp .ne 44, 3) := by decide +kernel
theorem dX2_foresee_94 : decode cX2_foresee 94 = .ok (.aload_n 0, 1) := by decide +kernel
theorem dX2_foresee_95 : decode cX2_foresee 95 = .ok (.getfield 9, 3) := by decide +kernel
theorem dX2_foresee_98 : decode cX2_foresee 98 = .ok (.iload 6, 2) := by decide +kernel
theorem dX2_foresee_100 : decode cX2_foresee 100 = .ok (.aload_n 0, 1) := by decide +kernel
theorem dX2_foresee_101 : decode cX2_foresee 101 = .ok (.getfield 21, 3) := by decide +kernel
theorem dX2_foresee_104 : decode cX2_foresee 104 = .ok (.iload 10, 2) := by decide +kernel
theorem dX2_foresee_106 : decode cX2_foresee 106 = .ok (.iaload, 1) := by decide +kernel
theorem dX2_foresee_107 : decode cX2_foresee 107 = .ok (.iload 8, 2) := by decide +kernel
theorem dX2_foresee_109 : decode cX2_foresee 109 = .ok (.iload_n 3, 1) := by decide +kernel
theorem dX2_foresee_110 : decode cX2_foresee 110 = .ok (.imul, 1) := by decide +kernel
theorem dX2_foresee_111 : decode cX2_foresee 111 = .ok (.iadd, 1) := by decide +kernel
theorem dX2_foresee_112 : decode cX2_foresee 112 = .ok (.aload_n 0, 1) := by decide +kernel
theorem dX2_foresee_113 : decode cX2_foresee 113 = .ok (.getfield 18, 3) := by decide +kernel
theorem dX2_foresee_116 : decode cX2_foresee 116 = .ok (.iload 6, 2) := by decide +kernel
theorem dX2_foresee_118 : decode cX2_foresee 118 = .ok (.iaload, 1) := by decide +kernel
theorem dX2_foresee_119 : decode cX2_foresee 119 = .ok (.isub, 1) := by decide +kernel
theorem dX2_foresee_120 : decode cX2_foresee 120 = .ok (.iastore, 1) := by decide +kernel
theorem dX2_foresee_121 : decode cX2_foresee 121 = .ok (.aload_n 0, 1) := by decide +kernel
theorem dX2_foresee_122 : decode cX2_foresee 122 = .ok (.getfield 15, 3) := by decide +kernel
theorem dX2_foresee_125 : decode cX2_foresee 125 = .ok (.iload 6, 2) := by decide +kernel
theorem dX2_foresee_127 : decode cX2_foresee 127 = .ok (.aload_n 1, 1) := by decide +kernel
theorem dX2_foresee_128 : decode cX2_foresee 128 = .ok (.getfield 54, 3) := by decide +kernel
theorem dX2_foresee_131 : decode cX2_foresee 131 = .ok (.iload 10, 2) := by decide +kernel
theorem dX2_foresee_133 : decode cX2_foresee 133 = .ok (.iaload, 1) := by decide +kernel
theorem dX2_foresee_134 : decode cX2_foresee 134 = .ok (.iastore, 1) := by decide +kernel
theorem dX2_foresee_135 : decode cX2_foresee 135 = .ok (.iinc 10 1, 3) := by decide +kernel
theorem dX2_foresee_138 : decode cX2_foresee 138 = .ok (.goto (-63), 3) := by decide +kernel
theorem dX2_foresee_141 : decode cX2_foresee 141 = .ok (.iinc 6 1, 3) := by decide +kernel
theorem dX2_foresee_144 : decode cX2_foresee 144 = .ok (.goto (-109), 3) := by decide +kernel
theorem dX2_foresee_147 : decode cX2_foresee 147 = .ok (.return_, 1) := by decide +kernel
set_option maxRecDepth 20000 in
theorem ggX2_movePoints_X3_freeBetween : GoodIn wsX2_movePoints wsX3_freeBetween := goodIn_r _ [9, 10, 11, 12, 13, 14, 8, 15, 16, 17, 25, 26, 27, 28, 29, 30, 31, 32, 33] (by decide +kernel) (by decide +kernel)
set_option maxRecDepth 20000 in
theorem gX2_movePoints_X3_freeBetween : GoodIn wsX2_movePoints (wsV RX2 55 RX3 yX3_freeBetween wsX3_freeBetween) := goodIn_app (goodIn_of _ (by decide +kernel)) ggX2_movePoints_X3_freeBetween
set_option maxRecDepth 20000 in
theorem ggX2_movePoints_J9_floorMod_7cf53 : GoodIn wsX2_movePoints wsJ9_floorMod_7cf53 := goodIn_r _ [21] (by decide +kernel) (by decide +kernel)
set_option maxRecDepth 20000 in
theorem gX2_movePoints_J9_floorMod_7cf53 : GoodIn wsX2_movePoints (va_wsS RX2 47 yJ9_floorMod_7cf53 wsJ9_floorMod_7cf53) := goodIn_app (goodIn_of _ (by decide +kernel)) ggX2_movePoints_J9_floorMod_7cf53
set_option maxRecDepth 20000 in
theorem ggX2_movePoints_J9_floorDiv_7cf53 : GoodIn wsX2_movePoints wsJ9_floorDiv_7cf53 := goodIn_r _ [24] (by decide +kernel) (by decide +kernel)
set_option maxRecDepth 20000 in
theorem gX2_movePoints_J9_floorDiv_7cf53 : GoodIn wsX2_movePoints (va_wsS RX2 42 yJ9_floorDiv_7cf53 wsJ9_floorDiv_7cf53) := goodIn_app (goodIn_of _ (by decide +kernel)) ggX2_movePoints_J9_floorDiv_7cf53
theorem dX2_movePoints_0 : decode cX2_movePoints 0 = .ok (.iconst 0, 1) := by decide +kernel
theorem dX2_movePoints_1 : decode cX2_movePoints 1 = .ok (.istore 4, 2) := by decide +kernel
theorem dX2_movePoints_3 : decode cX2_movePoints 3 = .ok (.iload_n 3, 1) := by decide +kernel
theorem dX2_movePoints_4 : decode cX2_movePoints 4 = .ok (.iconst 1, 1) := by decide +kernel
theorem dX2_movePoints_5 : decode cX2_movePoints 5 = .ok (.if_icmp .ge 6, 3) := by decide +kernel
theorem dX2_movePoints_8 : decode cX2_movePoints 8 = .ok (.iload 4, 2) := by decide +kernel
theorem dX2_movePoints_10 : decode cX2_movePoints 10 = .ok (.ireturn, 1) := by decide +kernel
theorem dX2_movePoints_11 : decode cX2_movePoints 11 = .ok (.iconst 0, 1) := by decide +kernel
theorem dX2_movePoints_12 : decode cX2_movePoints 12 = .ok (.istore 5, 2) := by decide +kernel
theorem dX2_movePoints_14 : decode cX2_movePoints 14 = .ok (.iload 5, 2) := by decide +kernel
theorem dX2_movePoints_16 : decode cX2_movePoints 16 = .ok (.aload_n 1, 1) := by decide +kernel
theorem dX2_movePoints_17 : decode cX2_movePoints 17 = .ok (.getfield 30, 3) := by decide +kernel
theorem dX2_movePoints_20 : decode cX2_movePoints 20 = .ok (.if_icmp .ge 66, 3) := by decide +kernel
theorem dX2_movePoints_23 : decode cX2_movePoints 23 = .ok (.aload_n 0, 1) := by decide +kernel
theorem dX2_movePoints_24 : decode cX2_movePoints 24 = .ok (.getfield 18, 3) := by decide +kernel
theorem dX2_movePoints_27 : decode cX2_movePoints 27 = .ok (.iload 5, 2) := by decide +kernel
theorem dX2_movePoints_29 : decode cX2_movePoints 29 = .ok (.aload_n 1, 1) := by decide +kernel
theorem dX2_movePoints_30 : decode cX2_movePoints 30 = .ok (.iconst 0, 1) := by decide +kernel
theorem dX2_movePoints_31 : decode cX2_movePoints 31 = .ok (.iload 5, 2) := by decide +kernel
theorem dX2_movePoints_33 : decode cX2_movePoints 33 = .ok (.invokevirtual 55, 3) := by decide +kernel
theorem dX2_movePoints_36 : decode cX2_movePoints 36 = .ok (.iastore, 1) := by decide +kernel
theorem dX2_movePoints_37 : decode cX2_movePoints 37 = .ok (.aload_n 0, 1) := by decide +kernel
theorem dX2_movePoints_38 : decode cX2_movePoints 38 = .ok (.getfield 18, 3) := by decide +kernel
theorem dX2_movePoints_41 : decode cX2_movePoints 41 = .ok (.iload 5, 2) := by decide +kernel
theorem dX2_movePoints_43 : decode cX2_movePoints 43 = .ok (.iaload, 1) := by decide +kernel
theorem dX2_movePoints_44 : decode cX2_movePoints 44 = .ok (.aload_n 1, 1) := by decide +kernel
theorem dX2_movePoints_45 : decode cX2_movePoints 45 = .ok (.getfield 54, 3) := by decide +kernel
theorem dX2_movePoints_48 : decode cX2_movePoints 48 = .ok (.iload 5, 2) := by decide +kernel
theorem dX2_movePoints_50 : decode cX2_movePoints 50 = .ok (.iaload, 1) := by decide +kernel
theorem dX2_movePoints_51 : decode cX2_movePoints 51 = .ok (.iload_n 2, 1) := by decide +kernel
theorem dX2_movePoints_52 : decode cX2_movePoints 52 = .ok (.imul, 1) := by decide +kernel
theorem dX2_movePoints_53 : decode cX2_movePoints 53 = .ok (.iadd, 1) := by decide +kernel
theorem dX2_movePoints_54 : decode cX2_movePoints 54 = .ok (.istore 6, 2) := by decide +kernel
theorem dX2_movePoints_56 : decode cX2_movePoints 56 = .ok (.aload_n 0, 1) := by decide +kernel
theorem dX2_movePoints_57 : decode cX2_movePoints 57 = .ok (.getfield 21, 3) := by decide +kernel
theorem dX2_movePoints_60 : decode cX2_movePoints 60 = .ok (.iload 5, 2) := by decide +kernel
theorem dX2_movePoints_62 : decode cX2_movePoints 62 = .ok (.iload 6, 2) := by decide +kernel
theorem dX2_movePoints_64 : decode cX2_movePoints 64 = .ok (.iload_n 3, 1) := by decide +kernel
theorem dX2_movePoints_65 : decode cX2_movePoints 65 = .ok (.invokestatic 47, 3) := by decide +kernel
theorem dX2_movePoints_68 : decode cX2_movePoints 68 = .ok (.iastore, 1) := by decide +kernel
theorem dX2_movePoints_69 : decode cX2_movePoints 69 = .ok (.iload 4, 2) := by decide +kernel
theorem dX2_movePoints_71 : decode cX2_movePoints 71 = .ok (.iload 6, 2) := by decide +kernel
theorem dX2_movePoints_73 : decode cX2_movePoints 73 = .ok (.iload_n 3, 1) := by decide +kernel
theorem dX2_movePoints_74 : decode cX2_movePoints 74 = .ok (.invokestatic 42, 3) := by decide +kernel
theorem dX2_movePoints_77 : decode cX2_movePoints 77 = .ok (.iadd, 1) := by decide +kernel
theorem dX2_movePoints_78 : decode cX2_movePoints 78 = .ok (.istore 4, 2) := by decide +kernel
theorem dX2_movePoints_80 : decode cX2_movePoints 80 = .ok (.iinc 5 1, 3) := by decide +kernel
theorem dX2_movePoints_83 : decode cX2_movePoints 83 = .ok (.goto (-69), 3) := by decide +kernel
theorem dX2_movePoints_86 : decode cX2_movePoints 86 = .ok (.iload 4, 2) := by decide +kernel
theorem dX2_movePoints_88 : decode cX2_movePoints 88 = .ok (.ireturn, 1) := by decide +kernel
set_option maxRecDepth 20000 in
theorem ggX2_rankAtEnd_X2_isBefore : GoodIn wsX2_rankAtEnd wsX2_isBefore := goodIn_r _ [6, 7, 8, 18, 19, 20, 21, 9, 10, 11, 12, 13, 14, 15, 16, 17] (by decide +kernel) (by decide +kernel)
set_option maxRecDepth 20000 in
theorem gX2_rankAtEnd_X2_isBefore : GoodIn wsX2_rankAtEnd (wsV RX2 58 RX2 yX2_isBefore wsX2_isBefore) := goodIn_app (goodIn_of _ (by decide +kernel)) ggX2_rankAtEnd_X2_isBefore
theorem dX2_rankAtEnd_0 : decode cX2_rankAtEnd 0 = .ok (.iconst 0, 1) := by decide +kernel
theorem dX2_rankAtEnd_1 : decode cX2_rankAtEnd 1 = .ok (.istore_n 3, 1) := by decide +kernel
theorem dX2_rankAtEnd_2 : decode cX2_rankAtEnd 2 = .ok (.iconst 0, 1) := by decide +kernel
theorem dX2_rankAtEnd_3 : decode cX2_rankAtEnd 3 = .ok (.istore 4, 2) := by decide +kernel
theorem dX2_rankAtEnd_5 : decode cX2_rankAtEnd 5 = .ok (.iload 4, 2) := by decide +kernel
theorem dX2_rankAtEnd_7 : decode cX2_rankAtEnd 7 = .ok (.aload_n 1, 1) := by decide +kernel
theorem dX2_rankAtEnd_8 : decode cX2_rankAtEnd 8 = .ok (.getfield 30, 3) := by decide +kernel
theorem dX2_rankAtEnd_11 : decode cX2_rankAtEnd 11 = .ok (.if_icmp .ge 23, 3) := by decide +kernel
theorem dX2_rankAtEnd_14 : decode cX2_rankAtEnd 14 = .ok (.aload_n 0, 1) := by decide +kernel
theorem dX2_rankAtEnd_15 : decode cX2_rankAtEnd 15 = .ok (.aload_n 1, 1) := by decide +kernel
theorem dX2_rankAtEnd_16 : decode cX2_rankAtEnd 16 = .ok (.iload 4, 2) := by decide +kernel
theorem dX2_rankAtEnd_18 : decode cX2_rankAtEnd 18 = .ok (.iload_n 2, 1) := by decide +kernel
theorem dX2_rankAtEnd_19 : decode cX2_rankAtEnd 19 = .ok (.invokevirtual 58, 3) := by decide +kernel
theorem dX2_rankAtEnd_22 : decode cX2_rankAtEnd 22 = .ok (.ifCond .eq 6, 3) := by decide +kernel
theorem dX2_rankAtEnd_25 : decode cX2_rankAtEnd 25 = .ok (.iinc 3 1, 3) := by decide +kernel
theorem dX2_rankAtEnd_28 : decode cX2_rankAtEnd 28 = .ok (.iinc 4 1, 3) := by decide +kernel
theorem dX2_rankAtEnd_31 : decode cX2_rankAtEnd 31 = .ok (.goto (-26), 3) := by decide +kernel
theorem dX2_rankAtEnd_34 : decode cX2_rankAtEnd 34 = .ok (.iload_n 3, 1) := by decide +kernel
theorem dX2_rankAtEnd_35 : decode cX2_rankAtEnd 35 = .ok (.ireturn, 1) := by decide +kernel
theorem dX2_isBefore_0 : decode cX2_isBefore 0 = .ok (.aload_n 0, 1) := by decide +kernel
theorem dX2_isBefore_1 : decode cX2_isBefore 1 = .ok (.getfield 21, 3) := by decide +kernel
theorem dX2_isBefore_4 : decode cX2_isBefore 4 = .ok (.iload_n 2, 1) := by decide +kernel
theorem dX2_isBefore_5 : decode cX2_isBefore 5 = .ok (.iaload, 1) := by decide +kernel
theorem dX2_isBefore_6 : decode cX2_isBefore 6 = .ok (.aload_n 0, 1) := by decide +kernel
theorem dX2_isBefore_7 : decode cX2_isBefore 7 = .ok (.getfield 21, 3) := by decide +kernel
theorem dX2_isBefore_10 : decode cX2_isBefore 10 = .ok (.iload_n 3, 1) := by decide +kernel
theorem dX2_isBefore_11 : decode cX2_isBefore 11 = .ok (.iaload, 1) := by decide +kernel
theorem dX2_isBefore_12 : decode cX2_isBefore 12 = .ok (.if_icmp .eq 24, 3) := by decide +kernel
theorem dX2_isBefore_15 : decode cX2_isBefore 15 = .ok (.aload_n 0, 1) := by decide +kernel
theorem dX2_isBefore_16 : decode cX2_isBefore 16 = .ok (.getfield 21, 3) := by decide +kernel
theorem dX2_isBefore_19 : decode cX2_isBefore 19 = .ok (.iload_n 2, 1) := by decide +kernel
theorem dX2_isBefore_20 : decode cX2_isBefore 20 = .ok (.iaload, 1) := by decide +kernel
theorem dX2_isBefore_21 : decode cX2_isBefore 21 = .ok (.aload_n 0, 1) := by decide +kernel
theorem dX2_isBefore_22 : decode cX2_isBefore 22 = .ok (.getfield 21, 3) := by decide +kernel
theorem dX2_isBefore_25 : decode cX2_isBefore 25 = .ok (.iload_n 3, 1) := by decide +kernel
theorem dX2_isBefore_26 : decode cX2_isBefore 26 = .ok (.iaload, 1) := by decide +kernel
theorem dX2_isBefore_27 : decode cX2_isBefore 27 = .ok (.if_icmp .ge 7, 3) := by decide +kernel
theorem dX2_isBefore_30 : decode cX2_isBefore 30 = .ok (.iconst 1, 1) := by decide +kernel
theorem dX2_isBefore_31 : decode cX2_isBefore 31 = .ok (.goto 4, 3) := by decide +kernel
theorem dX2_isBefore_34 : decode cX2_isBefore 34 = .ok (.iconst 0, 1) := by decide +kernel
theorem dX2_isBefore_35 : decode cX2_isBefore 35 = .ok (.ireturn, 1) := by decide +kernel
theorem dX2_isBefore_36 : decode cX2_isBefore 36 = .ok (.aload_n 1, 1) := by decide +kernel
theorem dX2_isBefore_37 : decode cX2_isBefore 37 = .ok (.getfield 54, 3) := by decide +kernel
theorem dX2_isBefore_40 : decode cX2_isBefore 40 = .ok (.iload_n 2, 1) := by decide +kernel
theorem dX2_isBefore_41 : decode cX2_isBefore 41 = .ok (.iaload, 1) := by decide +kernel
theorem dX2_isBefore_42 : decode cX2_isBefore 42 = .ok (.aload_n 1, 1) := by decide +kernel
theorem dX2_isBefore_43 : decode cX2_isBefore 43 = .ok (.getfield 54, 3) := by decide +kernel
theorem dX2_isBefore_46 : decode cX2_isBefore 46 = .ok (.iload_n 3, 1) := by decide +kernel
theorem dX2_isBefore_47 : decode cX2_isBefore 47 = .ok (.iaload, 1) := by decide +kernel
theorem dX2_isBefore_48 : decode cX2_isBefore 48 = .ok (.if_icmp .eq 24, 3) := by decide +kernel
theorem dX2_isBefore_51 : decode cX2_isBefore 51 = .ok (.aload_n 1, 1) := by decide +kernel
theorem dX2_isBefore_52 : decode cX2_isBefore 52 = .ok (.getfield 54, 3) := by decide +kernel
theorem dX2_isBefore_55 : decode cX2_isBefore 55 = .ok (.iload_n 2, 1) := by decide +kernel
theorem dX2_isBefore_56 : decode cX2_isBefore 56 = .ok (.iaload, 1) := by decide +kernel
theorem dX2_isBefore_57 : decode cX2_isBefore 57 = .ok (.aload_n 1, 1) := by decide +kernel
theorem dX2_isBefore_58 : decode cX2_isBefore 58 = .ok (.getfield 54, 3) := by decide +kernel
theorem dX2_isBefore_61 : decode cX2_isBefore 61 = .ok (.iload_n 3, 1) := by decide +kernel
theorem dX2_isBefore_62 : decode cX2_isBefore 62 = .ok (.iaload, 1) := by decide +kernel
theorem dX2_isBefore_63 : decode cX2_isBefore 63 = .ok (.if_icmp .ge 7, 3) := by decide +kernel
theorem dX2_isBefore_66 : decode cX2_isBefore 66 = .ok (.iconst 1, 1) := by decide +kernel
theorem dX2_isBefore_67 : decode cX2_isBefore 67 = .ok (.goto 4, 3) := by decide +kernel
theorem dX2_isBefore_70 : decode cX2_isBefore 70 = .ok (.iconst 0, 1) := by decide +kernel
theorem dX2_isBefore_71 : decode cX2_isBefore 71 = .ok (.ireturn, 1) := by decide +kernel
theorem dX2_isBefore_72 : decode cX2_isBefore 72 = .ok (.iload_n 2, 1) := by decide +kernel
theorem dX2_isBefore_73 : decode cX2_isBefore 73 = .ok (.iload_n 3, 1) := by decide +kernel
theorem dX2_isBefore_74 : decode cX2_isBefore 74 = .ok (.if_icmp .ge 7, 3) := by decide +kernel
theorem dX2_isBefore_77 : decode cX2_isBefore 77 = .ok (.iconst 1, 1) := by decide +kernel
theorem dX2_isBefore_78 : decode cX2_isBefore 78 = .ok (.goto 4, 3) := by decide +kernel
theorem dX2_isBefore_81 : decode cX2_isBefore 81 = .ok (.iconst 0, 1) := by decide +kernel
theorem dX2_isBefore_82 : decode cX2_isBefore 82 = .ok (.ireturn, 1) := by decide +kernel
theorem dX3_init_0 : decode cX3_init 0 = .ok (.aload_n 0, 1) := by decide +kernel
theorem dX3_init_1 : decode cX3_init 1 = .ok (.invokespecial 3, 3) := by decide +kernel
theorem dX3_init_4 : decode cX3_init 4 = .ok (.aload_n 0, 1) := by decide +kernel
theorem dX3_init_5 : decode cX3_init 5 = .ok (.bipush 100, 2) := by decide +kernel
theorem dX3_init_7 : decode cX3_init 7 = .ok (.putfield 9, 3) := by decide +kernel
theorem dX3_init_10 : decode cX3_init 10 = .ok (.aload_n 0, 1) := by decide +kernel
theorem dX3_init_11 : decode cX3_init 11 = .ok (.bipush 8, 2) := by decide +kernel
theorem dX3_init_13 : decode cX3_init 13 = .ok (.newarray .int, 2) := by decide +kernel
theorem dX3_init_15 : decode cX3_init 15 = .ok (.putfield 15, 3) := by decide +kernel
theorem dX3_init_18 : decode cX3_init 18 = .ok (.aload_n 0, 1) := by decide +kernel
theorem dX3_init_19 : decode cX3_init 19 = .ok (.bipush 8, 2) := by decide +kernel
theorem dX3_init_21 : decode cX3_init 21 = .ok (.newarray .int, 2) := by decide +kernel
theorem dX3_init_23 : decode cX3_init 23 = .ok (.putfield 19, 3) := by decide +kernel
theorem dX3_init_26 : decode cX3_init 26 = .ok (.aload_n 0, 1) := by decide +kernel
theorem dX3_init_27 : decode cX3_init 27 = .ok (.bipush 8, 2) := by decide +kernel
theorem dX3_init_29 : decode cX3_init 29 = .ok (.newarray .int, 2) := by decide +kernel
theorem dX3_init_31 : decode cX3_init 31 = .ok (.putfield 22, 3) := by decide +kernel
theorem dX3_init_34 : decode cX3_init 34 = .ok (.aload_n 0, 1) := by decide +kernel
theorem dX3_init_35 : decode cX3_init 35 = .ok (.bipush 8, 2) := by decide +kernel
theorem dX3_init_37 : decode cX3_init 37 = .ok (.newarray .int, 2) := by decide +kernel
theorem dX3_init_39 : decode cX3_init 39 = .ok (.putfield 25, 3) := by decide +kernel
theorem dX3_init_42 : decode cX3_init 42 = .ok (.return_, 1) := by decide +kernel
theorem dX3_copyFrom_0 : decode cX3_copyFrom 0 = .ok (.aload_n 0, 1) := by decide +kernel
theorem dX3_copyFrom_1 : decode cX3_copyFrom 1 = .ok (.aload_n 1, 1) := by decide +kernel
theorem dX3_copyFrom_2 : decode cX3_copyFrom 2 = .ok (.getfield 9, 3) := by decide +kernel
theorem dX3_copyFrom_5 : decode cX3_copyFrom 5 = .ok (.putfield 9, 3) := by decide +kernel
theorem dX3_copyFrom_8 : decode cX3_copyFrom 8 = .ok (.aload_n 0, 1) := by decide +kernel
theorem dX3_copyFrom_9 : decode cX3_copyFrom 9 = .ok (.aload_n 1, 1) := by decide +kernel
theorem dX3_copyFrom_10 : decode cX3_copyFrom 10 = .ok (.getfield 28, 3) := by decide +kernel
theorem dX3_copyFrom_13 : decode cX3_copyFrom 13 = .ok (.putfield 28, 3) := by decide +kernel
theorem dX3_copyFrom_16 : decode cX3_copyFrom 16 = .ok (.aload_n 0, 1) := by decide +kernel
theorem dX3_copyFrom_17 : decode cX3_copyFrom 17 = .ok (.aload_n 1, 1) := by decide +kernel
theorem dX3_copyFrom_18 : decode cX3_copyFrom 18 = .ok (.getfield 31, 3) := by decide +kernel
theorem dX3_copyFrom_21 : decode cX3_copyFrom 21 = .ok (.putfield 31, 3) := by decide +kernel
theorem dX3_copyFrom_24 : decode cX3_copyFrom 24 = .ok (.aload_n 0, 1) := by decide +kernel
theorem dX3_copyFrom_25 : decode cX3_copyFrom 25 = .ok (.aload_n 1, 1) := by decide +kernel
theorem dX3_copyFrom_26 : decode cX3_copyFrom 26 = .ok (.getfield 34, 3) := by decide +kernel
theorem dX3_copyFrom_29 : decode cX3_copyFrom 29 = .ok (.putfield 34, 3) := by decide +kernel
theorem dX3_copyFrom_32 : decode cX3_copyFrom 32 = .ok (.aload_n 0, 1) := by decide +kernel
theorem dX3_copyFrom_33 : decode cX3_copyFrom 33 = .ok (.aload_n 1, 1) := by decide +kernel
theorem dX3_copyFrom_34 : decode cX3_copyFrom 34 = .ok (.getfield 37, 3) := by decide +kernel
theorem dX3_copyFrom_37 : decode cX3_copyFrom 37 = .ok (.putfield 37, 3) := by decide +kernel
theorem dX3_copyFrom_40 : decode cX3_copyFrom 40 = .ok (.iconst 0, 1) := by decide +kernel
theorem dX3_copyFrom_41 : decode cX3_copyFrom 41 = .ok (.istore_n 2, 1) := by decide +kernel
theorem dX3_copyFrom_42 : decode cX3_copyFrom 42 = .ok (.iload_n 2, 1) := by decide +kernel
theorem dX3_copyFrom_43 : decode cX3_copyFrom 43 = .ok (.bipush 8, 2) := by decide +kernel
theorem dX3_copyFrom_45 : decode cX3_copyFrom 45 = .ok (.if_icmp .ge 57, 3) := by decide +kernel
theorem dX3_copyFrom_48 : decode cX3_copyFrom 48 = .ok (.aload_n 0, 1) := by decide +kernel
theorem dX3_copyFrom_49 : decode cX3_copyFrom 49 = .ok (.getfield 15, 3) := by decide +kernel
theorem dX3_copyFrom_52 : decode cX3_copyFrom 52 = .ok (.iload_n 2, 1) := by decide +kernel
theorem dX3_copyFrom_53 : decode cX3_copyFrom 53 = .ok (.aload_n 1, 1) := by decide +kernel
theorem dX3_copyFrom_54 : decode cX3_copyFrom 54 = .ok (.getfield 15, 3) := by decide +kernel
theorem dX3_copyFrom_57 : decode cX3_copyFrom 57 = .ok (.iload_n 2, 1) := by decide +kernel
theorem dX3_copyFrom_58 : decode cX3_copyFrom 58 = .ok (.iaload, 1) := by decide +kernel
theorem dX3_copyFrom_59 : decode cX3_copyFrom 59 = .ok (.iastore, 1) := by decide +kernel
theorem dX3_copyFrom_60 : decode cX3_copyFrom 60 = .ok (.aload_n 0, 1) := by decide +kernel
theorem dX3_copyFrom_61 : decode cX3_copyFrom 61 = .ok (.getfield 19, 3) := by decide +kernel
theorem dX3_copyFrom_64 : decode cX3_copyFrom 64 = .ok (.iload_n 2, 1) := by decide +kernel
theorem dX3_copyFrom_65 : decode cX3_copyFrom 65 = .ok (.aload_n 1, 1) := by decide +kernel
theorem dX3_copyFrom_66 : decode cX3_copyFrom 66 = .ok (.getfield 19, 3) := by decide +kernel
theorem dX3_copyFrom_69 : decode cX3_copyFrom 69 = .ok (.iload_n 2, 1) := by decide +kernel
theorem dX3_copyFrom_70 : decode cX3_copyFrom 70 = .ok (.iaload, 1) := by decide +kernel
theorem dX3_copyFrom_71 : decode cX3_copyFrom 71 = .ok (.iastore, 1) := by decide +kernel
theorem dX3_copyFrom_72 : decode cX3_copyFrom 72 = .ok (.aload_n 0, 1) := by decide +kernel
theorem dX3_copyFrom_73 : decode cX3_copyFrom 73 = .ok (.getfield 22, 3) := by decide +kernel
theorem dX3_copyFrom_76 : decode cX3_copyFrom 76 = .ok (.iload_n 2, 1) := by decide +kernel
theorem dX3_copyFrom_77 : decode cX3_copyFrom 77 = .ok (.aload_n 1, 1) := by decide +kernel
theorem dX3_copyFrom_78 : decode cX3_copyFrom 78 = .ok (.getfield 22, 3) := by decide +kernel
theorem dX3_copyFrom_81 : decode cX3_copyFrom 81 = .ok (.iload_n 2, 1) := by decide +kernel
theorem dX3_copyFrom_82 : decode cX3_copyFrom 82 = .ok (.iaload, 1) := by decide +kernel
theorem dX3_copyFrom_83 : decode cX3_copyFrom 83 = .ok (.iastore, 1) := by decide +kernel
theorem dX3_copyFrom_84 : decode cX3_copyFrom 84 = .ok (.aload_n 0, 1) := by decide +kernel
theorem dX3_copyFrom_85 : decode cX3_copyFrom 85 = .ok (.getfield 25, 3) := by decide +kernel
theorem dX3_copyFrom_88 : decode cX3_copyFrom 88 = .ok (.iload_n 2, 1) := by decide +kernel
theorem dX3_copyFrom_89 : decode cX3_copyFrom 89 = .ok (.aload_n 1, 1) := by decide +kernel
theorem dX3_copyFrom_90 : decode cX3_copyFrom 90 = .ok (.getfield 25, 3) := by decide +kernel
theorem dX3_copyFrom_93 : decode cX3_copyFrom 93 = .ok (.iload_n 2, 1) := by decide +kernel
theorem dX3_copyFrom_94 : decode cX3_copyFrom 94 = .ok (.iaload, 1) := by decide +kernel
theorem dX3_copyFrom_95 : decode cX3_copyFrom 95 = .ok (.iastore, 1) := by decide +kernel
theorem dX3_copyFrom_96 : decode cX3_copyFrom 96 = .ok (.iinc 2 1, 3) := by decide +kernel
theorem dX3_copyFrom_99 : decode cX3_copyFrom 99 = .ok (.goto (-57), 3) := by decide +kernel
theorem dX3_copyFrom_102 : decode cX3_copyFrom 102 = .ok (.return_, 1) := by decide +kernel
theorem dX3_hasRod_0 : decode cX3_hasRod 0 = .ok (.iload_n 1, 1) := by decide +kernel
theorem dX3_hasRod_1 : decode cX3_hasRod 1 = .ok (.ifCond .lt 15, 3) := by decide +kernel
theorem dX3_hasRod_4 : decode cX3_hasRod 4 = .ok (.iload_n 1, 1) := by decide +kernel
theorem dX3_hasRod_5 : decode cX3_hasRod 5 = .ok (.aload_n 0, 1) := by decide +kernel
