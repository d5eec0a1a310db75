theorem dX5_init_1 : decode cX5_init 1 = .ok (.invokespecial 1, 3) := by decide +kernel
theorem dX5_init_4 : decode cX5_init 4 = .ok (.aload_n 0, 1) := by decide +kernel
theorem dX5_init_5 : decode cX5_init 5 = .ok (.new 7, 3) := by decide +kernel
theorem dX5_init_8 : decode cX5_init 8 = .ok (.dup, 1) := by decide +kernel
theorem dX5_init_9 : decode cX5_init 9 = .ok (.invokespecial 9, 3) := by decide +kernel
theorem dX5_init_12 : decode cX5_init 12 = .ok (.putfield 10, 3) := by decide +kernel
theorem dX5_init_15 : decode cX5_init 15 = .ok (.aload_n 0, 1) := by decide +kernel
theorem dX5_init_16 : decode cX5_init 16 = .ok (.new 7, 3) := by decide +kernel
theorem dX5_init_19 : decode cX5_init 19 = .ok (.dup, 1) := by decide +kernel
theorem dX5_init_20 : decode cX5_init 20 = .ok (.invokespecial 9, 3) := by decide +kernel
theorem dX5_init_23 : decode cX5_init 23 = .ok (.putfield 16, 3) := by decide +kernel
theorem dX5_init_26 : decode cX5_init 26 = .ok (.aload_n 0, 1) := by decide +kernel
theorem dX5_init_27 : decode cX5_init 27 = .ok (.new 19, 3) := by decide +kernel
theorem dX5_init_30 : decode cX5_init 30 = .ok (.dup, 1) := by decide +kernel
theorem dX5_init_31 : decode cX5_init 31 = .ok (.invokespecial 21, 3) := by decide +kernel
theorem dX5_init_34 : decode cX5_init 34 = .ok (.putfield 22, 3) := by decide +kernel
theorem dX5_init_37 : decode cX5_init 37 = .ok (.aload_n 0, 1) := by decide +kernel
theorem dX5_init_38 : decode cX5_init 38 = .ok (.new 26, 3) := by decide +kernel
theorem dX5_init_41 : decode cX5_init 41 = .ok (.dup, 1) := by decide +kernel
theorem dX5_init_42 : decode cX5_init 42 = .ok (.invokespecial 28, 3) := by decide +kernel
theorem dX5_init_45 : decode cX5_init 45 = .ok (.putfield 29, 3) := by decide +kernel
theorem dX5_init_48 : decode cX5_init 48 = .ok (.aload_n 0, 1) := by decide +kernel
theorem dX5_init_49 : decode cX5_init 49 = .ok (.new 33, 3) := by decide +kernel
theorem dX5_init_52 : decode cX5_init 52 = .ok (.dup, 1) := by decide +kernel
theorem dX5_init_53 : decode cX5_init 53 = .ok (.invokespecial 35, 3) := by decide +kernel
theorem dX5_init_56 : decode cX5_init 56 = .ok (.putfield 36, 3) := by decide +kernel
theorem dX5_init_59 : decode cX5_init 59 = .ok (.aload_n 0, 1) := by decide +kernel
theorem dX5_init_60 : decode cX5_init 60 = .ok (.new 40, 3) := by decide +kernel
theorem dX5_init_63 : decode cX5_init 63 = .ok (.dup, 1) := by decide +kernel
theorem dX5_init_64 : decode cX5_init 64 = .ok (.invokespecial 42, 3) := by decide +kernel
theorem dX5_init_67 : decode cX5_init 67 = .ok (.putfield 43, 3) := by decide +kernel
theorem dX5_init_70 : decode cX5_init 70 = .ok (.aload_n 0, 1) := by decide +kernel
theorem dX5_init_71 : decode cX5_init 71 = .ok (.iconst 0, 1) := by decide +kernel
theorem dX5_init_72 : decode cX5_init 72 = .ok (.putfield 47, 3) := by decide +kernel
theorem dX5_init_75 : decode cX5_init 75 = .ok (.return_, 1) := by decide +kernel
set_option maxRecDepth 20000 in
theorem ggX5_setRing_X1_record : GoodIn wsX5_setRing wsX1_record := goodIn_r _ [9, 10, 11, 12, 13, 14, 8, 15, 16, 17, 18, 19, 20, 21, 22, 23, 24, 25, 26, 27, 28, 29, 30, 31, 32, 49, 50, 40, 41, 42, 43, 44, 45, 46, 47, 48] (by decide +kernel) (by decide +kernel)
set_option maxRecDepth 20000 in
theorem gX5_setRing_X1_record : GoodIn wsX5_setRing (wsV RX5 58 RX1 yX1_record wsX1_record) := goodIn_app (goodIn_of _ (by decide +kernel)) ggX5_setRing_X1_record
theorem dX5_setRing_0 : decode cX5_setRing 0 = .ok (.iload_n 1, 1) := by decide +kernel
theorem dX5_setRing_1 : decode cX5_setRing 1 = .ok (.bipush 20, 2) := by decide +kernel
theorem dX5_setRing_3 : decode cX5_setRing 3 = .ok (.if_icmp .lt 10, 3) := by decide +kernel
theorem dX5_setRing_6 : decode cX5_setRing 6 = .ok (.iload_n 1, 1) := by decide +kernel
theorem dX5_setRing_7 : decode cX5_setRing 7 = .ok (.sipush 1000, 3) := by decide +kernel
theorem dX5_setRing_10 : decode cX5_setRing 10 = .ok (.if_icmp .le 6, 3) := by decide +kernel
theorem dX5_setRing_13 : decode cX5_setRing 13 = .ok (.bipush (-2), 2) := by decide +kernel
theorem dX5_setRing_15 : decode cX5_setRing 15 = .ok (.ireturn, 1) := by decide +kernel
theorem dX5_setRing_16 : decode cX5_setRing 16 = .ok (.aload_n 0, 1) := by decide +kernel
theorem dX5_setRing_17 : decode cX5_setRing 17 = .ok (.getfield 10, 3) := by decide +kernel
theorem dX5_setRing_20 : decode cX5_setRing 20 = .ok (.getfield 51, 3) := by decide +kernel
theorem dX5_setRing_23 : decode cX5_setRing 23 = .ok (.ifCond .le 6, 3) := by decide +kernel
theorem dX5_setRing_26 : decode cX5_setRing 26 = .ok (.bipush (-4), 2) := by decide +kernel
theorem dX5_setRing_28 : decode cX5_setRing 28 = .ok (.ireturn, 1) := by decide +kernel
theorem dX5_setRing_29 : decode cX5_setRing 29 = .ok (.iload_n 1, 1) := by decide +kernel
theorem dX5_setRing_30 : decode cX5_setRing 30 = .ok (.aload_n 0, 1) := by decide +kernel
theorem dX5_setRing_31 : decode cX5_setRing 31 = .ok (.getfield 10, 3) := by decide +kernel
theorem dX5_setRing_34 : decode cX5_setRing 34 = .ok (.getfield 55, 3) := by decide +kernel
theorem dX5_setRing_37 : decode cX5_setRing 37 = .ok (.if_icmp .ne 6, 3) := by decide +kernel
theorem dX5_setRing_40 : decode cX5_setRing 40 = .ok (.bipush (-5), 2) := by decide +kernel
theorem dX5_setRing_42 : decode cX5_setRing 42 = .ok (.ireturn, 1) := by decide +kernel
theorem dX5_setRing_43 : decode cX5_setRing 43 = .ok (.aload_n 0, 1) := by decide +kernel
theorem dX5_setRing_44 : decode cX5_setRing 44 = .ok (.getfield 22, 3) := by decide +kernel
theorem dX5_setRing_47 : decode cX5_setRing 47 = .ok (.aload_n 0, 1) := by decide +kernel
theorem dX5_setRing_48 : decode cX5_setRing 48 = .ok (.getfield 10, 3) := by decide +kernel
theorem dX5_setRing_51 : decode cX5_setRing 51 = .ok (.invokevirtual 58, 3) := by decide +kernel
theorem dX5_setRing_54 : decode cX5_setRing 54 = .ok (.aload_n 0, 1) := by decide +kernel
theorem dX5_setRing_55 : decode cX5_setRing 55 = .ok (.getfield 10, 3) := by decide +kernel
theorem dX5_setRing_58 : decode cX5_setRing 58 = .ok (.getfield 55, 3) := by decide +kernel
theorem dX5_setRing_61 : decode cX5_setRing 61 = .ok (.istore_n 2, 1) := by decide +kernel
theorem dX5_setRing_62 : decode cX5_setRing 62 = .ok (.aload_n 0, 1) := by decide +kernel
theorem dX5_setRing_63 : decode cX5_setRing 63 = .ok (.getfield 10, 3) := by decide +kernel
theorem dX5_setRing_66 : decode cX5_setRing 66 = .ok (.iload_n 1, 1) := by decide +kernel
theorem dX5_setRing_67 : decode cX5_setRing 67 = .ok (.putfield 55, 3) := by decide +kernel
theorem dX5_setRing_70 : decode cX5_setRing 70 = .ok (.iload_n 2, 1) := by decide +kernel
theorem dX5_setRing_71 : decode cX5_setRing 71 = .ok (.ireturn, 1) := by decide +kernel
set_option maxRecDepth 20000 in
theorem ggX5_addRod_X3_hasPlace : GoodIn wsX5_addRod wsX3_hasPlace := goodIn_r _ [8, 9, 71, 72, 73, 74, 75, 76, 77, 78, 79] (by decide +kernel) (by decide +kernel)
set_option maxRecDepth 20000 in
theorem gX5_addRod_X3_hasPlace : GoodIn wsX5_addRod (wsV RX5 62 RX3 yX3_hasPlace wsX3_hasPlace) := goodIn_app (goodIn_of _ (by decide +kernel)) ggX5_addRod_X3_hasPlace
set_option maxRecDepth 20000 in
theorem ggX5_addRod_X5_isSpeed : GoodIn wsX5_addRod wsX5_isSpeed := goodIn_r _ [13] (by decide +kernel) (by decide +kernel)
set_option maxRecDepth 20000 in
theorem gX5_addRod_X5_isSpeed : GoodIn wsX5_addRod (va_wsS RX5 66 yX5_isSpeed wsX5_isSpeed) := goodIn_app (goodIn_of _ (by decide +kernel)) ggX5_addRod_X5_isSpeed
set_option maxRecDepth 20000 in
theorem ggX5_addRod_X3_hasRoom : GoodIn wsX5_addRod wsX3_hasRoom := goodIn_r _ [17, 18, 19, 20, 7, 21, 9, 22, 23, 24, 25, 26, 27, 28, 29, 30, 31, 32, 33, 34, 35, 36, 71, 72, 73, 74, 75, 76, 77, 78, 79] (by decide +kernel) (by decide +kernel)
set_option maxRecDepth 20000 in
theorem gX5_addRod_X3_hasRoom : GoodIn wsX5_addRod (wsV RX5 69 RX3 yX3_hasRoom wsX3_hasRoom) := goodIn_app (goodIn_of _ (by decide +kernel)) ggX5_addRod_X3_hasRoom
set_option maxRecDepth 20000 in
theorem ggX5_addRod_X1_record : GoodIn wsX5_addRod wsX1_record := goodIn_r _ [41, 42, 43, 44, 45, 46, 40, 47, 48, 49, 50, 51, 52, 53, 7, 54, 9, 22, 55, 56, 57, 36, 23, 58, 59, 80, 81, 71, 72, 73, 74, 75, 76, 77, 78, 79] (by decide +kernel) (by decide +kernel)
set_option maxRecDepth 20000 in
theorem gX5_addRod_X1_record : GoodIn wsX5_addRod (wsV RX5 58 RX1 yX1_record wsX1_record) := goodIn_app (goodIn_of _ (by decide +kernel)) ggX5_addRod_X1_record
set_option maxRecDepth 20000 in
theorem ggX5_addRod_X3_append : GoodIn wsX5_addRod wsX3_append := goodIn_r _ [63, 22, 36, 23, 58, 59, 71, 72, 73, 74, 75, 76, 77, 78, 79] (by decide +kernel) (by decide +kernel)
set_option maxRecDepth 20000 in
theorem gX5_addRod_X3_append : GoodIn wsX5_addRod (wsV RX5 73 RX3 yX3_append wsX3_append) := goodIn_app (goodIn_of _ (by decide +kernel)) ggX5_addRod_X3_append
theorem dX5_addRod_0 : decode cX5_addRod 0 = .ok (.aload_n 0, 1) := by decide +kernel
theorem dX5_addRod_1 : decode cX5_addRod 1 = .ok (.getfield 10, 3) := by decide +kernel
theorem dX5_addRod_4 : decode cX5_addRod 4 = .ok (.iload_n 1, 1) := by decide +kernel
theorem dX5_addRod_5 : decode cX5_addRod 5 = .ok (.invokevirtual 62, 3) := by decide +kernel
theorem dX5_addRod_8 : decode cX5_addRod 8 = .ok (.ifCond .ne 5, 3) := by decide +kernel
theorem dX5_addRod_11 : decode cX5_addRod 11 = .ok (.iconst (-1), 1) := by decide +kernel
theorem dX5_addRod_12 : decode cX5_addRod 12 = .ok (.ireturn, 1) := by decide +kernel
theorem dX5_addRod_13 : decode cX5_addRod 13 = .ok (.iload_n 2, 1) := by decide +kernel
theorem dX5_addRod_14 : decode cX5_addRod 14 = .ok (.iconst 1, 1) := by decide +kernel
theorem dX5_addRod_15 : decode cX5_addRod 15 = .ok (.if_icmp .lt 16, 3) := by decide +kernel
theorem dX5_addRod_18 : decode cX5_addRod 18 = .ok (.iload_n 2, 1) := by decide +kernel
theorem dX5_addRod_19 : decode cX5_addRod 19 = .ok (.bipush 20, 2) := by decide +kernel
theorem dX5_addRod_21 : decode cX5_addRod 21 = .ok (.if_icmp .gt 10, 3) := by decide +kernel
theorem dX5_addRod_24 : decode cX5_addRod 24 = .ok (.iload_n 3, 1) := by decide +kernel
theorem dX5_addRod_25 : decode cX5_addRod 25 = .ok (.invokestatic 66, 3) := by decide +kernel
theorem dX5_addRod_28 : decode cX5_addRod 28 = .ok (.ifCond .ne 6, 3) := by decide +kernel
theorem dX5_addRod_31 : decode cX5_addRod 31 = .ok (.bipush (-2), 2) := by decide +kernel
theorem dX5_addRod_33 : decode cX5_addRod 33 = .ok (.ireturn, 1) := by decide +kernel
theorem dX5_addRod_34 : decode cX5_addRod 34 = .ok (.aload_n 0, 1) := by decide +kernel
theorem dX5_addRod_35 : decode cX5_addRod 35 = .ok (.getfield 10, 3) := by decide +kernel
theorem dX5_addRod_38 : decode cX5_addRod 38 = .ok (.getfield 51, 3) := by decide +kernel
theorem dX5_addRod_41 : decode cX5_addRod 41 = .ok (.bipush 8, 2) := by decide +kernel
theorem dX5_addRod_43 : decode cX5_addRod 43 = .ok (.if_icmp .lt 6, 3) := by decide +kernel
theorem dX5_addRod_46 : decode cX5_addRod 46 = .ok (.bipush (-3), 2) := by decide +kernel
theorem dX5_addRod_48 : decode cX5_addRod 48 = .ok (.ireturn, 1) := by decide +kernel
theorem dX5_addRod_49 : decode cX5_addRod 49 = .ok (.aload_n 0, 1) := by decide +kernel
theorem dX5_addRod_50 : decode cX5_addRod 50 = .ok (.getfield 10, 3) := by decide +kernel
theorem dX5_addRod_53 : decode cX5_addRod 53 = .ok (.iload_n 1, 1) := by decide +kernel
theorem dX5_addRod_54 : decode cX5_addRod 54 = .ok (.iload_n 2, 1) := by decide +kernel
theorem dX5_addRod_55 : decode cX5_addRod 55 = .ok (.invokevirtual 69, 3) := by decide +kernel
theorem dX5_addRod_58 : decode cX5_addRod 58 = .ok (.ifCond .ne 6, 3) := by decide +kernel
theorem dX5_addRod_61 : decode cX5_addRod 61 = .ok (.bipush (-4), 2) := by decide +kernel
theorem dX5_addRod_63 : decode cX5_addRod 63 = .ok (.ireturn, 1) := by decide +kernel
theorem dX5_addRod_64 : decode cX5_addRod 64 = .ok (.aload_n 0, 1) := by decide +kernel
theorem dX5_addRod_65 : decode cX5_addRod 65 = .ok (.getfield 22, 3) := by decide +kernel
theorem dX5_addRod_68 : decode cX5_addRod 68 = .ok (.aload_n 0, 1) := by decide +kernel
theorem dX5_addRod_69 : decode cX5_addRod 69 = .ok (.getfield 10, 3) := by decide +kernel
theorem dX5_addRod_72 : decode cX5_addRod 72 = .ok (.invokevirtual 58, 3) := by decide +kernel
theorem dX5_addRod_75 : decode cX5_addRod 75 = .ok (.aload_n 0, 1) := by decide +kernel
theorem dX5_addRod_76 : decode cX5_addRod 76 = .ok (.getfield 10, 3) := by decide +kernel
theorem dX5_addRod_79 : decode cX5_addRod 79 = .ok (.iload_n 1, 1) := by decide +kernel
theorem dX5_addRod_80 : decode cX5_addRod 80 = .ok (.iload_n 2, 1) := by decide +kernel
theorem dX5_addRod_81 : decode cX5_addRod 81 = .ok (.iload_n 3, 1) := by decide +kernel
theorem dX5_addRod_82 : decode cX5_addRod 82 = .ok (.invokevirtual 73, 3) := by decide +kernel
theorem dX5_addRod_85 : decode cX5_addRod 85 = .ok (.ireturn, 1) := by decide +kernel
set_option maxRecDepth 20000 in
theorem ggX5_removeRod_X3_hasRod : GoodIn wsX5_removeRod wsX3_hasRod := goodIn_r _ [8, 9, 47, 48, 49, 50, 51, 52, 53, 54, 55] (by decide +kernel) (by decide +kernel)
set_option maxRecDepth 20000 in
theorem gX5_removeRod_X3_hasRod : GoodIn wsX5_removeRod (wsV RX5 77 RX3 yX3_hasRod wsX3_hasRod) := goodIn_app (goodIn_of _ (by decide +kernel)) ggX5_removeRod_X3_hasRod
set_option maxRecDepth 20000 in
theorem ggX5_removeRod_X1_record : GoodIn wsX5_removeRod wsX1_record := goodIn_r _ [14, 15, 16, 17, 18, 19, 13, 20, 21, 22, 23, 24, 25, 26, 7, 27, 28, 9, 29, 30, 31, 32, 33, 34, 35, 56, 57, 47, 48, 49, 50, 51, 52, 53, 54, 55] (by decide +kernel) (by decide +kernel)
set_option maxRecDepth 20000 in
theorem gX5_removeRod_X1_record : GoodIn wsX5_removeRod (wsV RX5 58 RX1 yX1_record wsX1_record) := goodIn_app (goodIn_of _ (by decide +kernel)) ggX5_removeRod_X1_record
set_option maxRecDepth 20000 in
theorem ggX5_removeRod_X3_drop : GoodIn wsX5_removeRod wsX3_drop := goodIn_r _ [39, 9, 32, 33, 34, 35, 47, 48, 49, 50, 51, 52, 53, 54, 55] (by decide +kernel) (by decide +kernel)
set_option maxRecDepth 20000 in
theorem gX5_removeRod_X3_drop : GoodIn wsX5_removeRod (wsV RX5 80 RX3 yX3_drop wsX3_drop) := goodIn_app (goodIn_of _ (by decide +kernel)) ggX5_removeRod_X3_drop
theorem dX5_removeRod_0 : decode cX5_removeRod 0 = .ok (.aload_n 0, 1) := by decide +kernel
theorem dX5_removeRod_1 : decode cX5_removeRod 1 = .ok (.getfield 10, 3) := by decide +kernel
theorem dX5_removeRod_4 : decode cX5_removeRod 4 = .ok (.iload_n 1, 1) := by decide +kernel
theorem dX5_removeRod_5 : decode cX5_removeRod 5 = .ok (.invokevirtual 77, 3) := by decide +kernel
theorem dX5_removeRod_8 : decode cX5_removeRod 8 = .ok (.ifCond .ne 5, 3) := by decide +kernel
theorem dX5_removeRod_11 : decode cX5_removeRod 11 = .ok (.iconst (-1), 1) := by decide +kernel
theorem dX5_removeRod_12 : decode cX5_removeRod 12 = .ok (.ireturn, 1) := by decide +kernel
theorem dX5_removeRod_13 : decode cX5_removeRod 13 = .ok (.aload_n 0, 1) := by decide +kernel
theorem dX5_removeRod_14 : decode cX5_removeRod 14 = .ok (.getfield 22, 3) := by decide +kernel
theorem dX5_removeRod_17 : decode cX5_removeRod 17 = .ok (.aload_n 0, 1) := by decide +kernel
theorem dX5_removeRod_18 : decode cX5_removeRod 18 = .ok (.getfield 10, 3) := by decide +kernel
theorem dX5_removeRod_21 : decode cX5_removeRod 21 = .ok (.invokevirtual 58, 3) := by decide +kernel
theorem dX5_removeRod_24 : decode cX5_removeRod 24 = .ok (.aload_n 0, 1) := by decide +kernel
theorem dX5_removeRod_25 : decode cX5_removeRod 25 = .ok (.getfield 10, 3) := by decide +kernel
theorem dX5_removeRod_28 : decode cX5_removeRod 28 = .ok (.iload_n 1, 1) := by decide +kernel
theorem dX5_removeRod_29 : decode cX5_removeRod 29 = .ok (.invokevirtual 80, 3) := by decide +kernel
theorem dX5_removeRod_32 : decode cX5_removeRod 32 = .ok (.aload_n 0, 1) := by decide +kernel
theorem dX5_removeRod_33 : decode cX5_removeRod 33 = .ok (.getfield 10, 3) := by decide +kernel
theorem dX5_removeRod_36 : decode cX5_removeRod 36 = .ok (.getfield 51, 3) := by decide +kernel
theorem dX5_removeRod_39 : decode cX5_removeRod 39 = .ok (.ireturn, 1) := by decide +kernel
set_option maxRecDepth 20000 in
theorem ggX5_setSpeed_X3_hasRod : GoodIn wsX5_setSpeed wsX3_hasRod := goodIn_r _ [8, 9, 47, 48, 49, 50, 51, 52, 53, 54, 55] (by decide +kernel) (by decide +kernel)
set_option maxRecDepth 20000 in
theorem gX5_setSpeed_X3_hasRod : GoodIn wsX5_setSpeed (wsV RX5 77 RX3 yX3_hasRod wsX3_hasRod) := goodIn_app (goodIn_of _ (by decide +kernel)) ggX5_setSpeed_X3_hasRod
set_option maxRecDepth 20000 in
theorem ggX5_setSpeed_X5_isSpeed : GoodIn wsX5_setSpeed wsX5_isSpeed := goodIn_r _ [13] (by decide +kernel) (by decide +kernel)
set_option maxRecDepth 20000 in
theorem gX5_setSpeed_X5_isSpeed : GoodIn wsX5_setSpeed (va_wsS RX5 66 yX5_isSpeed wsX5_isSpeed) := goodIn_app (goodIn_of _ (by decide +kernel)) ggX5_setSpeed_X5_isSpeed
set_option maxRecDepth 20000 in
theorem ggX5_setSpeed_X1_record : GoodIn wsX5_setSpeed wsX1_record := goodIn_r _ [18, 19, 20, 21, 22, 23, 17, 24, 25, 26, 27, 28, 29, 30, 7, 31, 32, 9, 33, 34, 35, 36, 37, 38, 39, 56, 57, 47, 48, 49, 50, 51, 52, 53, 54, 55] (by decide +kernel) (by decide +kernel)
set_option maxRecDepth 20000 in
theorem gX5_setSpeed_X1_record : GoodIn wsX5_setSpeed (wsV RX5 58 RX1 yX1_record wsX1_record) := goodIn_app (goodIn_of _ (by decide +kernel)) ggX5_setSpeed_X1_record
theorem dX5_setSpeed_0 : decode cX5_setSpeed 0 = .ok (.aload_n 0, 1) := by decide +kernel
theorem dX5_setSpeed_1 : decode cX5_setSpeed 1 = .ok (.getfield 10, 3) := by decide +kernel
theorem dX5_setSpeed_4 : decode cX5_setSpeed 4 = .ok (.iload_n 1, 1) := by decide +kernel
theorem dX5_setSpeed_5 : decode cX5_setSpeed 5 = .ok (.invokevirtual 77, 3) := by decide +kernel
theorem dX5_setSpeed_8 : decode cX5_setSpeed 8 = .ok (.ifCond .ne 5, 3) := by decide +kernel
theorem dX5_setSpeed_11 : decode cX5_setSpeed 11 = .ok (.iconst (-1), 1) := by decide +kernel
theorem dX5_setSpeed_12 : decode cX5_setSpeed 12 = .ok (.ireturn, 1) := by decide +kernel
theorem dX5_setSpeed_13 : decode cX5_setSpeed 13 = .ok (.iload_n 2, 1) := by decide +kernel
theorem dX5_setSpeed_14 : decode cX5_setSpeed 14 = .ok (.invokestatic 66, 3) := by decide +kernel
theorem dX5_setSpeed_17 : decode cX5_setSpeed 17 = .ok (.ifCond .ne 6, 3) := by decide +kernel
theorem dX5_setSpeed_20 : decode cX5_setSpeed 20 = .ok (.bipush (-2), 2) := by decide +kernel
theorem dX5_setSpeed_22 : decode cX5_setSpeed 22 = .ok (.ireturn, 1) := by decide +kernel
theorem dX5_setSpeed_23 : decode cX5_setSpeed 23 = .ok (.aload_n 0, 1) := by decide +kernel
theorem dX5_setSpeed_24 : decode cX5_setSpeed 24 = .ok (.getfield 10, 3) := by decide +kernel
theorem dX5_setSpeed_27 : decode cX5_setSpeed 27 = .ok (.getfield 84, 3) := by decide +kernel
theorem dX5_setSpeed_30 : decode cX5_setSpeed 30 = .ok (.iload_n 1, 1) := by decide +kernel
theorem dX5_setSpeed_31 : decode cX5_setSpeed 31 = .ok (.iaload, 1) := by decide +kernel
theorem dX5_setSpeed_32 : decode cX5_setSpeed 32 = .ok (.istore_n 3, 1) := by decide +kernel
theorem dX5_setSpeed_33 : decode cX5_setSpeed 33 = .ok (.iload_n 2, 1) := by decide +kernel
theorem dX5_setSpeed_34 : decode cX5_setSpeed 34 = .ok (.iload_n 3, 1) := by decide +kernel
theorem dX5_setSpeed_35 : decode cX5_setSpeed 35 = .ok (.if_icmp .ne 6, 3) := by decide +kernel
theorem dX5_setSpeed_38 : decode cX5_setSpeed 38 = .ok (.bipush (-5), 2) := by decide +kernel
theorem dX5_setSpeed_40 : decode cX5_setSpeed 40 = .ok (.ireturn, 1) := by decide +kernel
theorem dX5_setSpeed_41 : decode cX5_setSpeed 41 = .ok (.aload_n 0, 1) := by decide +kernel
theorem dX5_setSpeed_42 : decode cX5_setSpeed 42 = .ok (.getfield 22, 3) := by decide +kernel
theorem dX5_setSpeed_45 : decode cX5_setSpeed 45 = .ok (.aload_n 0, 1) := by decide +kernel
theorem dX5_setSpeed_46 : decode cX5_setSpeed 46 = .ok (.getfield 10, 3) := by decide +kernel
theorem dX5_setSpeed_49 : decode cX5_setSpeed 49 = .ok (.invokevirtual 58, 3) := by decide +kernel
theorem dX5_setSpeed_52 : decode cX5_setSpeed 52 = .ok (.aload_n 0, 1) := by decide +kernel
theorem dX5_setSpeed_53 : decode cX5_setSpeed 53 = .ok (.getfield 10, 3) := by decide +kernel
theorem dX5_setSpeed_56 : decode cX5_setSpeed 56 = .ok (.getfield 84, 3) := by decide +kernel
theorem dX5_setSpeed_59 : decode cX5_setSpeed 59 = .ok (.iload_n 1, 1) := by decide +kernel
theorem dX5_setSpeed_60 : decode cX5_setSpeed 60 = .ok (.iload_n 2, 1) := by decide +kernel
theorem dX5_setSpeed_61 : decode cX5_setSpeed 61 = .ok (.iastore, 1) := by decide +kernel
theorem dX5_setSpeed_62 : decode cX5_setSpeed 62 = .ok (.bipush 100, 2) := by decide +kernel
theorem dX5_setSpeed_64 : decode cX5_setSpeed 64 = .ok (.iload_n 3, 1) := by decide +kernel
theorem dX5_setSpeed_65 : decode cX5_setSpeed 65 = .ok (.iadd, 1) := by decide +kernel
theorem dX5_setSpeed_66 : decode cX5_setSpeed 66 = .ok (.ireturn, 1) := by decide +kernel
set_option maxRecDepth 20000 in
theorem ggX5_reverse_X3_movingRods : GoodIn wsX5_reverse wsX3_movingRods := goodIn_r _ [7, 8, 9, 46, 47, 48, 49, 50, 51, 52, 53, 54] (by decide +kernel) (by decide +kernel)
set_option maxRecDepth 20000 in
theorem gX5_reverse_X3_movingRods : GoodIn wsX5_reverse (wsV RX5 88 RX3 yX3_movingRods wsX3_movingRods) := goodIn_app (goodIn_of _ (by decide +kernel)) ggX5_reverse_X3_movingRods
set_option maxRecDepth 20000 in
theorem ggX5_reverse_X1_record : GoodIn wsX5_reverse wsX1_record := goodIn_r _ [14, 15, 16, 17, 18, 19, 13, 20, 21, 22, 23, 24, 25, 26, 6, 27, 28, 8, 29, 30, 31, 32, 33, 9, 34, 55, 56, 46, 47, 48, 49, 50, 51, 52, 53, 54] (by decide +kernel) (by decide +kernel)
set_option maxRecDepth 20000 in
theorem gX5_reverse_X1_record : GoodIn wsX5_reverse (wsV RX5 58 RX1 yX1_record wsX1_record) := goodIn_app (goodIn_of _ (by decide +kernel)) ggX5_reverse_X1_record
set_option maxRecDepth 20000 in
theorem ggX5_reverse_X3_turnRound : GoodIn wsX5_reverse wsX3_turnRound := goodIn_r _ [38, 8, 9, 46, 47, 48, 49, 50, 51, 52, 53, 54] (by decide +kernel) (by decide +kernel)
set_option maxRecDepth 20000 in
theorem gX5_reverse_X3_turnRound : GoodIn wsX5_reverse (wsV RX5 92 RX3 yX3_turnRound wsX3_turnRound) := goodIn_app (goodIn_of _ (by decide +kernel)) ggX5_reverse_X3_turnRound
theorem dX5_reverse_0 : decode cX5_reverse 0 = .ok (.aload_n 0, 1) := by decide +kernel
theorem dX5_reverse_1 : decode cX5_reverse 1 = .ok (.getfield 10, 3) := by decide +kernel
theorem dX5_reverse_4 : decode cX5_reverse 4 = .ok (.invokevirtual 88, 3) := by decide +kernel
theorem dX5_reverse_7 : decode cX5_reverse 7 = .ok (.istore_n 1, 1) := by decide +kernel
theorem dX5_reverse_8 : decode cX5_reverse 8 = .ok (.iload_n 1, 1) := by decide +kernel
theorem dX5_reverse_9 : decode cX5_reverse 9 = .ok (.ifCond .ne 6, 3) := by decide +kernel
theorem dX5_reverse_12 : decode cX5_reverse 12 = .ok (.bipush (-5), 2) := by decide +kernel
theorem dX5_reverse_14 : decode cX5_reverse 14 = .ok (.ireturn, 1) := by decide +kernel
theorem dX5_reverse_15 : decode cX5_reverse 15 = .ok (.aload_n 0, 1) := by decide +kernel
theorem dX5_reverse_16 : decode cX5_reverse 16 = .ok (.getfield 22, 3) := by decide +kernel
theorem dX5_reverse_19 : decode cX5_reverse 19 = .ok (.aload_n 0, 1) := by decide +kernel
theorem dX5_reverse_20 : decode cX5_reverse 20 = .ok (.getfield 10, 3) := by decide +kernel
theorem dX5_reverse_23 : decode cX5_reverse 23 = .ok (.invokevirtual 58, 3) := by decide +kernel
theorem dX5_reverse_26 : decode cX5_reverse 26 = .ok (.aload_n 0, 1) := by decide +kernel
theorem dX5_reverse_27 : decode cX5_reverse 27 = .ok (.getfield 10, 3) := by decide +kernel
theorem dX5_reverse_30 : decode cX5_reverse 30 = .ok (.invokevirtual 92, 3) := by decide +kernel
theorem dX5_reverse_33 : decode cX5_reverse 33 = .ok (.iload_n 1, 1) := by decide +kernel
theorem dX5_reverse_34 : decode cX5_reverse 34 = .ok (.ireturn, 1) := by decide +kernel
set_option maxRecDepth 20000 in
theorem ggX5_pass_X1_record : GoodIn wsX5_pass wsX1_record := goodIn_r _ [8, 9, 10, 11, 12, 13, 7, 14, 15, 16, 17, 18, 19, 20, 21, 22, 23, 24, 25, 26, 27, 28, 29, 30, 31, 134, 135, 125, 126, 127, 128, 129, 130, 131, 132, 133] (by decide +kernel) (by decide +kernel)
set_option maxRecDepth 20000 in
theorem gX5_pass_X1_record : GoodIn wsX5_pass (wsV RX5 58 RX1 yX1_record wsX1_record) := goodIn_app (goodIn_of _ (by decide +kernel)) ggX5_pass_X1_record
set_option maxRecDepth 20000 in
theorem ggX5_pass_X5_letPass : GoodIn wsX5_pass wsX5_letPass := goodIn_r _ [36, 37, 1, 38, 39, 40, 41, 42, 43, 44, 2, 45, 46, 47, 48, 49, 50, 51, 52, 53, 54, 55, 56, 57, 58, 59, 60, 61, 62, 63, 21, 64, 23, 24, 29, 65, 66, 67, 68, 69, 70, 71, 72, 28, 73, 74, 75, 76, 77, 78, 79, 80, 81, 82, 83, 84, 85, 86, 87, 88, 89, 90, 91, 92, 93, 94, 95, 96, 97, 98, 99, 100, 101, 102, 103, 104, 105, 106, 107, 108, 109, 110, 111, 112, 113, 114, 115, 116, 117, 118, 119, 120, 121, 122, 123, 124, 125, 126, 127, 128, 129, 130, 131, 132, 133, 136, 137, 138, 139, 140, 141, 142, 143, 144, 145] (by decide +kernel) (by decide +kernel)
set_option maxRecDepth 20000 in
theorem gX5_pass_X5_letPass : GoodIn wsX5_pass (wsV RX5 98 RX5 yX5_letPass wsX5_letPass) := goodIn_app (goodIn_of _ (by decide +kernel)) ggX5_pass_X5_letPass
theorem dX5_pass_0 : decode cX5_pass 0 = .ok (.iload_n 1, 1) := by decide +kernel
theorem dX5_pass_1 : decode cX5_pass 1 = .ok (.iconst 1, 1) := by decide +kernel
theorem dX5_pass_2 : decode cX5_pass 2 = .ok (.if_icmp .lt 9, 3) := by decide +kernel
theorem dX5_pass_5 : decode cX5_pass 5 = .ok (.iload_n 1, 1) := by decide +kernel
theorem dX5_pass_6 : decode cX5_pass 6 = .ok (.bipush 100, 2) := by decide +kernel
theorem dX5_pass_8 : decode cX5_pass 8 = .ok (.if_icmp .le 6, 3) := by decide +kernel
theorem dX5_pass_11 : decode cX5_pass 11 = .ok (.bipush (-2), 2) := by decide +kernel
theorem dX5_pass_13 : decode cX5_pass 13 = .ok (.ireturn, 1) := by decide +kernel
theorem dX5_pass_14 : decode cX5_pass 14 = .ok (.aload_n 0, 1) := by decide +kernel
theorem dX5_pass_15 : decode cX5_pass 15 = .ok (.getfield 10, 3) := by decide +kernel
theorem dX5_pass_18 : decode cX5_pass 18 = .ok (.getfield 95, 3) := by decide +kernel
theorem dX5_pass_21 : decode cX5_pass 21 = .ok (.iload_n 1, 1) := by decide +kernel
theorem dX5_pass_22 : decode cX5_pass 22 = .ok (.iadd, 1) := by decide +kernel
theorem dX5_pass_23 : decode cX5_pass 23 = .ok (.sipush 10000, 3) := by decide +kernel
theorem dX5_pass_26 : decode cX5_pass 26 = .ok (.if_icmp .le 6, 3) := by decide +kernel
theorem dX5_pass_29 : decode cX5_pass 29 = .ok (.bipush (-4), 2) := by decide +kernel
theorem dX5_pass_31 : decode cX5_pass 31 = .ok (.ireturn, 1) := by decide +kernel
theorem dX5_pass_32 : decode cX5_pass 32 = .ok (.aload_n 0, 1) := by decide +kernel
theorem dX5_pass_33 : decode cX5_pass 33 = .ok (.getfield 22, 3) := by decide +kernel
theorem dX5_pass_36 : decode cX5_pass 36 = .ok (.aload_n 0, 1) := by decide +kernel
theorem dX5_pass_37 : decode cX5_pass 37 = .ok (.getfield 10, 3) := by decide +kernel
theorem dX5_pass_40 : decode cX5_pass 40 = .ok (.invokevirtual 58, 3) := by decide +kernel
theorem dX5_pass_43 : decode cX5_pass 43 = .ok (.aload_n 0, 1) := by decide +kernel
theorem dX5_pass_44 : decode cX5_pass 44 = .ok (.iload_n 1, 1) := by decide +kernel
theorem dX5_pass_45 : decode cX5_pass 45 = .ok (.invokevirtual 98, 3) := by decide +kernel
theorem dX5_pass_48 : decode cX5_pass 48 = .ok (.ireturn, 1) := by decide +kernel
set_option maxRecDepth 20000 in
theorem ggX5_type_X4_append : GoodIn wsX5_type wsX4_append := goodIn_r _ [7, 8, 9, 17, 18] (by decide +kernel) (by decide +kernel)
set_option maxRecDepth 20000 in
theorem gX5_type_X4_append : GoodIn wsX5_type (wsV RX5 105 RX4 yX4_append wsX4_append) := goodIn_app (goodIn_of _ (by decide +kernel)) ggX5_type_X4_append
theorem dX5_type_0 : decode cX5_type 0 = .ok (.aload_n 0, 1) := by decide +kernel
theorem dX5_type_1 : decode cX5_type 1 = .ok (.getfield 29, 3) := by decide +kernel
theorem dX5_type_4 : decode cX5_type 4 = .ok (.getfield 102, 3) := by decide +kernel
theorem dX5_type_7 : decode cX5_type 7 = .ok (.bipush 60, 2) := by decide +kernel
theorem dX5_type_9 : decode cX5_type 9 = .ok (.if_icmp .lt 6, 3) := by decide +kernel
theorem dX5_type_12 : decode cX5_type 12 = .ok (.bipush (-3), 2) := by decide +kernel
theorem dX5_type_14 : decode cX5_type 14 = .ok (.ireturn, 1) := by decide +kernel
theorem dX5_type_15 : decode cX5_type 15 = .ok (.aload_n 0, 1) := by decide +kernel
theorem dX5_type_16 : decode cX5_type 16 = .ok (.getfield 29, 3) := by decide +kernel
theorem dX5_type_19 : decode cX5_type 19 = .ok (.iload_n 1, 1) := by decide +kernel
theorem dX5_type_20 : decode cX5_type 20 = .ok (.invokevirtual 105, 3) := by decide +kernel
theorem dX5_type_23 : decode cX5_type 23 = .ok (.aload_n 0, 1) := by decide +kernel
theorem dX5_type_24 : decode cX5_type 24 = .ok (.getfield 29, 3) := by decide +kernel
theorem dX5_type_27 : decode cX5_type 27 = .ok (.getfield 102, 3) := by decide +kernel
theorem dX5_type_30 : decode cX5_type 30 = .ok (.ireturn, 1) := by decide +kernel
theorem dX5_clearText_0 : decode cX5_clearText 0 = .ok (.aload_n 0, 1) := by decide +kernel
theorem dX5_clearText_1 : decode cX5_clearText 1 = .ok (.getfield 29, 3) := by decide +kernel
theorem dX5_clearText_4 : decode cX5_clearText 4 = .ok (.getfield 102, 3) := by decide +kernel
theorem dX5_clearText_7 : decode cX5_clearText 7 = .ok (.istore_n 1, 1) := by decide +kernel
theorem dX5_clearText_8 : decode cX5_clearText 8 = .ok (.aload_n 0, 1) := by decide +kernel
theorem dX5_clearText_9 : decode cX5_clearText 9 = .ok (.getfield 29, 3) := by decide +kernel
theorem dX5_clearText_12 : decode cX5_clearText 12 = .ok (.iconst 0, 1) := by decide +kernel
theorem dX5_clearText_13 : decode cX5_clearText 13 = .ok (.putfield 102, 3) := by decide +kernel
theorem dX5_clearText_16 : decode cX5_clearText 16 = .ok (.iload_n 1, 1) := by decide +kernel
theorem dX5_clearText_17 : decode cX5_clearText 17 = .ok (.ireturn, 1) := by decide +kernel
set_option maxRecDepth 20000 in
theorem ggX5_perform_X4_fault : GoodIn wsX5_perform wsX4_fault := goodIn_r _ [8, 9, 10, 11, 12, 7, 13, 14, 15, 16, 17, 18, 19, 20, 21, 22, 23, 183, 184] (by decide +kernel) (by decide +kernel)
set_option maxRecDepth 20000 in
theorem gX5_perform_X4_fault : GoodIn wsX5_perform (wsV RX5 108 RX4 yX4_fault wsX4_fault) := goodIn_app (goodIn_of _ (by decide +kernel)) ggX5_perform_X4_fault
set_option maxRecDepth 20000 in
theorem ggX5_perform_X5_firstError : GoodIn wsX5_perform wsX5_firstError := goodIn_r _ [28, 3, 29, 1, 30, 31, 32, 33, 7, 34, 10, 11, 12, 13, 9, 14, 35, 36, 37, 38, 39, 40, 41, 42, 21, 22, 23, 43, 44, 45, 46, 47, 48, 49, 50, 51, 52, 176, 177, 178, 179, 180, 181, 182, 185, 186, 187, 188, 189, 190, 191, 192, 193, 183, 184] (by decide +kernel) (by decide +kernel)
set_option maxRecDepth 20000 in
theorem gX5_perform_X5_firstError : GoodIn wsX5_perform (wsV RX5 111 RX5 yX5_firstError wsX5_firstError) := goodIn_app (goodIn_of _ (by decide +kernel)) ggX5_perform_X5_firstError
set_option maxRecDepth 20000 in
theorem ggX5_perform_X1_record : GoodIn wsX5_perform wsX1_record := goodIn_r _ [57, 58, 59, 60, 61, 62, 56, 63, 64, 65, 66, 67, 68, 69, 50, 70, 71, 52, 72, 73, 74, 75, 76, 77, 78, 194, 195, 185, 186, 187, 188, 189, 190, 191, 192, 193] (by decide +kernel) (by decide +kernel)
set_option maxRecDepth 20000 in
theorem gX5_perform_X1_record : GoodIn wsX5_perform (wsV RX5 58 RX1 yX1_record wsX1_record) := goodIn_app (goodIn_of _ (by decide +kernel)) ggX5_perform_X1_record
set_option maxRecDepth 20000 in
theorem ggX5_perform_X5_doOrders : GoodIn wsX5_perform wsX5_doOrders := goodIn_r _ [82, 1, 30, 3, 83, 31, 32, 33, 7, 34, 10, 11, 12, 13, 9, 14, 35, 36, 37, 38, 39, 40, 41, 42, 21, 22, 23, 84, 85, 86, 27, 87, 88, 89, 90, 91, 92, 93, 94, 29, 95, 96, 97, 98, 99, 100, 101, 102, 103, 104, 105, 106, 107, 108, 109, 110, 111, 112, 113, 50, 114, 71, 52, 76, 115, 116, 117, 118, 119, 120, 121, 122, 75, 123, 124, 125, 126, 127, 128, 129, 130, 131, 132, 133, 134, 135, 136, 137, 138, 139, 140, 141, 142, 143, 144, 145, 146, 147, 148, 149, 150, 151, 152, 153, 154, 155, 156, 157, 158, 159, 160, 161, 162, 163, 164, 165, 166, 167, 168, 169, 170, 171, 77, 43, 44, 45, 46, 47, 48, 49, 51, 172, 173, 174, 175, 176, 177, 178, 179, 180, 181, 182, 183, 184, 185, 186, 187, 188, 189, 190, 191, 192, 193, 196, 197, 198, 199, 200, 201, 202, 203, 204, 205] (by decide +kernel) (by decide +kernel)
set_option maxRecDepth 20000 in
theorem gX5_perform_X5_doOrders : GoodIn wsX5_perform (wsV RX5 114 RX5 yX5_doOrders wsX5_doOrders) := goodIn_app (goodIn_of _ (by decide +kernel)) ggX5_perform_X5_doOrders
theorem dX5_perform_0 : decode cX5_perform 0 = .ok (.aload_n 0, 1) := by decide +kernel
theorem dX5_perform_1 : decode cX5_perform 1 = .ok (.getfield 29, 3) := by decide +kernel
theorem dX5_perform_4 : decode cX5_perform 4 = .ok (.invokevirtual 108, 3) := by decide +kernel
theorem dX5_perform_7 : decode cX5_perform 7 = .ok (.istore_n 1, 1) := by decide +kernel
theorem dX5_perform_8 : decode cX5_perform 8 = .ok (.iload_n 1, 1) := by decide +kernel
theorem dX5_perform_9 : decode cX5_perform 9 = .ok (.iconst (-1), 1) := by decide +kernel
theorem dX5_perform_10 : decode cX5_perform 10 = .ok (.if_icmp .eq 8, 3) := by decide +kernel
theorem dX5_perform_13 : decode cX5_perform 13 = .ok (.bipush (-100), 2) := by decide +kernel
theorem dX5_perform_15 : decode cX5_perform 15 = .ok (.iload_n 1, 1) := by decide +kernel
theorem dX5_perform_16 : decode cX5_perform 16 = .ok (.isub, 1) := by decide +kernel
theorem dX5_perform_17 : decode cX5_perform 17 = .ok (.ireturn, 1) := by decide +kernel
theorem dX5_perform_18 : decode cX5_perform 18 = .ok (.aload_n 0, 1) := by decide +kernel
theorem dX5_perform_19 : decode cX5_perform 19 = .ok (.invokevirtual 111, 3) := by decide +kernel
theorem dX5_perform_22 : decode cX5_perform 22 = .ok (.istore_n 2, 1) := by decide +kernel
theorem dX5_perform_23 : decode cX5_perform 23 = .ok (.iload_n 2, 1) := by decide +kernel
theorem dX5_perform_24 : decode cX5_perform 24 = .ok (.ifCond .eq 5, 3) := by decide +kernel
theorem dX5_perform_27 : decode cX5_perform 27 = .ok (.iload_n 2, 1) := by decide +kernel
theorem dX5_perform_28 : decode cX5_perform 28 = .ok (.ireturn, 1) := by decide +kernel
theorem dX5_perform_29 : decode cX5_perform 29 = .ok (.aload_n 0, 1) := by decide +kernel
theorem dX5_perform_30 : decode cX5_perform 30 = .ok (.getfield 22, 3) := by decide +kernel
theorem dX5_perform_33 : decode cX5_perform 33 = .ok (.aload_n 0, 1) := by decide +kernel
theorem dX5_perform_34 : decode cX5_perform 34 = .ok (.getfield 10, 3) := by decide +kernel
theorem dX5_perform_37 : decode cX5_perform 37 = .ok (.invokevirtual 58, 3) := by decide +kernel
theorem dX5_perform_40 : decode cX5_perform 40 = .ok (.aload_n 0, 1) := by decide +kernel
theorem dX5_perform_41 : decode cX5_perform 41 = .ok (.invokevirtual 114, 3) := by decide +kernel
theorem dX5_perform_44 : decode cX5_perform 44 = .ok (.ireturn, 1) := by decide +kernel
set_option maxRecDepth 20000 in
theorem ggX5_undo_X1_takeLatest : GoodIn wsX5_undo wsX1_takeLatest := goodIn_r _ [8, 9, 10, 11, 12, 7, 13, 14, 15, 16, 17, 18, 19, 20, 21, 22, 23, 24, 25, 26, 27, 35, 36, 37, 38, 39, 40, 41, 42, 43, 44, 45] (by decide +kernel) (by decide +kernel)
set_option maxRecDepth 20000 in
theorem gX5_undo_X1_takeLatest : GoodIn wsX5_undo (wsV RX5 120 RX1 yX1_takeLatest wsX1_takeLatest) := goodIn_app (goodIn_of _ (by decide +kernel)) ggX5_undo_X1_takeLatest
theorem dX5_undo_0 : decode cX5_undo 0 = .ok (.aload_n 0, 1) := by decide +kernel
theorem dX5_undo_1 : decode cX5_undo 1 = .ok (.getfield 22, 3) := by decide +kernel
theorem dX5_undo_4 : decode cX5_undo 4 = .ok (.getfield 117, 3) := by decide +kernel
theorem dX5_undo_7 : decode cX5_undo 7 = .ok (.ifCond .ne 6, 3) := by decide +kernel
theorem dX5_undo_10 : decode cX5_undo 10 = .ok (.bipush (-5), 2) := by decide +kernel
theorem dX5_undo_12 : decode cX5_undo 12 = .ok (.ireturn, 1) := by decide +kernel
theorem dX5_undo_13 : decode cX5_undo 13 = .ok (.aload_n 0, 1) := by decide +kernel
theorem dX5_undo_14 : decode cX5_undo 14 = .ok (.getfield 22, 3) := by decide +kernel
theorem dX5_undo_17 : decode cX5_undo 17 = .ok (.aload_n 0, 1) := by decide +kernel
theorem dX5_undo_18 : decode cX5_undo 18 = .ok (.getfield 10, 3) := by decide +kernel
theorem dX5_undo_21 : decode cX5_undo 21 = .ok (.invokevirtual 120, 3) := by decide +kernel
theorem dX5_undo_24 : decode cX5_undo 24 = .ok (.aload_n 0, 1) := by decide +kernel
theorem dX5_undo_25 : decode cX5_undo 25 = .ok (.getfield 22, 3) := by decide +kernel
theorem dX5_undo_28 : decode cX5_undo 28 = .ok (.getfield 117, 3) := by decide +kernel
theorem dX5_undo_31 : decode cX5_undo 31 = .ok (.ireturn, 1) := by decide +kernel
set_option maxRecDepth 20000 in
theorem ggX5_keep_X3_copyFrom : GoodIn wsX5_keep wsX3_copyFrom := goodIn_r _ [9, 10, 11, 12, 13, 14, 15, 16, 17, 18, 26, 27, 28, 29, 30, 31, 32, 33, 34] (by decide +kernel) (by decide +kernel)
set_option maxRecDepth 20000 in
theorem gX5_keep_X3_copyFrom : GoodIn wsX5_keep (wsV RX5 123 RX3 yX3_copyFrom wsX3_copyFrom) := goodIn_app (goodIn_of _ (by decide +kernel)) ggX5_keep_X3_copyFrom
theorem dX5_keep_0 : decode cX5_keep 0 = .ok (.aload_n 0, 1) := by decide +kernel
theorem dX5_keep_1 : decode cX5_keep 1 = .ok (.getfield 16, 3) := by decide +kernel
theorem dX5_keep_4 : decode cX5_keep 4 = .ok (.aload_n 0, 1) := by decide +kernel
theorem dX5_keep_5 : decode cX5_keep 5 = .ok (.getfield 10, 3) := by decide +kernel
theorem dX5_keep_8 : decode cX5_keep 8 = .ok (.invokevirtual 123, 3) := by decide +kernel
theorem dX5_keep_11 : decode cX5_keep 11 = .ok (.aload_n 0, 1) := by decide +kernel
theorem dX5_keep_12 : decode cX5_keep 12 = .ok (.iconst 1, 1) := by decide +kernel
theorem dX5_keep_13 : decode cX5_keep 13 = .ok (.putfield 47, 3) := by decide +kernel
theorem dX5_keep_16 : decode cX5_keep 16 = .ok (.aload_n 0, 1) := by decide +kernel
theorem dX5_keep_17 : decode cX5_keep 17 = .ok (.getfield 10, 3) := by decide +kernel
theorem dX5_keep_20 : decode cX5_keep 20 = .ok (.getfield 95, 3) := by decide +kernel
theorem dX5_keep_23 : decode cX5_keep 23 = .ok (.ireturn, 1) := by decide +kernel
set_option maxRecDepth 20000 in
theorem ggX5_restore_X1_record : GoodIn wsX5_restore wsX1_record := goodIn_r _ [10, 11, 12, 13, 14, 15, 9, 16, 17, 18, 19, 20, 21, 22, 23, 24, 25, 26, 27, 28, 29, 30, 31, 32, 33, 51, 52, 42, 43, 44, 45, 46, 47, 48, 49, 50] (by decide +kernel) (by decide +kernel)
set_option maxRecDepth 20000 in
theorem gX5_restore_X1_record : GoodIn wsX5_restore (wsV RX5 58 RX1 yX1_record wsX1_record) := goodIn_app (goodIn_of _ (by decide +kernel)) ggX5_restore_X1_record
set_option maxRecDepth 20000 in
theorem ggX5_restore_X3_copyFrom : GoodIn wsX5_restore wsX3_copyFrom := goodIn_r _ [24, 25, 26, 27, 28, 29, 30, 31, 32, 33, 42, 43, 44, 45, 46, 47, 48, 49, 50] (by decide +kernel) (by decide +kernel)
set_option maxRecDepth 20000 in
theorem gX5_restore_X3_copyFrom : GoodIn wsX5_restore (wsV RX5 123 RX3 yX3_copyFrom wsX3_copyFrom) := goodIn_app (goodIn_of _ (by decide +kernel)) ggX5_restore_X3_copyFrom
theorem dX5_restore_0 : decode cX5_restore 0 = .ok (.aload_n 0, 1) := by decide +kernel
theorem dX5_restore_1 : decode cX5_restore 1 = .ok (.getfield 47, 3) := by decide +kernel
theorem dX5_restore_4 : decode cX5_restore 4 = .ok (.ifCond .ne 6, 3) := by decide +kernel
theorem dX5_restore_7 : decode cX5_restore 7 = .ok (.bipush (-5), 2) := by decide +kernel
theorem dX5_restore_9 : decode cX5_restore 9 = .ok (.ireturn, 1) := by decide +kernel
theorem dX5_restore_10 : decode cX5_restore 10 = .ok (.aload_n 0, 1) := by decide +kernel
theorem dX5_restore_11 : decode cX5_restore 11 = .ok (.getfield 22, 3) := by decide +kernel
theorem dX5_restore_14 : decode cX5_restore 14 = .ok (.aload_n 0, 1) := by decide +kernel
theorem dX5_restore_15 : decode cX5_restore 15 = .ok (.getfield 10, 3) := by decide +kernel
theorem dX5_restore_18 : decode cX5_restore 18 = .ok (.invokevirtual 58, 3) := by decide +kernel
theorem dX5_restore_21 : decode cX5_restore 21 = .ok (.aload_n 0, 1) := by decide +kernel
theorem dX5_restore_22 : decode cX5_restore 22 = .ok (.getfield 10, 3) := by decide +kernel
theorem dX5_restore_25 : decode cX5_restore 25 = .ok (.aload_n 0, 1) := by decide +kernel
theorem dX5_restore_26 : decode cX5_restore 26 = .ok (.getfield 16, 3) := by decide +kernel
theorem dX5_restore_29 : decode cX5_restore 29 = .ok (.invokevirtual 123, 3) := by decide +kernel
theorem dX5_restore_32 : decode cX5_restore 32 = .ok (.aload_n 0, 1) := by decide +kernel
theorem dX5_restore_33 : decode cX5_restore 33 = .ok (.getfield 10, 3) := by decide +kernel
theorem dX5_restore_36 : decode cX5_restore 36 = .ok (.getfield 95, 3) := by decide +kernel
theorem dX5_restore_39 : decode cX5_restore 39 = .ok (.ireturn, 1) := by decide +kernel
set_option maxRecDepth 20000 in
theorem ggX5_rod_X3_hasRod : GoodIn wsX5_rod wsX3_hasRod := goodIn_r _ [11, 12, 55, 56, 57, 58, 59, 60, 61, 62, 63] (by decide +kernel) (by decide +kernel)
set_option maxRecDepth 20000 in
theorem gX5_rod_X3_hasRod : GoodIn wsX5_rod (wsV RX5 77 RX3 yX3_hasRod wsX3_hasRod) := goodIn_app (goodIn_of _ (by decide +kernel)) ggX5_rod_X3_hasRod
set_option maxRecDepth 20000 in
theorem ggX5_rod_X3_gap : GoodIn wsX5_rod wsX3_gap := goodIn_r _ [16, 12, 17, 18, 19, 20, 21, 22, 23, 10, 24, 25, 26, 27, 28, 29, 30, 31, 32, 33, 34, 35, 55, 56, 57, 58, 59, 60, 61, 62, 63] (by decide +kernel) (by decide +kernel)
set_option maxRecDepth 20000 in
theorem gX5_rod_X3_gap : GoodIn wsX5_rod (wsV RX5 131 RX3 yX3_gap wsX3_gap) := goodIn_app (goodIn_of _ (by decide +kernel)) ggX5_rod_X3_gap
set_option maxRecDepth 20000 in
theorem ggX5_rod_X3_rodToTheRight : GoodIn wsX5_rod wsX3_rodToTheRight := goodIn_r _ [39, 25, 12, 31, 32, 33, 10, 34, 35, 55, 56, 57, 58, 59, 60, 61, 62, 63] (by decide +kernel) (by decide +kernel)
set_option maxRecDepth 20000 in
theorem gX5_rod_X3_rodToTheRight : GoodIn wsX5_rod (wsV RX5 134 RX3 yX3_rodToTheRight wsX3_rodToTheRight) := goodIn_app (goodIn_of _ (by decide +kernel)) ggX5_rod_X3_rodToTheRight
set_option maxRecDepth 20000 in
theorem ggX5_rod_X3_clusterSize : GoodIn wsX5_rod wsX3_clusterSize := goodIn_r _ [43, 12, 27, 28, 29, 10, 30, 26, 31, 32, 33, 34, 35, 25, 55, 56, 57, 58, 59, 60, 61, 62, 63] (by decide +kernel) (by decide +kernel)
set_option maxRecDepth 20000 in
theorem gX5_rod_X3_clusterSize : GoodIn wsX5_rod (wsV RX5 137 RX3 yX3_clusterSize wsX3_clusterSize) := goodIn_app (goodIn_of _ (by decide +kernel)) ggX5_rod_X3_clusterSize
set_option maxRecDepth 20000 in
theorem ggX5_rod_X3_leftmostOfCluster : GoodIn wsX5_rod wsX3_leftmostOfCluster := goodIn_r _ [47, 12, 27, 28, 29, 10, 30, 26, 31, 32, 33, 34, 35, 25, 55, 56, 57, 58, 59, 60, 61, 62, 63] (by decide +kernel) (by decide +kernel)
set_option maxRecDepth 20000 in
theorem gX5_rod_X3_leftmostOfCluster : GoodIn wsX5_rod (wsV RX5 140 RX3 yX3_leftmostOfCluster wsX3_leftmostOfCluster) := goodIn_app (goodIn_of _ (by decide +kernel)) ggX5_rod_X3_leftmostOfCluster
theorem dX5_rod_0 : decode cX5_rod 0 = .ok (.aload_n 0, 1) := by decide +kernel
theorem dX5_rod_1 : decode cX5_rod 1 = .ok (.getfield 10, 3) := by decide +kernel
theorem dX5_rod_4 : decode cX5_rod 4 = .ok (.iload_n 1, 1) := by decide +kernel
theorem dX5_rod_5 : decode cX5_rod 5 = .ok (.invokevirtual 77, 3) := by decide +kernel
theorem dX5_rod_8 : decode cX5_rod 8 = .ok (.ifCond .ne 5, 3) := by decide +kernel
theorem dX5_rod_11 : decode cX5_rod 11 = .ok (.iconst (-1), 1) := by decide +kernel
theorem dX5_rod_12 : decode cX5_rod 12 = .ok (.ireturn, 1) := by decide +kernel
theorem dX5_rod_13 : decode cX5_rod 13 = .ok (.iload_n 2, 1) := by decide +kernel
theorem dX5_rod_14 : decode cX5_rod 14 = .ok (.tableswitch 128 0 7 #[46, 56, 66, 79, 88, 97, 106, 115], 46) := by decide +kernel
theorem dX5_rod_60 : decode cX5_rod 60 = .ok (.aload_n 0, 1) := by decide +kernel
theorem dX5_rod_61 : decode cX5_rod 61 = .ok (.getfield 10, 3) := by decide +kernel
theorem dX5_rod_64 : decode cX5_rod 64 = .ok (.getfield 126, 3) := by decide +kernel
theorem dX5_rod_67 : decode cX5_rod 67 = .ok (.iload_n 1, 1) := by decide +kernel
theorem dX5_rod_68 : decode cX5_rod 68 = .ok (.iaload, 1) := by decide +kernel
theorem dX5_rod_69 : decode cX5_rod 69 = .ok (.ireturn, 1) := by decide +kernel
theorem dX5_rod_70 : decode cX5_rod 70 = .ok (.aload_n 0, 1) := by decide +kernel
theorem dX5_rod_71 : decode cX5_rod 71 = .ok (.getfield 10, 3) := by decide +kernel
theorem dX5_rod_74 : decode cX5_rod 74 = .ok (.getfield 129, 3) := by decide +kernel
theorem dX5_rod_77 : decode cX5_rod 77 = .ok (.iload_n 1, 1) := by decide +kernel
theorem dX5_rod_78 : decode cX5_rod 78 = .ok (.iaload, 1) := by decide +kernel
theorem dX5_rod_79 : decode cX5_rod 79 = .ok (.ireturn, 1) := by decide +kernel
theorem dX5_rod_80 : decode cX5_rod 80 = .ok (.bipush 100, 2) := by decide +kernel
theorem dX5_rod_82 : decode cX5_rod 82 = .ok (.aload_n 0, 1) := by decide +kernel
theorem dX5_rod_83 : decode cX5_rod 83 = .ok (.getfield 10, 3) := by decide +kernel
theorem dX5_rod_86 : decode cX5_rod 86 = .ok (.getfield 84, 3) := by decide +kernel
theorem dX5_rod_89 : decode cX5_rod 89 = .ok (.iload_n 1, 1) := by decide +kernel
theorem dX5_rod_90 : decode cX5_rod 90 = .ok (.iaload, 1) := by decide +kernel
theorem dX5_rod_91 : decode cX5_rod 91 = .ok (.iadd, 1) := by decide +kernel
theorem dX5_rod_92 : decode cX5_rod 92 = .ok (.ireturn, 1) := by decide +kernel
theorem dX5_rod_93 : decode cX5_rod 93 = .ok (.aload_n 0, 1) := by decide +kernel
theorem dX5_rod_94 : decode cX5_rod 94 = .ok (.getfield 10, 3) := by decide +kernel
theorem dX5_rod_97 : decode cX5_rod 97 = .ok (.iload_n 1, 1) := by decide +kernel
theorem dX5_rod_98 : decode cX5_rod 98 = .ok (.invokevirtual 131, 3) := by decide +kernel
theorem dX5_rod_101 : decode cX5_rod 101 = .ok (.ireturn, 1) := by decide +kernel
theorem dX5_rod_102 : decode cX5_rod 102 = .ok (.aload_n 0, 1) := by decide +kernel
theorem dX5_rod_103 : decode cX5_rod 103 = .ok (.getfield 10, 3) := by decide +kernel
theorem dX5_rod_106 : decode cX5_rod 106 = .ok (.iload_n 1, 1) := by decide +kernel
theorem dX5_rod_107 : decode cX5_rod 107 = .ok (.invokevirtual 134, 3) := by decide +kernel
theorem dX5_rod_110 : decode cX5_rod 110 = .ok (.ireturn, 1) := by decide +kernel
theorem dX5_rod_111 : decode cX5_rod 111 = .ok (.aload_n 0, 1) := by decide +kernel
theorem dX5_rod_112 : decode cX5_rod 112 = .ok (.getfield 10, 3) := by decide +kernel
theorem dX5_rod_115 : decode cX5_rod 115 = .ok (.iload_n 1, 1) := by decide +kernel
theorem dX5_rod_116 : decode cX5_rod 116 = .ok (.invokevirtual 137, 3) := by decide +kernel
theorem dX5_rod_119 : decode cX5_rod 119 = .ok (.ireturn, 1) := by decide +kernel
theorem dX5_rod_120 : decode cX5_rod 120 = .ok (.aload_n 0, 1) := by decide +kernel
theorem dX5_rod_121 : decode cX5_rod 121 = .ok (.getfield 10, 3) := by decide +kernel
theorem dX5_rod_124 : decode cX5_rod 124 = .ok (.iload_n 1, 1) := by decide +kernel
theorem dX5_rod_125 : decode cX5_rod 125 = .ok (.invokevirtual 140, 3) := by decide +kernel
theorem dX5_rod_128 : decode cX5_rod 128 = .ok (.ireturn, 1) := by decide +kernel
theorem dX5_rod_129 : decode cX5_rod 129 = .ok (.ldc 143, 2) := by decide +kernel
theorem dX5_rod_131 : decode cX5_rod 131 = .ok (.aload_n 0, 1) := by decide +kernel
theorem dX5_rod_132 : decode cX5_rod 132 = .ok (.getfield 10, 3) := by decide +kernel
theorem dX5_rod_135 : decode cX5_rod 135 = .ok (.getfield 144, 3) := by decide +kernel
theorem dX5_rod_138 : decode cX5_rod 138 = .ok (.iload_n 1, 1) := by decide +kernel
theorem dX5_rod_139 : decode cX5_rod 139 = .ok (.iaload, 1) := by decide +kernel
theorem dX5_rod_140 : decode cX5_rod 140 = .ok (.iadd, 1) := by decide +kernel
theorem dX5_rod_141 : decode cX5_rod 141 = .ok (.ireturn, 1) := by decide +kernel
theorem dX5_rod_142 : decode cX5_rod 142 = .ok (.bipush (-2), 2) := by decide +kernel
theorem dX5_rod_144 : decode cX5_rod 144 = .ok (.ireturn, 1) := by decide +kernel
set_option maxRecDepth 20000 in
theorem ggX5_cover_X3_hasPlace : GoodIn wsX5_cover wsX3_hasPlace := goodIn_r _ [6, 7, 30, 31, 32, 33, 34, 35, 36, 37, 38] (by decide +kernel) (by decide +kernel)
set_option maxRecDepth 20000 in
theorem gX5_cover_X3_hasPlace : GoodIn wsX5_cover (wsV RX5 62 RX3 yX3_hasPlace wsX3_hasPlace) := goodIn_app (goodIn_of _ (by decide +kernel)) ggX5_cover_X3_hasPlace
set_option maxRecDepth 20000 in
theorem ggX5_cover_X3_rodThatCovers : GoodIn wsX5_cover wsX3_rodThatCovers := goodIn_r _ [11, 12, 13, 14, 15, 16, 17, 5, 18, 7, 19, 20, 21, 22, 30, 31, 32, 33, 34, 35, 36, 37, 38] (by decide +kernel) (by decide +kernel)
set_option maxRecDepth 20000 in
theorem gX5_cover_X3_rodThatCovers : GoodIn wsX5_cover (wsV RX5 147 RX3 yX3_rodThatCovers wsX3_rodThatCovers) := goodIn_app (goodIn_of _ (by decide +kernel)) ggX5_cover_X3_rodThatCovers
theorem dX5_cover_0 : decode cX5_cover 0 = .ok (.aload_n 0, 1) := by decide +kernel
theorem dX5_cover_1 : decode cX5_cover 1 = .ok (.getfield 10, 3) := by decide +kernel
theorem dX5_cover_4 : decode cX5_cover 4 = .ok (.iload_n 1, 1) := by decide +kernel
theorem dX5_cover_5 : decode cX5_cover 5 = .ok (.invokevirtual 62, 3) := by decide +kernel
theorem dX5_cover_8 : decode cX5_cover 8 = .ok (.ifCond .ne 5, 3) := by decide +kernel
theorem dX5_cover_11 : decode cX5_cover 11 = .ok (.iconst (-1), 1) := by decide +kernel
theorem dX5_cover_12 : decode cX5_cover 12 = .ok (.ireturn, 1) := by decide +kernel
theorem dX5_cover_13 : decode cX5_cover 13 = .ok (.aload_n 0, 1) := by decide +kernel
theorem dX5_cover_14 : decode cX5_cover 14 = .ok (.getfield 10, 3) := by decide +kernel
theorem dX5_cover_17 : decode cX5_cover 17 = .ok (.iload_n 1, 1) := by decide +kernel
theorem dX5_cover_18 : decode cX5_cover 18 = .ok (.invokevirtual 147, 3) := by decide +kernel
theorem dX5_cover_21 : decode cX5_cover 21 = .ok (.ireturn, 1) := by decide +kernel
set_option maxRecDepth 20000 in
theorem ggX5_placeIn_X3_hasRod : GoodIn wsX5_placeIn wsX3_hasRod := goodIn_r _ [8, 9, 79, 80, 81, 82, 83, 84, 85, 86, 87] (by decide +kernel) (by decide +kernel)
set_option maxRecDepth 20000 in
theorem gX5_placeIn_X3_hasRod : GoodIn wsX5_placeIn (wsV RX5 77 RX3 yX3_hasRod wsX3_hasRod) := goodIn_app (goodIn_of _ (by decide +kernel)) ggX5_placeIn_X3_hasRod
set_option maxRecDepth 20000 in
theorem ggX5_placeIn_X2_foresee : GoodIn wsX5_placeIn wsX2_foresee := goodIn_r _ [14, 15, 16, 17, 18, 19, 20, 21, 22, 23, 7, 24, 25, 9, 26, 27, 28, 29, 13, 30, 31, 32, 33, 34, 35, 36, 37, 38, 39, 40, 41, 42, 43, 44, 45, 46, 47, 48, 49, 50, 51, 52, 53, 54, 55, 56, 57, 58, 79, 80, 81, 82, 83, 84, 85, 86, 87, 75, 76, 77, 78] (by decide +kernel) (by decide +kernel)
set_option maxRecDepth 20000 in
theorem gX5_placeIn_X2_foresee : GoodIn wsX5_placeIn (wsV RX5 150 RX2 yX2_foresee wsX2_foresee) := goodIn_app (goodIn_of _ (by decide +kernel)) ggX5_placeIn_X2_foresee
set_option maxRecDepth 20000 in
theorem ggX5_placeIn_X3_placeBehind : GoodIn wsX5_placeIn wsX3_placeBehind := goodIn_r _ [62, 39, 63, 64, 65, 7, 66, 25, 67, 41, 42, 43, 79, 80, 81, 82, 83, 84, 85, 86, 87] (by decide +kernel) (by decide +kernel)
set_option maxRecDepth 20000 in
theorem gX5_placeIn_X3_placeBehind : GoodIn wsX5_placeIn (wsV RX5 155 RX3 yX3_placeBehind wsX3_placeBehind) := goodIn_app (goodIn_of _ (by decide +kernel)) ggX5_placeIn_X3_placeBehind
theorem dX5_placeIn_0 : decode cX5_placeIn 0 = .ok (.aload_n 0, 1) := by decide +kernel
theorem dX5_placeIn_1 : decode cX5_placeIn 1 = .ok (.getfield 10, 3) := by decide +kernel
theorem dX5_placeIn_4 : decode cX5_placeIn 4 = .ok (.iload_n 1, 1) := by decide +kernel
theorem dX5_placeIn_5 : decode cX5_placeIn 5 = .ok (.invokevirtual 77, 3) := by decide +kernel
theorem dX5_placeIn_8 : decode cX5_placeIn 8 = .ok (.ifCond .ne 5, 3) := by decide +kernel
theorem dX5_placeIn_11 : decode cX5_placeIn 11 = .ok (.iconst (-1), 1) := by decide +kernel
theorem dX5_placeIn_12 : decode cX5_placeIn 12 = .ok (.ireturn, 1) := by decide +kernel
theorem dX5_placeIn_13 : decode cX5_placeIn 13 = .ok (.iload_n 2, 1) := by decide +kernel
theorem dX5_placeIn_14 : decode cX5_placeIn 14 = .ok (.ifCond .lt 9, 3) := by decide +kernel
theorem dX5_placeIn_17 : decode cX5_placeIn 17 = .ok (.iload_n 2, 1) := by decide +kernel
theorem dX5_placeIn_18 : decode cX5_placeIn 18 = .ok (.bipush 100, 2) := by decide +kernel
theorem dX5_placeIn_20 : decode cX5_placeIn 20 = .ok (.if_icmp .le 6, 3) := by decide +kernel
theorem dX5_placeIn_23 : decode cX5_placeIn 23 = .ok (.bipush (-2), 2) := by decide +kernel
theorem dX5_placeIn_25 : decode cX5_placeIn 25 = .ok (.ireturn, 1) := by decide +kernel
theorem dX5_placeIn_26 : decode cX5_placeIn 26 = .ok (.aload_n 0, 1) := by decide +kernel
theorem dX5_placeIn_27 : decode cX5_placeIn 27 = .ok (.getfield 36, 3) := by decide +kernel
theorem dX5_placeIn_30 : decode cX5_placeIn 30 = .ok (.aload_n 0, 1) := by decide +kernel
theorem dX5_placeIn_31 : decode cX5_placeIn 31 = .ok (.getfield 10, 3) := by decide +kernel
theorem dX5_placeIn_34 : decode cX5_placeIn 34 = .ok (.iload_n 2, 1) := by decide +kernel
theorem dX5_placeIn_35 : decode cX5_placeIn 35 = .ok (.invokevirtual 150, 3) := by decide +kernel
theorem dX5_placeIn_38 : decode cX5_placeIn 38 = .ok (.aload_n 0, 1) := by decide +kernel
theorem dX5_placeIn_39 : decode cX5_placeIn 39 = .ok (.getfield 10, 3) := by decide +kernel
theorem dX5_placeIn_42 : decode cX5_placeIn 42 = .ok (.iload_n 1, 1) := by decide +kernel
theorem dX5_placeIn_43 : decode cX5_placeIn 43 = .ok (.aload_n 0, 1) := by decide +kernel
theorem dX5_placeIn_44 : decode cX5_placeIn 44 = .ok (.getfield 36, 3) := by decide +kernel
theorem dX5_placeIn_47 : decode cX5_placeIn 47 = .ok (.getfield 154, 3) := by decide +kernel
theorem dX5_placeIn_50 : decode cX5_placeIn 50 = .ok (.iload_n 1, 1) := by decide +kernel
theorem dX5_placeIn_51 : decode cX5_placeIn 51 = .ok (.iaload, 1) := by decide +kernel
theorem dX5_placeIn_52 : decode cX5_placeIn 52 = .ok (.invokevirtual 155, 3) := by decide +kernel
theorem dX5_placeIn_55 : decode cX5_placeIn 55 = .ok (.ireturn, 1) := by decide +kernel
set_option maxRecDepth 20000 in
theorem ggX5_speedIn_X3_hasRod : GoodIn wsX5_speedIn wsX3_hasRod := goodIn_r _ [9, 10, 67, 68, 69, 70, 71, 72, 73, 74, 75] (by decide +kernel) (by decide +kernel)
set_option maxRecDepth 20000 in
theorem gX5_speedIn_X3_hasRod : GoodIn wsX5_speedIn (wsV RX5 77 RX3 yX3_hasRod wsX3_hasRod) := goodIn_app (goodIn_of _ (by decide +kernel)) ggX5_speedIn_X3_hasRod
set_option maxRecDepth 20000 in
theorem ggX5_speedIn_X2_foresee : GoodIn wsX5_speedIn wsX2_foresee := goodIn_r _ [15, 16, 17, 18, 19, 20, 21, 22, 23, 24, 8, 25, 26, 10, 27, 28, 29, 30, 14, 31, 32, 33, 34, 35, 36, 37, 38, 39, 40, 41, 42, 43, 44, 45, 46, 47, 48, 49, 50, 51, 52, 53, 54, 55, 56, 57, 58, 59, 67, 68, 69, 70, 71, 72, 73, 74, 75, 76, 77, 78, 79] (by decide +kernel) (by decide +kernel)
set_option maxRecDepth 20000 in
theorem gX5_speedIn_X2_foresee : GoodIn wsX5_speedIn (wsV RX5 150 RX2 yX2_foresee wsX2_foresee) := goodIn_app (goodIn_of _ (by decide +kernel)) ggX5_speedIn_X2_foresee
theorem dX5_speedIn_0 : decode cX5_speedIn 0 = .ok (.aload_n 0, 1) := by decide +kernel
theorem dX5_speedIn_1 : decode cX5_speedIn 1 = .ok (.getfield 10, 3) := by decide +kernel
theorem dX5_speedIn_4 : decode cX5_speedIn 4 = .ok (.iload_n 1, 1) := by decide +kernel
theorem dX5_speedIn_5 : decode cX5_speedIn 5 = .ok (.invokevirtual 77, 3) := by decide +kernel
theorem dX5_speedIn_8 : decode cX5_speedIn 8 = .ok (.ifCond .ne 5, 3) := by decide +kernel
theorem dX5_speedIn_11 : decode cX5_speedIn 11 = .ok (.iconst (-1), 1) := by decide +kernel
theorem dX5_speedIn_12 : decode cX5_speedIn 12 = .ok (.ireturn, 1) := by decide +kernel
theorem dX5_speedIn_13 : decode cX5_speedIn 13 = .ok (.iload_n 2, 1) := by decide +kernel
theorem dX5_speedIn_14 : decode cX5_speedIn 14 = .ok (.ifCond .lt 9, 3) := by decide +kernel
theorem dX5_speedIn_17 : decode cX5_speedIn 17 = .ok (.iload_n 2, 1) := by decide +kernel
theorem dX5_speedIn_18 : decode cX5_speedIn 18 = .ok (.bipush 100, 2) := by decide +kernel
theorem dX5_speedIn_20 : decode cX5_speedIn 20 = .ok (.if_icmp .le 6, 3) := by decide +kernel
theorem dX5_speedIn_23 : decode cX5_speedIn 23 = .ok (.bipush (-2), 2) := by decide +kernel
theorem dX5_speedIn_25 : decode cX5_speedIn 25 = .ok (.ireturn, 1) := by decide +kernel
theorem dX5_speedIn_26 : decode cX5_speedIn 26 = .ok (.iload_n 2, 1) := by decide +kernel
theorem dX5_speedIn_27 : decode cX5_speedIn 27 = .ok (.ifCond .ne 16, 3) := by decide +kernel
theorem dX5_speedIn_30 : decode cX5_speedIn 30 = .ok (.bipush 100, 2) := by decide +kernel
theorem dX5_speedIn_32 : decode cX5_speedIn 32 = .ok (.aload_n 0, 1) := by decide +kernel
theorem dX5_speedIn_33 : decode cX5_speedIn 33 = .ok (.getfield 10, 3) := by decide +kernel
theorem dX5_speedIn_36 : decode cX5_speedIn 36 = .ok (.getfield 84, 3) := by decide +kernel
theorem dX5_speedIn_39 : decode cX5_speedIn 39 = .ok (.iload_n 1, 1) := by decide +kernel
theorem dX5_speedIn_40 : decode cX5_speedIn 40 = .ok (.iaload, 1) := by decide +kernel
theorem dX5_speedIn_41 : decode cX5_speedIn 41 = .ok (.iadd, 1) := by decide +kernel
theorem dX5_speedIn_42 : decode cX5_speedIn 42 = .ok (.ireturn, 1) := by decide +kernel
theorem dX5_speedIn_43 : decode cX5_speedIn 43 = .ok (.aload_n 0, 1) := by decide +kernel
theorem dX5_speedIn_44 : decode cX5_speedIn 44 = .ok (.getfield 36, 3) := by decide +kernel
theorem dX5_speedIn_47 : decode cX5_speedIn 47 = .ok (.aload_n 0, 1) := by decide +kernel
theorem dX5_speedIn_48 : decode cX5_speedIn 48 = .ok (.getfield 10, 3) := by decide +kernel
theorem dX5_speedIn_51 : decode cX5_speedIn 51 = .ok (.iload_n 2, 1) := by decide +kernel
theorem dX5_speedIn_52 : decode cX5_speedIn 52 = .ok (.invokevirtual 150, 3) := by decide +kernel
theorem dX5_speedIn_55 : decode cX5_speedIn 55 = .ok (.bipush 100, 2) := by decide +kernel
theorem dX5_speedIn_57 : decode cX5_speedIn 57 = .ok (.aload_n 0, 1) := by decide +kernel
theorem dX5_speedIn_58 : decode cX5_speedIn 58 = .ok (.getfield 36, 3) := by decide +kernel
theorem dX5_speedIn_61 : decode cX5_speedIn 61 = .ok (.getfield 159, 3) := by decide +kernel
theorem dX5_speedIn_64 : decode cX5_speedIn 64 = .ok (.iload_n 1, 1) := by decide +kernel
theorem dX5_speedIn_65 : decode cX5_speedIn 65 = .ok (.iaload, 1) := by decide +kernel
theorem dX5_speedIn_66 : decode cX5_speedIn 66 = .ok (.iadd, 1) := by decide +kernel
theorem dX5_speedIn_67 : decode cX5_speedIn 67 = .ok (.ireturn, 1) := by decide +kernel
set_option maxRecDepth 20000 in
theorem ggX5_meetings_X0_foresee : GoodIn wsX5_meetings wsX0_foresee := goodIn_r _ [9, 10, 11, 12, 13, 14, 15, 8, 16, 17, 18, 19, 20, 21, 22, 23, 24, 25, 26, 27, 28, 29, 30, 31, 32, 33, 41, 42, 43, 44, 45, 46, 47, 48, 49, 50, 51, 52, 53, 54, 55] (by decide +kernel) (by decide +kernel)
set_option maxRecDepth 20000 in
theorem gX5_meetings_X0_foresee : GoodIn wsX5_meetings (wsV RX5 160 RX0 yX0_foresee wsX0_foresee) := goodIn_app (goodIn_of _ (by decide +kernel)) ggX5_meetings_X0_foresee
theorem dX5_meetings_0 : decode cX5_meetings 0 = .ok (.iload_n 1, 1) := by decide +kernel
theorem dX5_meetings_1 : decode cX5_meetings 1 = .ok (.iconst 1, 1) := by decide +kernel
theorem dX5_meetings_2 : decode cX5_meetings 2 = .ok (.if_icmp .lt 9, 3) := by decide +kernel
theorem dX5_meetings_5 : decode cX5_meetings 5 = .ok (.iload_n 1, 1) := by decide +kernel
theorem dX5_meetings_6 : decode cX5_meetings 6 = .ok (.bipush 100, 2) := by decide +kernel
theorem dX5_meetings_8 : decode cX5_meetings 8 = .ok (.if_icmp .le 6, 3) := by decide +kernel
theorem dX5_meetings_11 : decode cX5_meetings 11 = .ok (.bipush (-2), 2) := by decide +kernel
theorem dX5_meetings_13 : decode cX5_meetings 13 = .ok (.ireturn, 1) := by decide +kernel
theorem dX5_meetings_14 : decode cX5_meetings 14 = .ok (.iload_n 2, 1) := by decide +kernel
theorem dX5_meetings_15 : decode cX5_meetings 15 = .ok (.ifCond .lt 8, 3) := by decide +kernel
theorem dX5_meetings_18 : decode cX5_meetings 18 = .ok (.iload_n 2, 1) := by decide +kernel
theorem dX5_meetings_19 : decode cX5_meetings 19 = .ok (.iconst 1, 1) := by decide +kernel
theorem dX5_meetings_20 : decode cX5_meetings 20 = .ok (.if_icmp .le 6, 3) := by decide +kernel
theorem dX5_meetings_23 : decode cX5_meetings 23 = .ok (.bipush (-2), 2) := by decide +kernel
theorem dX5_meetings_25 : decode cX5_meetings 25 = .ok (.ireturn, 1) := by decide +kernel
theorem dX5_meetings_26 : decode cX5_meetings 26 = .ok (.aload_n 0, 1) := by decide +kernel
theorem dX5_meetings_27 : decode cX5_meetings 27 = .ok (.getfield 43, 3) := by decide +kernel
theorem dX5_meetings_30 : decode cX5_meetings 30 = .ok (.aload_n 0, 1) := by decide +kernel
theorem dX5_meetings_31 : decode cX5_meetings 31 = .ok (.getfield 10, 3) := by decide +kernel
theorem dX5_meetings_34 : decode cX5_meetings 34 = .ok (.iload_n 1, 1) := by decide +kernel
theorem dX5_meetings_35 : decode cX5_meetings 35 = .ok (.invokevirtual 160, 3) := by decide +kernel
theorem dX5_meetings_38 : decode cX5_meetings 38 = .ok (.iload_n 2, 1) := by decide +kernel
theorem dX5_meetings_39 : decode cX5_meetings 39 = .ok (.ifCond .ne 13, 3) := by decide +kernel
theorem dX5_meetings_42 : decode cX5_meetings 42 = .ok (.aload_n 0, 1) := by decide +kernel
theorem dX5_meetings_43 : decode cX5_meetings 43 = .ok (.getfield 43, 3) := by decide +kernel
theorem dX5_meetings_46 : decode cX5_meetings 46 = .ok (.getfield 161, 3) := by decide +kernel
theorem dX5_meetings_49 : decode cX5_meetings 49 = .ok (.goto 10, 3) := by decide +kernel
theorem dX5_meetings_52 : decode cX5_meetings 52 = .ok (.aload_n 0, 1) := by decide +kernel
theorem dX5_meetings_53 : decode cX5_meetings 53 = .ok (.getfield 43, 3) := by decide +kernel
theorem dX5_meetings_56 : decode cX5_meetings 56 = .ok (.getfield 164, 3) := by decide +kernel
theorem dX5_meetings_59 : decode cX5_meetings 59 = .ok (.ireturn, 1) := by decide +kernel
set_option maxRecDepth 20000 in
theorem ggX5_moments_X0_differentMoments : GoodIn wsX5_moments wsX0_differentMoments := goodIn_r _ [7, 8, 9, 10, 11, 12, 6, 13, 14, 15, 16, 17, 18, 19, 20, 21, 22, 23, 24, 25, 26, 27, 28, 29, 30, 31, 32, 33, 34, 35, 36, 37, 38, 39, 40, 41, 42, 43, 44, 45, 46, 47, 48, 56, 57, 58, 59, 60, 61, 62, 63, 64, 65, 66, 67, 68, 69, 70] (by decide +kernel) (by decide +kernel)
set_option maxRecDepth 20000 in
theorem gX5_moments_X0_differentMoments : GoodIn wsX5_moments (wsV RX5 167 RX0 yX0_differentMoments wsX0_differentMoments) := goodIn_app (goodIn_of _ (by decide +kernel)) ggX5_moments_X0_differentMoments
theorem dX5_moments_0 : decode cX5_moments 0 = .ok (.iload_n 1, 1) := by decide +kernel
theorem dX5_moments_1 : decode cX5_moments 1 = .ok (.iconst 1, 1) := by decide +kernel
theorem dX5_moments_2 : decode cX5_moments 2 = .ok (.if_icmp .lt 8, 3) := by decide +kernel
theorem dX5_moments_5 : decode cX5_moments 5 = .ok (.iload_n 1, 1) := by decide +kernel
theorem dX5_moments_6 : decode cX5_moments 6 = .ok (.iconst 3, 1) := by decide +kernel
theorem dX5_moments_7 : decode cX5_moments 7 = .ok (.if_icmp .le 6, 3) := by decide +kernel
theorem dX5_moments_10 : decode cX5_moments 10 = .ok (.bipush (-2), 2) := by decide +kernel
theorem dX5_moments_12 : decode cX5_moments 12 = .ok (.ireturn, 1) := by decide +kernel
theorem dX5_moments_13 : decode cX5_moments 13 = .ok (.aload_n 0, 1) := by decide +kernel
theorem dX5_moments_14 : decode cX5_moments 14 = .ok (.getfield 43, 3) := by decide +kernel
theorem dX5_moments_17 : decode cX5_moments 17 = .ok (.aload_n 0, 1) := by decide +kernel
theorem dX5_moments_18 : decode cX5_moments 18 = .ok (.getfield 10, 3) := by decide +kernel
theorem dX5_moments_21 : decode cX5_moments 21 = .ok (.iload_n 1, 1) := by decide +kernel
theorem dX5_moments_22 : decode cX5_moments 22 = .ok (.invokevirtual 167, 3) := by decide +kernel
theorem dX5_moments_25 : decode cX5_moments 25 = .ok (.ireturn, 1) := by decide +kernel
set_option maxRecDepth 20000 in
theorem ggX5_next_X0_findFirst : GoodIn wsX5_next wsX0_findFirst := goodIn_r _ [10, 11, 12, 13, 14, 15, 16, 17, 18, 19, 20, 21, 22, 23, 24, 25, 26, 27, 28, 29, 30, 31, 9, 32, 33, 34, 35, 36, 37, 38, 39, 47, 48, 49, 50, 51, 52, 53, 54, 55, 56, 57, 58, 59, 60, 61] (by decide +kernel) (by decide +kernel)
set_option maxRecDepth 20000 in
theorem gX5_next_X0_findFirst : GoodIn wsX5_next (wsV RX5 171 RX0 yX0_findFirst wsX0_findFirst) := goodIn_app (goodIn_of _ (by decide +kernel)) ggX5_next_X0_findFirst
theorem dX5_next_0 : decode cX5_next 0 = .ok (.iload_n 1, 1) := by decide +kernel
theorem dX5_next_1 : decode cX5_next 1 = .ok (.ifCond .lt 8, 3) := by decide +kernel
theorem dX5_next_4 : decode cX5_next 4 = .ok (.iload_n 1, 1) := by decide +kernel
theorem dX5_next_5 : decode cX5_next 5 = .ok (.iconst 2, 1) := by decide +kernel
theorem dX5_next_6 : decode cX5_next 6 = .ok (.if_icmp .le 6, 3) := by decide +kernel
theorem dX5_next_9 : decode cX5_next 9 = .ok (.bipush (-2), 2) := by decide +kernel
theorem dX5_next_11 : decode cX5_next 11 = .ok (.ireturn, 1) := by decide +kernel
theorem dX5_next_12 : decode cX5_next 12 = .ok (.aload_n 0, 1) := by decide +kernel
theorem dX5_next_13 : decode cX5_next 13 = .ok (.getfield 43, 3) := by decide +kernel
theorem dX5_next_16 : decode cX5_next 16 = .ok (.aload_n 0, 1) := by decide +kernel
theorem dX5_next_17 : decode cX5_next 17 = .ok (.getfield 10, 3) := by decide +kernel
theorem dX5_next_20 : decode cX5_next 20 = .ok (.invokevirtual 171, 3) := by decide +kernel
theorem dX5_next_23 : decode cX5_next 23 = .ok (.aload_n 0, 1) := by decide +kernel
theorem dX5_next_24 : decode cX5_next 24 = .ok (.getfield 43, 3) := by decide +kernel
theorem dX5_next_27 : decode cX5_next 27 = .ok (.getfield 174, 3) := by decide +kernel
theorem dX5_next_30 : decode cX5_next 30 = .ok (.ifCond .ne 6, 3) := by decide +kernel
theorem dX5_next_33 : decode cX5_next 33 = .ok (.bipush (-5), 2) := by decide +kernel
theorem dX5_next_35 : decode cX5_next 35 = .ok (.ireturn, 1) := by decide +kernel
theorem dX5_next_36 : decode cX5_next 36 = .ok (.iload_n 1, 1) := by decide +kernel
theorem dX5_next_37 : decode cX5_next 37 = .ok (.ifCond .ne 11, 3) := by decide +kernel
theorem dX5_next_40 : decode cX5_next 40 = .ok (.aload_n 0, 1) := by decide +kernel
theorem dX5_next_41 : decode cX5_next 41 = .ok (.getfield 43, 3) := by decide +kernel
theorem dX5_next_44 : decode cX5_next 44 = .ok (.getfield 177, 3) := by decide +kernel
theorem dX5_next_47 : decode cX5_next 47 = .ok (.ireturn, 1) := by decide +kernel
theorem dX5_next_48 : decode cX5_next 48 = .ok (.iload_n 1, 1) := by decide +kernel
theorem dX5_next_49 : decode cX5_next 49 = .ok (.iconst 1, 1) := by decide +kernel
theorem dX5_next_50 : decode cX5_next 50 = .ok (.if_icmp .ne 13, 3) := by decide +kernel
theorem dX5_next_53 : decode cX5_next 53 = .ok (.aload_n 0, 1) := by decide +kernel
theorem dX5_next_54 : decode cX5_next 54 = .ok (.getfield 43, 3) := by decide +kernel
theorem dX5_next_57 : decode cX5_next 57 = .ok (.getfield 180, 3) := by decide +kernel
theorem dX5_next_60 : decode cX5_next 60 = .ok (.goto 10, 3) := by decide +kernel
theorem dX5_next_63 : decode cX5_next 63 = .ok (.aload_n 0, 1) := by decide +kernel
theorem dX5_next_64 : decode cX5_next 64 = .ok (.getfield 43, 3) := by decide +kernel
theorem dX5_next_67 : decode cX5_next 67 = .ok (.getfield 174, 3) := by decide +kernel
theorem dX5_next_70 : decode cX5_next 70 = .ok (.ireturn, 1) := by decide +kernel
set_option maxRecDepth 20000 in
theorem ggX5_count_X3_freeLength : GoodIn wsX5_count wsX3_freeLength := goodIn_r _ [15, 16, 17, 18, 64, 65, 66, 67, 68, 69, 70, 71, 72] (by decide +kernel) (by decide +kernel)
set_option maxRecDepth 20000 in
theorem gX5_count_X3_freeLength : GoodIn wsX5_count (wsV RX5 183 RX3 yX3_freeLength wsX3_freeLength) := goodIn_app (goodIn_of _ (by decide +kernel)) ggX5_count_X3_freeLength
set_option maxRecDepth 20000 in
theorem ggX5_count_X3_sumOfSpeeds : GoodIn wsX5_count wsX3_sumOfSpeeds := goodIn_r _ [22, 17, 23, 64, 65, 66, 67, 68, 69, 70, 71, 72] (by decide +kernel) (by decide +kernel)
set_option maxRecDepth 20000 in
theorem gX5_count_X3_sumOfSpeeds : GoodIn wsX5_count (wsV RX5 190 RX3 yX3_sumOfSpeeds wsX3_sumOfSpeeds) := goodIn_app (goodIn_of _ (by decide +kernel)) ggX5_count_X3_sumOfSpeeds
set_option maxRecDepth 20000 in
theorem ggX5_count_X3_sumOfSquares : GoodIn wsX5_count wsX3_sumOfSquares := goodIn_r _ [27, 17, 23, 64, 65, 66, 67, 68, 69, 70, 71, 72] (by decide +kernel) (by decide +kernel)
set_option maxRecDepth 20000 in
theorem gX5_count_X3_sumOfSquares : GoodIn wsX5_count (wsV RX5 193 RX3 yX3_sumOfSquares wsX3_sumOfSquares) := goodIn_app (goodIn_of _ (by decide +kernel)) ggX5_count_X3_sumOfSquares
set_option maxRecDepth 20000 in
theorem ggX5_count_X3_clusters : GoodIn wsX5_count wsX3_clusters := goodIn_r _ [31, 17, 32, 33, 34, 14, 35, 36, 37, 38, 39, 40, 12, 13, 15, 16, 18, 41, 42, 43, 44, 45, 46, 47, 48, 49, 64, 65, 66, 67, 68, 69, 70, 71, 72] (by decide +kernel) (by decide +kernel)
set_option maxRecDepth 20000 in
theorem gX5_count_X3_clusters : GoodIn wsX5_count (wsV RX5 196 RX3 yX3_clusters wsX3_clusters) := goodIn_app (goodIn_of _ (by decide +kernel)) ggX5_count_X3_clusters
set_option maxRecDepth 20000 in
theorem ggX5_count_X3_greatestGap : GoodIn wsX5_count wsX3_greatestGap := goodIn_r _ [53, 17, 54, 55, 38, 56, 32, 33, 34, 14, 35, 36, 37, 39, 40, 12, 13, 15, 16, 18, 41, 42, 43, 44, 45, 46, 47, 48, 49, 64, 65, 66, 67, 68, 69, 70, 71, 72] (by decide +kernel) (by decide +kernel)
set_option maxRecDepth 20000 in
theorem gX5_count_X3_greatestGap : GoodIn wsX5_count (wsV RX5 199 RX3 yX3_greatestGap wsX3_greatestGap) := goodIn_app (goodIn_of _ (by decide +kernel)) ggX5_count_X3_greatestGap
theorem dX5_count_0 : decode cX5_count 0 = .ok (.iload_n 1, 1) := by decide +kernel
theorem dX5_count_1 : decode cX5_count 1 = .ok (.tableswitch 163 0 11 #[63, 71, 79, 87, 95, 103, 111, 123, 131, 139, 147, 155], 63) := by decide +kernel
theorem dX5_count_64 : decode cX5_count 64 = .ok (.aload_n 0, 1) := by decide +kernel
theorem dX5_count_65 : decode cX5_count 65 = .ok (.getfield 10, 3) := by decide +kernel
theorem dX5_count_68 : decode cX5_count 68 = .ok (.getfield 55, 3) := by decide +kernel
theorem dX5_count_71 : decode cX5_count 71 = .ok (.ireturn, 1) := by decide +kernel
theorem dX5_count_72 : decode cX5_count 72 = .ok (.aload_n 0, 1) := by decide +kernel
theorem dX5_count_73 : decode cX5_count 73 = .ok (.getfield 10, 3) := by decide +kernel
theorem dX5_count_76 : decode cX5_count 76 = .ok (.getfield 51, 3) := by decide +kernel
theorem dX5_count_79 : decode cX5_count 79 = .ok (.ireturn, 1) := by decide +kernel
theorem dX5_count_80 : decode cX5_count 80 = .ok (.aload_n 0, 1) := by decide +kernel
theorem dX5_count_81 : decode cX5_count 81 = .ok (.getfield 10, 3) := by decide +kernel
theorem dX5_count_84 : decode cX5_count 84 = .ok (.invokevirtual 183, 3) := by decide +kernel
theorem dX5_count_87 : decode cX5_count 87 = .ok (.ireturn, 1) := by decide +kernel
theorem dX5_count_88 : decode cX5_count 88 = .ok (.aload_n 0, 1) := by decide +kernel
theorem dX5_count_89 : decode cX5_count 89 = .ok (.getfield 10, 3) := by decide +kernel
theorem dX5_count_92 : decode cX5_count 92 = .ok (.getfield 95, 3) := by decide +kernel
theorem dX5_count_95 : decode cX5_count 95 = .ok (.ireturn, 1) := by decide +kernel
theorem dX5_count_96 : decode cX5_count 96 = .ok (.aload_n 0, 1) := by decide +kernel
theorem dX5_count_97 : decode cX5_count 97 = .ok (.getfield 10, 3) := by decide +kernel
theorem dX5_count_100 : decode cX5_count 100 = .ok (.getfield 186, 3) := by decide +kernel
theorem dX5_count_103 : decode cX5_count 103 = .ok (.ireturn, 1) := by decide +kernel
theorem dX5_count_104 : decode cX5_count 104 = .ok (.aload_n 0, 1) := by decide +kernel
theorem dX5_count_105 : decode cX5_count 105 = .ok (.getfield 10, 3) := by decide +kernel
theorem dX5_count_108 : decode cX5_count 108 = .ok (.getfield 189, 3) := by decide +kernel
theorem dX5_count_111 : decode cX5_count 111 = .ok (.ireturn, 1) := by decide +kernel
theorem dX5_count_112 : decode cX5_count 112 = .ok (.sipush 1000, 3) := by decide +kernel
theorem dX5_count_115 : decode cX5_count 115 = .ok (.aload_n 0, 1) := by decide +kernel
theorem dX5_count_116 : decode cX5_count 116 = .ok (.getfield 10, 3) := by decide +kernel
theorem dX5_count_119 : decode cX5_count 119 = .ok (.invokevirtual 190, 3) := by decide +kernel
theorem dX5_count_122 : decode cX5_count 122 = .ok (.iadd, 1) := by decide +kernel
theorem dX5_count_123 : decode cX5_count 123 = .ok (.ireturn, 1) := by decide +kernel
theorem dX5_count_124 : decode cX5_count 124 = .ok (.aload_n 0, 1) := by decide +kernel
theorem dX5_count_125 : decode cX5_count 125 = .ok (.getfield 10, 3) := by decide +kernel
theorem dX5_count_128 : decode cX5_count 128 = .ok (.invokevirtual 193, 3) := by decide +kernel
theorem dX5_count_131 : decode cX5_count 131 = .ok (.ireturn, 1) := by decide +kernel
theorem dX5_count_132 : decode cX5_count 132 = .ok (.aload_n 0, 1) := by decide +kernel
theorem dX5_count_133 : decode cX5_count 133 = .ok (.getfield 10, 3) := by decide +kernel
theorem dX5_count_136 : decode cX5_count 136 = .ok (.invokevirtual 196, 3) := by decide +kernel
theorem dX5_count_139 : decode cX5_count 139 = .ok (.ireturn, 1) := by decide +kernel
theorem dX5_count_140 : decode cX5_count 140 = .ok (.aload_n 0, 1) := by decide +kernel
theorem dX5_count_141 : decode cX5_count 141 = .ok (.getfield 10, 3) := by decide +kernel
theorem dX5_count_144 : decode cX5_count 144 = .ok (.invokevirtual 199, 3) := by decide +kernel
theorem dX5_count_147 : decode cX5_count 147 = .ok (.ireturn, 1) := by decide +kernel
theorem dX5_count_148 : decode cX5_count 148 = .ok (.aload_n 0, 1) := by decide +kernel
theorem dX5_count_149 : decode cX5_count 149 = .ok (.getfield 22, 3) := by decide +kernel
theorem dX5_count_152 : decode cX5_count 152 = .ok (.getfield 117, 3) := by decide +kernel
theorem dX5_count_155 : decode cX5_count 155 = .ok (.ireturn, 1) := by decide +kernel
theorem dX5_count_156 : decode cX5_count 156 = .ok (.aload_n 0, 1) := by decide +kernel
theorem dX5_count_157 : decode cX5_count 157 = .ok (.getfield 29, 3) := by decide +kernel
theorem dX5_count_160 : decode cX5_count 160 = .ok (.getfield 102, 3) := by decide +kernel
theorem dX5_count_163 : decode cX5_count 163 = .ok (.ireturn, 1) := by decide +kernel
theorem dX5_count_164 : decode cX5_count 164 = .ok (.bipush (-2), 2) := by decide +kernel
theorem dX5_count_166 : decode cX5_count 166 = .ok (.ireturn, 1) := by decide +kernel
theorem dX5_isSpeed_0 : decode cX5_isSpeed 0 = .ok (.iload_n 0, 1) := by decide +kernel
theorem dX5_isSpeed_1 : decode cX5_isSpeed 1 = .ok (.bipush (-9), 2) := by decide +kernel
theorem dX5_isSpeed_3 : decode cX5_isSpeed 3 = .ok (.if_icmp .lt 13, 3) := by decide +kernel
theorem dX5_isSpeed_6 : decode cX5_isSpeed 6 = .ok (.iload_n 0, 1) := by decide +kernel
theorem dX5_isSpeed_7 : decode cX5_isSpeed 7 = .ok (.bipush 9, 2) := by decide +kernel
theorem dX5_isSpeed_9 : decode cX5_isSpeed 9 = .ok (.if_icmp .gt 7, 3) := by decide +kernel
theorem dX5_isSpeed_12 : decode cX5_isSpeed 12 = .ok (.iconst 1, 1) := by decide +kernel
theorem dX5_isSpeed_13 : decode cX5_isSpeed 13 = .ok (.goto 4, 3) := by decide +kernel
theorem dX5_isSpeed_16 : decode cX5_isSpeed 16 = .ok (.iconst 0, 1) := by decide +kernel
theorem dX5_isSpeed_17 : decode cX5_isSpeed 17 = .ok (.ireturn, 1) := by decide +kernel
set_option maxRecDepth 20000 in
theorem ggX5_letPass_X0_foresee : GoodIn wsX5_letPass wsX0_foresee := goodIn_r _ [19, 20, 21, 22, 23, 24, 25, 18, 26, 27, 28, 29, 30, 31, 32, 33, 34, 35, 36, 37, 38, 39, 40, 41, 42, 43, 109, 110, 111, 112, 113, 114, 96, 97, 98, 99, 100, 101, 102, 103, 104] (by decide +kernel) (by decide +kernel)
set_option maxRecDepth 20000 in
theorem gX5_letPass_X0_foresee : GoodIn wsX5_letPass (wsV RX5 160 RX0 yX0_foresee wsX0_foresee) := goodIn_app (goodIn_of _ (by decide +kernel)) ggX5_letPass_X0_foresee
set_option maxRecDepth 20000 in
theorem ggX5_letPass_X2_foresee : GoodIn wsX5_letPass wsX2_foresee := goodIn_r _ [48, 49, 50, 51, 52, 53, 54, 55, 28, 29, 30, 31, 32, 33, 34, 56, 57, 58, 47, 59, 60, 36, 37, 38, 39, 40, 41, 42, 43, 61, 62, 63, 64, 65, 66, 67, 68, 69, 70, 71, 72, 73, 74, 75, 76, 77, 78, 79, 96, 97, 98, 99, 100, 101, 102, 103, 104, 105, 106, 107, 108] (by decide +kernel) (by decide +kernel)
set_option maxRecDepth 20000 in
theorem gX5_letPass_X2_foresee : GoodIn wsX5_letPass (wsV RX5 150 RX2 yX2_foresee wsX2_foresee) := goodIn_app (goodIn_of _ (by decide +kernel)) ggX5_letPass_X2_foresee
set_option maxRecDepth 20000 in
theorem ggX5_letPass_X3_placeBehind : GoodIn wsX5_letPass wsX3_placeBehind := goodIn_r _ [83, 43, 84, 85, 86, 30, 87, 32, 88, 62, 63, 64, 96, 97, 98, 99, 100, 101, 102, 103, 104] (by decide +kernel) (by decide +kernel)
set_option maxRecDepth 20000 in
theorem gX5_letPass_X3_placeBehind : GoodIn wsX5_letPass (wsV RX5 155 RX3 yX3_placeBehind wsX3_placeBehind) := goodIn_app (goodIn_of _ (by decide +kernel)) ggX5_letPass_X3_placeBehind
theorem dX5_letPass_0 : decode cX5_letPass 0 = .ok (.aload_n 0, 1) := by decide +kernel
theorem dX5_letPass_1 : decode cX5_letPass 1 = .ok (.getfield 43, 3) := by decide +kernel
theorem dX5_letPass_4 : decode cX5_letPass 4 = .ok (.aload_n 0, 1) := by decide +kernel
theorem dX5_letPass_5 : decode cX5_letPass 5 = .ok (.getfield 10, 3) := by decide +kernel
theorem dX5_letPass_8 : decode cX5_letPass 8 = .ok (.iload_n 1, 1) := by decide +kernel
theorem dX5_letPass_9 : decode cX5_letPass 9 = .ok (.invokevirtual 160, 3) := by decide +kernel
theorem dX5_letPass_12 : decode cX5_letPass 12 = .ok (.aload_n 0, 1) := by decide +kernel
theorem dX5_letPass_13 : decode cX5_letPass 13 = .ok (.getfield 36, 3) := by decide +kernel
theorem dX5_letPass_16 : decode cX5_letPass 16 = .ok (.aload_n 0, 1) := by decide +kernel
theorem dX5_letPass_17 : decode cX5_letPass 17 = .ok (.getfield 10, 3) := by decide +kernel
theorem dX5_letPass_20 : decode cX5_letPass 20 = .ok (.iload_n 1, 1) := by decide +kernel
theorem dX5_letPass_21 : decode cX5_letPass 21 = .ok (.invokevirtual 150, 3) := by decide +kernel
theorem dX5_letPass_24 : decode cX5_letPass 24 = .ok (.iconst 0, 1) := by decide +kernel
theorem dX5_letPass_25 : decode cX5_letPass 25 = .ok (.istore_n 2, 1) := by decide +kernel
theorem dX5_letPass_26 : decode cX5_letPass 26 = .ok (.iload_n 2, 1) := by decide +kernel
theorem dX5_letPass_27 : decode cX5_letPass 27 = .ok (.aload_n 0, 1) := by decide +kernel
theorem dX5_letPass_28 : decode cX5_letPass 28 = .ok (.getfield 10, 3) := by decide +kernel
theorem dX5_letPass_31 : decode cX5_letPass 31 = .ok (.getfield 51, 3) := by decide +kernel
theorem dX5_letPass_34 : decode cX5_letPass 34 = .ok (.if_icmp .ge 74, 3) := by decide +kernel
theorem dX5_letPass_37 : decode cX5_letPass 37 = .ok (.aload_n 0, 1) := by decide +kernel
theorem dX5_letPass_38 : decode cX5_letPass 38 = .ok (.getfield 10, 3) := by decide +kernel
theorem dX5_letPass_41 : decode cX5_letPass 41 = .ok (.getfield 126, 3) := by decide +kernel
theorem dX5_letPass_44 : decode cX5_letPass 44 = .ok (.iload_n 2, 1) := by decide +kernel
theorem dX5_letPass_45 : decode cX5_letPass 45 = .ok (.aload_n 0, 1) := by decide +kernel
theorem dX5_letPass_46 : decode cX5_letPass 46 = .ok (.getfield 10, 3) := by decide +kernel
theorem dX5_letPass_49 : decode cX5_letPass 49 = .ok (.iload_n 2, 1) := by decide +kernel
theorem dX5_letPass_50 : decode cX5_letPass 50 = .ok (.aload_n 0, 1) := by decide +kernel
theorem dX5_letPass_51 : decode cX5_letPass 51 = .ok (.getfield 36, 3) := by decide +kernel
theorem dX5_letPass_54 : decode cX5_letPass 54 = .ok (.getfield 154, 3) := by decide +kernel
theorem dX5_letPass_57 : decode cX5_letPass 57 = .ok (.iload_n 2, 1) := by decide +kernel
theorem dX5_letPass_58 : decode cX5_letPass 58 = .ok (.iaload, 1) := by decide +kernel
theorem dX5_letPass_59 : decode cX5_letPass 59 = .ok (.invokevirtual 155, 3) := by decide +kernel
theorem dX5_letPass_62 : decode cX5_letPass 62 = .ok (.iastore, 1) := by decide +kernel
theorem dX5_letPass_63 : decode cX5_letPass 63 = .ok (.aload_n 0, 1) := by decide +kernel
theorem dX5_letPass_64 : decode cX5_letPass 64 = .ok (.getfield 10, 3) := by decide +kernel
theorem dX5_letPass_67 : decode cX5_letPass 67 = .ok (.getfield 144, 3) := by decide +kernel
theorem dX5_letPass_70 : decode cX5_letPass 70 = .ok (.iload_n 2, 1) := by decide +kernel
theorem dX5_letPass_71 : decode cX5_letPass 71 = .ok (.dup2, 1) := by decide +kernel
theorem dX5_letPass_72 : decode cX5_letPass 72 = .ok (.iaload, 1) := by decide +kernel
theorem dX5_letPass_73 : decode cX5_letPass 73 = .ok (.aload_n 0, 1) := by decide +kernel
theorem dX5_letPass_74 : decode cX5_letPass 74 = .ok (.getfield 36, 3) := by decide +kernel
theorem dX5_letPass_77 : decode cX5_letPass 77 = .ok (.getfield 154, 3) := by decide +kernel
theorem dX5_letPass_80 : decode cX5_letPass 80 = .ok (.iload_n 2, 1) := by decide +kernel
theorem dX5_letPass_81 : decode cX5_letPass 81 = .ok (.iaload, 1) := by decide +kernel
theorem dX5_letPass_82 : decode cX5_letPass 82 = .ok (.iadd, 1) := by decide +kernel
theorem dX5_letPass_83 : decode cX5_letPass 83 = .ok (.iastore, 1) := by decide +kernel
theorem dX5_letPass_84 : decode cX5_letPass 84 = .ok (.aload_n 0, 1) := by decide +kernel
theorem dX5_letPass_85 : decode cX5_letPass 85 = .ok (.getfield 10, 3) := by decide +kernel
theorem dX5_letPass_88 : decode cX5_letPass 88 = .ok (.getfield 84, 3) := by decide +kernel
theorem dX5_letPass_91 : decode cX5_letPass 91 = .ok (.iload_n 2, 1) := by decide +kernel
theorem dX5_letPass_92 : decode cX5_letPass 92 = .ok (.aload_n 0, 1) := by decide +kernel
theorem dX5_letPass_93 : decode cX5_letPass 93 = .ok (.getfield 36, 3) := by decide +kernel
theorem dX5_letPass_96 : decode cX5_letPass 96 = .ok (.getfield 159, 3) := by decide +kernel
theorem dX5_letPass_99 : decode cX5_letPass 99 = .ok (.iload_n 2, 1) := by decide +kernel
theorem dX5_letPass_100 : decode cX5_letPass 100 = .ok (.iaload, 1) := by decide +kernel
