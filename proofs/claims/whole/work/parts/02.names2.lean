theorem dX3_hasRod_6 : decode cX3_hasRod 6 = .ok (.getfield 28, 3) := by decide +kernel
theorem dX3_hasRod_9 : decode cX3_hasRod 9 = .ok (.if_icmp .ge 7, 3) := by decide +kernel
theorem dX3_hasRod_12 : decode cX3_hasRod 12 = .ok (.iconst 1, 1) := by decide +kernel
theorem dX3_hasRod_13 : decode cX3_hasRod 13 = .ok (.goto 4, 3) := by decide +kernel
theorem dX3_hasRod_16 : decode cX3_hasRod 16 = .ok (.iconst 0, 1) := by decide +kernel
theorem dX3_hasRod_17 : decode cX3_hasRod 17 = .ok (.ireturn, 1) := by decide +kernel
theorem dX3_hasPlace_0 : decode cX3_hasPlace 0 = .ok (.iload_n 1, 1) := by decide +kernel
theorem dX3_hasPlace_1 : decode cX3_hasPlace 1 = .ok (.ifCond .lt 15, 3) := by decide +kernel
theorem dX3_hasPlace_4 : decode cX3_hasPlace 4 = .ok (.iload_n 1, 1) := by decide +kernel
theorem dX3_hasPlace_5 : decode cX3_hasPlace 5 = .ok (.aload_n 0, 1) := by decide +kernel
theorem dX3_hasPlace_6 : decode cX3_hasPlace 6 = .ok (.getfield 9, 3) := by decide +kernel
theorem dX3_hasPlace_9 : decode cX3_hasPlace 9 = .ok (.if_icmp .ge 7, 3) := by decide +kernel
theorem dX3_hasPlace_12 : decode cX3_hasPlace 12 = .ok (.iconst 1, 1) := by decide +kernel
theorem dX3_hasPlace_13 : decode cX3_hasPlace 13 = .ok (.goto 4, 3) := by decide +kernel
theorem dX3_hasPlace_16 : decode cX3_hasPlace 16 = .ok (.iconst 0, 1) := by decide +kernel
theorem dX3_hasPlace_17 : decode cX3_hasPlace 17 = .ok (.ireturn, 1) := by decide +kernel
theorem dX3_freeLength_0 : decode cX3_freeLength 0 = .ok (.aload_n 0, 1) := by decide +kernel
theorem dX3_freeLength_1 : decode cX3_freeLength 1 = .ok (.getfield 9, 3) := by decide +kernel
theorem dX3_freeLength_4 : decode cX3_freeLength 4 = .ok (.istore_n 1, 1) := by decide +kernel
theorem dX3_freeLength_5 : decode cX3_freeLength 5 = .ok (.iconst 0, 1) := by decide +kernel
theorem dX3_freeLength_6 : decode cX3_freeLength 6 = .ok (.istore_n 2, 1) := by decide +kernel
theorem dX3_freeLength_7 : decode cX3_freeLength 7 = .ok (.iload_n 2, 1) := by decide +kernel
theorem dX3_freeLength_8 : decode cX3_freeLength 8 = .ok (.aload_n 0, 1) := by decide +kernel
theorem dX3_freeLength_9 : decode cX3_freeLength 9 = .ok (.getfield 28, 3) := by decide +kernel
theorem dX3_freeLength_12 : decode cX3_freeLength 12 = .ok (.if_icmp .ge 18, 3) := by decide +kernel
theorem dX3_freeLength_15 : decode cX3_freeLength 15 = .ok (.iload_n 1, 1) := by decide +kernel
theorem dX3_freeLength_16 : decode cX3_freeLength 16 = .ok (.aload_n 0, 1) := by decide +kernel
theorem dX3_freeLength_17 : decode cX3_freeLength 17 = .ok (.getfield 19, 3) := by decide +kernel
theorem dX3_freeLength_20 : decode cX3_freeLength 20 = .ok (.iload_n 2, 1) := by decide +kernel
theorem dX3_freeLength_21 : decode cX3_freeLength 21 = .ok (.iaload, 1) := by decide +kernel
theorem dX3_freeLength_22 : decode cX3_freeLength 22 = .ok (.isub, 1) := by decide +kernel
theorem dX3_freeLength_23 : decode cX3_freeLength 23 = .ok (.istore_n 1, 1) := by decide +kernel
theorem dX3_freeLength_24 : decode cX3_freeLength 24 = .ok (.iinc 2 1, 3) := by decide +kernel
theorem dX3_freeLength_27 : decode cX3_freeLength 27 = .ok (.goto (-20), 3) := by decide +kernel
theorem dX3_freeLength_30 : decode cX3_freeLength 30 = .ok (.iload_n 1, 1) := by decide +kernel
theorem dX3_freeLength_31 : decode cX3_freeLength 31 = .ok (.ireturn, 1) := by decide +kernel
set_option maxRecDepth 20000 in
theorem ggX3_hasRoom_X3_freeLength : GoodIn wsX3_hasRoom wsX3_freeLength := goodIn_r _ [5, 6, 7, 8, 22, 23, 24, 25, 26, 27, 28, 29, 30] (by decide +kernel) (by decide +kernel)
set_option maxRecDepth 20000 in
theorem gX3_hasRoom_X3_freeLength : GoodIn wsX3_hasRoom (wsV RX3 40 RX3 yX3_freeLength wsX3_freeLength) := goodIn_app (goodIn_of _ (by decide +kernel)) ggX3_hasRoom_X3_freeLength
set_option maxRecDepth 20000 in
theorem ggX3_hasRoom_X3_onRing : GoodIn wsX3_hasRoom wsX3_onRing := goodIn_r _ [12, 6, 13, 14, 15, 16, 22, 23, 24, 25, 26, 27, 28, 29, 30] (by decide +kernel) (by decide +kernel)
set_option maxRecDepth 20000 in
theorem gX3_hasRoom_X3_onRing : GoodIn wsX3_hasRoom (wsV RX3 44 RX3 yX3_onRing wsX3_onRing) := goodIn_app (goodIn_of _ (by decide +kernel)) ggX3_hasRoom_X3_onRing
set_option maxRecDepth 20000 in
theorem ggX3_hasRoom_X3_rodThatCovers : GoodIn wsX3_hasRoom wsX3_rodThatCovers := goodIn_r _ [20, 7, 21, 8, 9, 10, 11, 4, 12, 6, 13, 14, 15, 16, 22, 23, 24, 25, 26, 27, 28, 29, 30] (by decide +kernel) (by decide +kernel)
set_option maxRecDepth 20000 in
theorem gX3_hasRoom_X3_rodThatCovers : GoodIn wsX3_hasRoom (wsV RX3 48 RX3 yX3_rodThatCovers wsX3_rodThatCovers) := goodIn_app (goodIn_of _ (by decide +kernel)) ggX3_hasRoom_X3_rodThatCovers
theorem dX3_hasRoom_0 : decode cX3_hasRoom 0 = .ok (.iload_n 2, 1) := by decide +kernel
theorem dX3_hasRoom_1 : decode cX3_hasRoom 1 = .ok (.aload_n 0, 1) := by decide +kernel
theorem dX3_hasRoom_2 : decode cX3_hasRoom 2 = .ok (.invokevirtual 40, 3) := by decide +kernel
theorem dX3_hasRoom_5 : decode cX3_hasRoom 5 = .ok (.if_icmp .lt 5, 3) := by decide +kernel
theorem dX3_hasRoom_8 : decode cX3_hasRoom 8 = .ok (.iconst 0, 1) := by decide +kernel
theorem dX3_hasRoom_9 : decode cX3_hasRoom 9 = .ok (.ireturn, 1) := by decide +kernel
theorem dX3_hasRoom_10 : decode cX3_hasRoom 10 = .ok (.iconst 0, 1) := by decide +kernel
theorem dX3_hasRoom_11 : decode cX3_hasRoom 11 = .ok (.istore_n 3, 1) := by decide +kernel
theorem dX3_hasRoom_12 : decode cX3_hasRoom 12 = .ok (.iload_n 3, 1) := by decide +kernel
theorem dX3_hasRoom_13 : decode cX3_hasRoom 13 = .ok (.iload_n 2, 1) := by decide +kernel
theorem dX3_hasRoom_14 : decode cX3_hasRoom 14 = .ok (.if_icmp .ge 27, 3) := by decide +kernel
theorem dX3_hasRoom_17 : decode cX3_hasRoom 17 = .ok (.aload_n 0, 1) := by decide +kernel
theorem dX3_hasRoom_18 : decode cX3_hasRoom 18 = .ok (.aload_n 0, 1) := by decide +kernel
theorem dX3_hasRoom_19 : decode cX3_hasRoom 19 = .ok (.iload_n 1, 1) := by decide +kernel
theorem dX3_hasRoom_20 : decode cX3_hasRoom 20 = .ok (.iload_n 3, 1) := by decide +kernel
theorem dX3_hasRoom_21 : decode cX3_hasRoom 21 = .ok (.iadd, 1) := by decide +kernel
theorem dX3_hasRoom_22 : decode cX3_hasRoom 22 = .ok (.invokevirtual 44, 3) := by decide +kernel
theorem dX3_hasRoom_25 : decode cX3_hasRoom 25 = .ok (.invokevirtual 48, 3) := by decide +kernel
theorem dX3_hasRoom_28 : decode cX3_hasRoom 28 = .ok (.bipush (-5), 2) := by decide +kernel
theorem dX3_hasRoom_30 : decode cX3_hasRoom 30 = .ok (.if_icmp .eq 5, 3) := by decide +kernel
theorem dX3_hasRoom_33 : decode cX3_hasRoom 33 = .ok (.iconst 0, 1) := by decide +kernel
theorem dX3_hasRoom_34 : decode cX3_hasRoom 34 = .ok (.ireturn, 1) := by decide +kernel
theorem dX3_hasRoom_35 : decode cX3_hasRoom 35 = .ok (.iinc 3 1, 3) := by decide +kernel
theorem dX3_hasRoom_38 : decode cX3_hasRoom 38 = .ok (.goto (-26), 3) := by decide +kernel
theorem dX3_hasRoom_41 : decode cX3_hasRoom 41 = .ok (.iconst 1, 1) := by decide +kernel
theorem dX3_hasRoom_42 : decode cX3_hasRoom 42 = .ok (.ireturn, 1) := by decide +kernel
theorem dX3_append_0 : decode cX3_append 0 = .ok (.aload_n 0, 1) := by decide +kernel
theorem dX3_append_1 : decode cX3_append 1 = .ok (.getfield 28, 3) := by decide +kernel
theorem dX3_append_4 : decode cX3_append 4 = .ok (.istore 4, 2) := by decide +kernel
theorem dX3_append_6 : decode cX3_append 6 = .ok (.iload 4, 2) := by decide +kernel
theorem dX3_append_8 : decode cX3_append 8 = .ok (.ifCond .lt 10, 3) := by decide +kernel
theorem dX3_append_11 : decode cX3_append 11 = .ok (.iload 4, 2) := by decide +kernel
theorem dX3_append_13 : decode cX3_append 13 = .ok (.bipush 8, 2) := by decide +kernel
theorem dX3_append_15 : decode cX3_append 15 = .ok (.if_icmp .lt 6, 3) := by decide +kernel
theorem dX3_append_18 : decode cX3_append 18 = .ok (.bipush (-3), 2) := by decide +kernel
theorem dX3_append_20 : decode cX3_append 20 = .ok (.ireturn, 1) := by decide +kernel
theorem dX3_append_21 : decode cX3_append 21 = .ok (.aload_n 0, 1) := by decide +kernel
theorem dX3_append_22 : decode cX3_append 22 = .ok (.getfield 15, 3) := by decide +kernel
theorem dX3_append_25 : decode cX3_append 25 = .ok (.iload 4, 2) := by decide +kernel
theorem dX3_append_27 : decode cX3_append 27 = .ok (.iload_n 1, 1) := by decide +kernel
theorem dX3_append_28 : decode cX3_append 28 = .ok (.iastore, 1) := by decide +kernel
theorem dX3_append_29 : decode cX3_append 29 = .ok (.aload_n 0, 1) := by decide +kernel
theorem dX3_append_30 : decode cX3_append 30 = .ok (.getfield 19, 3) := by decide +kernel
theorem dX3_append_33 : decode cX3_append 33 = .ok (.iload 4, 2) := by decide +kernel
theorem dX3_append_35 : decode cX3_append 35 = .ok (.iload_n 2, 1) := by decide +kernel
theorem dX3_append_36 : decode cX3_append 36 = .ok (.iastore, 1) := by decide +kernel
theorem dX3_append_37 : decode cX3_append 37 = .ok (.aload_n 0, 1) := by decide +kernel
theorem dX3_append_38 : decode cX3_append 38 = .ok (.getfield 22, 3) := by decide +kernel
theorem dX3_append_41 : decode cX3_append 41 = .ok (.iload 4, 2) := by decide +kernel
theorem dX3_append_43 : decode cX3_append 43 = .ok (.iload_n 3, 1) := by decide +kernel
theorem dX3_append_44 : decode cX3_append 44 = .ok (.iastore, 1) := by decide +kernel
theorem dX3_append_45 : decode cX3_append 45 = .ok (.aload_n 0, 1) := by decide +kernel
theorem dX3_append_46 : decode cX3_append 46 = .ok (.getfield 25, 3) := by decide +kernel
theorem dX3_append_49 : decode cX3_append 49 = .ok (.iload 4, 2) := by decide +kernel
theorem dX3_append_51 : decode cX3_append 51 = .ok (.iconst 0, 1) := by decide +kernel
theorem dX3_append_52 : decode cX3_append 52 = .ok (.iastore, 1) := by decide +kernel
theorem dX3_append_53 : decode cX3_append 53 = .ok (.aload_n 0, 1) := by decide +kernel
theorem dX3_append_54 : decode cX3_append 54 = .ok (.iload 4, 2) := by decide +kernel
theorem dX3_append_56 : decode cX3_append 56 = .ok (.iconst 1, 1) := by decide +kernel
theorem dX3_append_57 : decode cX3_append 57 = .ok (.iadd, 1) := by decide +kernel
theorem dX3_append_58 : decode cX3_append 58 = .ok (.putfield 28, 3) := by decide +kernel
theorem dX3_append_61 : decode cX3_append 61 = .ok (.iload 4, 2) := by decide +kernel
theorem dX3_append_63 : decode cX3_append 63 = .ok (.ireturn, 1) := by decide +kernel
theorem dX3_drop_0 : decode cX3_drop 0 = .ok (.iload_n 1, 1) := by decide +kernel
theorem dX3_drop_1 : decode cX3_drop 1 = .ok (.istore_n 2, 1) := by decide +kernel
theorem dX3_drop_2 : decode cX3_drop 2 = .ok (.iload_n 2, 1) := by decide +kernel
theorem dX3_drop_3 : decode cX3_drop 3 = .ok (.iconst 1, 1) := by decide +kernel
theorem dX3_drop_4 : decode cX3_drop 4 = .ok (.iadd, 1) := by decide +kernel
theorem dX3_drop_5 : decode cX3_drop 5 = .ok (.aload_n 0, 1) := by decide +kernel
theorem dX3_drop_6 : decode cX3_drop 6 = .ok (.getfield 28, 3) := by decide +kernel
theorem dX3_drop_9 : decode cX3_drop 9 = .ok (.if_icmp .ge 65, 3) := by decide +kernel
theorem dX3_drop_12 : decode cX3_drop 12 = .ok (.aload_n 0, 1) := by decide +kernel
theorem dX3_drop_13 : decode cX3_drop 13 = .ok (.getfield 15, 3) := by decide +kernel
theorem dX3_drop_16 : decode cX3_drop 16 = .ok (.iload_n 2, 1) := by decide +kernel
theorem dX3_drop_17 : decode cX3_drop 17 = .ok (.aload_n 0, 1) := by decide +kernel
theorem dX3_drop_18 : decode cX3_drop 18 = .ok (.getfield 15, 3) := by decide +kernel
theorem dX3_drop_21 : decode cX3_drop 21 = .ok (.iload_n 2, 1) := by decide +kernel
theorem dX3_drop_22 : decode cX3_drop 22 = .ok (.iconst 1, 1) := by decide +kernel
theorem dX3_drop_23 : decode cX3_drop 23 = .ok (.iadd, 1) := by decide +kernel
theorem dX3_drop_24 : decode cX3_drop 24 = .ok (.iaload, 1) := by decide +kernel
theorem dX3_drop_25 : decode cX3_drop 25 = .ok (.iastore, 1) := by decide +kernel
theorem dX3_drop_26 : decode cX3_drop 26 = .ok (.aload_n 0, 1) := by decide +kernel
theorem dX3_drop_27 : decode cX3_drop 27 = .ok (.getfield 19, 3) := by decide +kernel
theorem dX3_drop_30 : decode cX3_drop 30 = .ok (.iload_n 2, 1) := by decide +kernel
theorem dX3_drop_31 : decode cX3_drop 31 = .ok (.aload_n 0, 1) := by decide +kernel
theorem dX3_drop_32 : decode cX3_drop 32 = .ok (.getfield 19, 3) := by decide +kernel
theorem dX3_drop_35 : decode cX3_drop 35 = .ok (.iload_n 2, 1) := by decide +kernel
theorem dX3_drop_36 : decode cX3_drop 36 = .ok (.iconst 1, 1) := by decide +kernel
theorem dX3_drop_37 : decode cX3_drop 37 = .ok (.iadd, 1) := by decide +kernel
theorem dX3_drop_38 : decode cX3_drop 38 = .ok (.iaload, 1) := by decide +kernel
theorem dX3_drop_39 : decode cX3_drop 39 = .ok (.iastore, 1) := by decide +kernel
theorem dX3_drop_40 : decode cX3_drop 40 = .ok (.aload_n 0, 1) := by decide +kernel
theorem dX3_drop_41 : decode cX3_drop 41 = .ok (.getfield 22, 3) := by decide +kernel
theorem dX3_drop_44 : decode cX3_drop 44 = .ok (.iload_n 2, 1) := by decide +kernel
theorem dX3_drop_45 : decode cX3_drop 45 = .ok (.aload_n 0, 1) := by decide +kernel
theorem dX3_drop_46 : decode cX3_drop 46 = .ok (.getfield 22, 3) := by decide +kernel
theorem dX3_drop_49 : decode cX3_drop 49 = .ok (.iload_n 2, 1) := by decide +kernel
theorem dX3_drop_50 : decode cX3_drop 50 = .ok (.iconst 1, 1) := by decide +kernel
theorem dX3_drop_51 : decode cX3_drop 51 = .ok (.iadd, 1) := by decide +kernel
theorem dX3_drop_52 : decode cX3_drop 52 = .ok (.iaload, 1) := by decide +kernel
theorem dX3_drop_53 : decode cX3_drop 53 = .ok (.iastore, 1) := by decide +kernel
theorem dX3_drop_54 : decode cX3_drop 54 = .ok (.aload_n 0, 1) := by decide +kernel
theorem dX3_drop_55 : decode cX3_drop 55 = .ok (.getfield 25, 3) := by decide +kernel
theorem dX3_drop_58 : decode cX3_drop 58 = .ok (.iload_n 2, 1) := by decide +kernel
theorem dX3_drop_59 : decode cX3_drop 59 = .ok (.aload_n 0, 1) := by decide +kernel
theorem dX3_drop_60 : decode cX3_drop 60 = .ok (.getfield 25, 3) := by decide +kernel
theorem dX3_drop_63 : decode cX3_drop 63 = .ok (.iload_n 2, 1) := by decide +kernel
theorem dX3_drop_64 : decode cX3_drop 64 = .ok (.iconst 1, 1) := by decide +kernel
theorem dX3_drop_65 : decode cX3_drop 65 = .ok (.iadd, 1) := by decide +kernel
theorem dX3_drop_66 : decode cX3_drop 66 = .ok (.iaload, 1) := by decide +kernel
theorem dX3_drop_67 : decode cX3_drop 67 = .ok (.iastore, 1) := by decide +kernel
theorem dX3_drop_68 : decode cX3_drop 68 = .ok (.iinc 2 1, 3) := by decide +kernel
theorem dX3_drop_71 : decode cX3_drop 71 = .ok (.goto (-69), 3) := by decide +kernel
theorem dX3_drop_74 : decode cX3_drop 74 = .ok (.aload_n 0, 1) := by decide +kernel
theorem dX3_drop_75 : decode cX3_drop 75 = .ok (.dup, 1) := by decide +kernel
theorem dX3_drop_76 : decode cX3_drop 76 = .ok (.getfield 28, 3) := by decide +kernel
theorem dX3_drop_79 : decode cX3_drop 79 = .ok (.iconst 1, 1) := by decide +kernel
theorem dX3_drop_80 : decode cX3_drop 80 = .ok (.isub, 1) := by decide +kernel
theorem dX3_drop_81 : decode cX3_drop 81 = .ok (.putfield 28, 3) := by decide +kernel
theorem dX3_drop_84 : decode cX3_drop 84 = .ok (.return_, 1) := by decide +kernel
theorem dX3_turnRound_0 : decode cX3_turnRound 0 = .ok (.iconst 0, 1) := by decide +kernel
theorem dX3_turnRound_1 : decode cX3_turnRound 1 = .ok (.istore_n 1, 1) := by decide +kernel
theorem dX3_turnRound_2 : decode cX3_turnRound 2 = .ok (.iload_n 1, 1) := by decide +kernel
theorem dX3_turnRound_3 : decode cX3_turnRound 3 = .ok (.aload_n 0, 1) := by decide +kernel
theorem dX3_turnRound_4 : decode cX3_turnRound 4 = .ok (.getfield 28, 3) := by decide +kernel
theorem dX3_turnRound_7 : decode cX3_turnRound 7 = .ok (.if_icmp .ge 22, 3) := by decide +kernel
theorem dX3_turnRound_10 : decode cX3_turnRound 10 = .ok (.aload_n 0, 1) := by decide +kernel
theorem dX3_turnRound_11 : decode cX3_turnRound 11 = .ok (.getfield 22, 3) := by decide +kernel
theorem dX3_turnRound_14 : decode cX3_turnRound 14 = .ok (.iload_n 1, 1) := by decide +kernel
theorem dX3_turnRound_15 : decode cX3_turnRound 15 = .ok (.aload_n 0, 1) := by decide +kernel
theorem dX3_turnRound_16 : decode cX3_turnRound 16 = .ok (.getfield 22, 3) := by decide +kernel
theorem dX3_turnRound_19 : decode cX3_turnRound 19 = .ok (.iload_n 1, 1) := by decide +kernel
theorem dX3_turnRound_20 : decode cX3_turnRound 20 = .ok (.iaload, 1) := by decide +kernel
theorem dX3_turnRound_21 : decode cX3_turnRound 21 = .ok (.ineg, 1) := by decide +kernel
theorem dX3_turnRound_22 : decode cX3_turnRound 22 = .ok (.iastore, 1) := by decide +kernel
theorem dX3_turnRound_23 : decode cX3_turnRound 23 = .ok (.iinc 1 1, 3) := by decide +kernel
theorem dX3_turnRound_26 : decode cX3_turnRound 26 = .ok (.goto (-24), 3) := by decide +kernel
theorem dX3_turnRound_29 : decode cX3_turnRound 29 = .ok (.return_, 1) := by decide +kernel
set_option maxRecDepth 20000 in
theorem ggX3_placeBehind_X3_onRing : GoodIn wsX3_placeBehind wsX3_onRing := goodIn_r _ [6, 7, 8, 9, 10, 11, 12, 13, 14, 15, 16, 17, 18, 19, 20] (by decide +kernel) (by decide +kernel)
set_option maxRecDepth 20000 in
theorem gX3_placeBehind_X3_onRing : GoodIn wsX3_placeBehind (wsV RX3 44 RX3 yX3_onRing wsX3_onRing) := goodIn_app (goodIn_of _ (by decide +kernel)) ggX3_placeBehind_X3_onRing
theorem dX3_placeBehind_0 : decode cX3_placeBehind 0 = .ok (.aload_n 0, 1) := by decide +kernel
theorem dX3_placeBehind_1 : decode cX3_placeBehind 1 = .ok (.aload_n 0, 1) := by decide +kernel
theorem dX3_placeBehind_2 : decode cX3_placeBehind 2 = .ok (.getfield 15, 3) := by decide +kernel
theorem dX3_placeBehind_5 : decode cX3_placeBehind 5 = .ok (.iload_n 1, 1) := by decide +kernel
theorem dX3_placeBehind_6 : decode cX3_placeBehind 6 = .ok (.iaload, 1) := by decide +kernel
theorem dX3_placeBehind_7 : decode cX3_placeBehind 7 = .ok (.iload_n 2, 1) := by decide +kernel
theorem dX3_placeBehind_8 : decode cX3_placeBehind 8 = .ok (.iadd, 1) := by decide +kernel
theorem dX3_placeBehind_9 : decode cX3_placeBehind 9 = .ok (.invokevirtual 44, 3) := by decide +kernel
theorem dX3_placeBehind_12 : decode cX3_placeBehind 12 = .ok (.ireturn, 1) := by decide +kernel
set_option maxRecDepth 20000 in
theorem ggX3_rodThatCovers_X3_onRing : GoodIn wsX3_rodThatCovers wsX3_onRing := goodIn_r _ [8, 9, 10, 11, 12, 13, 14, 15, 16, 17, 18, 19, 20, 21, 22] (by decide +kernel) (by decide +kernel)
set_option maxRecDepth 20000 in
theorem gX3_rodThatCovers_X3_onRing : GoodIn wsX3_rodThatCovers (wsV RX3 44 RX3 yX3_onRing wsX3_onRing) := goodIn_app (goodIn_of _ (by decide +kernel)) ggX3_rodThatCovers_X3_onRing
theorem dX3_rodThatCovers_0 : decode cX3_rodThatCovers 0 = .ok (.iconst 0, 1) := by decide +kernel
theorem dX3_rodThatCovers_1 : decode cX3_rodThatCovers 1 = .ok (.istore_n 2, 1) := by decide +kernel
theorem dX3_rodThatCovers_2 : decode cX3_rodThatCovers 2 = .ok (.iload_n 2, 1) := by decide +kernel
theorem dX3_rodThatCovers_3 : decode cX3_rodThatCovers 3 = .ok (.aload_n 0, 1) := by decide +kernel
theorem dX3_rodThatCovers_4 : decode cX3_rodThatCovers 4 = .ok (.getfield 28, 3) := by decide +kernel
theorem dX3_rodThatCovers_7 : decode cX3_rodThatCovers 7 = .ok (.if_icmp .ge 32, 3) := by decide +kernel
theorem dX3_rodThatCovers_10 : decode cX3_rodThatCovers 10 = .ok (.aload_n 0, 1) := by decide +kernel
theorem dX3_rodThatCovers_11 : decode cX3_rodThatCovers 11 = .ok (.iload_n 1, 1) := by decide +kernel
theorem dX3_rodThatCovers_12 : decode cX3_rodThatCovers 12 = .ok (.aload_n 0, 1) := by decide +kernel
theorem dX3_rodThatCovers_13 : decode cX3_rodThatCovers 13 = .ok (.getfield 15, 3) := by decide +kernel
theorem dX3_rodThatCovers_16 : decode cX3_rodThatCovers 16 = .ok (.iload_n 2, 1) := by decide +kernel
theorem dX3_rodThatCovers_17 : decode cX3_rodThatCovers 17 = .ok (.iaload, 1) := by decide +kernel
theorem dX3_rodThatCovers_18 : decode cX3_rodThatCovers 18 = .ok (.isub, 1) := by decide +kernel
theorem dX3_rodThatCovers_19 : decode cX3_rodThatCovers 19 = .ok (.invokevirtual 44, 3) := by decide +kernel
theorem dX3_rodThatCovers_22 : decode cX3_rodThatCovers 22 = .ok (.aload_n 0, 1) := by decide +kernel
theorem dX3_rodThatCovers_23 : decode cX3_rodThatCovers 23 = .ok (.getfield 19, 3) := by decide +kernel
theorem dX3_rodThatCovers_26 : decode cX3_rodThatCovers 26 = .ok (.iload_n 2, 1) := by decide +kernel
theorem dX3_rodThatCovers_27 : decode cX3_rodThatCovers 27 = .ok (.iaload, 1) := by decide +kernel
theorem dX3_rodThatCovers_28 : decode cX3_rodThatCovers 28 = .ok (.if_icmp .ge 5, 3) := by decide +kernel
theorem dX3_rodThatCovers_31 : decode cX3_rodThatCovers 31 = .ok (.iload_n 2, 1) := by decide +kernel
theorem dX3_rodThatCovers_32 : decode cX3_rodThatCovers 32 = .ok (.ireturn, 1) := by decide +kernel
theorem dX3_rodThatCovers_33 : decode cX3_rodThatCovers 33 = .ok (.iinc 2 1, 3) := by decide +kernel
theorem dX3_rodThatCovers_36 : decode cX3_rodThatCovers 36 = .ok (.goto (-34), 3) := by decide +kernel
theorem dX3_rodThatCovers_39 : decode cX3_rodThatCovers 39 = .ok (.bipush (-5), 2) := by decide +kernel
theorem dX3_rodThatCovers_41 : decode cX3_rodThatCovers 41 = .ok (.ireturn, 1) := by decide +kernel
theorem dX3_distance_0 : decode cX3_distance 0 = .ok (.aload_n 0, 1) := by decide +kernel
theorem dX3_distance_1 : decode cX3_distance 1 = .ok (.getfield 15, 3) := by decide +kernel
theorem dX3_distance_4 : decode cX3_distance 4 = .ok (.iload_n 2, 1) := by decide +kernel
theorem dX3_distance_5 : decode cX3_distance 5 = .ok (.iaload, 1) := by decide +kernel
theorem dX3_distance_6 : decode cX3_distance 6 = .ok (.aload_n 0, 1) := by decide +kernel
theorem dX3_distance_7 : decode cX3_distance 7 = .ok (.getfield 15, 3) := by decide +kernel
theorem dX3_distance_10 : decode cX3_distance 10 = .ok (.iload_n 1, 1) := by decide +kernel
theorem dX3_distance_11 : decode cX3_distance 11 = .ok (.iaload, 1) := by decide +kernel
theorem dX3_distance_12 : decode cX3_distance 12 = .ok (.isub, 1) := by decide +kernel
theorem dX3_distance_13 : decode cX3_distance 13 = .ok (.istore_n 3, 1) := by decide +kernel
theorem dX3_distance_14 : decode cX3_distance 14 = .ok (.iload_n 3, 1) := by decide +kernel
theorem dX3_distance_15 : decode cX3_distance 15 = .ok (.ifCond .ge 12, 3) := by decide +kernel
theorem dX3_distance_18 : decode cX3_distance 18 = .ok (.iload_n 3, 1) := by decide +kernel
theorem dX3_distance_19 : decode cX3_distance 19 = .ok (.aload_n 0, 1) := by decide +kernel
theorem dX3_distance_20 : decode cX3_distance 20 = .ok (.getfield 9, 3) := by decide +kernel
theorem dX3_distance_23 : decode cX3_distance 23 = .ok (.iadd, 1) := by decide +kernel
theorem dX3_distance_24 : decode cX3_distance 24 = .ok (.goto 4, 3) := by decide +kernel
theorem dX3_distance_27 : decode cX3_distance 27 = .ok (.iload_n 3, 1) := by decide +kernel
theorem dX3_distance_28 : decode cX3_distance 28 = .ok (.ireturn, 1) := by decide +kernel
set_option maxRecDepth 20000 in
theorem ggX3_rodsBetween_X3_distance : GoodIn wsX3_rodsBetween wsX3_distance := goodIn_r _ [6, 7, 8, 9, 10, 11, 12, 13, 14, 15, 16, 17] (by decide +kernel) (by decide +kernel)
set_option maxRecDepth 20000 in
theorem gX3_rodsBetween_X3_distance : GoodIn wsX3_rodsBetween (wsV RX3 51 RX3 yX3_distance wsX3_distance) := goodIn_app (goodIn_of _ (by decide +kernel)) ggX3_rodsBetween_X3_distance
theorem dX3_rodsBetween_0 : decode cX3_rodsBetween 0 = .ok (.iconst 0, 1) := by decide +kernel
theorem dX3_rodsBetween_1 : decode cX3_rodsBetween 1 = .ok (.istore_n 3, 1) := by decide +kernel
theorem dX3_rodsBetween_2 : decode cX3_rodsBetween 2 = .ok (.iconst 0, 1) := by decide +kernel
theorem dX3_rodsBetween_3 : decode cX3_rodsBetween 3 = .ok (.istore 4, 2) := by decide +kernel
theorem dX3_rodsBetween_5 : decode cX3_rodsBetween 5 = .ok (.iload 4, 2) := by decide +kernel
theorem dX3_rodsBetween_7 : decode cX3_rodsBetween 7 = .ok (.aload_n 0, 1) := by decide +kernel
theorem dX3_rodsBetween_8 : decode cX3_rodsBetween 8 = .ok (.getfield 28, 3) := by decide +kernel
theorem dX3_rodsBetween_11 : decode cX3_rodsBetween 11 = .ok (.if_icmp .ge 28, 3) := by decide +kernel
theorem dX3_rodsBetween_14 : decode cX3_rodsBetween 14 = .ok (.aload_n 0, 1) := by decide +kernel
theorem dX3_rodsBetween_15 : decode cX3_rodsBetween 15 = .ok (.iload_n 1, 1) := by decide +kernel
theorem dX3_rodsBetween_16 : decode cX3_rodsBetween 16 = .ok (.iload 4, 2) := by decide +kernel
theorem dX3_rodsBetween_18 : decode cX3_rodsBetween 18 = .ok (.invokevirtual 51, 3) := by decide +kernel
theorem dX3_rodsBetween_21 : decode cX3_rodsBetween 21 = .ok (.aload_n 0, 1) := by decide +kernel
theorem dX3_rodsBetween_22 : decode cX3_rodsBetween 22 = .ok (.iload_n 1, 1) := by decide +kernel
theorem dX3_rodsBetween_23 : decode cX3_rodsBetween 23 = .ok (.iload_n 2, 1) := by decide +kernel
theorem dX3_rodsBetween_24 : decode cX3_rodsBetween 24 = .ok (.invokevirtual 51, 3) := by decide +kernel
theorem dX3_rodsBetween_27 : decode cX3_rodsBetween 27 = .ok (.if_icmp .ge 6, 3) := by decide +kernel
theorem dX3_rodsBetween_30 : decode cX3_rodsBetween 30 = .ok (.iinc 3 1, 3) := by decide +kernel
theorem dX3_rodsBetween_33 : decode cX3_rodsBetween 33 = .ok (.iinc 4 1, 3) := by decide +kernel
theorem dX3_rodsBetween_36 : decode cX3_rodsBetween 36 = .ok (.goto (-31), 3) := by decide +kernel
theorem dX3_rodsBetween_39 : decode cX3_rodsBetween 39 = .ok (.iload_n 3, 1) := by decide +kernel
theorem dX3_rodsBetween_40 : decode cX3_rodsBetween 40 = .ok (.ireturn, 1) := by decide +kernel
set_option maxRecDepth 20000 in
theorem ggX3_freeBetween_X3_distance : GoodIn wsX3_freeBetween wsX3_distance := goodIn_r _ [7, 8, 9, 10, 11, 12, 13, 14, 15, 16, 17, 18] (by decide +kernel) (by decide +kernel)
set_option maxRecDepth 20000 in
theorem gX3_freeBetween_X3_distance : GoodIn wsX3_freeBetween (wsV RX3 51 RX3 yX3_distance wsX3_distance) := goodIn_app (goodIn_of _ (by decide +kernel)) ggX3_freeBetween_X3_distance
theorem dX3_freeBetween_0 : decode cX3_freeBetween 0 = .ok (.aload_n 0, 1) := by decide +kernel
theorem dX3_freeBetween_1 : decode cX3_freeBetween 1 = .ok (.iload_n 1, 1) := by decide +kernel
theorem dX3_freeBetween_2 : decode cX3_freeBetween 2 = .ok (.iload_n 2, 1) := by decide +kernel
theorem dX3_freeBetween_3 : decode cX3_freeBetween 3 = .ok (.invokevirtual 51, 3) := by decide +kernel
theorem dX3_freeBetween_6 : decode cX3_freeBetween 6 = .ok (.istore_n 3, 1) := by decide +kernel
theorem dX3_freeBetween_7 : decode cX3_freeBetween 7 = .ok (.iload_n 3, 1) := by decide +kernel
theorem dX3_freeBetween_8 : decode cX3_freeBetween 8 = .ok (.istore 4, 2) := by decide +kernel
theorem dX3_freeBetween_10 : decode cX3_freeBetween 10 = .ok (.iconst 0, 1) := by decide +kernel
theorem dX3_freeBetween_11 : decode cX3_freeBetween 11 = .ok (.istore 5, 2) := by decide +kernel
theorem dX3_freeBetween_13 : decode cX3_freeBetween 13 = .ok (.iload 5, 2) := by decide +kernel
theorem dX3_freeBetween_15 : decode cX3_freeBetween 15 = .ok (.aload_n 0, 1) := by decide +kernel
theorem dX3_freeBetween_16 : decode cX3_freeBetween 16 = .ok (.getfield 28, 3) := by decide +kernel
theorem dX3_freeBetween_19 : decode cX3_freeBetween 19 = .ok (.if_icmp .ge 32, 3) := by decide +kernel
theorem dX3_freeBetween_22 : decode cX3_freeBetween 22 = .ok (.aload_n 0, 1) := by decide +kernel
theorem dX3_freeBetween_23 : decode cX3_freeBetween 23 = .ok (.iload_n 1, 1) := by decide +kernel
theorem dX3_freeBetween_24 : decode cX3_freeBetween 24 = .ok (.iload 5, 2) := by decide +kernel
theorem dX3_freeBetween_26 : decode cX3_freeBetween 26 = .ok (.invokevirtual 51, 3) := by decide +kernel
theorem dX3_freeBetween_29 : decode cX3_freeBetween 29 = .ok (.iload_n 3, 1) := by decide +kernel
theorem dX3_freeBetween_30 : decode cX3_freeBetween 30 = .ok (.if_icmp .ge 15, 3) := by decide +kernel
theorem dX3_freeBetween_33 : decode cX3_freeBetween 33 = .ok (.iload 4, 2) := by decide +kernel
theorem dX3_freeBetween_35 : decode cX3_freeBetween 35 = .ok (.aload_n 0, 1) := by decide +kernel
theorem dX3_freeBetween_36 : decode cX3_freeBetween 36 = .ok (.getfield 19, 3) := by decide +kernel
theorem dX3_freeBetween_39 : decode cX3_freeBetween 39 = .ok (.iload 5, 2) := by decide +kernel
theorem dX3_freeBetween_41 : decode cX3_freeBetween 41 = .ok (.iaload, 1) := by decide +kernel
theorem dX3_freeBetween_42 : decode cX3_freeBetween 42 = .ok (.isub, 1) := by decide +kernel
theorem dX3_freeBetween_43 : decode cX3_freeBetween 43 = .ok (.istore 4, 2) := by decide +kernel
theorem dX3_freeBetween_45 : decode cX3_freeBetween 45 = .ok (.iinc 5 1, 3) := by decide +kernel
theorem dX3_freeBetween_48 : decode cX3_freeBetween 48 = .ok (.goto (-35), 3) := by decide +kernel
theorem dX3_freeBetween_51 : decode cX3_freeBetween 51 = .ok (.iload 4, 2) := by decide +kernel
theorem dX3_freeBetween_53 : decode cX3_freeBetween 53 = .ok (.ireturn, 1) := by decide +kernel
set_option maxRecDepth 20000 in
theorem ggX3_gap_X3_freeLength : GoodIn wsX3_gap wsX3_freeLength := goodIn_r _ [10, 11, 1, 12, 22, 23, 24, 25, 26, 27, 28, 29, 30] (by decide +kernel) (by decide +kernel)
set_option maxRecDepth 20000 in
theorem gX3_gap_X3_freeLength : GoodIn wsX3_gap (wsV RX3 40 RX3 yX3_freeLength wsX3_freeLength) := goodIn_app (goodIn_of _ (by decide +kernel)) ggX3_gap_X3_freeLength
set_option maxRecDepth 20000 in
theorem ggX3_gap_X3_freeBetween : GoodIn wsX3_gap wsX3_freeBetween := goodIn_r _ [16, 1, 12, 17, 18, 19, 9, 20, 21, 11, 22, 23, 24, 25, 26, 27, 28, 29, 30] (by decide +kernel) (by decide +kernel)
set_option maxRecDepth 20000 in
theorem gX3_gap_X3_freeBetween : GoodIn wsX3_gap (wsV RX3 55 RX3 yX3_freeBetween wsX3_freeBetween) := goodIn_app (goodIn_of _ (by decide +kernel)) ggX3_gap_X3_freeBetween
theorem dX3_gap_0 : decode cX3_gap 0 = .ok (.aload_n 0, 1) := by decide +kernel
theorem dX3_gap_1 : decode cX3_gap 1 = .ok (.invokevirtual 40, 3) := by decide +kernel
theorem dX3_gap_4 : decode cX3_gap 4 = .ok (.istore_n 2, 1) := by decide +kernel
theorem dX3_gap_5 : decode cX3_gap 5 = .ok (.iconst 0, 1) := by decide +kernel
theorem dX3_gap_6 : decode cX3_gap 6 = .ok (.istore_n 3, 1) := by decide +kernel
theorem dX3_gap_7 : decode cX3_gap 7 = .ok (.iload_n 3, 1) := by decide +kernel
theorem dX3_gap_8 : decode cX3_gap 8 = .ok (.aload_n 0, 1) := by decide +kernel
theorem dX3_gap_9 : decode cX3_gap 9 = .ok (.getfield 28, 3) := by decide +kernel
theorem dX3_gap_12 : decode cX3_gap 12 = .ok (.if_icmp .ge 25, 3) := by decide +kernel
theorem dX3_gap_15 : decode cX3_gap 15 = .ok (.iload_n 3, 1) := by decide +kernel
theorem dX3_gap_16 : decode cX3_gap 16 = .ok (.iload_n 1, 1) := by decide +kernel
theorem dX3_gap_17 : decode cX3_gap 17 = .ok (.if_icmp .eq 14, 3) := by decide +kernel
theorem dX3_gap_20 : decode cX3_gap 20 = .ok (.iload_n 2, 1) := by decide +kernel
theorem dX3_gap_21 : decode cX3_gap 21 = .ok (.aload_n 0, 1) := by decide +kernel
theorem dX3_gap_22 : decode cX3_gap 22 = .ok (.iload_n 1, 1) := by decide +kernel
theorem dX3_gap_23 : decode cX3_gap 23 = .ok (.iload_n 3, 1) := by decide +kernel
theorem dX3_gap_24 : decode cX3_gap 24 = .ok (.invokevirtual 55, 3) := by decide +kernel
theorem dX3_gap_27 : decode cX3_gap 27 = .ok (.invokestatic 58, 3) := by decide +kernel
theorem dX3_gap_30 : decode cX3_gap 30 = .ok (.istore_n 2, 1) := by decide +kernel
theorem dX3_gap_31 : decode cX3_gap 31 = .ok (.iinc 3 1, 3) := by decide +kernel
theorem dX3_gap_34 : decode cX3_gap 34 = .ok (.goto (-27), 3) := by decide +kernel
theorem dX3_gap_37 : decode cX3_gap 37 = .ok (.iload_n 2, 1) := by decide +kernel
theorem dX3_gap_38 : decode cX3_gap 38 = .ok (.ireturn, 1) := by decide +kernel
set_option maxRecDepth 20000 in
theorem ggX3_rodToTheRight_X3_distance : GoodIn wsX3_rodToTheRight wsX3_distance := goodIn_r _ [7, 8, 1, 9, 10, 11, 12, 13, 14, 15, 16, 17] (by decide +kernel) (by decide +kernel)
set_option maxRecDepth 20000 in
theorem gX3_rodToTheRight_X3_distance : GoodIn wsX3_rodToTheRight (wsV RX3 51 RX3 yX3_distance wsX3_distance) := goodIn_app (goodIn_of _ (by decide +kernel)) ggX3_rodToTheRight_X3_distance
theorem dX3_rodToTheRight_0 : decode cX3_rodToTheRight 0 = .ok (.iload_n 1, 1) := by decide +kernel
theorem dX3_rodToTheRight_1 : decode cX3_rodToTheRight 1 = .ok (.istore_n 2, 1) := by decide +kernel
theorem dX3_rodToTheRight_2 : decode cX3_rodToTheRight 2 = .ok (.aload_n 0, 1) := by decide +kernel
theorem dX3_rodToTheRight_3 : decode cX3_rodToTheRight 3 = .ok (.getfield 9, 3) := by decide +kernel
theorem dX3_rodToTheRight_6 : decode cX3_rodToTheRight 6 = .ok (.istore_n 3, 1) := by decide +kernel
theorem dX3_rodToTheRight_7 : decode cX3_rodToTheRight 7 = .ok (.iconst 0, 1) := by decide +kernel
theorem dX3_rodToTheRight_8 : decode cX3_rodToTheRight 8 = .ok (.istore 4, 2) := by decide +kernel
theorem dX3_rodToTheRight_10 : decode cX3_rodToTheRight 10 = .ok (.iload 4, 2) := by decide +kernel
theorem dX3_rodToTheRight_12 : decode cX3_rodToTheRight 12 = .ok (.aload_n 0, 1) := by decide +kernel
theorem dX3_rodToTheRight_13 : decode cX3_rodToTheRight 13 = .ok (.getfield 28, 3) := by decide +kernel
theorem dX3_rodToTheRight_16 : decode cX3_rodToTheRight 16 = .ok (.if_icmp .ge 37, 3) := by decide +kernel
theorem dX3_rodToTheRight_19 : decode cX3_rodToTheRight 19 = .ok (.iload 4, 2) := by decide +kernel
theorem dX3_rodToTheRight_21 : decode cX3_rodToTheRight 21 = .ok (.iload_n 1, 1) := by decide +kernel
theorem dX3_rodToTheRight_22 : decode cX3_rodToTheRight 22 = .ok (.if_icmp .eq 25, 3) := by decide +kernel
theorem dX3_rodToTheRight_25 : decode cX3_rodToTheRight 25 = .ok (.aload_n 0, 1) := by decide +kernel
theorem dX3_rodToTheRight_26 : decode cX3_rodToTheRight 26 = .ok (.iload_n 1, 1) := by decide +kernel
theorem dX3_rodToTheRight_27 : decode cX3_rodToTheRight 27 = .ok (.iload 4, 2) := by decide +kernel
theorem dX3_rodToTheRight_29 : decode cX3_rodToTheRight 29 = .ok (.invokevirtual 51, 3) := by decide +kernel
theorem dX3_rodToTheRight_32 : decode cX3_rodToTheRight 32 = .ok (.iload_n 3, 1) := by decide +kernel
theorem dX3_rodToTheRight_33 : decode cX3_rodToTheRight 33 = .ok (.if_icmp .ge 14, 3) := by decide +kernel
theorem dX3_rodToTheRight_36 : decode cX3_rodToTheRight 36 = .ok (.iload 4, 2) := by decide +kernel
theorem dX3_rodToTheRight_38 : decode cX3_rodToTheRight 38 = .ok (.istore_n 2, 1) := by decide +kernel
theorem dX3_rodToTheRight_39 : decode cX3_rodToTheRight 39 = .ok (.aload_n 0, 1) := by decide +kernel
theorem dX3_rodToTheRight_40 : decode cX3_rodToTheRight 40 = .ok (.iload_n 1, 1) := by decide +kernel
theorem dX3_rodToTheRight_41 : decode cX3_rodToTheRight 41 = .ok (.iload 4, 2) := by decide +kernel
theorem dX3_rodToTheRight_43 : decode cX3_rodToTheRight 43 = .ok (.invokevirtual 51, 3) := by decide +kernel
theorem dX3_rodToTheRight_46 : decode cX3_rodToTheRight 46 = .ok (.istore_n 3, 1) := by decide +kernel
theorem dX3_rodToTheRight_47 : decode cX3_rodToTheRight 47 = .ok (.iinc 4 1, 3) := by decide +kernel
theorem dX3_rodToTheRight_50 : decode cX3_rodToTheRight 50 = .ok (.goto (-40), 3) := by decide +kernel
theorem dX3_rodToTheRight_53 : decode cX3_rodToTheRight 53 = .ok (.iload_n 2, 1) := by decide +kernel
theorem dX3_rodToTheRight_54 : decode cX3_rodToTheRight 54 = .ok (.ireturn, 1) := by decide +kernel
set_option maxRecDepth 20000 in
theorem ggX3_clusterSize_X3_freeBetween : GoodIn wsX3_clusterSize wsX3_freeBetween := goodIn_r _ [6, 1, 7, 8, 9, 10, 5, 11, 12, 13, 14, 15, 16, 17, 18, 19, 20, 21, 22] (by decide +kernel) (by decide +kernel)
set_option maxRecDepth 20000 in
theorem gX3_clusterSize_X3_freeBetween : GoodIn wsX3_clusterSize (wsV RX3 55 RX3 yX3_freeBetween wsX3_freeBetween) := goodIn_app (goodIn_of _ (by decide +kernel)) ggX3_clusterSize_X3_freeBetween
theorem dX3_clusterSize_0 : decode cX3_clusterSize 0 = .ok (.iconst 0, 1) := by decide +kernel
theorem dX3_clusterSize_1 : decode cX3_clusterSize 1 = .ok (.istore_n 2, 1) := by decide +kernel
theorem dX3_clusterSize_2 : decode cX3_clusterSize 2 = .ok (.iconst 0, 1) := by decide +kernel
theorem dX3_clusterSize_3 : decode cX3_clusterSize 3 = .ok (.istore_n 3, 1) := by decide +kernel
theorem dX3_clusterSize_4 : decode cX3_clusterSize 4 = .ok (.iload_n 3, 1) := by decide +kernel
theorem dX3_clusterSize_5 : decode cX3_clusterSize 5 = .ok (.aload_n 0, 1) := by decide +kernel
theorem dX3_clusterSize_6 : decode cX3_clusterSize 6 = .ok (.getfield 28, 3) := by decide +kernel
theorem dX3_clusterSize_9 : decode cX3_clusterSize 9 = .ok (.if_icmp .ge 30, 3) := by decide +kernel
theorem dX3_clusterSize_12 : decode cX3_clusterSize 12 = .ok (.aload_n 0, 1) := by decide +kernel
theorem dX3_clusterSize_13 : decode cX3_clusterSize 13 = .ok (.iload_n 3, 1) := by decide +kernel
theorem dX3_clusterSize_14 : decode cX3_clusterSize 14 = .ok (.iload_n 1, 1) := by decide +kernel
theorem dX3_clusterSize_15 : decode cX3_clusterSize 15 = .ok (.invokevirtual 55, 3) := by decide +kernel
theorem dX3_clusterSize_18 : decode cX3_clusterSize 18 = .ok (.ifCond .eq 12, 3) := by decide +kernel
theorem dX3_clusterSize_21 : decode cX3_clusterSize 21 = .ok (.aload_n 0, 1) := by decide +kernel
theorem dX3_clusterSize_22 : decode cX3_clusterSize 22 = .ok (.iload_n 1, 1) := by decide +kernel
theorem dX3_clusterSize_23 : decode cX3_clusterSize 23 = .ok (.iload_n 3, 1) := by decide +kernel
theorem dX3_clusterSize_24 : decode cX3_clusterSize 24 = .ok (.invokevirtual 55, 3) := by decide +kernel
theorem dX3_clusterSize_27 : decode cX3_clusterSize 27 = .ok (.ifCond .ne 6, 3) := by decide +kernel
theorem dX3_clusterSize_30 : decode cX3_clusterSize 30 = .ok (.iinc 2 1, 3) := by decide +kernel
theorem dX3_clusterSize_33 : decode cX3_clusterSize 33 = .ok (.iinc 3 1, 3) := by decide +kernel
theorem dX3_clusterSize_36 : decode cX3_clusterSize 36 = .ok (.goto (-32), 3) := by decide +kernel
theorem dX3_clusterSize_39 : decode cX3_clusterSize 39 = .ok (.iload_n 2, 1) := by decide +kernel
theorem dX3_clusterSize_40 : decode cX3_clusterSize 40 = .ok (.ireturn, 1) := by decide +kernel
set_option maxRecDepth 20000 in
theorem ggX3_leftmostOfCluster_X3_freeBetween : GoodIn wsX3_leftmostOfCluster wsX3_freeBetween := goodIn_r _ [6, 1, 7, 8, 9, 10, 5, 11, 12, 13, 14, 15, 16, 17, 18, 19, 20, 21, 22] (by decide +kernel) (by decide +kernel)
set_option maxRecDepth 20000 in
theorem gX3_leftmostOfCluster_X3_freeBetween : GoodIn wsX3_leftmostOfCluster (wsV RX3 55 RX3 yX3_freeBetween wsX3_freeBetween) := goodIn_app (goodIn_of _ (by decide +kernel)) ggX3_leftmostOfCluster_X3_freeBetween
set_option maxRecDepth 20000 in
theorem ggX3_leftmostOfCluster_X3_distance : GoodIn wsX3_leftmostOfCluster wsX3_distance := goodIn_r _ [11, 12, 13, 14, 15, 16, 17, 18, 19, 20, 21, 22] (by decide +kernel) (by decide +kernel)
set_option maxRecDepth 20000 in
theorem gX3_leftmostOfCluster_X3_distance : GoodIn wsX3_leftmostOfCluster (wsV RX3 51 RX3 yX3_distance wsX3_distance) := goodIn_app (goodIn_of _ (by decide +kernel)) ggX3_leftmostOfCluster_X3_distance
theorem dX3_leftmostOfCluster_0 : decode cX3_leftmostOfCluster 0 = .ok (.iload_n 1, 1) := by decide +kernel
theorem dX3_leftmostOfCluster_1 : decode cX3_leftmostOfCluster 1 = .ok (.istore_n 2, 1) := by decide +kernel
theorem dX3_leftmostOfCluster_2 : decode cX3_leftmostOfCluster 2 = .ok (.iconst 0, 1) := by decide +kernel
theorem dX3_leftmostOfCluster_3 : decode cX3_leftmostOfCluster 3 = .ok (.istore_n 3, 1) := by decide +kernel
theorem dX3_leftmostOfCluster_4 : decode cX3_leftmostOfCluster 4 = .ok (.iconst 0, 1) := by decide +kernel
theorem dX3_leftmostOfCluster_5 : decode cX3_leftmostOfCluster 5 = .ok (.istore 4, 2) := by decide +kernel
theorem dX3_leftmostOfCluster_7 : decode cX3_leftmostOfCluster 7 = .ok (.iload 4, 2) := by decide +kernel
theorem dX3_leftmostOfCluster_9 : decode cX3_leftmostOfCluster 9 = .ok (.aload_n 0, 1) := by decide +kernel
theorem dX3_leftmostOfCluster_10 : decode cX3_leftmostOfCluster 10 = .ok (.getfield 28, 3) := by decide +kernel
theorem dX3_leftmostOfCluster_13 : decode cX3_leftmostOfCluster 13 = .ok (.if_icmp .ge 41, 3) := by decide +kernel
theorem dX3_leftmostOfCluster_16 : decode cX3_leftmostOfCluster 16 = .ok (.aload_n 0, 1) := by decide +kernel
theorem dX3_leftmostOfCluster_17 : decode cX3_leftmostOfCluster 17 = .ok (.iload 4, 2) := by decide +kernel
theorem dX3_leftmostOfCluster_19 : decode cX3_leftmostOfCluster 19 = .ok (.iload_n 1, 1) := by decide +kernel
theorem dX3_leftmostOfCluster_20 : decode cX3_leftmostOfCluster 20 = .ok (.invokevirtual 55, 3) := by decide +kernel
theorem dX3_leftmostOfCluster_23 : decode cX3_leftmostOfCluster 23 = .ok (.ifCond .ne 25, 3) := by decide +kernel
theorem dX3_leftmostOfCluster_26 : decode cX3_leftmostOfCluster 26 = .ok (.aload_n 0, 1) := by decide +kernel
theorem dX3_leftmostOfCluster_27 : decode cX3_leftmostOfCluster 27 = .ok (.iload 4, 2) := by decide +kernel
theorem dX3_leftmostOfCluster_29 : decode cX3_leftmostOfCluster 29 = .ok (.iload_n 1, 1) := by decide +kernel
theorem dX3_leftmostOfCluster_30 : decode cX3_leftmostOfCluster 30 = .ok (.invokevirtual 51, 3) := by decide +kernel
theorem dX3_leftmostOfCluster_33 : decode cX3_leftmostOfCluster 33 = .ok (.iload_n 3, 1) := by decide +kernel
theorem dX3_leftmostOfCluster_34 : decode cX3_leftmostOfCluster 34 = .ok (.if_icmp .le 14, 3) := by decide +kernel
theorem dX3_leftmostOfCluster_37 : decode cX3_leftmostOfCluster 37 = .ok (.iload 4, 2) := by decide +kernel
theorem dX3_leftmostOfCluster_39 : decode cX3_leftmostOfCluster 39 = .ok (.istore_n 2, 1) := by decide +kernel
theorem dX3_leftmostOfCluster_40 : decode cX3_leftmostOfCluster 40 = .ok (.aload_n 0, 1) := by decide +kernel
theorem dX3_leftmostOfCluster_41 : decode cX3_leftmostOfCluster 41 = .ok (.iload 4, 2) := by decide +kernel
theorem dX3_leftmostOfCluster_43 : decode cX3_leftmostOfCluster 43 = .ok (.iload_n 1, 1) := by decide +kernel
theorem dX3_leftmostOfCluster_44 : decode cX3_leftmostOfCluster 44 = .ok (.invokevirtual 51, 3) := by decide +kernel
theorem dX3_leftmostOfCluster_47 : decode cX3_leftmostOfCluster 47 = .ok (.istore_n 3, 1) := by decide +kernel
theorem dX3_leftmostOfCluster_48 : decode cX3_leftmostOfCluster 48 = .ok (.iinc 4 1, 3) := by decide +kernel
theorem dX3_leftmostOfCluster_51 : decode cX3_leftmostOfCluster 51 = .ok (.goto (-44), 3) := by decide +kernel
theorem dX3_leftmostOfCluster_54 : decode cX3_leftmostOfCluster 54 = .ok (.iload_n 2, 1) := by decide +kernel
theorem dX3_leftmostOfCluster_55 : decode cX3_leftmostOfCluster 55 = .ok (.ireturn, 1) := by decide +kernel
set_option maxRecDepth 20000 in
theorem ggX3_clusters_X3_gap : GoodIn wsX3_clusters wsX3_gap := goodIn_r _ [6, 1, 7, 8, 9, 10, 11, 12, 13, 5, 14, 15, 16, 17, 18, 19, 20, 21, 22, 23, 24, 25, 26, 27, 28, 29, 30, 31, 32, 33, 34] (by decide +kernel) (by decide +kernel)
set_option maxRecDepth 20000 in
theorem gX3_clusters_X3_gap : GoodIn wsX3_clusters (wsV RX3 63 RX3 yX3_gap wsX3_gap) := goodIn_app (goodIn_of _ (by decide +kernel)) ggX3_clusters_X3_gap
theorem dX3_clusters_0 : decode cX3_clusters 0 = .ok (.iconst 0, 1) := by decide +kernel
theorem dX3_clusters_1 : decode cX3_clusters 1 = .ok (.istore_n 1, 1) := by decide +kernel
theorem dX3_clusters_2 : decode cX3_clusters 2 = .ok (.iconst 0, 1) := by decide +kernel
theorem dX3_clusters_3 : decode cX3_clusters 3 = .ok (.istore_n 2, 1) := by decide +kernel
theorem dX3_clusters_4 : decode cX3_clusters 4 = .ok (.iload_n 2, 1) := by decide +kernel
theorem dX3_clusters_5 : decode cX3_clusters 5 = .ok (.aload_n 0, 1) := by decide +kernel
theorem dX3_clusters_6 : decode cX3_clusters 6 = .ok (.getfield 28, 3) := by decide +kernel
theorem dX3_clusters_9 : decode cX3_clusters 9 = .ok (.if_icmp .ge 20, 3) := by decide +kernel
theorem dX3_clusters_12 : decode cX3_clusters 12 = .ok (.aload_n 0, 1) := by decide +kernel
theorem dX3_clusters_13 : decode cX3_clusters 13 = .ok (.iload_n 2, 1) := by decide +kernel
theorem dX3_clusters_14 : decode cX3_clusters 14 = .ok (.invokevirtual 63, 3) := by decide +kernel
theorem dX3_clusters_17 : decode cX3_clusters 17 = .ok (.ifCond .le 6, 3) := by decide +kernel
theorem dX3_clusters_20 : decode cX3_clusters 20 = .ok (.iinc 1 1, 3) := by decide +kernel
theorem dX3_clusters_23 : decode cX3_clusters 23 = .ok (.iinc 2 1, 3) := by decide +kernel
theorem dX3_clusters_26 : decode cX3_clusters 26 = .ok (.goto (-22), 3) := by decide +kernel
theorem dX3_clusters_29 : decode cX3_clusters 29 = .ok (.iload_n 1, 1) := by decide +kernel
theorem dX3_clusters_30 : decode cX3_clusters 30 = .ok (.ireturn, 1) := by decide +kernel
set_option maxRecDepth 20000 in
theorem ggX3_greatestGap_X3_gap : GoodIn wsX3_greatestGap wsX3_gap := goodIn_r _ [10, 1, 11, 12, 4, 13, 14, 15, 16, 9, 17, 18, 19, 20, 21, 22, 23, 24, 25, 26, 27, 28, 29, 30, 31, 32, 33, 34, 35, 36, 37] (by decide +kernel) (by decide +kernel)
set_option maxRecDepth 20000 in
theorem gX3_greatestGap_X3_gap : GoodIn wsX3_greatestGap (wsV RX3 63 RX3 yX3_gap wsX3_gap) := goodIn_app (goodIn_of _ (by decide +kernel)) ggX3_greatestGap_X3_gap
theorem dX3_greatestGap_0 : decode cX3_greatestGap 0 = .ok (.iconst 0, 1) := by decide +kernel
theorem dX3_greatestGap_1 : decode cX3_greatestGap 1 = .ok (.istore_n 1, 1) := by decide +kernel
theorem dX3_greatestGap_2 : decode cX3_greatestGap 2 = .ok (.iconst 0, 1) := by decide +kernel
theorem dX3_greatestGap_3 : decode cX3_greatestGap 3 = .ok (.istore_n 2, 1) := by decide +kernel
theorem dX3_greatestGap_4 : decode cX3_greatestGap 4 = .ok (.iload_n 2, 1) := by decide +kernel
theorem dX3_greatestGap_5 : decode cX3_greatestGap 5 = .ok (.aload_n 0, 1) := by decide +kernel
theorem dX3_greatestGap_6 : decode cX3_greatestGap 6 = .ok (.getfield 28, 3) := by decide +kernel
theorem dX3_greatestGap_9 : decode cX3_greatestGap 9 = .ok (.if_icmp .ge 19, 3) := by decide +kernel
theorem dX3_greatestGap_12 : decode cX3_greatestGap 12 = .ok (.iload_n 1, 1) := by decide +kernel
theorem dX3_greatestGap_13 : decode cX3_greatestGap 13 = .ok (.aload_n 0, 1) := by decide +kernel
theorem dX3_greatestGap_14 : decode cX3_greatestGap 14 = .ok (.iload_n 2, 1) := by decide +kernel
theorem dX3_greatestGap_15 : decode cX3_greatestGap 15 = .ok (.invokevirtual 63, 3) := by decide +kernel
theorem dX3_greatestGap_18 : decode cX3_greatestGap 18 = .ok (.invokestatic 66, 3) := by decide +kernel
theorem dX3_greatestGap_21 : decode cX3_greatestGap 21 = .ok (.istore_n 1, 1) := by decide +kernel
theorem dX3_greatestGap_22 : decode cX3_greatestGap 22 = .ok (.iinc 2 1, 3) := by decide +kernel
theorem dX3_greatestGap_25 : decode cX3_greatestGap 25 = .ok (.goto (-21), 3) := by decide +kernel
theorem dX3_greatestGap_28 : decode cX3_greatestGap 28 = .ok (.iload_n 1, 1) := by decide +kernel
theorem dX3_greatestGap_29 : decode cX3_greatestGap 29 = .ok (.ireturn, 1) := by decide +kernel
theorem dX3_movingRods_0 : decode cX3_movingRods 0 = .ok (.iconst 0, 1) := by decide +kernel
theorem dX3_movingRods_1 : decode cX3_movingRods 1 = .ok (.istore_n 1, 1) := by decide +kernel
theorem dX3_movingRods_2 : decode cX3_movingRods 2 = .ok (.iconst 0, 1) := by decide +kernel
theorem dX3_movingRods_3 : decode cX3_movingRods 3 = .ok (.istore_n 2, 1) := by decide +kernel
theorem dX3_movingRods_4 : decode cX3_movingRods 4 = .ok (.iload_n 2, 1) := by decide +kernel
theorem dX3_movingRods_5 : decode cX3_movingRods 5 = .ok (.aload_n 0, 1) := by decide +kernel
theorem dX3_movingRods_6 : decode cX3_movingRods 6 = .ok (.getfield 28, 3) := by decide +kernel
theorem dX3_movingRods_9 : decode cX3_movingRods 9 = .ok (.if_icmp .ge 21, 3) := by decide +kernel
theorem dX3_movingRods_12 : decode cX3_movingRods 12 = .ok (.aload_n 0, 1) := by decide +kernel
theorem dX3_movingRods_13 : decode cX3_movingRods 13 = .ok (.getfield 22, 3) := by decide +kernel
theorem dX3_movingRods_16 : decode cX3_movingRods 16 = .ok (.iload_n 2, 1) := by decide +kernel
theorem dX3_movingRods_17 : decode cX3_movingRods 17 = .ok (.iaload, 1) := by decide +kernel
theorem dX3_movingRods_18 : decode cX3_movingRods 18 = .ok (.ifCond .eq 6, 3) := by decide +kernel
theorem dX3_movingRods_21 : decode cX3_movingRods 21 = .ok (.iinc 1 1, 3) := by decide +kernel
theorem dX3_movingRods_24 : decode cX3_movingRods 24 = .ok (.iinc 2 1, 3) := by decide +kernel
theorem dX3_movingRods_27 : decode cX3_movingRods 27 = .ok (.goto (-23), 3) := by decide +kernel
theorem dX3_movingRods_30 : decode cX3_movingRods 30 = .ok (.iload_n 1, 1) := by decide +kernel
theorem dX3_movingRods_31 : decode cX3_movingRods 31 = .ok (.ireturn, 1) := by decide +kernel
theorem dX3_sumOfSpeeds_0 : decode cX3_sumOfSpeeds 0 = .ok (.iconst 0, 1) := by decide +kernel
theorem dX3_sumOfSpeeds_1 : decode cX3_sumOfSpeeds 1 = .ok (.istore_n 1, 1) := by decide +kernel
theorem dX3_sumOfSpeeds_2 : decode cX3_sumOfSpeeds 2 = .ok (.iconst 0, 1) := by decide +kernel
theorem dX3_sumOfSpeeds_3 : decode cX3_sumOfSpeeds 3 = .ok (.istore_n 2, 1) := by decide +kernel
theorem dX3_sumOfSpeeds_4 : decode cX3_sumOfSpeeds 4 = .ok (.iload_n 2, 1) := by decide +kernel
theorem dX3_sumOfSpeeds_5 : decode cX3_sumOfSpeeds 5 = .ok (.aload_n 0, 1) := by decide +kernel
theorem dX3_sumOfSpeeds_6 : decode cX3_sumOfSpeeds 6 = .ok (.getfield 28, 3) := by decide +kernel
theorem dX3_sumOfSpeeds_9 : decode cX3_sumOfSpeeds 9 = .ok (.if_icmp .ge 18, 3) := by decide +kernel
theorem dX3_sumOfSpeeds_12 : decode cX3_sumOfSpeeds 12 = .ok (.iload_n 1, 1) := by decide +kernel
theorem dX3_sumOfSpeeds_13 : decode cX3_sumOfSpeeds 13 = .ok (.aload_n 0, 1) := by decide +kernel
theorem dX3_sumOfSpeeds_14 : decode cX3_sumOfSpeeds 14 = .ok (.getfield 22, 3) := by decide +kernel
theorem dX3_sumOfSpeeds_17 : decode cX3_sumOfSpeeds 17 = .ok (.iload_n 2, 1) := by decide +kernel
theorem dX3_sumOfSpeeds_18 : decode cX3_sumOfSpeeds 18 = .ok (.iaload, 1) := by decide +kernel
theorem dX3_sumOfSpeeds_19 : decode cX3_sumOfSpeeds 19 = .ok (.iadd, 1) := by decide +kernel
theorem dX3_sumOfSpeeds_20 : decode cX3_sumOfSpeeds 20 = .ok (.istore_n 1, 1) := by decide +kernel
theorem dX3_sumOfSpeeds_21 : decode cX3_sumOfSpeeds 21 = .ok (.iinc 2 1, 3) := by decide +kernel
theorem dX3_sumOfSpeeds_24 : decode cX3_sumOfSpeeds 24 = .ok (.goto (-20), 3) := by decide +kernel
theorem dX3_sumOfSpeeds_27 : decode cX3_sumOfSpeeds 27 = .ok (.iload_n 1, 1) := by decide +kernel
theorem dX3_sumOfSpeeds_28 : decode cX3_sumOfSpeeds 28 = .ok (.ireturn, 1) := by decide +kernel
theorem dX3_sumOfSquares_0 : decode cX3_sumOfSquares 0 = .ok (.iconst 0, 1) := by decide +kernel
theorem dX3_sumOfSquares_1 : decode cX3_sumOfSquares 1 = .ok (.istore_n 1, 1) := by decide +kernel
theorem dX3_sumOfSquares_2 : decode cX3_sumOfSquares 2 = .ok (.iconst 0, 1) := by decide +kernel
theorem dX3_sumOfSquares_3 : decode cX3_sumOfSquares 3 = .ok (.istore_n 2, 1) := by decide +kernel
theorem dX3_sumOfSquares_4 : decode cX3_sumOfSquares 4 = .ok (.iload_n 2, 1) := by decide +kernel
theorem dX3_sumOfSquares_5 : decode cX3_sumOfSquares 5 = .ok (.aload_n 0, 1) := by decide +kernel
theorem dX3_sumOfSquares_6 : decode cX3_sumOfSquares 6 = .ok (.getfield 28, 3) := by decide +kernel
theorem dX3_sumOfSquares_9 : decode cX3_sumOfSquares 9 = .ok (.if_icmp .ge 25, 3) := by decide +kernel
theorem dX3_sumOfSquares_12 : decode cX3_sumOfSquares 12 = .ok (.iload_n 1, 1) := by decide +kernel
theorem dX3_sumOfSquares_13 : decode cX3_sumOfSquares 13 = .ok (.aload_n 0, 1) := by decide +kernel
theorem dX3_sumOfSquares_14 : decode cX3_sumOfSquares 14 = .ok (.getfield 22, 3) := by decide +kernel
theorem dX3_sumOfSquares_17 : decode cX3_sumOfSquares 17 = .ok (.iload_n 2, 1) := by decide +kernel
theorem dX3_sumOfSquares_18 : decode cX3_sumOfSquares 18 = .ok (.iaload, 1) := by decide +kernel
theorem dX3_sumOfSquares_19 : decode cX3_sumOfSquares 19 = .ok (.aload_n 0, 1) := by decide +kernel
theorem dX3_sumOfSquares_20 : decode cX3_sumOfSquares 20 = .ok (.getfield 22, 3) := by decide +kernel
theorem dX3_sumOfSquares_23 : decode cX3_sumOfSquares 23 = .ok (.iload_n 2, 1) := by decide +kernel
theorem dX3_sumOfSquares_24 : decode cX3_sumOfSquares 24 = .ok (.iaload, 1) := by decide +kernel
theorem dX3_sumOfSquares_25 : decode cX3_sumOfSquares 25 = .ok (.imul, 1) := by decide +kernel
theorem dX3_sumOfSquares_26 : decode cX3_sumOfSquares 26 = .ok (.iadd, 1) := by decide +kernel
theorem dX3_sumOfSquares_27 : decode cX3_sumOfSquares 27 = .ok (.istore_n 1, 1) := by decide +kernel
theorem dX3_sumOfSquares_28 : decode cX3_sumOfSquares 28 = .ok (.iinc 2 1, 3) := by decide +kernel
theorem dX3_sumOfSquares_31 : decode cX3_sumOfSquares 31 = .ok (.goto (-27), 3) := by decide +kernel
theorem dX3_sumOfSquares_34 : decode cX3_sumOfSquares 34 = .ok (.iload_n 1, 1) := by decide +kernel
theorem dX3_sumOfSquares_35 : decode cX3_sumOfSquares 35 = .ok (.ireturn, 1) := by decide +kernel
set_option maxRecDepth 20000 in
theorem ggX3_onRing_J9_floorMod_7cf53 : GoodIn wsX3_onRing wsJ9_floorMod_7cf53 := goodIn_r _ [5] (by decide +kernel) (by decide +kernel)
set_option maxRecDepth 20000 in
theorem gX3_onRing_J9_floorMod_7cf53 : GoodIn wsX3_onRing (va_wsS RX3 69 yJ9_floorMod_7cf53 wsJ9_floorMod_7cf53) := goodIn_app (goodIn_of _ (by decide +kernel)) ggX3_onRing_J9_floorMod_7cf53
theorem dX3_onRing_0 : decode cX3_onRing 0 = .ok (.aload_n 0, 1) := by decide +kernel
theorem dX3_onRing_1 : decode cX3_onRing 1 = .ok (.getfield 9, 3) := by decide +kernel
theorem dX3_onRing_4 : decode cX3_onRing 4 = .ok (.ifCond .le 14, 3) := by decide +kernel
theorem dX3_onRing_7 : decode cX3_onRing 7 = .ok (.iload_n 1, 1) := by decide +kernel
theorem dX3_onRing_8 : decode cX3_onRing 8 = .ok (.aload_n 0, 1) := by decide +kernel
theorem dX3_onRing_9 : decode cX3_onRing 9 = .ok (.getfield 9, 3) := by decide +kernel
theorem dX3_onRing_12 : decode cX3_onRing 12 = .ok (.invokestatic 69, 3) := by decide +kernel
theorem dX3_onRing_15 : decode cX3_onRing 15 = .ok (.goto 4, 3) := by decide +kernel
theorem dX3_onRing_18 : decode cX3_onRing 18 = .ok (.iconst 0, 1) := by decide +kernel
theorem dX3_onRing_19 : decode cX3_onRing 19 = .ok (.ireturn, 1) := by decide +kernel
theorem dX4_init_0 : decode cX4_init 0 = .ok (.aload_n 0, 1) := by decide +kernel
theorem dX4_init_1 : decode cX4_init 1 = .ok (.invokespecial 3, 3) := by decide +kernel
theorem dX4_init_4 : decode cX4_init 4 = .ok (.aload_n 0, 1) := by decide +kernel
theorem dX4_init_5 : decode cX4_init 5 = .ok (.bipush 60, 2) := by decide +kernel
theorem dX4_init_7 : decode cX4_init 7 = .ok (.newarray .char, 2) := by decide +kernel
theorem dX4_init_9 : decode cX4_init 9 = .ok (.putfield 9, 3) := by decide +kernel
theorem dX4_init_12 : decode cX4_init 12 = .ok (.return_, 1) := by decide +kernel
theorem dX4_append_0 : decode cX4_append 0 = .ok (.aload_n 0, 1) := by decide +kernel
theorem dX4_append_1 : decode cX4_append 1 = .ok (.getfield 15, 3) := by decide +kernel
theorem dX4_append_4 : decode cX4_append 4 = .ok (.ifCond .lt 35, 3) := by decide +kernel
theorem dX4_append_7 : decode cX4_append 7 = .ok (.aload_n 0, 1) := by decide +kernel
theorem dX4_append_8 : decode cX4_append 8 = .ok (.getfield 15, 3) := by decide +kernel
theorem dX4_append_11 : decode cX4_append 11 = .ok (.aload_n 0, 1) := by decide +kernel
theorem dX4_append_12 : decode cX4_append 12 = .ok (.getfield 9, 3) := by decide +kernel
theorem dX4_append_15 : decode cX4_append 15 = .ok (.arraylength, 1) := by decide +kernel
theorem dX4_append_16 : decode cX4_append 16 = .ok (.if_icmp .ge 23, 3) := by decide +kernel
theorem dX4_append_19 : decode cX4_append 19 = .ok (.aload_n 0, 1) := by decide +kernel
theorem dX4_append_20 : decode cX4_append 20 = .ok (.getfield 9, 3) := by decide +kernel
theorem dX4_append_23 : decode cX4_append 23 = .ok (.aload_n 0, 1) := by decide +kernel
theorem dX4_append_24 : decode cX4_append 24 = .ok (.getfield 15, 3) := by decide +kernel
theorem dX4_append_27 : decode cX4_append 27 = .ok (.iload_n 1, 1) := by decide +kernel
theorem dX4_append_28 : decode cX4_append 28 = .ok (.castore, 1) := by decide +kernel
theorem dX4_append_29 : decode cX4_append 29 = .ok (.aload_n 0, 1) := by decide +kernel
theorem dX4_append_30 : decode cX4_append 30 = .ok (.dup, 1) := by decide +kernel
theorem dX4_append_31 : decode cX4_append 31 = .ok (.getfield 15, 3) := by decide +kernel
theorem dX4_append_34 : decode cX4_append 34 = .ok (.iconst 1, 1) := by decide +kernel
theorem dX4_append_35 : decode cX4_append 35 = .ok (.iadd, 1) := by decide +kernel
theorem dX4_append_36 : decode cX4_append 36 = .ok (.putfield 15, 3) := by decide +kernel
theorem dX4_append_39 : decode cX4_append 39 = .ok (.return_, 1) := by decide +kernel
set_option maxRecDepth 20000 in
theorem ggX4_fault_X4_signAt : GoodIn wsX4_fault wsX4_signAt := goodIn_r _ [6, 1, 7, 17, 18] (by decide +kernel) (by decide +kernel)
set_option maxRecDepth 20000 in
theorem gX4_fault_X4_signAt : GoodIn wsX4_fault (wsV RX4 19 RX4 yX4_signAt wsX4_signAt) := goodIn_app (goodIn_of _ (by decide +kernel)) ggX4_fault_X4_signAt
set_option maxRecDepth 20000 in
theorem ggX4_fault_X4_awaitedBehind : GoodIn wsX4_fault wsX4_awaitedBehind := goodIn_r _ [10, 11, 12, 5, 13, 14, 15, 16] (by decide +kernel) (by decide +kernel)
set_option maxRecDepth 20000 in
theorem gX4_fault_X4_awaitedBehind : GoodIn wsX4_fault (va_wsS RX4 23 yX4_awaitedBehind wsX4_awaitedBehind) := goodIn_app (goodIn_of _ (by decide +kernel)) ggX4_fault_X4_awaitedBehind
theorem dX4_fault_0 : decode cX4_fault 0 = .ok (.iconst 1, 1) := by decide +kernel
theorem dX4_fault_1 : decode cX4_fault 1 = .ok (.istore_n 1, 1) := by decide +kernel
theorem dX4_fault_2 : decode cX4_fault 2 = .ok (.iconst 0, 1) := by decide +kernel
theorem dX4_fault_3 : decode cX4_fault 3 = .ok (.istore_n 2, 1) := by decide +kernel
theorem dX4_fault_4 : decode cX4_fault 4 = .ok (.iload_n 2, 1) := by decide +kernel
theorem dX4_fault_5 : decode cX4_fault 5 = .ok (.aload_n 0, 1) := by decide +kernel
theorem dX4_fault_6 : decode cX4_fault 6 = .ok (.getfield 15, 3) := by decide +kernel
theorem dX4_fault_9 : decode cX4_fault 9 = .ok (.if_icmp .ge 25, 3) := by decide +kernel
theorem dX4_fault_12 : decode cX4_fault 12 = .ok (.iload_n 1, 1) := by decide +kernel
theorem dX4_fault_13 : decode cX4_fault 13 = .ok (.aload_n 0, 1) := by decide +kernel
theorem dX4_fault_14 : decode cX4_fault 14 = .ok (.iload_n 2, 1) := by decide +kernel
theorem dX4_fault_15 : decode cX4_fault 15 = .ok (.invokevirtual 19, 3) := by decide +kernel
theorem dX4_fault_18 : decode cX4_fault 18 = .ok (.invokestatic 23, 3) := by decide +kernel
theorem dX4_fault_21 : decode cX4_fault 21 = .ok (.istore_n 1, 1) := by decide +kernel
theorem dX4_fault_22 : decode cX4_fault 22 = .ok (.iload_n 1, 1) := by decide +kernel
theorem dX4_fault_23 : decode cX4_fault 23 = .ok (.ifCond .ne 5, 3) := by decide +kernel
theorem dX4_fault_26 : decode cX4_fault 26 = .ok (.iload_n 2, 1) := by decide +kernel
theorem dX4_fault_27 : decode cX4_fault 27 = .ok (.ireturn, 1) := by decide +kernel
theorem dX4_fault_28 : decode cX4_fault 28 = .ok (.iinc 2 1, 3) := by decide +kernel
theorem dX4_fault_31 : decode cX4_fault 31 = .ok (.goto (-27), 3) := by decide +kernel
theorem dX4_fault_34 : decode cX4_fault 34 = .ok (.iload_n 1, 1) := by decide +kernel
theorem dX4_fault_35 : decode cX4_fault 35 = .ok (.bipush 8, 2) := by decide +kernel
theorem dX4_fault_37 : decode cX4_fault 37 = .ok (.if_icmp .eq 8, 3) := by decide +kernel
theorem dX4_fault_40 : decode cX4_fault 40 = .ok (.iload_n 1, 1) := by decide +kernel
theorem dX4_fault_41 : decode cX4_fault 41 = .ok (.iconst 3, 1) := by decide +kernel
theorem dX4_fault_42 : decode cX4_fault 42 = .ok (.if_icmp .ne 7, 3) := by decide +kernel
theorem dX4_fault_45 : decode cX4_fault 45 = .ok (.iconst (-1), 1) := by decide +kernel
theorem dX4_fault_46 : decode cX4_fault 46 = .ok (.goto 7, 3) := by decide +kernel
theorem dX4_fault_49 : decode cX4_fault 49 = .ok (.aload_n 0, 1) := by decide +kernel
theorem dX4_fault_50 : decode cX4_fault 50 = .ok (.getfield 15, 3) := by decide +kernel
theorem dX4_fault_53 : decode cX4_fault 53 = .ok (.ireturn, 1) := by decide +kernel
set_option maxRecDepth 20000 in
theorem ggX4_awaitedBehind_X4_awaitedBehindLetter : GoodIn wsX4_awaitedBehind wsX4_awaitedBehindLetter := goodIn_r _ [4] (by decide +kernel) (by decide +kernel)
set_option maxRecDepth 20000 in
theorem gX4_awaitedBehind_X4_awaitedBehindLetter : GoodIn wsX4_awaitedBehind (va_wsS RX4 27 yX4_awaitedBehindLetter wsX4_awaitedBehindLetter) := goodIn_app (goodIn_of _ (by decide +kernel)) ggX4_awaitedBehind_X4_awaitedBehindLetter
set_option maxRecDepth 20000 in
theorem ggX4_awaitedBehind_X4_isDigit : GoodIn wsX4_awaitedBehind wsX4_isDigit := goodIn_r _ [7] (by decide +kernel) (by decide +kernel)
set_option maxRecDepth 20000 in
theorem gX4_awaitedBehind_X4_isDigit : GoodIn wsX4_awaitedBehind (va_wsS RX4 31 yX4_isDigit wsX4_isDigit) := goodIn_app (goodIn_of _ (by decide +kernel)) ggX4_awaitedBehind_X4_isDigit
theorem dX4_awaitedBehind_0 : decode cX4_awaitedBehind 0 = .ok (.iload_n 0, 1) := by decide +kernel
theorem dX4_awaitedBehind_1 : decode cX4_awaitedBehind 1 = .ok (.tableswitch 172 1 8 #[47, 52, 67, 91, 106, 119, 144, 160], 47) := by decide +kernel
theorem dX4_awaitedBehind_48 : decode cX4_awaitedBehind 48 = .ok (.iload_n 1, 1) := by decide +kernel
theorem dX4_awaitedBehind_49 : decode cX4_awaitedBehind 49 = .ok (.invokestatic 27, 3) := by decide +kernel
theorem dX4_awaitedBehind_52 : decode cX4_awaitedBehind 52 = .ok (.ireturn, 1) := by decide +kernel
theorem dX4_awaitedBehind_53 : decode cX4_awaitedBehind 53 = .ok (.iload_n 1, 1) := by decide +kernel
theorem dX4_awaitedBehind_54 : decode cX4_awaitedBehind 54 = .ok (.bipush 49, 2) := by decide +kernel
theorem dX4_awaitedBehind_56 : decode cX4_awaitedBehind 56 = .ok (.invokestatic 31, 3) := by decide +kernel
theorem dX4_awaitedBehind_59 : decode cX4_awaitedBehind 59 = .ok (.ifCond .eq 7, 3) := by decide +kernel
theorem dX4_awaitedBehind_62 : decode cX4_awaitedBehind 62 = .ok (.iconst 3, 1) := by decide +kernel
theorem dX4_awaitedBehind_63 : decode cX4_awaitedBehind 63 = .ok (.goto 4, 3) := by decide +kernel
theorem dX4_awaitedBehind_66 : decode cX4_awaitedBehind 66 = .ok (.iconst 0, 1) := by decide +kernel
theorem dX4_awaitedBehind_67 : decode cX4_awaitedBehind 67 = .ok (.ireturn, 1) := by decide +kernel
theorem dX4_awaitedBehind_68 : decode cX4_awaitedBehind 68 = .ok (.iload_n 1, 1) := by decide +kernel
theorem dX4_awaitedBehind_69 : decode cX4_awaitedBehind 69 = .ok (.bipush 48, 2) := by decide +kernel
theorem dX4_awaitedBehind_71 : decode cX4_awaitedBehind 71 = .ok (.invokestatic 31, 3) := by decide +kernel
theorem dX4_awaitedBehind_74 : decode cX4_awaitedBehind 74 = .ok (.ifCond .eq 6, 3) := by decide +kernel
theorem dX4_awaitedBehind_77 : decode cX4_awaitedBehind 77 = .ok (.bipush 8, 2) := by decide +kernel
theorem dX4_awaitedBehind_79 : decode cX4_awaitedBehind 79 = .ok (.ireturn, 1) := by decide +kernel
theorem dX4_awaitedBehind_80 : decode cX4_awaitedBehind 80 = .ok (.iload_n 1, 1) := by decide +kernel
theorem dX4_awaitedBehind_81 : decode cX4_awaitedBehind 81 = .ok (.bipush 59, 2) := by decide +kernel
theorem dX4_awaitedBehind_83 : decode cX4_awaitedBehind 83 = .ok (.if_icmp .ne 7, 3) := by decide +kernel
theorem dX4_awaitedBehind_86 : decode cX4_awaitedBehind 86 = .ok (.iconst 1, 1) := by decide +kernel
theorem dX4_awaitedBehind_87 : decode cX4_awaitedBehind 87 = .ok (.goto 4, 3) := by decide +kernel
theorem dX4_awaitedBehind_90 : decode cX4_awaitedBehind 90 = .ok (.iconst 0, 1) := by decide +kernel
theorem dX4_awaitedBehind_91 : decode cX4_awaitedBehind 91 = .ok (.ireturn, 1) := by decide +kernel
theorem dX4_awaitedBehind_92 : decode cX4_awaitedBehind 92 = .ok (.iload_n 1, 1) := by decide +kernel
theorem dX4_awaitedBehind_93 : decode cX4_awaitedBehind 93 = .ok (.bipush 48, 2) := by decide +kernel
theorem dX4_awaitedBehind_95 : decode cX4_awaitedBehind 95 = .ok (.invokestatic 31, 3) := by decide +kernel
theorem dX4_awaitedBehind_98 : decode cX4_awaitedBehind 98 = .ok (.ifCond .eq 7, 3) := by decide +kernel
theorem dX4_awaitedBehind_101 : decode cX4_awaitedBehind 101 = .ok (.iconst 5, 1) := by decide +kernel
theorem dX4_awaitedBehind_102 : decode cX4_awaitedBehind 102 = .ok (.goto 4, 3) := by decide +kernel
theorem dX4_awaitedBehind_105 : decode cX4_awaitedBehind 105 = .ok (.iconst 0, 1) := by decide +kernel
theorem dX4_awaitedBehind_106 : decode cX4_awaitedBehind 106 = .ok (.ireturn, 1) := by decide +kernel
theorem dX4_awaitedBehind_107 : decode cX4_awaitedBehind 107 = .ok (.iload_n 1, 1) := by decide +kernel
theorem dX4_awaitedBehind_108 : decode cX4_awaitedBehind 108 = .ok (.bipush 61, 2) := by decide +kernel
theorem dX4_awaitedBehind_110 : decode cX4_awaitedBehind 110 = .ok (.if_icmp .ne 8, 3) := by decide +kernel
theorem dX4_awaitedBehind_113 : decode cX4_awaitedBehind 113 = .ok (.bipush 6, 2) := by decide +kernel
theorem dX4_awaitedBehind_115 : decode cX4_awaitedBehind 115 = .ok (.goto 4, 3) := by decide +kernel
theorem dX4_awaitedBehind_118 : decode cX4_awaitedBehind 118 = .ok (.iconst 0, 1) := by decide +kernel
theorem dX4_awaitedBehind_119 : decode cX4_awaitedBehind 119 = .ok (.ireturn, 1) := by decide +kernel
theorem dX4_awaitedBehind_120 : decode cX4_awaitedBehind 120 = .ok (.iload_n 1, 1) := by decide +kernel
theorem dX4_awaitedBehind_121 : decode cX4_awaitedBehind 121 = .ok (.bipush 45, 2) := by decide +kernel
theorem dX4_awaitedBehind_123 : decode cX4_awaitedBehind 123 = .ok (.if_icmp .ne 6, 3) := by decide +kernel
theorem dX4_awaitedBehind_126 : decode cX4_awaitedBehind 126 = .ok (.bipush 7, 2) := by decide +kernel
theorem dX4_awaitedBehind_128 : decode cX4_awaitedBehind 128 = .ok (.ireturn, 1) := by decide +kernel
theorem dX4_awaitedBehind_129 : decode cX4_awaitedBehind 129 = .ok (.iload_n 1, 1) := by decide +kernel
theorem dX4_awaitedBehind_130 : decode cX4_awaitedBehind 130 = .ok (.bipush 48, 2) := by decide +kernel
theorem dX4_awaitedBehind_132 : decode cX4_awaitedBehind 132 = .ok (.invokestatic 31, 3) := by decide +kernel
theorem dX4_awaitedBehind_135 : decode cX4_awaitedBehind 135 = .ok (.ifCond .eq 8, 3) := by decide +kernel
theorem dX4_awaitedBehind_138 : decode cX4_awaitedBehind 138 = .ok (.bipush 8, 2) := by decide +kernel
theorem dX4_awaitedBehind_140 : decode cX4_awaitedBehind 140 = .ok (.goto 4, 3) := by decide +kernel
theorem dX4_awaitedBehind_143 : decode cX4_awaitedBehind 143 = .ok (.iconst 0, 1) := by decide +kernel
theorem dX4_awaitedBehind_144 : decode cX4_awaitedBehind 144 = .ok (.ireturn, 1) := by decide +kernel
theorem dX4_awaitedBehind_145 : decode cX4_awaitedBehind 145 = .ok (.iload_n 1, 1) := by decide +kernel
theorem dX4_awaitedBehind_146 : decode cX4_awaitedBehind 146 = .ok (.bipush 49, 2) := by decide +kernel
theorem dX4_awaitedBehind_148 : decode cX4_awaitedBehind 148 = .ok (.invokestatic 31, 3) := by decide +kernel
theorem dX4_awaitedBehind_151 : decode cX4_awaitedBehind 151 = .ok (.ifCond .eq 8, 3) := by decide +kernel
theorem dX4_awaitedBehind_154 : decode cX4_awaitedBehind 154 = .ok (.bipush 8, 2) := by decide +kernel
theorem dX4_awaitedBehind_156 : decode cX4_awaitedBehind 156 = .ok (.goto 4, 3) := by decide +kernel
theorem dX4_awaitedBehind_159 : decode cX4_awaitedBehind 159 = .ok (.iconst 0, 1) := by decide +kernel
theorem dX4_awaitedBehind_160 : decode cX4_awaitedBehind 160 = .ok (.ireturn, 1) := by decide +kernel
theorem dX4_awaitedBehind_161 : decode cX4_awaitedBehind 161 = .ok (.iload_n 1, 1) := by decide +kernel
theorem dX4_awaitedBehind_162 : decode cX4_awaitedBehind 162 = .ok (.bipush 59, 2) := by decide +kernel
theorem dX4_awaitedBehind_164 : decode cX4_awaitedBehind 164 = .ok (.if_icmp .ne 7, 3) := by decide +kernel
theorem dX4_awaitedBehind_167 : decode cX4_awaitedBehind 167 = .ok (.iconst 1, 1) := by decide +kernel
theorem dX4_awaitedBehind_168 : decode cX4_awaitedBehind 168 = .ok (.goto 4, 3) := by decide +kernel
theorem dX4_awaitedBehind_171 : decode cX4_awaitedBehind 171 = .ok (.iconst 0, 1) := by decide +kernel
theorem dX4_awaitedBehind_172 : decode cX4_awaitedBehind 172 = .ok (.ireturn, 1) := by decide +kernel
theorem dX4_awaitedBehind_173 : decode cX4_awaitedBehind 173 = .ok (.iconst 0, 1) := by decide +kernel
theorem dX4_awaitedBehind_174 : decode cX4_awaitedBehind 174 = .ok (.ireturn, 1) := by decide +kernel
theorem dX4_awaitedBehindLetter_0 : decode cX4_awaitedBehindLetter 0 = .ok (.iload_n 0, 1) := by decide +kernel
theorem dX4_awaitedBehindLetter_1 : decode cX4_awaitedBehindLetter 1 = .ok (.tableswitch 38 112 115 #[31, 38, 33, 36], 31) := by decide +kernel
theorem dX4_awaitedBehindLetter_32 : decode cX4_awaitedBehindLetter 32 = .ok (.iconst 2, 1) := by decide +kernel
theorem dX4_awaitedBehindLetter_33 : decode cX4_awaitedBehindLetter 33 = .ok (.ireturn, 1) := by decide +kernel
theorem dX4_awaitedBehindLetter_34 : decode cX4_awaitedBehindLetter 34 = .ok (.bipush 8, 2) := by decide +kernel
theorem dX4_awaitedBehindLetter_36 : decode cX4_awaitedBehindLetter 36 = .ok (.ireturn, 1) := by decide +kernel
theorem dX4_awaitedBehindLetter_37 : decode cX4_awaitedBehindLetter 37 = .ok (.iconst 4, 1) := by decide +kernel
theorem dX4_awaitedBehindLetter_38 : decode cX4_awaitedBehindLetter 38 = .ok (.ireturn, 1) := by decide +kernel
theorem dX4_awaitedBehindLetter_39 : decode cX4_awaitedBehindLetter 39 = .ok (.iconst 0, 1) := by decide +kernel
theorem dX4_awaitedBehindLetter_40 : decode cX4_awaitedBehindLetter 40 = .ok (.ireturn, 1) := by decide +kernel
set_option maxRecDepth 20000 in
theorem ggX4_orderAt_X4_signAt : GoodIn wsX4_orderAt wsX4_signAt := goodIn_r _ [5, 6, 7, 8, 9] (by decide +kernel) (by decide +kernel)
set_option maxRecDepth 20000 in
theorem gX4_orderAt_X4_signAt : GoodIn wsX4_orderAt (wsV RX4 19 RX4 yX4_signAt wsX4_signAt) := goodIn_app (goodIn_of _ (by decide +kernel)) ggX4_orderAt_X4_signAt
theorem dX4_orderAt_0 : decode cX4_orderAt 0 = .ok (.iload_n 1, 1) := by decide +kernel
theorem dX4_orderAt_1 : decode cX4_orderAt 1 = .ok (.ifCond .eq 15, 3) := by decide +kernel
theorem dX4_orderAt_4 : decode cX4_orderAt 4 = .ok (.aload_n 0, 1) := by decide +kernel
theorem dX4_orderAt_5 : decode cX4_orderAt 5 = .ok (.iload_n 1, 1) := by decide +kernel
theorem dX4_orderAt_6 : decode cX4_orderAt 6 = .ok (.iconst 1, 1) := by decide +kernel
theorem dX4_orderAt_7 : decode cX4_orderAt 7 = .ok (.isub, 1) := by decide +kernel
theorem dX4_orderAt_8 : decode cX4_orderAt 8 = .ok (.invokevirtual 19, 3) := by decide +kernel
theorem dX4_orderAt_11 : decode cX4_orderAt 11 = .ok (.bipush 59, 2) := by decide +kernel
theorem dX4_orderAt_13 : decode cX4_orderAt 13 = .ok (.if_icmp .ne 11, 3) := by decide +kernel
theorem dX4_orderAt_16 : decode cX4_orderAt 16 = .ok (.aload_n 0, 1) := by decide +kernel
theorem dX4_orderAt_17 : decode cX4_orderAt 17 = .ok (.iload_n 1, 1) := by decide +kernel
theorem dX4_orderAt_18 : decode cX4_orderAt 18 = .ok (.invokevirtual 19, 3) := by decide +kernel
theorem dX4_orderAt_21 : decode cX4_orderAt 21 = .ok (.goto 4, 3) := by decide +kernel
theorem dX4_orderAt_24 : decode cX4_orderAt 24 = .ok (.iconst 0, 1) := by decide +kernel
theorem dX4_orderAt_25 : decode cX4_orderAt 25 = .ok (.ireturn, 1) := by decide +kernel
set_option maxRecDepth 20000 in
theorem ggX4_ticksAt_X4_digitAt : GoodIn wsX4_ticksAt wsX4_digitAt := goodIn_r _ [5, 6, 7, 8, 4, 9, 10, 11, 15, 16] (by decide +kernel) (by decide +kernel)
set_option maxRecDepth 20000 in
theorem gX4_ticksAt_X4_digitAt : GoodIn wsX4_ticksAt (wsV RX4 35 RX4 yX4_digitAt wsX4_digitAt) := goodIn_app (goodIn_of _ (by decide +kernel)) ggX4_ticksAt_X4_digitAt
set_option maxRecDepth 20000 in
theorem ggX4_ticksAt_X4_signAt : GoodIn wsX4_ticksAt wsX4_signAt := goodIn_r _ [9, 10, 11, 15, 16] (by decide +kernel) (by decide +kernel)
set_option maxRecDepth 20000 in
theorem gX4_ticksAt_X4_signAt : GoodIn wsX4_ticksAt (wsV RX4 19 RX4 yX4_signAt wsX4_signAt) := goodIn_app (goodIn_of _ (by decide +kernel)) ggX4_ticksAt_X4_signAt
set_option maxRecDepth 20000 in
theorem ggX4_ticksAt_X4_isDigit : GoodIn wsX4_ticksAt wsX4_isDigit := goodIn_r _ [14] (by decide +kernel) (by decide +kernel)
set_option maxRecDepth 20000 in
theorem gX4_ticksAt_X4_isDigit : GoodIn wsX4_ticksAt (va_wsS RX4 31 yX4_isDigit wsX4_isDigit) := goodIn_app (goodIn_of _ (by decide +kernel)) ggX4_ticksAt_X4_isDigit
theorem dX4_ticksAt_0 : decode cX4_ticksAt 0 = .ok (.aload_n 0, 1) := by decide +kernel
theorem dX4_ticksAt_1 : decode cX4_ticksAt 1 = .ok (.iload_n 1, 1) := by decide +kernel
theorem dX4_ticksAt_2 : decode cX4_ticksAt 2 = .ok (.iconst 1, 1) := by decide +kernel
theorem dX4_ticksAt_3 : decode cX4_ticksAt 3 = .ok (.iadd, 1) := by decide +kernel
theorem dX4_ticksAt_4 : decode cX4_ticksAt 4 = .ok (.invokevirtual 35, 3) := by decide +kernel
theorem dX4_ticksAt_7 : decode cX4_ticksAt 7 = .ok (.istore_n 2, 1) := by decide +kernel
theorem dX4_ticksAt_8 : decode cX4_ticksAt 8 = .ok (.aload_n 0, 1) := by decide +kernel
theorem dX4_ticksAt_9 : decode cX4_ticksAt 9 = .ok (.iload_n 1, 1) := by decide +kernel
theorem dX4_ticksAt_10 : decode cX4_ticksAt 10 = .ok (.iconst 2, 1) := by decide +kernel
theorem dX4_ticksAt_11 : decode cX4_ticksAt 11 = .ok (.iadd, 1) := by decide +kernel
theorem dX4_ticksAt_12 : decode cX4_ticksAt 12 = .ok (.invokevirtual 19, 3) := by decide +kernel
theorem dX4_ticksAt_15 : decode cX4_ticksAt 15 = .ok (.bipush 48, 2) := by decide +kernel
theorem dX4_ticksAt_17 : decode cX4_ticksAt 17 = .ok (.invokestatic 31, 3) := by decide +kernel
theorem dX4_ticksAt_20 : decode cX4_ticksAt 20 = .ok (.ifCond .eq 16, 3) := by decide +kernel
theorem dX4_ticksAt_23 : decode cX4_ticksAt 23 = .ok (.bipush 10, 2) := by decide +kernel
theorem dX4_ticksAt_25 : decode cX4_ticksAt 25 = .ok (.iload_n 2, 1) := by decide +kernel
theorem dX4_ticksAt_26 : decode cX4_ticksAt 26 = .ok (.imul, 1) := by decide +kernel
theorem dX4_ticksAt_27 : decode cX4_ticksAt 27 = .ok (.aload_n 0, 1) := by decide +kernel
theorem dX4_ticksAt_28 : decode cX4_ticksAt 28 = .ok (.iload_n 1, 1) := by decide +kernel
theorem dX4_ticksAt_29 : decode cX4_ticksAt 29 = .ok (.iconst 2, 1) := by decide +kernel
theorem dX4_ticksAt_30 : decode cX4_ticksAt 30 = .ok (.iadd, 1) := by decide +kernel
theorem dX4_ticksAt_31 : decode cX4_ticksAt 31 = .ok (.invokevirtual 35, 3) := by decide +kernel
theorem dX4_ticksAt_34 : decode cX4_ticksAt 34 = .ok (.iadd, 1) := by decide +kernel
theorem dX4_ticksAt_35 : decode cX4_ticksAt 35 = .ok (.ireturn, 1) := by decide +kernel
theorem dX4_ticksAt_36 : decode cX4_ticksAt 36 = .ok (.iload_n 2, 1) := by decide +kernel
theorem dX4_ticksAt_37 : decode cX4_ticksAt 37 = .ok (.ireturn, 1) := by decide +kernel
set_option maxRecDepth 20000 in
theorem ggX4_rodAt_X4_digitAt : GoodIn wsX4_rodAt wsX4_digitAt := goodIn_r _ [5, 6, 7, 8, 4, 9, 10, 11, 12, 13] (by decide +kernel) (by decide +kernel)
set_option maxRecDepth 20000 in
theorem gX4_rodAt_X4_digitAt : GoodIn wsX4_rodAt (wsV RX4 35 RX4 yX4_digitAt wsX4_digitAt) := goodIn_app (goodIn_of _ (by decide +kernel)) ggX4_rodAt_X4_digitAt
theorem dX4_rodAt_0 : decode cX4_rodAt 0 = .ok (.aload_n 0, 1) := by decide +kernel
theorem dX4_rodAt_1 : decode cX4_rodAt 1 = .ok (.iload_n 1, 1) := by decide +kernel
theorem dX4_rodAt_2 : decode cX4_rodAt 2 = .ok (.iconst 1, 1) := by decide +kernel
theorem dX4_rodAt_3 : decode cX4_rodAt 3 = .ok (.iadd, 1) := by decide +kernel
theorem dX4_rodAt_4 : decode cX4_rodAt 4 = .ok (.invokevirtual 35, 3) := by decide +kernel
theorem dX4_rodAt_7 : decode cX4_rodAt 7 = .ok (.ireturn, 1) := by decide +kernel
set_option maxRecDepth 20000 in
theorem ggX4_speedAt_X4_signAt : GoodIn wsX4_speedAt wsX4_signAt := goodIn_r _ [5, 6, 7, 12, 13] (by decide +kernel) (by decide +kernel)
set_option maxRecDepth 20000 in
theorem gX4_speedAt_X4_signAt : GoodIn wsX4_speedAt (wsV RX4 19 RX4 yX4_signAt wsX4_signAt) := goodIn_app (goodIn_of _ (by decide +kernel)) ggX4_speedAt_X4_signAt
set_option maxRecDepth 20000 in
theorem ggX4_speedAt_X4_digitAt : GoodIn wsX4_speedAt wsX4_digitAt := goodIn_r _ [11, 1, 2, 3, 4, 5, 6, 7, 12, 13] (by decide +kernel) (by decide +kernel)
set_option maxRecDepth 20000 in
theorem gX4_speedAt_X4_digitAt : GoodIn wsX4_speedAt (wsV RX4 35 RX4 yX4_digitAt wsX4_digitAt) := goodIn_app (goodIn_of _ (by decide +kernel)) ggX4_speedAt_X4_digitAt
theorem dX4_speedAt_0 : decode cX4_speedAt 0 = .ok (.aload_n 0, 1) := by decide +kernel
theorem dX4_speedAt_1 : decode cX4_speedAt 1 = .ok (.iload_n 1, 1) := by decide +kernel
theorem dX4_speedAt_2 : decode cX4_speedAt 2 = .ok (.iconst 3, 1) := by decide +kernel
theorem dX4_speedAt_3 : decode cX4_speedAt 3 = .ok (.iadd, 1) := by decide +kernel
theorem dX4_speedAt_4 : decode cX4_speedAt 4 = .ok (.invokevirtual 19, 3) := by decide +kernel
theorem dX4_speedAt_7 : decode cX4_speedAt 7 = .ok (.bipush 45, 2) := by decide +kernel
theorem dX4_speedAt_9 : decode cX4_speedAt 9 = .ok (.if_icmp .ne 12, 3) := by decide +kernel
theorem dX4_speedAt_12 : decode cX4_speedAt 12 = .ok (.aload_n 0, 1) := by decide +kernel
theorem dX4_speedAt_13 : decode cX4_speedAt 13 = .ok (.iload_n 1, 1) := by decide +kernel
theorem dX4_speedAt_14 : decode cX4_speedAt 14 = .ok (.iconst 4, 1) := by decide +kernel
theorem dX4_speedAt_15 : decode cX4_speedAt 15 = .ok (.iadd, 1) := by decide +kernel
theorem dX4_speedAt_16 : decode cX4_speedAt 16 = .ok (.invokevirtual 35, 3) := by decide +kernel
theorem dX4_speedAt_19 : decode cX4_speedAt 19 = .ok (.ineg, 1) := by decide +kernel
theorem dX4_speedAt_20 : decode cX4_speedAt 20 = .ok (.ireturn, 1) := by decide +kernel
theorem dX4_speedAt_21 : decode cX4_speedAt 21 = .ok (.aload_n 0, 1) := by decide +kernel
theorem dX4_speedAt_22 : decode cX4_speedAt 22 = .ok (.iload_n 1, 1) := by decide +kernel
theorem dX4_speedAt_23 : decode cX4_speedAt 23 = .ok (.iconst 3, 1) := by decide +kernel
theorem dX4_speedAt_24 : decode cX4_speedAt 24 = .ok (.iadd, 1) := by decide +kernel
theorem dX4_speedAt_25 : decode cX4_speedAt 25 = .ok (.invokevirtual 35, 3) := by decide +kernel
theorem dX4_speedAt_28 : decode cX4_speedAt 28 = .ok (.ireturn, 1) := by decide +kernel
set_option maxRecDepth 20000 in
theorem ggX4_digitAt_X4_signAt : GoodIn wsX4_digitAt wsX4_signAt := goodIn_r _ [5, 6, 7, 8, 9] (by decide +kernel) (by decide +kernel)
set_option maxRecDepth 20000 in
theorem gX4_digitAt_X4_signAt : GoodIn wsX4_digitAt (wsV RX4 19 RX4 yX4_signAt wsX4_signAt) := goodIn_app (goodIn_of _ (by decide +kernel)) ggX4_digitAt_X4_signAt
theorem dX4_digitAt_0 : decode cX4_digitAt 0 = .ok (.aload_n 0, 1) := by decide +kernel
theorem dX4_digitAt_1 : decode cX4_digitAt 1 = .ok (.iload_n 1, 1) := by decide +kernel
theorem dX4_digitAt_2 : decode cX4_digitAt 2 = .ok (.invokevirtual 19, 3) := by decide +kernel
theorem dX4_digitAt_5 : decode cX4_digitAt 5 = .ok (.bipush 48, 2) := by decide +kernel
theorem dX4_digitAt_7 : decode cX4_digitAt 7 = .ok (.isub, 1) := by decide +kernel
theorem dX4_digitAt_8 : decode cX4_digitAt 8 = .ok (.ireturn, 1) := by decide +kernel
theorem dX4_signAt_0 : decode cX4_signAt 0 = .ok (.iload_n 1, 1) := by decide +kernel
theorem dX4_signAt_1 : decode cX4_signAt 1 = .ok (.ifCond .lt 29, 3) := by decide +kernel
theorem dX4_signAt_4 : decode cX4_signAt 4 = .ok (.iload_n 1, 1) := by decide +kernel
theorem dX4_signAt_5 : decode cX4_signAt 5 = .ok (.aload_n 0, 1) := by decide +kernel
theorem dX4_signAt_6 : decode cX4_signAt 6 = .ok (.getfield 15, 3) := by decide +kernel
theorem dX4_signAt_9 : decode cX4_signAt 9 = .ok (.if_icmp .ge 21, 3) := by decide +kernel
theorem dX4_signAt_12 : decode cX4_signAt 12 = .ok (.iload_n 1, 1) := by decide +kernel
theorem dX4_signAt_13 : decode cX4_signAt 13 = .ok (.aload_n 0, 1) := by decide +kernel
theorem dX4_signAt_14 : decode cX4_signAt 14 = .ok (.getfield 9, 3) := by decide +kernel
theorem dX4_signAt_17 : decode cX4_signAt 17 = .ok (.arraylength, 1) := by decide +kernel
theorem dX4_signAt_18 : decode cX4_signAt 18 = .ok (.if_icmp .ge 12, 3) := by decide +kernel
theorem dX4_signAt_21 : decode cX4_signAt 21 = .ok (.aload_n 0, 1) := by decide +kernel
theorem dX4_signAt_22 : decode cX4_signAt 22 = .ok (.getfield 9, 3) := by decide +kernel
theorem dX4_signAt_25 : decode cX4_signAt 25 = .ok (.iload_n 1, 1) := by decide +kernel
theorem dX4_signAt_26 : decode cX4_signAt 26 = .ok (.caload, 1) := by decide +kernel
theorem dX4_signAt_27 : decode cX4_signAt 27 = .ok (.goto 4, 3) := by decide +kernel
theorem dX4_signAt_30 : decode cX4_signAt 30 = .ok (.iconst 0, 1) := by decide +kernel
theorem dX4_signAt_31 : decode cX4_signAt 31 = .ok (.ireturn, 1) := by decide +kernel
theorem dX4_isDigit_0 : decode cX4_isDigit 0 = .ok (.iload_n 0, 1) := by decide +kernel
theorem dX4_isDigit_1 : decode cX4_isDigit 1 = .ok (.iload_n 1, 1) := by decide +kernel
theorem dX4_isDigit_2 : decode cX4_isDigit 2 = .ok (.if_icmp .lt 13, 3) := by decide +kernel
theorem dX4_isDigit_5 : decode cX4_isDigit 5 = .ok (.iload_n 0, 1) := by decide +kernel
theorem dX4_isDigit_6 : decode cX4_isDigit 6 = .ok (.bipush 57, 2) := by decide +kernel
theorem dX4_isDigit_8 : decode cX4_isDigit 8 = .ok (.if_icmp .gt 7, 3) := by decide +kernel
theorem dX4_isDigit_11 : decode cX4_isDigit 11 = .ok (.iconst 1, 1) := by decide +kernel
theorem dX4_isDigit_12 : decode cX4_isDigit 12 = .ok (.goto 4, 3) := by decide +kernel
theorem dX4_isDigit_15 : decode cX4_isDigit 15 = .ok (.iconst 0, 1) := by decide +kernel
theorem dX4_isDigit_16 : decode cX4_isDigit 16 = .ok (.ireturn, 1) := by decide +kernel
set_option maxRecDepth 20000 in
theorem ggX5_init_X3_init : GoodIn wsX5_init wsX3_init := goodIn_r _ [28, 29, 2, 3, 30, 31, 32, 33, 34, 35, 63, 64, 65, 66, 67, 68, 69, 70, 71] (by decide +kernel) (by decide +kernel)
set_option maxRecDepth 20000 in
theorem gX5_init_X3_init : GoodIn wsX5_init (wsX3_init) := ggX5_init_X3_init
set_option maxRecDepth 20000 in
theorem ggX5_init_X1_init : GoodIn wsX5_init wsX1_init := goodIn_r _ [38, 39, 2, 3, 40, 41, 5, 6, 42, 27, 28, 29, 30, 31, 32, 33, 34, 35, 79, 80, 63, 64, 65, 66, 67, 68, 69, 70, 71] (by decide +kernel) (by decide +kernel)
set_option maxRecDepth 20000 in
theorem gX5_init_X1_init : GoodIn wsX5_init (wsX1_init) := ggX5_init_X1_init
set_option maxRecDepth 20000 in
theorem ggX5_init_X4_init : GoodIn wsX5_init wsX4_init := goodIn_r _ [45, 46, 2, 3, 47, 48, 81, 82] (by decide +kernel) (by decide +kernel)
set_option maxRecDepth 20000 in
theorem gX5_init_X4_init : GoodIn wsX5_init (wsX4_init) := ggX5_init_X4_init
set_option maxRecDepth 20000 in
theorem ggX5_init_X2_init : GoodIn wsX5_init wsX2_init := goodIn_r _ [51, 52, 2, 3, 31, 53, 54, 55, 56, 83, 84, 85, 86] (by decide +kernel) (by decide +kernel)
set_option maxRecDepth 20000 in
theorem gX5_init_X2_init : GoodIn wsX5_init (wsX2_init) := ggX5_init_X2_init
set_option maxRecDepth 20000 in
theorem ggX5_init_X0_init : GoodIn wsX5_init wsX0_init := goodIn_r _ [59, 60, 2, 3, 61, 62, 87, 88, 89, 90, 91, 92] (by decide +kernel) (by decide +kernel)
set_option maxRecDepth 20000 in
theorem gX5_init_X0_init : GoodIn wsX5_init (wsX0_init) := ggX5_init_X0_init
theorem dX5_init_0 : decode cX5_init 0 = .ok (.aload_n 0, 1) := by decide +kernel
