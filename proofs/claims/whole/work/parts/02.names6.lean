theorem dX6_readOrder_31 : decode cX6_readOrder 31 = .ok (.aload_n 0, 1) := by decide +kernel
theorem dX6_readOrder_32 : decode cX6_readOrder 32 = .ok (.bipush 112, 2) := by decide +kernel
theorem dX6_readOrder_34 : decode cX6_readOrder 34 = .ok (.bipush 112, 2) := by decide +kernel
theorem dX6_readOrder_36 : decode cX6_readOrder 36 = .ok (.invokevirtual 134, 3) := by decide +kernel
theorem dX6_readOrder_39 : decode cX6_readOrder 39 = .ok (.ifCond .eq 35, 3) := by decide +kernel
theorem dX6_readOrder_42 : decode cX6_readOrder 42 = .ok (.aload_n 0, 1) := by decide +kernel
theorem dX6_readOrder_43 : decode cX6_readOrder 43 = .ok (.dup, 1) := by decide +kernel
theorem dX6_readOrder_44 : decode cX6_readOrder 44 = .ok (.getfield 131, 3) := by decide +kernel
theorem dX6_readOrder_47 : decode cX6_readOrder 47 = .ok (.iconst 1, 1) := by decide +kernel
theorem dX6_readOrder_48 : decode cX6_readOrder 48 = .ok (.iadd, 1) := by decide +kernel
theorem dX6_readOrder_49 : decode cX6_readOrder 49 = .ok (.putfield 131, 3) := by decide +kernel
theorem dX6_readOrder_52 : decode cX6_readOrder 52 = .ok (.aload_n 0, 1) := by decide +kernel
theorem dX6_readOrder_53 : decode cX6_readOrder 53 = .ok (.bipush 49, 2) := by decide +kernel
theorem dX6_readOrder_55 : decode cX6_readOrder 55 = .ok (.bipush 57, 2) := by decide +kernel
theorem dX6_readOrder_57 : decode cX6_readOrder 57 = .ok (.invokevirtual 134, 3) := by decide +kernel
theorem dX6_readOrder_60 : decode cX6_readOrder 60 = .ok (.ifCond .eq 11, 3) := by decide +kernel
theorem dX6_readOrder_63 : decode cX6_readOrder 63 = .ok (.aload_n 0, 1) := by decide +kernel
theorem dX6_readOrder_64 : decode cX6_readOrder 64 = .ok (.iload_n 1, 1) := by decide +kernel
theorem dX6_readOrder_65 : decode cX6_readOrder 65 = .ok (.invokevirtual 137, 3) := by decide +kernel
theorem dX6_readOrder_68 : decode cX6_readOrder 68 = .ok (.goto 5, 3) := by decide +kernel
theorem dX6_readOrder_71 : decode cX6_readOrder 71 = .ok (.bipush (-100), 2) := by decide +kernel
theorem dX6_readOrder_73 : decode cX6_readOrder 73 = .ok (.ireturn, 1) := by decide +kernel
theorem dX6_readOrder_74 : decode cX6_readOrder 74 = .ok (.aload_n 0, 1) := by decide +kernel
theorem dX6_readOrder_75 : decode cX6_readOrder 75 = .ok (.bipush 115, 2) := by decide +kernel
theorem dX6_readOrder_77 : decode cX6_readOrder 77 = .ok (.bipush 115, 2) := by decide +kernel
theorem dX6_readOrder_79 : decode cX6_readOrder 79 = .ok (.invokevirtual 134, 3) := by decide +kernel
theorem dX6_readOrder_82 : decode cX6_readOrder 82 = .ok (.ifCond .ne 6, 3) := by decide +kernel
theorem dX6_readOrder_85 : decode cX6_readOrder 85 = .ok (.bipush (-100), 2) := by decide +kernel
theorem dX6_readOrder_87 : decode cX6_readOrder 87 = .ok (.ireturn, 1) := by decide +kernel
theorem dX6_readOrder_88 : decode cX6_readOrder 88 = .ok (.aload_n 0, 1) := by decide +kernel
theorem dX6_readOrder_89 : decode cX6_readOrder 89 = .ok (.dup, 1) := by decide +kernel
theorem dX6_readOrder_90 : decode cX6_readOrder 90 = .ok (.getfield 131, 3) := by decide +kernel
theorem dX6_readOrder_93 : decode cX6_readOrder 93 = .ok (.iconst 1, 1) := by decide +kernel
theorem dX6_readOrder_94 : decode cX6_readOrder 94 = .ok (.iadd, 1) := by decide +kernel
theorem dX6_readOrder_95 : decode cX6_readOrder 95 = .ok (.putfield 131, 3) := by decide +kernel
theorem dX6_readOrder_98 : decode cX6_readOrder 98 = .ok (.aload_n 0, 1) := by decide +kernel
theorem dX6_readOrder_99 : decode cX6_readOrder 99 = .ok (.bipush 48, 2) := by decide +kernel
theorem dX6_readOrder_101 : decode cX6_readOrder 101 = .ok (.bipush 57, 2) := by decide +kernel
theorem dX6_readOrder_103 : decode cX6_readOrder 103 = .ok (.invokevirtual 134, 3) := by decide +kernel
theorem dX6_readOrder_106 : decode cX6_readOrder 106 = .ok (.ifCond .ne 6, 3) := by decide +kernel
theorem dX6_readOrder_109 : decode cX6_readOrder 109 = .ok (.bipush (-100), 2) := by decide +kernel
theorem dX6_readOrder_111 : decode cX6_readOrder 111 = .ok (.ireturn, 1) := by decide +kernel
theorem dX6_readOrder_112 : decode cX6_readOrder 112 = .ok (.aload_n 0, 1) := by decide +kernel
theorem dX6_readOrder_113 : decode cX6_readOrder 113 = .ok (.invokevirtual 141, 3) := by decide +kernel
theorem dX6_readOrder_116 : decode cX6_readOrder 116 = .ok (.istore_n 2, 1) := by decide +kernel
theorem dX6_readOrder_117 : decode cX6_readOrder 117 = .ok (.aload_n 0, 1) := by decide +kernel
theorem dX6_readOrder_118 : decode cX6_readOrder 118 = .ok (.bipush 61, 2) := by decide +kernel
theorem dX6_readOrder_120 : decode cX6_readOrder 120 = .ok (.bipush 61, 2) := by decide +kernel
theorem dX6_readOrder_122 : decode cX6_readOrder 122 = .ok (.invokevirtual 134, 3) := by decide +kernel
theorem dX6_readOrder_125 : decode cX6_readOrder 125 = .ok (.ifCond .ne 6, 3) := by decide +kernel
theorem dX6_readOrder_128 : decode cX6_readOrder 128 = .ok (.bipush (-100), 2) := by decide +kernel
theorem dX6_readOrder_130 : decode cX6_readOrder 130 = .ok (.ireturn, 1) := by decide +kernel
theorem dX6_readOrder_131 : decode cX6_readOrder 131 = .ok (.aload_n 0, 1) := by decide +kernel
theorem dX6_readOrder_132 : decode cX6_readOrder 132 = .ok (.dup, 1) := by decide +kernel
theorem dX6_readOrder_133 : decode cX6_readOrder 133 = .ok (.getfield 131, 3) := by decide +kernel
theorem dX6_readOrder_136 : decode cX6_readOrder 136 = .ok (.iconst 1, 1) := by decide +kernel
theorem dX6_readOrder_137 : decode cX6_readOrder 137 = .ok (.iadd, 1) := by decide +kernel
theorem dX6_readOrder_138 : decode cX6_readOrder 138 = .ok (.putfield 131, 3) := by decide +kernel
theorem dX6_readOrder_141 : decode cX6_readOrder 141 = .ok (.aload_n 0, 1) := by decide +kernel
theorem dX6_readOrder_142 : decode cX6_readOrder 142 = .ok (.bipush 45, 2) := by decide +kernel
theorem dX6_readOrder_144 : decode cX6_readOrder 144 = .ok (.bipush 45, 2) := by decide +kernel
theorem dX6_readOrder_146 : decode cX6_readOrder 146 = .ok (.invokevirtual 134, 3) := by decide +kernel
theorem dX6_readOrder_149 : decode cX6_readOrder 149 = .ok (.istore_n 3, 1) := by decide +kernel
theorem dX6_readOrder_150 : decode cX6_readOrder 150 = .ok (.aload_n 0, 1) := by decide +kernel
theorem dX6_readOrder_151 : decode cX6_readOrder 151 = .ok (.dup, 1) := by decide +kernel
theorem dX6_readOrder_152 : decode cX6_readOrder 152 = .ok (.getfield 131, 3) := by decide +kernel
theorem dX6_readOrder_155 : decode cX6_readOrder 155 = .ok (.iload_n 3, 1) := by decide +kernel
theorem dX6_readOrder_156 : decode cX6_readOrder 156 = .ok (.ifCond .eq 7, 3) := by decide +kernel
theorem dX6_readOrder_159 : decode cX6_readOrder 159 = .ok (.iconst 1, 1) := by decide +kernel
theorem dX6_readOrder_160 : decode cX6_readOrder 160 = .ok (.goto 4, 3) := by decide +kernel
theorem dX6_readOrder_163 : decode cX6_readOrder 163 = .ok (.iconst 0, 1) := by decide +kernel
theorem dX6_readOrder_164 : decode cX6_readOrder 164 = .ok (.iadd, 1) := by decide +kernel
theorem dX6_readOrder_165 : decode cX6_readOrder 165 = .ok (.putfield 131, 3) := by decide +kernel
theorem dX6_readOrder_168 : decode cX6_readOrder 168 = .ok (.aload_n 0, 1) := by decide +kernel
theorem dX6_readOrder_169 : decode cX6_readOrder 169 = .ok (.iload_n 3, 1) := by decide +kernel
theorem dX6_readOrder_170 : decode cX6_readOrder 170 = .ok (.ifCond .eq 8, 3) := by decide +kernel
theorem dX6_readOrder_173 : decode cX6_readOrder 173 = .ok (.bipush 49, 2) := by decide +kernel
theorem dX6_readOrder_175 : decode cX6_readOrder 175 = .ok (.goto 5, 3) := by decide +kernel
theorem dX6_readOrder_178 : decode cX6_readOrder 178 = .ok (.bipush 48, 2) := by decide +kernel
theorem dX6_readOrder_180 : decode cX6_readOrder 180 = .ok (.bipush 57, 2) := by decide +kernel
theorem dX6_readOrder_182 : decode cX6_readOrder 182 = .ok (.invokevirtual 134, 3) := by decide +kernel
theorem dX6_readOrder_185 : decode cX6_readOrder 185 = .ok (.ifCond .ne 6, 3) := by decide +kernel
theorem dX6_readOrder_188 : decode cX6_readOrder 188 = .ok (.bipush (-100), 2) := by decide +kernel
theorem dX6_readOrder_190 : decode cX6_readOrder 190 = .ok (.ireturn, 1) := by decide +kernel
theorem dX6_readOrder_191 : decode cX6_readOrder 191 = .ok (.aload_n 0, 1) := by decide +kernel
theorem dX6_readOrder_192 : decode cX6_readOrder 192 = .ok (.invokevirtual 141, 3) := by decide +kernel
theorem dX6_readOrder_195 : decode cX6_readOrder 195 = .ok (.istore 4, 2) := by decide +kernel
theorem dX6_readOrder_197 : decode cX6_readOrder 197 = .ok (.iload_n 1, 1) := by decide +kernel
theorem dX6_readOrder_198 : decode cX6_readOrder 198 = .ok (.ifCond .eq 13, 3) := by decide +kernel
theorem dX6_readOrder_201 : decode cX6_readOrder 201 = .ok (.aload_n 0, 1) := by decide +kernel
theorem dX6_readOrder_202 : decode cX6_readOrder 202 = .ok (.iload_n 2, 1) := by decide +kernel
theorem dX6_readOrder_203 : decode cX6_readOrder 203 = .ok (.invokevirtual 83, 3) := by decide +kernel
theorem dX6_readOrder_206 : decode cX6_readOrder 206 = .ok (.ifCond .eq 5, 3) := by decide +kernel
theorem dX6_readOrder_209 : decode cX6_readOrder 209 = .ok (.iconst (-1), 1) := by decide +kernel
theorem dX6_readOrder_210 : decode cX6_readOrder 210 = .ok (.ireturn, 1) := by decide +kernel
theorem dX6_readOrder_211 : decode cX6_readOrder 211 = .ok (.iload_n 1, 1) := by decide +kernel
theorem dX6_readOrder_212 : decode cX6_readOrder 212 = .ok (.ifCond .eq 24, 3) := by decide +kernel
theorem dX6_readOrder_215 : decode cX6_readOrder 215 = .ok (.aload_n 0, 1) := by decide +kernel
theorem dX6_readOrder_216 : decode cX6_readOrder 216 = .ok (.getfield 7, 3) := by decide +kernel
theorem dX6_readOrder_219 : decode cX6_readOrder 219 = .ok (.bipush 21, 2) := by decide +kernel
theorem dX6_readOrder_221 : decode cX6_readOrder 221 = .ok (.iload_n 2, 1) := by decide +kernel
theorem dX6_readOrder_222 : decode cX6_readOrder 222 = .ok (.iadd, 1) := by decide +kernel
theorem dX6_readOrder_223 : decode cX6_readOrder 223 = .ok (.iload_n 3, 1) := by decide +kernel
theorem dX6_readOrder_224 : decode cX6_readOrder 224 = .ok (.ifCond .eq 9, 3) := by decide +kernel
theorem dX6_readOrder_227 : decode cX6_readOrder 227 = .ok (.iload 4, 2) := by decide +kernel
theorem dX6_readOrder_229 : decode cX6_readOrder 229 = .ok (.ineg, 1) := by decide +kernel
theorem dX6_readOrder_230 : decode cX6_readOrder 230 = .ok (.goto 5, 3) := by decide +kernel
theorem dX6_readOrder_233 : decode cX6_readOrder 233 = .ok (.iload 4, 2) := by decide +kernel
theorem dX6_readOrder_235 : decode cX6_readOrder 235 = .ok (.iastore, 1) := by decide +kernel
theorem dX6_readOrder_236 : decode cX6_readOrder 236 = .ok (.iconst 0, 1) := by decide +kernel
theorem dX6_readOrder_237 : decode cX6_readOrder 237 = .ok (.ireturn, 1) := by decide +kernel
set_option maxRecDepth 20000 in
theorem ggX6_passing_X6_take : GoodIn wsX6_passing wsX6_take := goodIn_r _ [6, 7, 8, 74, 75, 76, 77, 78, 79, 80, 81, 82, 83, 84, 85, 86, 87, 88, 89] (by decide +kernel) (by decide +kernel)
set_option maxRecDepth 20000 in
theorem gX6_passing_X6_take : GoodIn wsX6_passing (wsV RX6 141 RX6 yX6_take wsX6_take) := goodIn_app (goodIn_of _ (by decide +kernel)) ggX6_passing_X6_take
set_option maxRecDepth 20000 in
theorem ggX6_passing_X6_sees : GoodIn wsX6_passing wsX6_sees := goodIn_r _ [12, 7, 13, 8, 14, 15, 5, 16, 74, 75, 76, 77, 78, 79, 80, 81, 82, 83, 84, 85, 86, 87, 88, 89] (by decide +kernel) (by decide +kernel)
set_option maxRecDepth 20000 in
theorem gX6_passing_X6_sees : GoodIn wsX6_passing (wsV RX6 134 RX6 yX6_sees wsX6_sees) := goodIn_app (goodIn_of _ (by decide +kernel)) ggX6_passing_X6_sees
set_option maxRecDepth 20000 in
theorem ggX6_passing_X6_passTicks : GoodIn wsX6_passing wsX6_passTicks := goodIn_r _ [20, 1, 21, 22, 23, 24, 25, 26, 27, 5, 28, 29, 30, 31, 32, 33, 34, 35, 36, 37, 38, 39, 40, 41, 42, 43, 44, 45, 46, 47, 48, 49, 50, 51, 52, 53, 54, 55, 56, 57, 58, 59, 60, 61, 62, 63, 64, 65, 66, 67, 68, 69, 70, 71, 72, 73, 74, 75, 76, 77, 78, 79, 80, 81, 82, 83, 84, 85, 86, 87, 88, 89] (by decide +kernel) (by decide +kernel)
set_option maxRecDepth 20000 in
theorem gX6_passing_X6_passTicks : GoodIn wsX6_passing (wsV RX6 125 RX6 yX6_passTicks wsX6_passTicks) := goodIn_app (goodIn_of _ (by decide +kernel)) ggX6_passing_X6_passTicks
theorem dX6_passing_0 : decode cX6_passing 0 = .ok (.aload_n 0, 1) := by decide +kernel
theorem dX6_passing_1 : decode cX6_passing 1 = .ok (.invokevirtual 141, 3) := by decide +kernel
theorem dX6_passing_4 : decode cX6_passing 4 = .ok (.istore_n 2, 1) := by decide +kernel
theorem dX6_passing_5 : decode cX6_passing 5 = .ok (.aload_n 0, 1) := by decide +kernel
theorem dX6_passing_6 : decode cX6_passing 6 = .ok (.bipush 48, 2) := by decide +kernel
theorem dX6_passing_8 : decode cX6_passing 8 = .ok (.bipush 57, 2) := by decide +kernel
theorem dX6_passing_10 : decode cX6_passing 10 = .ok (.invokevirtual 134, 3) := by decide +kernel
theorem dX6_passing_13 : decode cX6_passing 13 = .ok (.ifCond .eq 13, 3) := by decide +kernel
theorem dX6_passing_16 : decode cX6_passing 16 = .ok (.bipush 10, 2) := by decide +kernel
theorem dX6_passing_18 : decode cX6_passing 18 = .ok (.iload_n 2, 1) := by decide +kernel
theorem dX6_passing_19 : decode cX6_passing 19 = .ok (.imul, 1) := by decide +kernel
theorem dX6_passing_20 : decode cX6_passing 20 = .ok (.aload_n 0, 1) := by decide +kernel
theorem dX6_passing_21 : decode cX6_passing 21 = .ok (.invokevirtual 141, 3) := by decide +kernel
theorem dX6_passing_24 : decode cX6_passing 24 = .ok (.iadd, 1) := by decide +kernel
theorem dX6_passing_25 : decode cX6_passing 25 = .ok (.istore_n 2, 1) := by decide +kernel
theorem dX6_passing_26 : decode cX6_passing 26 = .ok (.iload_n 1, 1) := by decide +kernel
theorem dX6_passing_27 : decode cX6_passing 27 = .ok (.ifCond .eq 20, 3) := by decide +kernel
theorem dX6_passing_30 : decode cX6_passing 30 = .ok (.aload_n 0, 1) := by decide +kernel
theorem dX6_passing_31 : decode cX6_passing 31 = .ok (.getfield 7, 3) := by decide +kernel
theorem dX6_passing_34 : decode cX6_passing 34 = .ok (.iconst 2, 1) := by decide +kernel
theorem dX6_passing_35 : decode cX6_passing 35 = .ok (.iaload, 1) := by decide +kernel
theorem dX6_passing_36 : decode cX6_passing 36 = .ok (.iload_n 2, 1) := by decide +kernel
theorem dX6_passing_37 : decode cX6_passing 37 = .ok (.iadd, 1) := by decide +kernel
theorem dX6_passing_38 : decode cX6_passing 38 = .ok (.sipush 10000, 3) := by decide +kernel
theorem dX6_passing_41 : decode cX6_passing 41 = .ok (.if_icmp .le 6, 3) := by decide +kernel
theorem dX6_passing_44 : decode cX6_passing 44 = .ok (.bipush (-4), 2) := by decide +kernel
theorem dX6_passing_46 : decode cX6_passing 46 = .ok (.ireturn, 1) := by decide +kernel
theorem dX6_passing_47 : decode cX6_passing 47 = .ok (.iload_n 1, 1) := by decide +kernel
theorem dX6_passing_48 : decode cX6_passing 48 = .ok (.ifCond .eq 11, 3) := by decide +kernel
theorem dX6_passing_51 : decode cX6_passing 51 = .ok (.aload_n 0, 1) := by decide +kernel
theorem dX6_passing_52 : decode cX6_passing 52 = .ok (.iload_n 2, 1) := by decide +kernel
theorem dX6_passing_53 : decode cX6_passing 53 = .ok (.invokevirtual 125, 3) := by decide +kernel
theorem dX6_passing_56 : decode cX6_passing 56 = .ok (.goto 4, 3) := by decide +kernel
theorem dX6_passing_59 : decode cX6_passing 59 = .ok (.iconst 0, 1) := by decide +kernel
theorem dX6_passing_60 : decode cX6_passing 60 = .ok (.ireturn, 1) := by decide +kernel
set_option maxRecDepth 20000 in
theorem ggX6_orders_X6_readOrder : GoodIn wsX6_orders wsX6_readOrder := goodIn_r _ [7, 1, 8, 9, 10, 11, 6, 12, 2, 13, 14, 15, 16, 17, 18, 19, 20, 21, 22, 23, 24, 25, 26, 27, 28, 29, 30, 31, 32, 33, 34, 35, 36, 37, 38, 39, 40, 41, 42, 43, 44, 45, 46, 47, 48, 49, 50, 51, 52, 53, 54, 55, 56, 57, 58, 59, 60, 61, 62, 63, 64, 65, 66, 67, 68, 69, 70, 71, 72, 73, 74, 75, 76, 77, 78, 79, 80, 81, 82, 83, 84, 85, 86, 87, 88, 89, 90, 91, 92, 93, 94, 95, 96, 97, 98, 99, 100, 101, 102, 103, 104, 105] (by decide +kernel) (by decide +kernel)
set_option maxRecDepth 20000 in
theorem gX6_orders_X6_readOrder : GoodIn wsX6_orders (wsV RX6 144 RX6 yX6_readOrder wsX6_readOrder) := goodIn_app (goodIn_of _ (by decide +kernel)) ggX6_orders_X6_readOrder
set_option maxRecDepth 20000 in
theorem ggX6_orders_X6_sees : GoodIn wsX6_orders wsX6_sees := goodIn_r _ [12, 1, 2, 13, 14, 15, 6, 16, 90, 91, 92, 93, 94, 95, 96, 97, 98, 99, 100, 101, 102, 103, 104, 105] (by decide +kernel) (by decide +kernel)
set_option maxRecDepth 20000 in
theorem gX6_orders_X6_sees : GoodIn wsX6_orders (wsV RX6 134 RX6 yX6_sees wsX6_sees) := goodIn_app (goodIn_of _ (by decide +kernel)) ggX6_orders_X6_sees
theorem dX6_orders_0 : decode cX6_orders 0 = .ok (.aload_n 0, 1) := by decide +kernel
theorem dX6_orders_1 : decode cX6_orders 1 = .ok (.iconst 0, 1) := by decide +kernel
theorem dX6_orders_2 : decode cX6_orders 2 = .ok (.putfield 131, 3) := by decide +kernel
theorem dX6_orders_5 : decode cX6_orders 5 = .ok (.iconst 0, 1) := by decide +kernel
theorem dX6_orders_6 : decode cX6_orders 6 = .ok (.istore_n 2, 1) := by decide +kernel
theorem dX6_orders_7 : decode cX6_orders 7 = .ok (.iconst 1, 1) := by decide +kernel
theorem dX6_orders_8 : decode cX6_orders 8 = .ok (.istore_n 3, 1) := by decide +kernel
theorem dX6_orders_9 : decode cX6_orders 9 = .ok (.iload_n 3, 1) := by decide +kernel
theorem dX6_orders_10 : decode cX6_orders 10 = .ok (.ifCond .eq 53, 3) := by decide +kernel
theorem dX6_orders_13 : decode cX6_orders 13 = .ok (.aload_n 0, 1) := by decide +kernel
theorem dX6_orders_14 : decode cX6_orders 14 = .ok (.iload_n 1, 1) := by decide +kernel
theorem dX6_orders_15 : decode cX6_orders 15 = .ok (.invokevirtual 144, 3) := by decide +kernel
theorem dX6_orders_18 : decode cX6_orders 18 = .ok (.istore 4, 2) := by decide +kernel
theorem dX6_orders_20 : decode cX6_orders 20 = .ok (.iload 4, 2) := by decide +kernel
theorem dX6_orders_22 : decode cX6_orders 22 = .ok (.ifCond .ge 6, 3) := by decide +kernel
theorem dX6_orders_25 : decode cX6_orders 25 = .ok (.iload 4, 2) := by decide +kernel
theorem dX6_orders_27 : decode cX6_orders 27 = .ok (.ireturn, 1) := by decide +kernel
theorem dX6_orders_28 : decode cX6_orders 28 = .ok (.iload_n 2, 1) := by decide +kernel
theorem dX6_orders_29 : decode cX6_orders 29 = .ok (.iload 4, 2) := by decide +kernel
theorem dX6_orders_31 : decode cX6_orders 31 = .ok (.iadd, 1) := by decide +kernel
theorem dX6_orders_32 : decode cX6_orders 32 = .ok (.istore_n 2, 1) := by decide +kernel
theorem dX6_orders_33 : decode cX6_orders 33 = .ok (.aload_n 0, 1) := by decide +kernel
theorem dX6_orders_34 : decode cX6_orders 34 = .ok (.bipush 59, 2) := by decide +kernel
theorem dX6_orders_36 : decode cX6_orders 36 = .ok (.bipush 59, 2) := by decide +kernel
theorem dX6_orders_38 : decode cX6_orders 38 = .ok (.invokevirtual 134, 3) := by decide +kernel
theorem dX6_orders_41 : decode cX6_orders 41 = .ok (.istore_n 3, 1) := by decide +kernel
theorem dX6_orders_42 : decode cX6_orders 42 = .ok (.aload_n 0, 1) := by decide +kernel
theorem dX6_orders_43 : decode cX6_orders 43 = .ok (.dup, 1) := by decide +kernel
theorem dX6_orders_44 : decode cX6_orders 44 = .ok (.getfield 131, 3) := by decide +kernel
theorem dX6_orders_47 : decode cX6_orders 47 = .ok (.iload_n 3, 1) := by decide +kernel
theorem dX6_orders_48 : decode cX6_orders 48 = .ok (.ifCond .eq 7, 3) := by decide +kernel
theorem dX6_orders_51 : decode cX6_orders 51 = .ok (.iconst 1, 1) := by decide +kernel
theorem dX6_orders_52 : decode cX6_orders 52 = .ok (.goto 4, 3) := by decide +kernel
theorem dX6_orders_55 : decode cX6_orders 55 = .ok (.iconst 0, 1) := by decide +kernel
theorem dX6_orders_56 : decode cX6_orders 56 = .ok (.iadd, 1) := by decide +kernel
theorem dX6_orders_57 : decode cX6_orders 57 = .ok (.putfield 131, 3) := by decide +kernel
theorem dX6_orders_60 : decode cX6_orders 60 = .ok (.goto (-51), 3) := by decide +kernel
theorem dX6_orders_63 : decode cX6_orders 63 = .ok (.aload_n 0, 1) := by decide +kernel
theorem dX6_orders_64 : decode cX6_orders 64 = .ok (.getfield 131, 3) := by decide +kernel
theorem dX6_orders_67 : decode cX6_orders 67 = .ok (.aload_n 0, 1) := by decide +kernel
theorem dX6_orders_68 : decode cX6_orders 68 = .ok (.getfield 128, 3) := by decide +kernel
theorem dX6_orders_71 : decode cX6_orders 71 = .ok (.if_icmp .ge 8, 3) := by decide +kernel
theorem dX6_orders_74 : decode cX6_orders 74 = .ok (.bipush (-100), 2) := by decide +kernel
theorem dX6_orders_76 : decode cX6_orders 76 = .ok (.goto 4, 3) := by decide +kernel
theorem dX6_orders_79 : decode cX6_orders 79 = .ok (.iload_n 2, 1) := by decide +kernel
theorem dX6_orders_80 : decode cX6_orders 80 = .ok (.ireturn, 1) := by decide +kernel
set_option maxRecDepth 20000 in
theorem ggX6_perform_X6_orders : GoodIn wsX6_perform wsX6_orders := goodIn_r _ [6, 1, 7, 8, 9, 10, 5, 11, 12, 13, 14, 15, 16, 17, 18, 19, 20, 21, 22, 23, 24, 25, 26, 27, 28, 29, 30, 31, 32, 33, 34, 35, 36, 37, 38, 39, 40, 41, 42, 43, 44, 45, 46, 47, 48, 49, 50, 51, 52, 53, 54, 55, 56, 57, 58, 59, 60, 61, 62, 63, 64, 65, 66, 67, 68, 69, 70, 71, 72, 73, 74, 75, 76, 77, 78, 79, 80, 81, 82, 83, 84, 85, 86, 87, 88, 89, 90, 91, 92, 93, 109, 110, 111, 112, 113, 114, 115, 116, 117, 118, 119, 120, 121, 122, 123, 124] (by decide +kernel) (by decide +kernel)
set_option maxRecDepth 20000 in
theorem gX6_perform_X6_orders : GoodIn wsX6_perform (wsV RX6 147 RX6 yX6_orders wsX6_orders) := goodIn_app (goodIn_of _ (by decide +kernel)) ggX6_perform_X6_orders
set_option maxRecDepth 20000 in
theorem ggX6_perform_X6_remember : GoodIn wsX6_perform wsX6_remember := goodIn_r _ [97, 98, 12, 109, 110, 111, 112, 113, 114, 115, 116, 117, 118, 119, 120, 121, 122, 123, 124] (by decide +kernel) (by decide +kernel)
set_option maxRecDepth 20000 in
theorem gX6_perform_X6_remember : GoodIn wsX6_perform (wsV RX6 51 RX6 yX6_remember wsX6_remember) := goodIn_app (goodIn_of _ (by decide +kernel)) ggX6_perform_X6_remember
set_option maxRecDepth 20000 in
theorem ggX6_perform_X6_goBack : GoodIn wsX6_perform wsX6_goBack := goodIn_r _ [102, 12, 98, 109, 110, 111, 112, 113, 114, 115, 116, 117, 118, 119, 120, 121, 122, 123, 124] (by decide +kernel) (by decide +kernel)
set_option maxRecDepth 20000 in
theorem gX6_perform_X6_goBack : GoodIn wsX6_perform (wsV RX6 150 RX6 yX6_goBack wsX6_goBack) := goodIn_app (goodIn_of _ (by decide +kernel)) ggX6_perform_X6_goBack
set_option maxRecDepth 20000 in
theorem ggX6_perform_X6_record : GoodIn wsX6_perform wsX6_record := goodIn_r _ [106, 107, 108, 98, 109, 110, 111, 112, 113, 114, 115, 116, 117, 118, 119, 120, 121, 122, 123, 124] (by decide +kernel) (by decide +kernel)
set_option maxRecDepth 20000 in
theorem gX6_perform_X6_record : GoodIn wsX6_perform (wsV RX6 54 RX6 yX6_record wsX6_record) := goodIn_app (goodIn_of _ (by decide +kernel)) ggX6_perform_X6_record
theorem dX6_perform_0 : decode cX6_perform 0 = .ok (.aload_n 0, 1) := by decide +kernel
theorem dX6_perform_1 : decode cX6_perform 1 = .ok (.iconst 0, 1) := by decide +kernel
theorem dX6_perform_2 : decode cX6_perform 2 = .ok (.invokevirtual 147, 3) := by decide +kernel
theorem dX6_perform_5 : decode cX6_perform 5 = .ok (.ifCond .ge 11, 3) := by decide +kernel
theorem dX6_perform_8 : decode cX6_perform 8 = .ok (.bipush (-100), 2) := by decide +kernel
theorem dX6_perform_10 : decode cX6_perform 10 = .ok (.aload_n 0, 1) := by decide +kernel
theorem dX6_perform_11 : decode cX6_perform 11 = .ok (.getfield 131, 3) := by decide +kernel
theorem dX6_perform_14 : decode cX6_perform 14 = .ok (.isub, 1) := by decide +kernel
theorem dX6_perform_15 : decode cX6_perform 15 = .ok (.ireturn, 1) := by decide +kernel
theorem dX6_perform_16 : decode cX6_perform 16 = .ok (.aload_n 0, 1) := by decide +kernel
theorem dX6_perform_17 : decode cX6_perform 17 = .ok (.invokevirtual 51, 3) := by decide +kernel
theorem dX6_perform_20 : decode cX6_perform 20 = .ok (.aload_n 0, 1) := by decide +kernel
theorem dX6_perform_21 : decode cX6_perform 21 = .ok (.iconst 1, 1) := by decide +kernel
theorem dX6_perform_22 : decode cX6_perform 22 = .ok (.invokevirtual 147, 3) := by decide +kernel
theorem dX6_perform_25 : decode cX6_perform 25 = .ok (.istore_n 1, 1) := by decide +kernel
theorem dX6_perform_26 : decode cX6_perform 26 = .ok (.iload_n 1, 1) := by decide +kernel
theorem dX6_perform_27 : decode cX6_perform 27 = .ok (.ifCond .ge 9, 3) := by decide +kernel
theorem dX6_perform_30 : decode cX6_perform 30 = .ok (.aload_n 0, 1) := by decide +kernel
theorem dX6_perform_31 : decode cX6_perform 31 = .ok (.invokevirtual 150, 3) := by decide +kernel
theorem dX6_perform_34 : decode cX6_perform 34 = .ok (.iload_n 1, 1) := by decide +kernel
theorem dX6_perform_35 : decode cX6_perform 35 = .ok (.ireturn, 1) := by decide +kernel
theorem dX6_perform_36 : decode cX6_perform 36 = .ok (.aload_n 0, 1) := by decide +kernel
theorem dX6_perform_37 : decode cX6_perform 37 = .ok (.invokevirtual 54, 3) := by decide +kernel
theorem dX6_perform_40 : decode cX6_perform 40 = .ok (.iload_n 1, 1) := by decide +kernel
theorem dX6_perform_41 : decode cX6_perform 41 = .ok (.ireturn, 1) := by decide +kernel
set_option maxRecDepth 20000 in
theorem ggX6_rank_X6_layPoints : GoodIn wsX6_rank wsX6_layPoints := goodIn_r _ [6, 7, 1, 8, 9, 10, 11, 12, 13, 14, 15, 16, 17, 18, 19, 20, 21, 22, 23, 24] (by decide +kernel) (by decide +kernel)
set_option maxRecDepth 20000 in
theorem gX6_rank_X6_layPoints : GoodIn wsX6_rank (wsV RX6 93 RX6 yX6_layPoints wsX6_layPoints) := goodIn_app (goodIn_of _ (by decide +kernel)) ggX6_rank_X6_layPoints
theorem dX6_rank_0 : decode cX6_rank 0 = .ok (.aload_n 0, 1) := by decide +kernel
theorem dX6_rank_1 : decode cX6_rank 1 = .ok (.invokevirtual 93, 3) := by decide +kernel
theorem dX6_rank_4 : decode cX6_rank 4 = .ok (.iconst 0, 1) := by decide +kernel
theorem dX6_rank_5 : decode cX6_rank 5 = .ok (.istore_n 2, 1) := by decide +kernel
theorem dX6_rank_6 : decode cX6_rank 6 = .ok (.aload_n 0, 1) := by decide +kernel
theorem dX6_rank_7 : decode cX6_rank 7 = .ok (.getfield 26, 3) := by decide +kernel
theorem dX6_rank_10 : decode cX6_rank 10 = .ok (.iload_n 2, 1) := by decide +kernel
theorem dX6_rank_11 : decode cX6_rank 11 = .ok (.iaload, 1) := by decide +kernel
theorem dX6_rank_12 : decode cX6_rank 12 = .ok (.iload_n 1, 1) := by decide +kernel
theorem dX6_rank_13 : decode cX6_rank 13 = .ok (.if_icmp .eq 9, 3) := by decide +kernel
theorem dX6_rank_16 : decode cX6_rank 16 = .ok (.iinc 2 1, 3) := by decide +kernel
theorem dX6_rank_19 : decode cX6_rank 19 = .ok (.goto (-13), 3) := by decide +kernel
theorem dX6_rank_22 : decode cX6_rank 22 = .ok (.iload_n 2, 1) := by decide +kernel
theorem dX6_rank_23 : decode cX6_rank 23 = .ok (.ireturn, 1) := by decide +kernel
set_option maxRecDepth 20000 in
theorem ggX6_leftmost_X6_gapOf : GoodIn wsX6_leftmost wsX6_gapOf := goodIn_r _ [6, 1, 7, 8, 9, 10, 5, 11, 12, 13, 14, 15, 16, 17, 18, 19, 20, 21, 22, 23, 24, 25, 26, 27, 28, 29, 30, 31, 32, 33, 34] (by decide +kernel) (by decide +kernel)
set_option maxRecDepth 20000 in
theorem gX6_leftmost_X6_gapOf : GoodIn wsX6_leftmost (wsV RX6 104 RX6 yX6_gapOf wsX6_gapOf) := goodIn_app (goodIn_of _ (by decide +kernel)) ggX6_leftmost_X6_gapOf
theorem dX6_leftmost_0 : decode cX6_leftmost 0 = .ok (.aload_n 0, 1) := by decide +kernel
theorem dX6_leftmost_1 : decode cX6_leftmost 1 = .ok (.getfield 7, 3) := by decide +kernel
theorem dX6_leftmost_4 : decode cX6_leftmost 4 = .ok (.iconst 1, 1) := by decide +kernel
theorem dX6_leftmost_5 : decode cX6_leftmost 5 = .ok (.iaload, 1) := by decide +kernel
theorem dX6_leftmost_6 : decode cX6_leftmost 6 = .ok (.istore_n 2, 1) := by decide +kernel
theorem dX6_leftmost_7 : decode cX6_leftmost 7 = .ok (.iload_n 1, 1) := by decide +kernel
theorem dX6_leftmost_8 : decode cX6_leftmost 8 = .ok (.istore_n 3, 1) := by decide +kernel
theorem dX6_leftmost_9 : decode cX6_leftmost 9 = .ok (.iload_n 2, 1) := by decide +kernel
theorem dX6_leftmost_10 : decode cX6_leftmost 10 = .ok (.iconst 1, 1) := by decide +kernel
theorem dX6_leftmost_11 : decode cX6_leftmost 11 = .ok (.if_icmp .le 28, 3) := by decide +kernel
theorem dX6_leftmost_14 : decode cX6_leftmost 14 = .ok (.aload_n 0, 1) := by decide +kernel
theorem dX6_leftmost_15 : decode cX6_leftmost 15 = .ok (.iload_n 3, 1) := by decide +kernel
theorem dX6_leftmost_16 : decode cX6_leftmost 16 = .ok (.iload_n 2, 1) := by decide +kernel
theorem dX6_leftmost_17 : decode cX6_leftmost 17 = .ok (.iadd, 1) := by decide +kernel
theorem dX6_leftmost_18 : decode cX6_leftmost 18 = .ok (.iconst 1, 1) := by decide +kernel
theorem dX6_leftmost_19 : decode cX6_leftmost 19 = .ok (.isub, 1) := by decide +kernel
theorem dX6_leftmost_20 : decode cX6_leftmost 20 = .ok (.iload_n 2, 1) := by decide +kernel
theorem dX6_leftmost_21 : decode cX6_leftmost 21 = .ok (.irem, 1) := by decide +kernel
theorem dX6_leftmost_22 : decode cX6_leftmost 22 = .ok (.invokevirtual 104, 3) := by decide +kernel
theorem dX6_leftmost_25 : decode cX6_leftmost 25 = .ok (.ifCond .ne 14, 3) := by decide +kernel
theorem dX6_leftmost_28 : decode cX6_leftmost 28 = .ok (.iload_n 3, 1) := by decide +kernel
theorem dX6_leftmost_29 : decode cX6_leftmost 29 = .ok (.iload_n 2, 1) := by decide +kernel
theorem dX6_leftmost_30 : decode cX6_leftmost 30 = .ok (.iadd, 1) := by decide +kernel
theorem dX6_leftmost_31 : decode cX6_leftmost 31 = .ok (.iconst 1, 1) := by decide +kernel
theorem dX6_leftmost_32 : decode cX6_leftmost 32 = .ok (.isub, 1) := by decide +kernel
theorem dX6_leftmost_33 : decode cX6_leftmost 33 = .ok (.iload_n 2, 1) := by decide +kernel
theorem dX6_leftmost_34 : decode cX6_leftmost 34 = .ok (.irem, 1) := by decide +kernel
theorem dX6_leftmost_35 : decode cX6_leftmost 35 = .ok (.istore_n 3, 1) := by decide +kernel
theorem dX6_leftmost_36 : decode cX6_leftmost 36 = .ok (.goto (-27), 3) := by decide +kernel
theorem dX6_leftmost_39 : decode cX6_leftmost 39 = .ok (.iload_n 3, 1) := by decide +kernel
theorem dX6_leftmost_40 : decode cX6_leftmost 40 = .ok (.ireturn, 1) := by decide +kernel
set_option maxRecDepth 20000 in
theorem ggX6_clusterOf_X6_leftmost : GoodIn wsX6_clusterOf wsX6_leftmost := goodIn_r _ [6, 1, 7, 8, 9, 5, 10, 11, 12, 13, 14, 15, 16, 17, 18, 19, 20, 21, 22, 23, 24, 25, 26, 27, 28, 29, 30, 31, 32, 33, 34, 35, 36, 37, 38] (by decide +kernel) (by decide +kernel)
set_option maxRecDepth 20000 in
theorem gX6_clusterOf_X6_leftmost : GoodIn wsX6_clusterOf (wsV RX6 153 RX6 yX6_leftmost wsX6_leftmost) := goodIn_app (goodIn_of _ (by decide +kernel)) ggX6_clusterOf_X6_leftmost
set_option maxRecDepth 20000 in
theorem ggX6_clusterOf_X6_gapOf : GoodIn wsX6_clusterOf wsX6_gapOf := goodIn_r _ [10, 1, 11, 12, 13, 14, 5, 15, 16, 17, 18, 19, 20, 21, 22, 23, 24, 25, 26, 27, 28, 29, 30, 31, 32, 33, 34, 35, 36, 37, 38] (by decide +kernel) (by decide +kernel)
set_option maxRecDepth 20000 in
theorem gX6_clusterOf_X6_gapOf : GoodIn wsX6_clusterOf (wsV RX6 104 RX6 yX6_gapOf wsX6_gapOf) := goodIn_app (goodIn_of _ (by decide +kernel)) ggX6_clusterOf_X6_gapOf
theorem dX6_clusterOf_0 : decode cX6_clusterOf 0 = .ok (.aload_n 0, 1) := by decide +kernel
theorem dX6_clusterOf_1 : decode cX6_clusterOf 1 = .ok (.getfield 7, 3) := by decide +kernel
theorem dX6_clusterOf_4 : decode cX6_clusterOf 4 = .ok (.iconst 1, 1) := by decide +kernel
theorem dX6_clusterOf_5 : decode cX6_clusterOf 5 = .ok (.iaload, 1) := by decide +kernel
theorem dX6_clusterOf_6 : decode cX6_clusterOf 6 = .ok (.istore_n 2, 1) := by decide +kernel
theorem dX6_clusterOf_7 : decode cX6_clusterOf 7 = .ok (.aload_n 0, 1) := by decide +kernel
theorem dX6_clusterOf_8 : decode cX6_clusterOf 8 = .ok (.iload_n 1, 1) := by decide +kernel
theorem dX6_clusterOf_9 : decode cX6_clusterOf 9 = .ok (.invokevirtual 153, 3) := by decide +kernel
theorem dX6_clusterOf_12 : decode cX6_clusterOf 12 = .ok (.istore_n 3, 1) := by decide +kernel
theorem dX6_clusterOf_13 : decode cX6_clusterOf 13 = .ok (.iconst 1, 1) := by decide +kernel
theorem dX6_clusterOf_14 : decode cX6_clusterOf 14 = .ok (.istore 4, 2) := by decide +kernel
theorem dX6_clusterOf_16 : decode cX6_clusterOf 16 = .ok (.aload_n 0, 1) := by decide +kernel
theorem dX6_clusterOf_17 : decode cX6_clusterOf 17 = .ok (.iload_n 3, 1) := by decide +kernel
theorem dX6_clusterOf_18 : decode cX6_clusterOf 18 = .ok (.invokevirtual 104, 3) := by decide +kernel
theorem dX6_clusterOf_21 : decode cX6_clusterOf 21 = .ok (.ifCond .ne 15, 3) := by decide +kernel
theorem dX6_clusterOf_24 : decode cX6_clusterOf 24 = .ok (.iload_n 3, 1) := by decide +kernel
theorem dX6_clusterOf_25 : decode cX6_clusterOf 25 = .ok (.iconst 1, 1) := by decide +kernel
theorem dX6_clusterOf_26 : decode cX6_clusterOf 26 = .ok (.iadd, 1) := by decide +kernel
theorem dX6_clusterOf_27 : decode cX6_clusterOf 27 = .ok (.iload_n 2, 1) := by decide +kernel
theorem dX6_clusterOf_28 : decode cX6_clusterOf 28 = .ok (.irem, 1) := by decide +kernel
theorem dX6_clusterOf_29 : decode cX6_clusterOf 29 = .ok (.istore_n 3, 1) := by decide +kernel
theorem dX6_clusterOf_30 : decode cX6_clusterOf 30 = .ok (.iinc 4 1, 3) := by decide +kernel
theorem dX6_clusterOf_33 : decode cX6_clusterOf 33 = .ok (.goto (-17), 3) := by decide +kernel
theorem dX6_clusterOf_36 : decode cX6_clusterOf 36 = .ok (.iload 4, 2) := by decide +kernel
theorem dX6_clusterOf_38 : decode cX6_clusterOf 38 = .ok (.ireturn, 1) := by decide +kernel
set_option maxRecDepth 20000 in
theorem ggX6_rod_X6_noRod : GoodIn wsX6_rod wsX6_noRod := goodIn_r _ [8, 1, 9, 10, 7, 11, 44, 45, 46, 47, 48, 49, 50, 51, 52, 53, 54, 55, 56, 57, 58, 59] (by decide +kernel) (by decide +kernel)
set_option maxRecDepth 20000 in
theorem gX6_rod_X6_noRod : GoodIn wsX6_rod (wsV RX6 83 RX6 yX6_noRod wsX6_noRod) := goodIn_app (goodIn_of _ (by decide +kernel)) ggX6_rod_X6_noRod
set_option maxRecDepth 20000 in
theorem ggX6_rod_X6_rank : GoodIn wsX6_rod wsX6_rank := goodIn_r _ [15, 2, 16, 17, 18, 7, 19, 1, 20, 44, 45, 46, 47, 48, 49, 50, 51, 52, 53, 54, 55, 56, 57, 58, 59] (by decide +kernel) (by decide +kernel)
set_option maxRecDepth 20000 in
theorem gX6_rod_X6_rank : GoodIn wsX6_rod (wsV RX6 156 RX6 yX6_rank wsX6_rank) := goodIn_app (goodIn_of _ (by decide +kernel)) ggX6_rod_X6_rank
set_option maxRecDepth 20000 in
theorem ggX6_rod_X6_gapOf : GoodIn wsX6_rod wsX6_gapOf := goodIn_r _ [24, 1, 2, 25, 26, 27, 7, 28, 29, 30, 31, 32, 33, 34, 35, 44, 45, 46, 47, 48, 49, 50, 51, 52, 53, 54, 55, 56, 57, 58, 59] (by decide +kernel) (by decide +kernel)
set_option maxRecDepth 20000 in
theorem gX6_rod_X6_gapOf : GoodIn wsX6_rod (wsV RX6 104 RX6 yX6_gapOf wsX6_gapOf) := goodIn_app (goodIn_of _ (by decide +kernel)) ggX6_rod_X6_gapOf
set_option maxRecDepth 20000 in
theorem ggX6_rod_X6_clusterOf : GoodIn wsX6_rod wsX6_clusterOf := goodIn_r _ [39, 1, 40, 41, 42, 7, 43, 21, 22, 23, 24, 2, 25, 26, 27, 28, 29, 30, 31, 32, 33, 34, 35, 44, 45, 46, 47, 48, 49, 50, 51, 52, 53, 54, 55, 56, 57, 58, 59] (by decide +kernel) (by decide +kernel)
set_option maxRecDepth 20000 in
theorem gX6_rod_X6_clusterOf : GoodIn wsX6_rod (wsV RX6 159 RX6 yX6_clusterOf wsX6_clusterOf) := goodIn_app (goodIn_of _ (by decide +kernel)) ggX6_rod_X6_clusterOf
set_option maxRecDepth 20000 in
theorem ggX6_rod_X6_leftmost : GoodIn wsX6_rod wsX6_leftmost := goodIn_r _ [43, 1, 21, 22, 23, 7, 24, 2, 25, 26, 27, 28, 29, 30, 31, 32, 33, 34, 35, 44, 45, 46, 47, 48, 49, 50, 51, 52, 53, 54, 55, 56, 57, 58, 59] (by decide +kernel) (by decide +kernel)
set_option maxRecDepth 20000 in
theorem gX6_rod_X6_leftmost : GoodIn wsX6_rod (wsV RX6 153 RX6 yX6_leftmost wsX6_leftmost) := goodIn_app (goodIn_of _ (by decide +kernel)) ggX6_rod_X6_leftmost
theorem dX6_rod_0 : decode cX6_rod 0 = .ok (.aload_n 0, 1) := by decide +kernel
theorem dX6_rod_1 : decode cX6_rod 1 = .ok (.iload_n 1, 1) := by decide +kernel
theorem dX6_rod_2 : decode cX6_rod 2 = .ok (.invokevirtual 83, 3) := by decide +kernel
theorem dX6_rod_5 : decode cX6_rod 5 = .ok (.ifCond .eq 5, 3) := by decide +kernel
theorem dX6_rod_8 : decode cX6_rod 8 = .ok (.iconst (-1), 1) := by decide +kernel
theorem dX6_rod_9 : decode cX6_rod 9 = .ok (.ireturn, 1) := by decide +kernel
theorem dX6_rod_10 : decode cX6_rod 10 = .ok (.aload_n 0, 1) := by decide +kernel
theorem dX6_rod_11 : decode cX6_rod 11 = .ok (.iload_n 1, 1) := by decide +kernel
theorem dX6_rod_12 : decode cX6_rod 12 = .ok (.invokevirtual 156, 3) := by decide +kernel
theorem dX6_rod_15 : decode cX6_rod 15 = .ok (.istore_n 3, 1) := by decide +kernel
theorem dX6_rod_16 : decode cX6_rod 16 = .ok (.iload_n 2, 1) := by decide +kernel
theorem dX6_rod_17 : decode cX6_rod 17 = .ok (.tableswitch 131 0 7 #[47, 56, 66, 79, 85, 101, 107, 118], 47) := by decide +kernel
theorem dX6_rod_64 : decode cX6_rod 64 = .ok (.aload_n 0, 1) := by decide +kernel
theorem dX6_rod_65 : decode cX6_rod 65 = .ok (.getfield 7, 3) := by decide +kernel
theorem dX6_rod_68 : decode cX6_rod 68 = .ok (.iconst 5, 1) := by decide +kernel
theorem dX6_rod_69 : decode cX6_rod 69 = .ok (.iload_n 1, 1) := by decide +kernel
theorem dX6_rod_70 : decode cX6_rod 70 = .ok (.iadd, 1) := by decide +kernel
theorem dX6_rod_71 : decode cX6_rod 71 = .ok (.iaload, 1) := by decide +kernel
theorem dX6_rod_72 : decode cX6_rod 72 = .ok (.ireturn, 1) := by decide +kernel
theorem dX6_rod_73 : decode cX6_rod 73 = .ok (.aload_n 0, 1) := by decide +kernel
theorem dX6_rod_74 : decode cX6_rod 74 = .ok (.getfield 7, 3) := by decide +kernel
theorem dX6_rod_77 : decode cX6_rod 77 = .ok (.bipush 13, 2) := by decide +kernel
theorem dX6_rod_79 : decode cX6_rod 79 = .ok (.iload_n 1, 1) := by decide +kernel
theorem dX6_rod_80 : decode cX6_rod 80 = .ok (.iadd, 1) := by decide +kernel
theorem dX6_rod_81 : decode cX6_rod 81 = .ok (.iaload, 1) := by decide +kernel
theorem dX6_rod_82 : decode cX6_rod 82 = .ok (.ireturn, 1) := by decide +kernel
theorem dX6_rod_83 : decode cX6_rod 83 = .ok (.bipush 100, 2) := by decide +kernel
theorem dX6_rod_85 : decode cX6_rod 85 = .ok (.aload_n 0, 1) := by decide +kernel
theorem dX6_rod_86 : decode cX6_rod 86 = .ok (.getfield 7, 3) := by decide +kernel
theorem dX6_rod_89 : decode cX6_rod 89 = .ok (.bipush 21, 2) := by decide +kernel
theorem dX6_rod_91 : decode cX6_rod 91 = .ok (.iload_n 1, 1) := by decide +kernel
theorem dX6_rod_92 : decode cX6_rod 92 = .ok (.iadd, 1) := by decide +kernel
theorem dX6_rod_93 : decode cX6_rod 93 = .ok (.iaload, 1) := by decide +kernel
theorem dX6_rod_94 : decode cX6_rod 94 = .ok (.iadd, 1) := by decide +kernel
theorem dX6_rod_95 : decode cX6_rod 95 = .ok (.ireturn, 1) := by decide +kernel
theorem dX6_rod_96 : decode cX6_rod 96 = .ok (.aload_n 0, 1) := by decide +kernel
theorem dX6_rod_97 : decode cX6_rod 97 = .ok (.iload_n 3, 1) := by decide +kernel
theorem dX6_rod_98 : decode cX6_rod 98 = .ok (.invokevirtual 104, 3) := by decide +kernel
theorem dX6_rod_101 : decode cX6_rod 101 = .ok (.ireturn, 1) := by decide +kernel
theorem dX6_rod_102 : decode cX6_rod 102 = .ok (.aload_n 0, 1) := by decide +kernel
theorem dX6_rod_103 : decode cX6_rod 103 = .ok (.getfield 26, 3) := by decide +kernel
theorem dX6_rod_106 : decode cX6_rod 106 = .ok (.iload_n 3, 1) := by decide +kernel
theorem dX6_rod_107 : decode cX6_rod 107 = .ok (.iconst 1, 1) := by decide +kernel
theorem dX6_rod_108 : decode cX6_rod 108 = .ok (.iadd, 1) := by decide +kernel
theorem dX6_rod_109 : decode cX6_rod 109 = .ok (.aload_n 0, 1) := by decide +kernel
theorem dX6_rod_110 : decode cX6_rod 110 = .ok (.getfield 7, 3) := by decide +kernel
theorem dX6_rod_113 : decode cX6_rod 113 = .ok (.iconst 1, 1) := by decide +kernel
theorem dX6_rod_114 : decode cX6_rod 114 = .ok (.iaload, 1) := by decide +kernel
theorem dX6_rod_115 : decode cX6_rod 115 = .ok (.irem, 1) := by decide +kernel
theorem dX6_rod_116 : decode cX6_rod 116 = .ok (.iaload, 1) := by decide +kernel
theorem dX6_rod_117 : decode cX6_rod 117 = .ok (.ireturn, 1) := by decide +kernel
theorem dX6_rod_118 : decode cX6_rod 118 = .ok (.aload_n 0, 1) := by decide +kernel
theorem dX6_rod_119 : decode cX6_rod 119 = .ok (.iload_n 3, 1) := by decide +kernel
theorem dX6_rod_120 : decode cX6_rod 120 = .ok (.invokevirtual 159, 3) := by decide +kernel
theorem dX6_rod_123 : decode cX6_rod 123 = .ok (.ireturn, 1) := by decide +kernel
theorem dX6_rod_124 : decode cX6_rod 124 = .ok (.aload_n 0, 1) := by decide +kernel
theorem dX6_rod_125 : decode cX6_rod 125 = .ok (.getfield 26, 3) := by decide +kernel
theorem dX6_rod_128 : decode cX6_rod 128 = .ok (.aload_n 0, 1) := by decide +kernel
theorem dX6_rod_129 : decode cX6_rod 129 = .ok (.iload_n 3, 1) := by decide +kernel
theorem dX6_rod_130 : decode cX6_rod 130 = .ok (.invokevirtual 153, 3) := by decide +kernel
theorem dX6_rod_133 : decode cX6_rod 133 = .ok (.iaload, 1) := by decide +kernel
theorem dX6_rod_134 : decode cX6_rod 134 = .ok (.ireturn, 1) := by decide +kernel
theorem dX6_rod_135 : decode cX6_rod 135 = .ok (.ldc 162, 2) := by decide +kernel
theorem dX6_rod_137 : decode cX6_rod 137 = .ok (.aload_n 0, 1) := by decide +kernel
theorem dX6_rod_138 : decode cX6_rod 138 = .ok (.getfield 7, 3) := by decide +kernel
theorem dX6_rod_141 : decode cX6_rod 141 = .ok (.bipush 29, 2) := by decide +kernel
theorem dX6_rod_143 : decode cX6_rod 143 = .ok (.iload_n 1, 1) := by decide +kernel
theorem dX6_rod_144 : decode cX6_rod 144 = .ok (.iadd, 1) := by decide +kernel
theorem dX6_rod_145 : decode cX6_rod 145 = .ok (.iaload, 1) := by decide +kernel
theorem dX6_rod_146 : decode cX6_rod 146 = .ok (.iadd, 1) := by decide +kernel
theorem dX6_rod_147 : decode cX6_rod 147 = .ok (.ireturn, 1) := by decide +kernel
theorem dX6_rod_148 : decode cX6_rod 148 = .ok (.bipush (-2), 2) := by decide +kernel
theorem dX6_rod_150 : decode cX6_rod 150 = .ok (.ireturn, 1) := by decide +kernel
set_option maxRecDepth 20000 in
theorem ggX6_cover_X6_in : GoodIn wsX6_cover wsX6_in := goodIn_r _ [5] (by decide +kernel) (by decide +kernel)
set_option maxRecDepth 20000 in
theorem gX6_cover_X6_in : GoodIn wsX6_cover (va_wsS RX6 64 yX6_in wsX6_in) := goodIn_app (goodIn_of _ (by decide +kernel)) ggX6_cover_X6_in
set_option maxRecDepth 20000 in
theorem ggX6_cover_X6_coverer : GoodIn wsX6_cover wsX6_coverer := goodIn_r _ [9, 1, 10, 11, 4, 12, 13, 14, 15, 16, 17, 18, 19, 20, 21, 22, 23, 24, 25, 26, 27, 28] (by decide +kernel) (by decide +kernel)
set_option maxRecDepth 20000 in
theorem gX6_cover_X6_coverer : GoodIn wsX6_cover (wsV RX6 79 RX6 yX6_coverer wsX6_coverer) := goodIn_app (goodIn_of _ (by decide +kernel)) ggX6_cover_X6_coverer
theorem dX6_cover_0 : decode cX6_cover 0 = .ok (.iload_n 1, 1) := by decide +kernel
theorem dX6_cover_1 : decode cX6_cover 1 = .ok (.iconst 0, 1) := by decide +kernel
theorem dX6_cover_2 : decode cX6_cover 2 = .ok (.aload_n 0, 1) := by decide +kernel
theorem dX6_cover_3 : decode cX6_cover 3 = .ok (.getfield 7, 3) := by decide +kernel
theorem dX6_cover_6 : decode cX6_cover 6 = .ok (.iconst 0, 1) := by decide +kernel
theorem dX6_cover_7 : decode cX6_cover 7 = .ok (.iaload, 1) := by decide +kernel
theorem dX6_cover_8 : decode cX6_cover 8 = .ok (.iconst 1, 1) := by decide +kernel
theorem dX6_cover_9 : decode cX6_cover 9 = .ok (.isub, 1) := by decide +kernel
theorem dX6_cover_10 : decode cX6_cover 10 = .ok (.invokestatic 64, 3) := by decide +kernel
theorem dX6_cover_13 : decode cX6_cover 13 = .ok (.ifCond .eq 11, 3) := by decide +kernel
theorem dX6_cover_16 : decode cX6_cover 16 = .ok (.aload_n 0, 1) := by decide +kernel
theorem dX6_cover_17 : decode cX6_cover 17 = .ok (.iload_n 1, 1) := by decide +kernel
theorem dX6_cover_18 : decode cX6_cover 18 = .ok (.invokevirtual 79, 3) := by decide +kernel
theorem dX6_cover_21 : decode cX6_cover 21 = .ok (.goto 4, 3) := by decide +kernel
theorem dX6_cover_24 : decode cX6_cover 24 = .ok (.iconst (-1), 1) := by decide +kernel
theorem dX6_cover_25 : decode cX6_cover 25 = .ok (.ireturn, 1) := by decide +kernel
set_option maxRecDepth 20000 in
theorem ggX6_placeIn_X6_noRod : GoodIn wsX6_placeIn wsX6_noRod := goodIn_r _ [8, 2, 9, 10, 7, 11, 39, 40, 41, 42, 43, 44, 45, 46, 47, 48, 49, 50, 51, 52, 53, 54] (by decide +kernel) (by decide +kernel)
set_option maxRecDepth 20000 in
theorem gX6_placeIn_X6_noRod : GoodIn wsX6_placeIn (wsV RX6 83 RX6 yX6_noRod wsX6_noRod) := goodIn_app (goodIn_of _ (by decide +kernel)) ggX6_placeIn_X6_noRod
set_option maxRecDepth 20000 in
theorem ggX6_placeIn_X6_in : GoodIn wsX6_placeIn wsX6_in := goodIn_r _ [11] (by decide +kernel) (by decide +kernel)
set_option maxRecDepth 20000 in
theorem gX6_placeIn_X6_in : GoodIn wsX6_placeIn (va_wsS RX6 64 yX6_in wsX6_in) := goodIn_app (goodIn_of _ (by decide +kernel)) ggX6_placeIn_X6_in
set_option maxRecDepth 20000 in
theorem ggX6_placeIn_X6_go : GoodIn wsX6_placeIn wsX6_go := goodIn_r _ [15, 2, 16, 1, 3, 17, 18, 19, 20, 21, 22, 7, 23, 24, 25, 26, 27, 28, 29, 30, 31, 32, 33, 34, 35, 36, 37, 38, 39, 40, 41, 42, 43, 44, 45, 46, 47, 48, 49, 50, 51, 52, 53, 54] (by decide +kernel) (by decide +kernel)
set_option maxRecDepth 20000 in
theorem gX6_placeIn_X6_go : GoodIn wsX6_placeIn (wsV RX6 121 RX6 yX6_go wsX6_go) := goodIn_app (goodIn_of _ (by decide +kernel)) ggX6_placeIn_X6_go
set_option maxRecDepth 20000 in
theorem ggX6_placeIn_X6_rest : GoodIn wsX6_placeIn wsX6_rest := goodIn_r _ [34] (by decide +kernel) (by decide +kernel)
set_option maxRecDepth 20000 in
theorem gX6_placeIn_X6_rest : GoodIn wsX6_placeIn (va_wsS RX6 72 yX6_rest wsX6_rest) := goodIn_app (goodIn_of _ (by decide +kernel)) ggX6_placeIn_X6_rest
theorem dX6_placeIn_0 : decode cX6_placeIn 0 = .ok (.aload_n 0, 1) := by decide +kernel
theorem dX6_placeIn_1 : decode cX6_placeIn 1 = .ok (.iload_n 1, 1) := by decide +kernel
theorem dX6_placeIn_2 : decode cX6_placeIn 2 = .ok (.invokevirtual 83, 3) := by decide +kernel
theorem dX6_placeIn_5 : decode cX6_placeIn 5 = .ok (.ifCond .eq 5, 3) := by decide +kernel
theorem dX6_placeIn_8 : decode cX6_placeIn 8 = .ok (.iconst (-1), 1) := by decide +kernel
theorem dX6_placeIn_9 : decode cX6_placeIn 9 = .ok (.ireturn, 1) := by decide +kernel
theorem dX6_placeIn_10 : decode cX6_placeIn 10 = .ok (.iload_n 2, 1) := by decide +kernel
theorem dX6_placeIn_11 : decode cX6_placeIn 11 = .ok (.iconst 0, 1) := by decide +kernel
theorem dX6_placeIn_12 : decode cX6_placeIn 12 = .ok (.bipush 100, 2) := by decide +kernel
theorem dX6_placeIn_14 : decode cX6_placeIn 14 = .ok (.invokestatic 64, 3) := by decide +kernel
theorem dX6_placeIn_17 : decode cX6_placeIn 17 = .ok (.ifCond .ne 6, 3) := by decide +kernel
theorem dX6_placeIn_20 : decode cX6_placeIn 20 = .ok (.bipush (-2), 2) := by decide +kernel
theorem dX6_placeIn_22 : decode cX6_placeIn 22 = .ok (.ireturn, 1) := by decide +kernel
theorem dX6_placeIn_23 : decode cX6_placeIn 23 = .ok (.aload_n 0, 1) := by decide +kernel
theorem dX6_placeIn_24 : decode cX6_placeIn 24 = .ok (.iload_n 2, 1) := by decide +kernel
theorem dX6_placeIn_25 : decode cX6_placeIn 25 = .ok (.invokevirtual 121, 3) := by decide +kernel
theorem dX6_placeIn_28 : decode cX6_placeIn 28 = .ok (.iconst 0, 1) := by decide +kernel
theorem dX6_placeIn_29 : decode cX6_placeIn 29 = .ok (.istore_n 3, 1) := by decide +kernel
theorem dX6_placeIn_30 : decode cX6_placeIn 30 = .ok (.iconst 0, 1) := by decide +kernel
theorem dX6_placeIn_31 : decode cX6_placeIn 31 = .ok (.istore 4, 2) := by decide +kernel
theorem dX6_placeIn_33 : decode cX6_placeIn 33 = .ok (.aload_n 0, 1) := by decide +kernel
theorem dX6_placeIn_34 : decode cX6_placeIn 34 = .ok (.getfield 26, 3) := by decide +kernel
theorem dX6_placeIn_37 : decode cX6_placeIn 37 = .ok (.iload 4, 2) := by decide +kernel
theorem dX6_placeIn_39 : decode cX6_placeIn 39 = .ok (.iaload, 1) := by decide +kernel
theorem dX6_placeIn_40 : decode cX6_placeIn 40 = .ok (.iload_n 1, 1) := by decide +kernel
theorem dX6_placeIn_41 : decode cX6_placeIn 41 = .ok (.if_icmp .eq 27, 3) := by decide +kernel
theorem dX6_placeIn_44 : decode cX6_placeIn 44 = .ok (.iload_n 3, 1) := by decide +kernel
theorem dX6_placeIn_45 : decode cX6_placeIn 45 = .ok (.aload_n 0, 1) := by decide +kernel
theorem dX6_placeIn_46 : decode cX6_placeIn 46 = .ok (.getfield 7, 3) := by decide +kernel
theorem dX6_placeIn_49 : decode cX6_placeIn 49 = .ok (.bipush 13, 2) := by decide +kernel
theorem dX6_placeIn_51 : decode cX6_placeIn 51 = .ok (.aload_n 0, 1) := by decide +kernel
theorem dX6_placeIn_52 : decode cX6_placeIn 52 = .ok (.getfield 26, 3) := by decide +kernel
theorem dX6_placeIn_55 : decode cX6_placeIn 55 = .ok (.iload 4, 2) := by decide +kernel
theorem dX6_placeIn_57 : decode cX6_placeIn 57 = .ok (.iaload, 1) := by decide +kernel
theorem dX6_placeIn_58 : decode cX6_placeIn 58 = .ok (.iadd, 1) := by decide +kernel
theorem dX6_placeIn_59 : decode cX6_placeIn 59 = .ok (.iaload, 1) := by decide +kernel
theorem dX6_placeIn_60 : decode cX6_placeIn 60 = .ok (.iadd, 1) := by decide +kernel
theorem dX6_placeIn_61 : decode cX6_placeIn 61 = .ok (.istore_n 3, 1) := by decide +kernel
theorem dX6_placeIn_62 : decode cX6_placeIn 62 = .ok (.iinc 4 1, 3) := by decide +kernel
theorem dX6_placeIn_65 : decode cX6_placeIn 65 = .ok (.goto (-32), 3) := by decide +kernel
theorem dX6_placeIn_68 : decode cX6_placeIn 68 = .ok (.aload_n 0, 1) := by decide +kernel
theorem dX6_placeIn_69 : decode cX6_placeIn 69 = .ok (.getfield 38, 3) := by decide +kernel
theorem dX6_placeIn_72 : decode cX6_placeIn 72 = .ok (.iload 4, 2) := by decide +kernel
theorem dX6_placeIn_74 : decode cX6_placeIn 74 = .ok (.iaload, 1) := by decide +kernel
theorem dX6_placeIn_75 : decode cX6_placeIn 75 = .ok (.iload_n 3, 1) := by decide +kernel
theorem dX6_placeIn_76 : decode cX6_placeIn 76 = .ok (.iadd, 1) := by decide +kernel
theorem dX6_placeIn_77 : decode cX6_placeIn 77 = .ok (.aload_n 0, 1) := by decide +kernel
theorem dX6_placeIn_78 : decode cX6_placeIn 78 = .ok (.getfield 7, 3) := by decide +kernel
theorem dX6_placeIn_81 : decode cX6_placeIn 81 = .ok (.iconst 0, 1) := by decide +kernel
theorem dX6_placeIn_82 : decode cX6_placeIn 82 = .ok (.iaload, 1) := by decide +kernel
theorem dX6_placeIn_83 : decode cX6_placeIn 83 = .ok (.invokestatic 72, 3) := by decide +kernel
theorem dX6_placeIn_86 : decode cX6_placeIn 86 = .ok (.ireturn, 1) := by decide +kernel
set_option maxRecDepth 20000 in
theorem ggX6_speedIn_X6_noRod : GoodIn wsX6_speedIn wsX6_noRod := goodIn_r _ [8, 1, 9, 10, 7, 11, 39, 40, 41, 42, 43, 44, 45, 46, 47, 48, 49, 50, 51, 52, 53, 54] (by decide +kernel) (by decide +kernel)
set_option maxRecDepth 20000 in
theorem gX6_speedIn_X6_noRod : GoodIn wsX6_speedIn (wsV RX6 83 RX6 yX6_noRod wsX6_noRod) := goodIn_app (goodIn_of _ (by decide +kernel)) ggX6_speedIn_X6_noRod
set_option maxRecDepth 20000 in
theorem ggX6_speedIn_X6_in : GoodIn wsX6_speedIn wsX6_in := goodIn_r _ [11] (by decide +kernel) (by decide +kernel)
set_option maxRecDepth 20000 in
theorem gX6_speedIn_X6_in : GoodIn wsX6_speedIn (va_wsS RX6 64 yX6_in wsX6_in) := goodIn_app (goodIn_of _ (by decide +kernel)) ggX6_speedIn_X6_in
set_option maxRecDepth 20000 in
theorem ggX6_speedIn_X6_go : GoodIn wsX6_speedIn wsX6_go := goodIn_r _ [15, 1, 16, 2, 17, 18, 3, 19, 20, 21, 22, 7, 23, 24, 25, 26, 27, 28, 29, 30, 31, 32, 33, 34, 35, 36, 37, 38, 39, 40, 41, 42, 43, 44, 45, 46, 47, 48, 49, 50, 51, 52, 53, 54] (by decide +kernel) (by decide +kernel)
set_option maxRecDepth 20000 in
theorem gX6_speedIn_X6_go : GoodIn wsX6_speedIn (wsV RX6 121 RX6 yX6_go wsX6_go) := goodIn_app (goodIn_of _ (by decide +kernel)) ggX6_speedIn_X6_go
theorem dX6_speedIn_0 : decode cX6_speedIn 0 = .ok (.aload_n 0, 1) := by decide +kernel
theorem dX6_speedIn_1 : decode cX6_speedIn 1 = .ok (.iload_n 1, 1) := by decide +kernel
theorem dX6_speedIn_2 : decode cX6_speedIn 2 = .ok (.invokevirtual 83, 3) := by decide +kernel
theorem dX6_speedIn_5 : decode cX6_speedIn 5 = .ok (.ifCond .eq 5, 3) := by decide +kernel
theorem dX6_speedIn_8 : decode cX6_speedIn 8 = .ok (.iconst (-1), 1) := by decide +kernel
theorem dX6_speedIn_9 : decode cX6_speedIn 9 = .ok (.ireturn, 1) := by decide +kernel
theorem dX6_speedIn_10 : decode cX6_speedIn 10 = .ok (.iload_n 2, 1) := by decide +kernel
theorem dX6_speedIn_11 : decode cX6_speedIn 11 = .ok (.iconst 0, 1) := by decide +kernel
theorem dX6_speedIn_12 : decode cX6_speedIn 12 = .ok (.bipush 100, 2) := by decide +kernel
theorem dX6_speedIn_14 : decode cX6_speedIn 14 = .ok (.invokestatic 64, 3) := by decide +kernel
theorem dX6_speedIn_17 : decode cX6_speedIn 17 = .ok (.ifCond .ne 6, 3) := by decide +kernel
theorem dX6_speedIn_20 : decode cX6_speedIn 20 = .ok (.bipush (-2), 2) := by decide +kernel
theorem dX6_speedIn_22 : decode cX6_speedIn 22 = .ok (.ireturn, 1) := by decide +kernel
theorem dX6_speedIn_23 : decode cX6_speedIn 23 = .ok (.iload_n 2, 1) := by decide +kernel
theorem dX6_speedIn_24 : decode cX6_speedIn 24 = .ok (.ifCond .ne 16, 3) := by decide +kernel
theorem dX6_speedIn_27 : decode cX6_speedIn 27 = .ok (.bipush 100, 2) := by decide +kernel
theorem dX6_speedIn_29 : decode cX6_speedIn 29 = .ok (.aload_n 0, 1) := by decide +kernel
theorem dX6_speedIn_30 : decode cX6_speedIn 30 = .ok (.getfield 7, 3) := by decide +kernel
theorem dX6_speedIn_33 : decode cX6_speedIn 33 = .ok (.bipush 21, 2) := by decide +kernel
theorem dX6_speedIn_35 : decode cX6_speedIn 35 = .ok (.iload_n 1, 1) := by decide +kernel
theorem dX6_speedIn_36 : decode cX6_speedIn 36 = .ok (.iadd, 1) := by decide +kernel
theorem dX6_speedIn_37 : decode cX6_speedIn 37 = .ok (.iaload, 1) := by decide +kernel
theorem dX6_speedIn_38 : decode cX6_speedIn 38 = .ok (.iadd, 1) := by decide +kernel
theorem dX6_speedIn_39 : decode cX6_speedIn 39 = .ok (.ireturn, 1) := by decide +kernel
theorem dX6_speedIn_40 : decode cX6_speedIn 40 = .ok (.aload_n 0, 1) := by decide +kernel
theorem dX6_speedIn_41 : decode cX6_speedIn 41 = .ok (.iload_n 2, 1) := by decide +kernel
theorem dX6_speedIn_42 : decode cX6_speedIn 42 = .ok (.invokevirtual 121, 3) := by decide +kernel
theorem dX6_speedIn_45 : decode cX6_speedIn 45 = .ok (.iconst 0, 1) := by decide +kernel
theorem dX6_speedIn_46 : decode cX6_speedIn 46 = .ok (.istore_n 3, 1) := by decide +kernel
theorem dX6_speedIn_47 : decode cX6_speedIn 47 = .ok (.aload_n 0, 1) := by decide +kernel
theorem dX6_speedIn_48 : decode cX6_speedIn 48 = .ok (.getfield 26, 3) := by decide +kernel
theorem dX6_speedIn_51 : decode cX6_speedIn 51 = .ok (.iload_n 3, 1) := by decide +kernel
theorem dX6_speedIn_52 : decode cX6_speedIn 52 = .ok (.iaload, 1) := by decide +kernel
theorem dX6_speedIn_53 : decode cX6_speedIn 53 = .ok (.iload_n 1, 1) := by decide +kernel
theorem dX6_speedIn_54 : decode cX6_speedIn 54 = .ok (.if_icmp .eq 9, 3) := by decide +kernel
theorem dX6_speedIn_57 : decode cX6_speedIn 57 = .ok (.iinc 3 1, 3) := by decide +kernel
theorem dX6_speedIn_60 : decode cX6_speedIn 60 = .ok (.goto (-13), 3) := by decide +kernel
theorem dX6_speedIn_63 : decode cX6_speedIn 63 = .ok (.bipush 100, 2) := by decide +kernel
theorem dX6_speedIn_65 : decode cX6_speedIn 65 = .ok (.aload_n 0, 1) := by decide +kernel
theorem dX6_speedIn_66 : decode cX6_speedIn 66 = .ok (.getfield 41, 3) := by decide +kernel
theorem dX6_speedIn_69 : decode cX6_speedIn 69 = .ok (.iload_n 3, 1) := by decide +kernel
theorem dX6_speedIn_70 : decode cX6_speedIn 70 = .ok (.iaload, 1) := by decide +kernel
theorem dX6_speedIn_71 : decode cX6_speedIn 71 = .ok (.iadd, 1) := by decide +kernel
theorem dX6_speedIn_72 : decode cX6_speedIn 72 = .ok (.ireturn, 1) := by decide +kernel
set_option maxRecDepth 20000 in
theorem ggX6_meetings_X6_in : GoodIn wsX6_meetings wsX6_in := goodIn_r _ [4] (by decide +kernel) (by decide +kernel)
set_option maxRecDepth 20000 in
theorem gX6_meetings_X6_in : GoodIn wsX6_meetings (va_wsS RX6 64 yX6_in wsX6_in) := goodIn_app (goodIn_of _ (by decide +kernel)) ggX6_meetings_X6_in
set_option maxRecDepth 20000 in
theorem ggX6_meetings_X6_meet : GoodIn wsX6_meetings wsX6_meet := goodIn_r _ [8, 9, 10, 11, 12, 3, 13, 14, 15, 16, 17, 18, 19, 20, 21, 22, 23, 24, 25, 26, 27, 28, 29, 30, 31, 32, 33, 34, 35, 36, 37, 38, 39, 40, 41, 42, 43, 44, 45, 46, 47, 48, 49, 50, 51, 52, 53, 54, 55, 56, 57, 58, 59, 60, 61, 62] (by decide +kernel) (by decide +kernel)
set_option maxRecDepth 20000 in
theorem gX6_meetings_X6_meet : GoodIn wsX6_meetings (wsV RX6 117 RX6 yX6_meet wsX6_meet) := goodIn_app (goodIn_of _ (by decide +kernel)) ggX6_meetings_X6_meet
theorem dX6_meetings_0 : decode cX6_meetings 0 = .ok (.iload_n 1, 1) := by decide +kernel
theorem dX6_meetings_1 : decode cX6_meetings 1 = .ok (.iconst 1, 1) := by decide +kernel
theorem dX6_meetings_2 : decode cX6_meetings 2 = .ok (.bipush 100, 2) := by decide +kernel
theorem dX6_meetings_4 : decode cX6_meetings 4 = .ok (.invokestatic 64, 3) := by decide +kernel
theorem dX6_meetings_7 : decode cX6_meetings 7 = .ok (.ifCond .eq 30, 3) := by decide +kernel
theorem dX6_meetings_10 : decode cX6_meetings 10 = .ok (.iload_n 2, 1) := by decide +kernel
theorem dX6_meetings_11 : decode cX6_meetings 11 = .ok (.iconst 0, 1) := by decide +kernel
theorem dX6_meetings_12 : decode cX6_meetings 12 = .ok (.iconst 1, 1) := by decide +kernel
theorem dX6_meetings_13 : decode cX6_meetings 13 = .ok (.invokestatic 64, 3) := by decide +kernel
theorem dX6_meetings_16 : decode cX6_meetings 16 = .ok (.ifCond .eq 21, 3) := by decide +kernel
theorem dX6_meetings_19 : decode cX6_meetings 19 = .ok (.aload_n 0, 1) := by decide +kernel
theorem dX6_meetings_20 : decode cX6_meetings 20 = .ok (.iload_n 1, 1) := by decide +kernel
theorem dX6_meetings_21 : decode cX6_meetings 21 = .ok (.iload_n 2, 1) := by decide +kernel
theorem dX6_meetings_22 : decode cX6_meetings 22 = .ok (.iconst 1, 1) := by decide +kernel
theorem dX6_meetings_23 : decode cX6_meetings 23 = .ok (.if_icmp .ne 7, 3) := by decide +kernel
theorem dX6_meetings_26 : decode cX6_meetings 26 = .ok (.iconst 1, 1) := by decide +kernel
theorem dX6_meetings_27 : decode cX6_meetings 27 = .ok (.goto 4, 3) := by decide +kernel
theorem dX6_meetings_30 : decode cX6_meetings 30 = .ok (.iconst 0, 1) := by decide +kernel
theorem dX6_meetings_31 : decode cX6_meetings 31 = .ok (.invokevirtual 117, 3) := by decide +kernel
theorem dX6_meetings_34 : decode cX6_meetings 34 = .ok (.goto 5, 3) := by decide +kernel
theorem dX6_meetings_37 : decode cX6_meetings 37 = .ok (.bipush (-2), 2) := by decide +kernel
theorem dX6_meetings_39 : decode cX6_meetings 39 = .ok (.ireturn, 1) := by decide +kernel
set_option maxRecDepth 20000 in
theorem ggX6_moments_X6_in : GoodIn wsX6_moments wsX6_in := goodIn_r _ [6] (by decide +kernel) (by decide +kernel)
set_option maxRecDepth 20000 in
theorem gX6_moments_X6_in : GoodIn wsX6_moments (va_wsS RX6 64 yX6_in wsX6_in) := goodIn_app (goodIn_of _ (by decide +kernel)) ggX6_moments_X6_in
set_option maxRecDepth 20000 in
theorem ggX6_moments_X6_layPoints : GoodIn wsX6_moments wsX6_layPoints := goodIn_r _ [10, 1, 11, 12, 49, 50, 51, 52, 53, 54, 55, 56, 57, 58, 59, 60, 61, 62, 63, 64] (by decide +kernel) (by decide +kernel)
set_option maxRecDepth 20000 in
theorem gX6_moments_X6_layPoints : GoodIn wsX6_moments (wsV RX6 93 RX6 yX6_layPoints wsX6_layPoints) := goodIn_app (goodIn_of _ (by decide +kernel)) ggX6_moments_X6_layPoints
set_option maxRecDepth 20000 in
theorem ggX6_moments_X6_times : GoodIn wsX6_moments wsX6_times := goodIn_r _ [16, 17, 18, 19, 5, 20, 1, 11, 12, 21, 22, 23, 24, 25, 26, 27, 28, 29, 30, 31, 32, 33, 34, 35, 36, 37, 38, 39, 40, 41, 42, 43, 49, 50, 51, 52, 53, 54, 55, 56, 57, 58, 59, 60, 61, 62, 63, 64] (by decide +kernel) (by decide +kernel)
set_option maxRecDepth 20000 in
theorem gX6_moments_X6_times : GoodIn wsX6_moments (wsV RX6 113 RX6 yX6_times wsX6_times) := goodIn_app (goodIn_of _ (by decide +kernel)) ggX6_moments_X6_times
set_option maxRecDepth 20000 in
theorem ggX6_moments_X6_ahead : GoodIn wsX6_moments wsX6_ahead := goodIn_r _ [20, 1, 11, 12, 21, 22, 23, 5, 24, 25, 26, 27, 28, 29, 30, 31, 32, 33, 34, 35, 36, 37, 38, 39, 49, 50, 51, 52, 53, 54, 55, 56, 57, 58, 59, 60, 61, 62, 63, 64] (by decide +kernel) (by decide +kernel)
set_option maxRecDepth 20000 in
theorem gX6_moments_X6_ahead : GoodIn wsX6_moments (wsV RX6 107 RX6 yX6_ahead wsX6_ahead) := goodIn_app (goodIn_of _ (by decide +kernel)) ggX6_moments_X6_ahead
set_option maxRecDepth 20000 in
theorem ggX6_moments_X6_free : GoodIn wsX6_moments wsX6_free := goodIn_r _ [24, 1, 25, 26, 27, 5, 28, 49, 50, 51, 52, 53, 54, 55, 56, 57, 58, 59, 60, 61, 62, 63, 64] (by decide +kernel) (by decide +kernel)
set_option maxRecDepth 20000 in
theorem gX6_moments_X6_free : GoodIn wsX6_moments (wsV RX6 76 RX6 yX6_free wsX6_free) := goodIn_app (goodIn_of _ (by decide +kernel)) ggX6_moments_X6_free
set_option maxRecDepth 20000 in
theorem ggX6_moments_X6_difference : GoodIn wsX6_moments wsX6_difference := goodIn_r _ [43, 1, 11, 49, 50, 51, 52, 53, 54, 55, 56, 57, 58, 59, 60, 61, 62, 63, 64] (by decide +kernel) (by decide +kernel)
set_option maxRecDepth 20000 in
theorem gX6_moments_X6_difference : GoodIn wsX6_moments (wsV RX6 110 RX6 yX6_difference wsX6_difference) := goodIn_app (goodIn_of _ (by decide +kernel)) ggX6_moments_X6_difference
set_option maxRecDepth 20000 in
theorem ggX6_moments_X6_addMoment : GoodIn wsX6_moments wsX6_addMoment := goodIn_r _ [47, 48, 49, 50, 51, 52, 53, 54, 55, 56, 57, 58, 59, 60, 61, 62, 63, 64] (by decide +kernel) (by decide +kernel)
set_option maxRecDepth 20000 in
theorem gX6_moments_X6_addMoment : GoodIn wsX6_moments (wsV RX6 164 RX6 yX6_addMoment wsX6_addMoment) := goodIn_app (goodIn_of _ (by decide +kernel)) ggX6_moments_X6_addMoment
theorem dX6_moments_0 : decode cX6_moments 0 = .ok (.iload_n 1, 1) := by decide +kernel
theorem dX6_moments_1 : decode cX6_moments 1 = .ok (.iconst 1, 1) := by decide +kernel
theorem dX6_moments_2 : decode cX6_moments 2 = .ok (.iconst 3, 1) := by decide +kernel
theorem dX6_moments_3 : decode cX6_moments 3 = .ok (.invokestatic 64, 3) := by decide +kernel
theorem dX6_moments_6 : decode cX6_moments 6 = .ok (.ifCond .ne 6, 3) := by decide +kernel
theorem dX6_moments_9 : decode cX6_moments 9 = .ok (.bipush (-2), 2) := by decide +kernel
theorem dX6_moments_11 : decode cX6_moments 11 = .ok (.ireturn, 1) := by decide +kernel
theorem dX6_moments_12 : decode cX6_moments 12 = .ok (.aload_n 0, 1) := by decide +kernel
theorem dX6_moments_13 : decode cX6_moments 13 = .ok (.invokevirtual 93, 3) := by decide +kernel
theorem dX6_moments_16 : decode cX6_moments 16 = .ok (.iconst 0, 1) := by decide +kernel
theorem dX6_moments_17 : decode cX6_moments 17 = .ok (.istore_n 2, 1) := by decide +kernel
theorem dX6_moments_18 : decode cX6_moments 18 = .ok (.iconst 0, 1) := by decide +kernel
theorem dX6_moments_19 : decode cX6_moments 19 = .ok (.istore_n 3, 1) := by decide +kernel
theorem dX6_moments_20 : decode cX6_moments 20 = .ok (.iload_n 3, 1) := by decide +kernel
theorem dX6_moments_21 : decode cX6_moments 21 = .ok (.aload_n 0, 1) := by decide +kernel
theorem dX6_moments_22 : decode cX6_moments 22 = .ok (.getfield 7, 3) := by decide +kernel
theorem dX6_moments_25 : decode cX6_moments 25 = .ok (.iconst 1, 1) := by decide +kernel
theorem dX6_moments_26 : decode cX6_moments 26 = .ok (.iaload, 1) := by decide +kernel
theorem dX6_moments_27 : decode cX6_moments 27 = .ok (.if_icmp .ge 82, 3) := by decide +kernel
theorem dX6_moments_30 : decode cX6_moments 30 = .ok (.iconst 0, 1) := by decide +kernel
theorem dX6_moments_31 : decode cX6_moments 31 = .ok (.istore 4, 2) := by decide +kernel
theorem dX6_moments_33 : decode cX6_moments 33 = .ok (.iload 4, 2) := by decide +kernel
theorem dX6_moments_35 : decode cX6_moments 35 = .ok (.iload_n 3, 1) := by decide +kernel
theorem dX6_moments_36 : decode cX6_moments 36 = .ok (.if_icmp .ge 67, 3) := by decide +kernel
theorem dX6_moments_39 : decode cX6_moments 39 = .ok (.aload_n 0, 1) := by decide +kernel
theorem dX6_moments_40 : decode cX6_moments 40 = .ok (.iload 4, 2) := by decide +kernel
theorem dX6_moments_42 : decode cX6_moments 42 = .ok (.iload_n 3, 1) := by decide +kernel
theorem dX6_moments_43 : decode cX6_moments 43 = .ok (.iload_n 1, 1) := by decide +kernel
theorem dX6_moments_44 : decode cX6_moments 44 = .ok (.invokevirtual 113, 3) := by decide +kernel
theorem dX6_moments_47 : decode cX6_moments 47 = .ok (.istore 5, 2) := by decide +kernel
theorem dX6_moments_49 : decode cX6_moments 49 = .ok (.iconst 0, 1) := by decide +kernel
theorem dX6_moments_50 : decode cX6_moments 50 = .ok (.istore 6, 2) := by decide +kernel
theorem dX6_moments_52 : decode cX6_moments 52 = .ok (.iload 6, 2) := by decide +kernel
theorem dX6_moments_54 : decode cX6_moments 54 = .ok (.iload 5, 2) := by decide +kernel
theorem dX6_moments_56 : decode cX6_moments 56 = .ok (.if_icmp .ge 41, 3) := by decide +kernel
theorem dX6_moments_59 : decode cX6_moments 59 = .ok (.aload_n 0, 1) := by decide +kernel
theorem dX6_moments_60 : decode cX6_moments 60 = .ok (.iload_n 2, 1) := by decide +kernel
theorem dX6_moments_61 : decode cX6_moments 61 = .ok (.aload_n 0, 1) := by decide +kernel
theorem dX6_moments_62 : decode cX6_moments 62 = .ok (.iload 4, 2) := by decide +kernel
theorem dX6_moments_64 : decode cX6_moments 64 = .ok (.iload_n 3, 1) := by decide +kernel
theorem dX6_moments_65 : decode cX6_moments 65 = .ok (.invokevirtual 107, 3) := by decide +kernel
theorem dX6_moments_68 : decode cX6_moments 68 = .ok (.iload 6, 2) := by decide +kernel
theorem dX6_moments_70 : decode cX6_moments 70 = .ok (.aload_n 0, 1) := by decide +kernel
theorem dX6_moments_71 : decode cX6_moments 71 = .ok (.invokevirtual 76, 3) := by decide +kernel
theorem dX6_moments_74 : decode cX6_moments 74 = .ok (.imul, 1) := by decide +kernel
theorem dX6_moments_75 : decode cX6_moments 75 = .ok (.iadd, 1) := by decide +kernel
theorem dX6_moments_76 : decode cX6_moments 76 = .ok (.ldc 163, 2) := by decide +kernel
theorem dX6_moments_78 : decode cX6_moments 78 = .ok (.aload_n 0, 1) := by decide +kernel
theorem dX6_moments_79 : decode cX6_moments 79 = .ok (.iload 4, 2) := by decide +kernel
theorem dX6_moments_81 : decode cX6_moments 81 = .ok (.iload_n 3, 1) := by decide +kernel
theorem dX6_moments_82 : decode cX6_moments 82 = .ok (.invokevirtual 110, 3) := by decide +kernel
theorem dX6_moments_85 : decode cX6_moments 85 = .ok (.idiv, 1) := by decide +kernel
theorem dX6_moments_86 : decode cX6_moments 86 = .ok (.imul, 1) := by decide +kernel
theorem dX6_moments_87 : decode cX6_moments 87 = .ok (.invokevirtual 164, 3) := by decide +kernel
theorem dX6_moments_90 : decode cX6_moments 90 = .ok (.istore_n 2, 1) := by decide +kernel
theorem dX6_moments_91 : decode cX6_moments 91 = .ok (.iinc 6 1, 3) := by decide +kernel
theorem dX6_moments_94 : decode cX6_moments 94 = .ok (.goto (-42), 3) := by decide +kernel
theorem dX6_moments_97 : decode cX6_moments 97 = .ok (.iinc 4 1, 3) := by decide +kernel
theorem dX6_moments_100 : decode cX6_moments 100 = .ok (.goto (-67), 3) := by decide +kernel
theorem dX6_moments_103 : decode cX6_moments 103 = .ok (.iinc 3 1, 3) := by decide +kernel
theorem dX6_moments_106 : decode cX6_moments 106 = .ok (.goto (-86), 3) := by decide +kernel
theorem dX6_moments_109 : decode cX6_moments 109 = .ok (.iload_n 2, 1) := by decide +kernel
theorem dX6_moments_110 : decode cX6_moments 110 = .ok (.ireturn, 1) := by decide +kernel
theorem dX6_addMoment_0 : decode cX6_addMoment 0 = .ok (.iconst 0, 1) := by decide +kernel
theorem dX6_addMoment_1 : decode cX6_addMoment 1 = .ok (.istore_n 3, 1) := by decide +kernel
theorem dX6_addMoment_2 : decode cX6_addMoment 2 = .ok (.iload_n 3, 1) := by decide +kernel
theorem dX6_addMoment_3 : decode cX6_addMoment 3 = .ok (.iload_n 1, 1) := by decide +kernel
theorem dX6_addMoment_4 : decode cX6_addMoment 4 = .ok (.if_icmp .ge 21, 3) := by decide +kernel
theorem dX6_addMoment_7 : decode cX6_addMoment 7 = .ok (.aload_n 0, 1) := by decide +kernel
theorem dX6_addMoment_8 : decode cX6_addMoment 8 = .ok (.getfield 44, 3) := by decide +kernel
theorem dX6_addMoment_11 : decode cX6_addMoment 11 = .ok (.iload_n 3, 1) := by decide +kernel
theorem dX6_addMoment_12 : decode cX6_addMoment 12 = .ok (.iaload, 1) := by decide +kernel
theorem dX6_addMoment_13 : decode cX6_addMoment 13 = .ok (.iload_n 2, 1) := by decide +kernel
theorem dX6_addMoment_14 : decode cX6_addMoment 14 = .ok (.if_icmp .ne 5, 3) := by decide +kernel
theorem dX6_addMoment_17 : decode cX6_addMoment 17 = .ok (.iload_n 1, 1) := by decide +kernel
theorem dX6_addMoment_18 : decode cX6_addMoment 18 = .ok (.ireturn, 1) := by decide +kernel
theorem dX6_addMoment_19 : decode cX6_addMoment 19 = .ok (.iinc 3 1, 3) := by decide +kernel
theorem dX6_addMoment_22 : decode cX6_addMoment 22 = .ok (.goto (-20), 3) := by decide +kernel
theorem dX6_addMoment_25 : decode cX6_addMoment 25 = .ok (.aload_n 0, 1) := by decide +kernel
theorem dX6_addMoment_26 : decode cX6_addMoment 26 = .ok (.getfield 44, 3) := by decide +kernel
theorem dX6_addMoment_29 : decode cX6_addMoment 29 = .ok (.iload_n 1, 1) := by decide +kernel
theorem dX6_addMoment_30 : decode cX6_addMoment 30 = .ok (.iload_n 2, 1) := by decide +kernel
theorem dX6_addMoment_31 : decode cX6_addMoment 31 = .ok (.iastore, 1) := by decide +kernel
theorem dX6_addMoment_32 : decode cX6_addMoment 32 = .ok (.iload_n 1, 1) := by decide +kernel
theorem dX6_addMoment_33 : decode cX6_addMoment 33 = .ok (.iconst 1, 1) := by decide +kernel
theorem dX6_addMoment_34 : decode cX6_addMoment 34 = .ok (.iadd, 1) := by decide +kernel
theorem dX6_addMoment_35 : decode cX6_addMoment 35 = .ok (.ireturn, 1) := by decide +kernel
theorem dX6_common_0 : decode cX6_common 0 = .ok (.iload_n 0, 1) := by decide +kernel
theorem dX6_common_1 : decode cX6_common 1 = .ok (.istore_n 2, 1) := by decide +kernel
theorem dX6_common_2 : decode cX6_common 2 = .ok (.iload_n 1, 1) := by decide +kernel
theorem dX6_common_3 : decode cX6_common 3 = .ok (.istore_n 3, 1) := by decide +kernel
theorem dX6_common_4 : decode cX6_common 4 = .ok (.iload_n 3, 1) := by decide +kernel
theorem dX6_common_5 : decode cX6_common 5 = .ok (.ifCond .eq 16, 3) := by decide +kernel
theorem dX6_common_8 : decode cX6_common 8 = .ok (.iload_n 2, 1) := by decide +kernel
theorem dX6_common_9 : decode cX6_common 9 = .ok (.iload_n 3, 1) := by decide +kernel
theorem dX6_common_10 : decode cX6_common 10 = .ok (.irem, 1) := by decide +kernel
theorem dX6_common_11 : decode cX6_common 11 = .ok (.istore 4, 2) := by decide +kernel
theorem dX6_common_13 : decode cX6_common 13 = .ok (.iload_n 3, 1) := by decide +kernel
theorem dX6_common_14 : decode cX6_common 14 = .ok (.istore_n 2, 1) := by decide +kernel
theorem dX6_common_15 : decode cX6_common 15 = .ok (.iload 4, 2) := by decide +kernel
theorem dX6_common_17 : decode cX6_common 17 = .ok (.istore_n 3, 1) := by decide +kernel
theorem dX6_common_18 : decode cX6_common 18 = .ok (.goto (-14), 3) := by decide +kernel
theorem dX6_common_21 : decode cX6_common 21 = .ok (.iload_n 2, 1) := by decide +kernel
theorem dX6_common_22 : decode cX6_common 22 = .ok (.ireturn, 1) := by decide +kernel
set_option maxRecDepth 20000 in
theorem ggX6_next_X6_in : GoodIn wsX6_next wsX6_in := goodIn_r _ [5] (by decide +kernel) (by decide +kernel)
set_option maxRecDepth 20000 in
theorem gX6_next_X6_in : GoodIn wsX6_next (va_wsS RX6 64 yX6_in wsX6_in) := goodIn_app (goodIn_of _ (by decide +kernel)) ggX6_next_X6_in
set_option maxRecDepth 20000 in
theorem ggX6_next_X6_layPoints : GoodIn wsX6_next wsX6_layPoints := goodIn_r _ [9, 1, 10, 11, 42, 43, 44, 45, 46, 47, 48, 49, 50, 51, 52, 53, 54, 55, 56, 57] (by decide +kernel) (by decide +kernel)
set_option maxRecDepth 20000 in
theorem gX6_next_X6_layPoints : GoodIn wsX6_next (wsV RX6 93 RX6 yX6_layPoints wsX6_layPoints) := goodIn_app (goodIn_of _ (by decide +kernel)) ggX6_next_X6_layPoints
set_option maxRecDepth 20000 in
theorem ggX6_next_X6_ahead : GoodIn wsX6_next wsX6_ahead := goodIn_r _ [15, 1, 10, 11, 16, 17, 18, 4, 19, 20, 21, 22, 23, 24, 25, 26, 27, 28, 29, 30, 31, 32, 33, 34, 42, 43, 44, 45, 46, 47, 48, 49, 50, 51, 52, 53, 54, 55, 56, 57] (by decide +kernel) (by decide +kernel)
set_option maxRecDepth 20000 in
theorem gX6_next_X6_ahead : GoodIn wsX6_next (wsV RX6 107 RX6 yX6_ahead wsX6_ahead) := goodIn_app (goodIn_of _ (by decide +kernel)) ggX6_next_X6_ahead
set_option maxRecDepth 20000 in
theorem ggX6_next_X6_difference : GoodIn wsX6_next wsX6_difference := goodIn_r _ [38, 1, 10, 42, 43, 44, 45, 46, 47, 48, 49, 50, 51, 52, 53, 54, 55, 56, 57] (by decide +kernel) (by decide +kernel)
set_option maxRecDepth 20000 in
theorem gX6_next_X6_difference : GoodIn wsX6_next (wsV RX6 110 RX6 yX6_difference wsX6_difference) := goodIn_app (goodIn_of _ (by decide +kernel)) ggX6_next_X6_difference
set_option maxRecDepth 20000 in
theorem ggX6_next_X6_common : GoodIn wsX6_next wsX6_common := goodIn_r _ [41] (by decide +kernel) (by decide +kernel)
set_option maxRecDepth 20000 in
theorem gX6_next_X6_common : GoodIn wsX6_next (va_wsS RX6 167 yX6_common wsX6_common) := goodIn_app (goodIn_of _ (by decide +kernel)) ggX6_next_X6_common
theorem dX6_next_0 : decode cX6_next 0 = .ok (.iload_n 1, 1) := by decide +kernel
theorem dX6_next_1 : decode cX6_next 1 = .ok (.iconst 0, 1) := by decide +kernel
theorem dX6_next_2 : decode cX6_next 2 = .ok (.iconst 2, 1) := by decide +kernel
theorem dX6_next_3 : decode cX6_next 3 = .ok (.invokestatic 64, 3) := by decide +kernel
theorem dX6_next_6 : decode cX6_next 6 = .ok (.ifCond .ne 6, 3) := by decide +kernel
theorem dX6_next_9 : decode cX6_next 9 = .ok (.bipush (-2), 2) := by decide +kernel
theorem dX6_next_11 : decode cX6_next 11 = .ok (.ireturn, 1) := by decide +kernel
theorem dX6_next_12 : decode cX6_next 12 = .ok (.aload_n 0, 1) := by decide +kernel
theorem dX6_next_13 : decode cX6_next 13 = .ok (.invokevirtual 93, 3) := by decide +kernel
theorem dX6_next_16 : decode cX6_next 16 = .ok (.bipush (-5), 2) := by decide +kernel
theorem dX6_next_18 : decode cX6_next 18 = .ok (.istore_n 2, 1) := by decide +kernel
theorem dX6_next_19 : decode cX6_next 19 = .ok (.iconst 1, 1) := by decide +kernel
theorem dX6_next_20 : decode cX6_next 20 = .ok (.istore_n 3, 1) := by decide +kernel
theorem dX6_next_21 : decode cX6_next 21 = .ok (.iconst 0, 1) := by decide +kernel
theorem dX6_next_22 : decode cX6_next 22 = .ok (.istore 4, 2) := by decide +kernel
theorem dX6_next_24 : decode cX6_next 24 = .ok (.iconst 0, 1) := by decide +kernel
theorem dX6_next_25 : decode cX6_next 25 = .ok (.istore 5, 2) := by decide +kernel
theorem dX6_next_27 : decode cX6_next 27 = .ok (.iload 5, 2) := by decide +kernel
theorem dX6_next_29 : decode cX6_next 29 = .ok (.aload_n 0, 1) := by decide +kernel
theorem dX6_next_30 : decode cX6_next 30 = .ok (.getfield 7, 3) := by decide +kernel
theorem dX6_next_33 : decode cX6_next 33 = .ok (.iconst 1, 1) := by decide +kernel
theorem dX6_next_34 : decode cX6_next 34 = .ok (.iaload, 1) := by decide +kernel
theorem dX6_next_35 : decode cX6_next 35 = .ok (.if_icmp .ge 100, 3) := by decide +kernel
theorem dX6_next_38 : decode cX6_next 38 = .ok (.iconst 0, 1) := by decide +kernel
theorem dX6_next_39 : decode cX6_next 39 = .ok (.istore 6, 2) := by decide +kernel
theorem dX6_next_41 : decode cX6_next 41 = .ok (.iload 6, 2) := by decide +kernel
theorem dX6_next_43 : decode cX6_next 43 = .ok (.iload 5, 2) := by decide +kernel
theorem dX6_next_45 : decode cX6_next 45 = .ok (.if_icmp .ge 84, 3) := by decide +kernel
theorem dX6_next_48 : decode cX6_next 48 = .ok (.aload_n 0, 1) := by decide +kernel
theorem dX6_next_49 : decode cX6_next 49 = .ok (.iload 6, 2) := by decide +kernel
theorem dX6_next_51 : decode cX6_next 51 = .ok (.iload 5, 2) := by decide +kernel
theorem dX6_next_53 : decode cX6_next 53 = .ok (.invokevirtual 107, 3) := by decide +kernel
theorem dX6_next_56 : decode cX6_next 56 = .ok (.istore 7, 2) := by decide +kernel
theorem dX6_next_58 : decode cX6_next 58 = .ok (.aload_n 0, 1) := by decide +kernel
theorem dX6_next_59 : decode cX6_next 59 = .ok (.iload 6, 2) := by decide +kernel
theorem dX6_next_61 : decode cX6_next 61 = .ok (.iload 5, 2) := by decide +kernel
theorem dX6_next_63 : decode cX6_next 63 = .ok (.invokevirtual 110, 3) := by decide +kernel
theorem dX6_next_66 : decode cX6_next 66 = .ok (.istore 8, 2) := by decide +kernel
theorem dX6_next_68 : decode cX6_next 68 = .ok (.iload 7, 2) := by decide +kernel
theorem dX6_next_70 : decode cX6_next 70 = .ok (.ifCond .lt 27, 3) := by decide +kernel
theorem dX6_next_73 : decode cX6_next 73 = .ok (.iload_n 2, 1) := by decide +kernel
theorem dX6_next_74 : decode cX6_next 74 = .ok (.ifCond .lt 14, 3) := by decide +kernel
theorem dX6_next_77 : decode cX6_next 77 = .ok (.iload 7, 2) := by decide +kernel
theorem dX6_next_79 : decode cX6_next 79 = .ok (.iload_n 3, 1) := by decide +kernel
theorem dX6_next_80 : decode cX6_next 80 = .ok (.imul, 1) := by decide +kernel
theorem dX6_next_81 : decode cX6_next 81 = .ok (.iload_n 2, 1) := by decide +kernel
theorem dX6_next_82 : decode cX6_next 82 = .ok (.iload 8, 2) := by decide +kernel
theorem dX6_next_84 : decode cX6_next 84 = .ok (.imul, 1) := by decide +kernel
theorem dX6_next_85 : decode cX6_next 85 = .ok (.if_icmp .ge 12, 3) := by decide +kernel
theorem dX6_next_88 : decode cX6_next 88 = .ok (.iload 7, 2) := by decide +kernel
theorem dX6_next_90 : decode cX6_next 90 = .ok (.istore_n 2, 1) := by decide +kernel
theorem dX6_next_91 : decode cX6_next 91 = .ok (.iload 8, 2) := by decide +kernel
theorem dX6_next_93 : decode cX6_next 93 = .ok (.istore_n 3, 1) := by decide +kernel
theorem dX6_next_94 : decode cX6_next 94 = .ok (.iconst 0, 1) := by decide +kernel
theorem dX6_next_95 : decode cX6_next 95 = .ok (.istore 4, 2) := by decide +kernel
theorem dX6_next_97 : decode cX6_next 97 = .ok (.iload 4, 2) := by decide +kernel
theorem dX6_next_99 : decode cX6_next 99 = .ok (.iload 7, 2) := by decide +kernel
theorem dX6_next_101 : decode cX6_next 101 = .ok (.ifCond .lt 18, 3) := by decide +kernel
theorem dX6_next_104 : decode cX6_next 104 = .ok (.iload 7, 2) := by decide +kernel
theorem dX6_next_106 : decode cX6_next 106 = .ok (.iload_n 3, 1) := by decide +kernel
theorem dX6_next_107 : decode cX6_next 107 = .ok (.imul, 1) := by decide +kernel
theorem dX6_next_108 : decode cX6_next 108 = .ok (.iload_n 2, 1) := by decide +kernel
theorem dX6_next_109 : decode cX6_next 109 = .ok (.iload 8, 2) := by decide +kernel
theorem dX6_next_111 : decode cX6_next 111 = .ok (.imul, 1) := by decide +kernel
theorem dX6_next_112 : decode cX6_next 112 = .ok (.if_icmp .ne 7, 3) := by decide +kernel
theorem dX6_next_115 : decode cX6_next 115 = .ok (.iconst 1, 1) := by decide +kernel
theorem dX6_next_116 : decode cX6_next 116 = .ok (.goto 4, 3) := by decide +kernel
theorem dX6_next_119 : decode cX6_next 119 = .ok (.iconst 0, 1) := by decide +kernel
theorem dX6_next_120 : decode cX6_next 120 = .ok (.iadd, 1) := by decide +kernel
theorem dX6_next_121 : decode cX6_next 121 = .ok (.istore 4, 2) := by decide +kernel
theorem dX6_next_123 : decode cX6_next 123 = .ok (.iinc 6 1, 3) := by decide +kernel
theorem dX6_next_126 : decode cX6_next 126 = .ok (.goto (-85), 3) := by decide +kernel
theorem dX6_next_129 : decode cX6_next 129 = .ok (.iinc 5 1, 3) := by decide +kernel
theorem dX6_next_132 : decode cX6_next 132 = .ok (.goto (-105), 3) := by decide +kernel
theorem dX6_next_135 : decode cX6_next 135 = .ok (.iload_n 2, 1) := by decide +kernel
theorem dX6_next_136 : decode cX6_next 136 = .ok (.ifCond .ge 6, 3) := by decide +kernel
theorem dX6_next_139 : decode cX6_next 139 = .ok (.bipush (-5), 2) := by decide +kernel
theorem dX6_next_141 : decode cX6_next 141 = .ok (.ireturn, 1) := by decide +kernel
theorem dX6_next_142 : decode cX6_next 142 = .ok (.iload_n 3, 1) := by decide +kernel
theorem dX6_next_143 : decode cX6_next 143 = .ok (.iload_n 2, 1) := by decide +kernel
theorem dX6_next_144 : decode cX6_next 144 = .ok (.invokestatic 167, 3) := by decide +kernel
theorem dX6_next_147 : decode cX6_next 147 = .ok (.istore 5, 2) := by decide +kernel
theorem dX6_next_149 : decode cX6_next 149 = .ok (.iload_n 1, 1) := by decide +kernel
theorem dX6_next_150 : decode cX6_next 150 = .ok (.ifCond .ne 10, 3) := by decide +kernel
theorem dX6_next_153 : decode cX6_next 153 = .ok (.iload_n 2, 1) := by decide +kernel
theorem dX6_next_154 : decode cX6_next 154 = .ok (.iload 5, 2) := by decide +kernel
theorem dX6_next_156 : decode cX6_next 156 = .ok (.idiv, 1) := by decide +kernel
theorem dX6_next_157 : decode cX6_next 157 = .ok (.goto 17, 3) := by decide +kernel
